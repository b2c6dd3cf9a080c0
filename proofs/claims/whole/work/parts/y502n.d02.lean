theorem dX7_runsOf_146 : decode cX7_runsOf 146 = .ok (.if_icmp .ne 14, 3) := by decide +kernel
theorem dX7_runsOf_149 : decode cX7_runsOf 149 = .ok (.iload_n 3, 1) := by decide +kernel
theorem dX7_runsOf_150 : decode cX7_runsOf 150 = .ok (.iconst 1, 1) := by decide +kernel
theorem dX7_runsOf_151 : decode cX7_runsOf 151 = .ok (.if_icmp .ne 7, 3) := by decide +kernel
theorem dX7_runsOf_154 : decode cX7_runsOf 154 = .ok (.iconst 1, 1) := by decide +kernel
theorem dX7_runsOf_155 : decode cX7_runsOf 155 = .ok (.goto 4, 3) := by decide +kernel
theorem dX7_runsOf_158 : decode cX7_runsOf 158 = .ok (.iconst 0, 1) := by decide +kernel
theorem dX7_runsOf_159 : decode cX7_runsOf 159 = .ok (.ireturn, 1) := by decide +kernel
theorem dX7_runsOf_160 : decode cX7_runsOf 160 = .ok (.iload_n 3, 1) := by decide +kernel
theorem dX7_runsOf_161 : decode cX7_runsOf 161 = .ok (.iconst 1, 1) := by decide +kernel
theorem dX7_runsOf_162 : decode cX7_runsOf 162 = .ok (.if_icmp .ne 8, 3) := by decide +kernel
theorem dX7_runsOf_165 : decode cX7_runsOf 165 = .ok (.iload 7, 2) := by decide +kernel
theorem dX7_runsOf_167 : decode cX7_runsOf 167 = .ok (.goto 5, 3) := by decide +kernel
theorem dX7_runsOf_170 : decode cX7_runsOf 170 = .ok (.iload 8, 2) := by decide +kernel
theorem dX7_runsOf_172 : decode cX7_runsOf 172 = .ok (.ireturn, 1) := by decide +kernel
theorem dX7_sweep_0 : decode cX7_sweep 0 = .ok (.aload_n 0, 1) := by decide +kernel
theorem dX7_sweep_1 : decode cX7_sweep 1 = .ok (.getfield 20, 3) := by decide +kernel
theorem dX7_sweep_4 : decode cX7_sweep 4 = .ok (.iload_n 2, 1) := by decide +kernel
theorem dX7_sweep_5 : decode cX7_sweep 5 = .ok (.iaload, 1) := by decide +kernel
theorem dX7_sweep_6 : decode cX7_sweep 6 = .ok (.istore 5, 2) := by decide +kernel
theorem dX7_sweep_8 : decode cX7_sweep 8 = .ok (.iload 4, 2) := by decide +kernel
theorem dX7_sweep_10 : decode cX7_sweep 10 = .ok (.ifCond .ne 18, 3) := by decide +kernel
theorem dX7_sweep_13 : decode cX7_sweep 13 = .ok (.aload_n 0, 1) := by decide +kernel
theorem dX7_sweep_14 : decode cX7_sweep 14 = .ok (.getfield 11, 3) := by decide +kernel
theorem dX7_sweep_17 : decode cX7_sweep 17 = .ok (.iload_n 3, 1) := by decide +kernel
theorem dX7_sweep_18 : decode cX7_sweep 18 = .ok (.aaload, 1) := by decide +kernel
theorem dX7_sweep_19 : decode cX7_sweep 19 = .ok (.getfield 194, 3) := by decide +kernel
theorem dX7_sweep_22 : decode cX7_sweep 22 = .ok (.getfield 30, 3) := by decide +kernel
theorem dX7_sweep_25 : decode cX7_sweep 25 = .ok (.goto 15, 3) := by decide +kernel
theorem dX7_sweep_28 : decode cX7_sweep 28 = .ok (.aload_n 0, 1) := by decide +kernel
theorem dX7_sweep_29 : decode cX7_sweep 29 = .ok (.getfield 11, 3) := by decide +kernel
theorem dX7_sweep_32 : decode cX7_sweep 32 = .ok (.iload_n 3, 1) := by decide +kernel
theorem dX7_sweep_33 : decode cX7_sweep 33 = .ok (.aaload, 1) := by decide +kernel
theorem dX7_sweep_34 : decode cX7_sweep 34 = .ok (.getfield 194, 3) := by decide +kernel
theorem dX7_sweep_37 : decode cX7_sweep 37 = .ok (.getfield 241, 3) := by decide +kernel
theorem dX7_sweep_40 : decode cX7_sweep 40 = .ok (.astore 6, 2) := by decide +kernel
theorem dX7_sweep_42 : decode cX7_sweep 42 = .ok (.aload_n 0, 1) := by decide +kernel
theorem dX7_sweep_43 : decode cX7_sweep 43 = .ok (.getfield 74, 3) := by decide +kernel
theorem dX7_sweep_46 : decode cX7_sweep 46 = .ok (.invokevirtual 342, 3) := by decide +kernel
theorem dX7_sweep_49 : decode cX7_sweep 49 = .ok (.iconst 0, 1) := by decide +kernel
theorem dX7_sweep_50 : decode cX7_sweep 50 = .ok (.istore 7, 2) := by decide +kernel
theorem dX7_sweep_52 : decode cX7_sweep 52 = .ok (.iload 7, 2) := by decide +kernel
theorem dX7_sweep_54 : decode cX7_sweep 54 = .ok (.sipush 1024, 3) := by decide +kernel
theorem dX7_sweep_57 : decode cX7_sweep 57 = .ok (.if_icmp .ge 97, 3) := by decide +kernel
theorem dX7_sweep_60 : decode cX7_sweep 60 = .ok (.aload_n 0, 1) := by decide +kernel
theorem dX7_sweep_61 : decode cX7_sweep 61 = .ok (.iload_n 2, 1) := by decide +kernel
theorem dX7_sweep_62 : decode cX7_sweep 62 = .ok (.iload 7, 2) := by decide +kernel
theorem dX7_sweep_64 : decode cX7_sweep 64 = .ok (.invokevirtual 91, 3) := by decide +kernel
theorem dX7_sweep_67 : decode cX7_sweep 67 = .ok (.aload_n 0, 1) := by decide +kernel
theorem dX7_sweep_68 : decode cX7_sweep 68 = .ok (.iload_n 1, 1) := by decide +kernel
theorem dX7_sweep_69 : decode cX7_sweep 69 = .ok (.iconst 1, 1) := by decide +kernel
theorem dX7_sweep_70 : decode cX7_sweep 70 = .ok (.invokevirtual 338, 3) := by decide +kernel
theorem dX7_sweep_73 : decode cX7_sweep 73 = .ok (.ifCond .ne 75, 3) := by decide +kernel
theorem dX7_sweep_76 : decode cX7_sweep 76 = .ok (.aload_n 0, 1) := by decide +kernel
theorem dX7_sweep_77 : decode cX7_sweep 77 = .ok (.getfield 74, 3) := by decide +kernel
theorem dX7_sweep_80 : decode cX7_sweep 80 = .ok (.getfield 323, 3) := by decide +kernel
theorem dX7_sweep_83 : decode cX7_sweep 83 = .ok (.istore 8, 2) := by decide +kernel
theorem dX7_sweep_85 : decode cX7_sweep 85 = .ok (.aload_n 0, 1) := by decide +kernel
theorem dX7_sweep_86 : decode cX7_sweep 86 = .ok (.getfield 74, 3) := by decide +kernel
theorem dX7_sweep_89 : decode cX7_sweep 89 = .ok (.iload 8, 2) := by decide +kernel
theorem dX7_sweep_91 : decode cX7_sweep 91 = .ok (.ifCond .eq 11, 3) := by decide +kernel
theorem dX7_sweep_94 : decode cX7_sweep 94 = .ok (.aload 6, 2) := by decide +kernel
theorem dX7_sweep_96 : decode cX7_sweep 96 = .ok (.getfield 326, 3) := by decide +kernel
theorem dX7_sweep_99 : decode cX7_sweep 99 = .ok (.goto 18, 3) := by decide +kernel
theorem dX7_sweep_102 : decode cX7_sweep 102 = .ok (.aload_n 0, 1) := by decide +kernel
theorem dX7_sweep_103 : decode cX7_sweep 103 = .ok (.getfield 74, 3) := by decide +kernel
theorem dX7_sweep_106 : decode cX7_sweep 106 = .ok (.getfield 326, 3) := by decide +kernel
theorem dX7_sweep_109 : decode cX7_sweep 109 = .ok (.aload 6, 2) := by decide +kernel
theorem dX7_sweep_111 : decode cX7_sweep 111 = .ok (.getfield 326, 3) := by decide +kernel
theorem dX7_sweep_114 : decode cX7_sweep 114 = .ok (.invokestatic 343, 3) := by decide +kernel
theorem dX7_sweep_117 : decode cX7_sweep 117 = .ok (.iload 8, 2) := by decide +kernel
theorem dX7_sweep_119 : decode cX7_sweep 119 = .ok (.ifCond .eq 11, 3) := by decide +kernel
theorem dX7_sweep_122 : decode cX7_sweep 122 = .ok (.aload 6, 2) := by decide +kernel
theorem dX7_sweep_124 : decode cX7_sweep 124 = .ok (.getfield 329, 3) := by decide +kernel
theorem dX7_sweep_127 : decode cX7_sweep 127 = .ok (.goto 18, 3) := by decide +kernel
theorem dX7_sweep_130 : decode cX7_sweep 130 = .ok (.aload_n 0, 1) := by decide +kernel
theorem dX7_sweep_131 : decode cX7_sweep 131 = .ok (.getfield 74, 3) := by decide +kernel
theorem dX7_sweep_134 : decode cX7_sweep 134 = .ok (.getfield 329, 3) := by decide +kernel
theorem dX7_sweep_137 : decode cX7_sweep 137 = .ok (.aload 6, 2) := by decide +kernel
theorem dX7_sweep_139 : decode cX7_sweep 139 = .ok (.getfield 329, 3) := by decide +kernel
theorem dX7_sweep_142 : decode cX7_sweep 142 = .ok (.invokestatic 347, 3) := by decide +kernel
theorem dX7_sweep_145 : decode cX7_sweep 145 = .ok (.invokevirtual 38, 3) := by decide +kernel
theorem dX7_sweep_148 : decode cX7_sweep 148 = .ok (.iinc 7 1, 3) := by decide +kernel
theorem dX7_sweep_151 : decode cX7_sweep 151 = .ok (.goto (-99), 3) := by decide +kernel
theorem dX7_sweep_154 : decode cX7_sweep 154 = .ok (.aload_n 0, 1) := by decide +kernel
theorem dX7_sweep_155 : decode cX7_sweep 155 = .ok (.iload_n 2, 1) := by decide +kernel
theorem dX7_sweep_156 : decode cX7_sweep 156 = .ok (.iload 5, 2) := by decide +kernel
theorem dX7_sweep_158 : decode cX7_sweep 158 = .ok (.invokevirtual 91, 3) := by decide +kernel
theorem dX7_sweep_161 : decode cX7_sweep 161 = .ok (.return_, 1) := by decide +kernel
theorem dX7_approach_0 : decode cX7_approach 0 = .ok (.aload_n 0, 1) := by decide +kernel
theorem dX7_approach_1 : decode cX7_approach 1 = .ok (.getfield 20, 3) := by decide +kernel
theorem dX7_approach_4 : decode cX7_approach 4 = .ok (.iload_n 2, 1) := by decide +kernel
theorem dX7_approach_5 : decode cX7_approach 5 = .ok (.iaload, 1) := by decide +kernel
theorem dX7_approach_6 : decode cX7_approach 6 = .ok (.istore 5, 2) := by decide +kernel
theorem dX7_approach_8 : decode cX7_approach 8 = .ok (.aload_n 0, 1) := by decide +kernel
theorem dX7_approach_9 : decode cX7_approach 9 = .ok (.getfield 74, 3) := by decide +kernel
theorem dX7_approach_12 : decode cX7_approach 12 = .ok (.invokevirtual 342, 3) := by decide +kernel
theorem dX7_approach_15 : decode cX7_approach 15 = .ok (.iconst 0, 1) := by decide +kernel
theorem dX7_approach_16 : decode cX7_approach 16 = .ok (.istore 6, 2) := by decide +kernel
theorem dX7_approach_18 : decode cX7_approach 18 = .ok (.iload 6, 2) := by decide +kernel
theorem dX7_approach_20 : decode cX7_approach 20 = .ok (.sipush 1024, 3) := by decide +kernel
theorem dX7_approach_23 : decode cX7_approach 23 = .ok (.if_icmp .ge 66, 3) := by decide +kernel
theorem dX7_approach_26 : decode cX7_approach 26 = .ok (.aload_n 0, 1) := by decide +kernel
theorem dX7_approach_27 : decode cX7_approach 27 = .ok (.iload_n 2, 1) := by decide +kernel
theorem dX7_approach_28 : decode cX7_approach 28 = .ok (.iload 6, 2) := by decide +kernel
theorem dX7_approach_30 : decode cX7_approach 30 = .ok (.invokevirtual 91, 3) := by decide +kernel
theorem dX7_approach_33 : decode cX7_approach 33 = .ok (.aload_n 0, 1) := by decide +kernel
theorem dX7_approach_34 : decode cX7_approach 34 = .ok (.iload_n 1, 1) := by decide +kernel
theorem dX7_approach_35 : decode cX7_approach 35 = .ok (.iconst 1, 1) := by decide +kernel
theorem dX7_approach_36 : decode cX7_approach 36 = .ok (.invokevirtual 338, 3) := by decide +kernel
theorem dX7_approach_39 : decode cX7_approach 39 = .ok (.ifCond .ne 44, 3) := by decide +kernel
theorem dX7_approach_42 : decode cX7_approach 42 = .ok (.aload_n 0, 1) := by decide +kernel
theorem dX7_approach_43 : decode cX7_approach 43 = .ok (.getfield 48, 3) := by decide +kernel
theorem dX7_approach_46 : decode cX7_approach 46 = .ok (.aload_n 0, 1) := by decide +kernel
theorem dX7_approach_47 : decode cX7_approach 47 = .ok (.getfield 11, 3) := by decide +kernel
theorem dX7_approach_50 : decode cX7_approach 50 = .ok (.iload_n 3, 1) := by decide +kernel
theorem dX7_approach_51 : decode cX7_approach 51 = .ok (.aaload, 1) := by decide +kernel
theorem dX7_approach_52 : decode cX7_approach 52 = .ok (.getfield 194, 3) := by decide +kernel
theorem dX7_approach_55 : decode cX7_approach 55 = .ok (.aload_n 0, 1) := by decide +kernel
theorem dX7_approach_56 : decode cX7_approach 56 = .ok (.getfield 11, 3) := by decide +kernel
theorem dX7_approach_59 : decode cX7_approach 59 = .ok (.iload 4, 2) := by decide +kernel
theorem dX7_approach_61 : decode cX7_approach 61 = .ok (.aaload, 1) := by decide +kernel
theorem dX7_approach_62 : decode cX7_approach 62 = .ok (.getfield 194, 3) := by decide +kernel
theorem dX7_approach_65 : decode cX7_approach 65 = .ok (.invokevirtual 282, 3) := by decide +kernel
theorem dX7_approach_68 : decode cX7_approach 68 = .ok (.aload_n 0, 1) := by decide +kernel
theorem dX7_approach_69 : decode cX7_approach 69 = .ok (.getfield 62, 3) := by decide +kernel
theorem dX7_approach_72 : decode cX7_approach 72 = .ok (.aload_n 0, 1) := by decide +kernel
theorem dX7_approach_73 : decode cX7_approach 73 = .ok (.getfield 48, 3) := by decide +kernel
theorem dX7_approach_76 : decode cX7_approach 76 = .ok (.invokevirtual 285, 3) := by decide +kernel
theorem dX7_approach_79 : decode cX7_approach 79 = .ok (.aload_n 0, 1) := by decide +kernel
theorem dX7_approach_80 : decode cX7_approach 80 = .ok (.invokevirtual 350, 3) := by decide +kernel
theorem dX7_approach_83 : decode cX7_approach 83 = .ok (.iinc 6 1, 3) := by decide +kernel
theorem dX7_approach_86 : decode cX7_approach 86 = .ok (.goto (-68), 3) := by decide +kernel
theorem dX7_approach_89 : decode cX7_approach 89 = .ok (.aload_n 0, 1) := by decide +kernel
theorem dX7_approach_90 : decode cX7_approach 90 = .ok (.iload_n 2, 1) := by decide +kernel
theorem dX7_approach_91 : decode cX7_approach 91 = .ok (.iload 5, 2) := by decide +kernel
theorem dX7_approach_93 : decode cX7_approach 93 = .ok (.invokevirtual 91, 3) := by decide +kernel
theorem dX7_approach_96 : decode cX7_approach 96 = .ok (.return_, 1) := by decide +kernel
theorem dX7_offerLeast_0 : decode cX7_offerLeast 0 = .ok (.aload_n 0, 1) := by decide +kernel
theorem dX7_offerLeast_1 : decode cX7_offerLeast 1 = .ok (.getfield 62, 3) := by decide +kernel
theorem dX7_offerLeast_4 : decode cX7_offerLeast 4 = .ok (.getfield 323, 3) := by decide +kernel
theorem dX7_offerLeast_7 : decode cX7_offerLeast 7 = .ok (.ifCond .eq 4, 3) := by decide +kernel
theorem dX7_offerLeast_10 : decode cX7_offerLeast 10 = .ok (.return_, 1) := by decide +kernel
theorem dX7_offerLeast_11 : decode cX7_offerLeast 11 = .ok (.aload_n 0, 1) := by decide +kernel
theorem dX7_offerLeast_12 : decode cX7_offerLeast 12 = .ok (.getfield 74, 3) := by decide +kernel
theorem dX7_offerLeast_15 : decode cX7_offerLeast 15 = .ok (.getfield 323, 3) := by decide +kernel
theorem dX7_offerLeast_18 : decode cX7_offerLeast 18 = .ok (.istore_n 1, 1) := by decide +kernel
theorem dX7_offerLeast_19 : decode cX7_offerLeast 19 = .ok (.aload_n 0, 1) := by decide +kernel
theorem dX7_offerLeast_20 : decode cX7_offerLeast 20 = .ok (.getfield 74, 3) := by decide +kernel
theorem dX7_offerLeast_23 : decode cX7_offerLeast 23 = .ok (.iload_n 1, 1) := by decide +kernel
theorem dX7_offerLeast_24 : decode cX7_offerLeast 24 = .ok (.ifCond .eq 13, 3) := by decide +kernel
theorem dX7_offerLeast_27 : decode cX7_offerLeast 27 = .ok (.aload_n 0, 1) := by decide +kernel
theorem dX7_offerLeast_28 : decode cX7_offerLeast 28 = .ok (.getfield 62, 3) := by decide +kernel
theorem dX7_offerLeast_31 : decode cX7_offerLeast 31 = .ok (.getfield 326, 3) := by decide +kernel
theorem dX7_offerLeast_34 : decode cX7_offerLeast 34 = .ok (.goto 20, 3) := by decide +kernel
theorem dX7_offerLeast_37 : decode cX7_offerLeast 37 = .ok (.aload_n 0, 1) := by decide +kernel
theorem dX7_offerLeast_38 : decode cX7_offerLeast 38 = .ok (.getfield 74, 3) := by decide +kernel
theorem dX7_offerLeast_41 : decode cX7_offerLeast 41 = .ok (.getfield 326, 3) := by decide +kernel
theorem dX7_offerLeast_44 : decode cX7_offerLeast 44 = .ok (.aload_n 0, 1) := by decide +kernel
theorem dX7_offerLeast_45 : decode cX7_offerLeast 45 = .ok (.getfield 62, 3) := by decide +kernel
theorem dX7_offerLeast_48 : decode cX7_offerLeast 48 = .ok (.getfield 326, 3) := by decide +kernel
theorem dX7_offerLeast_51 : decode cX7_offerLeast 51 = .ok (.invokestatic 343, 3) := by decide +kernel
theorem dX7_offerLeast_54 : decode cX7_offerLeast 54 = .ok (.iload_n 1, 1) := by decide +kernel
theorem dX7_offerLeast_55 : decode cX7_offerLeast 55 = .ok (.ifCond .eq 13, 3) := by decide +kernel
theorem dX7_offerLeast_58 : decode cX7_offerLeast 58 = .ok (.aload_n 0, 1) := by decide +kernel
theorem dX7_offerLeast_59 : decode cX7_offerLeast 59 = .ok (.getfield 62, 3) := by decide +kernel
theorem dX7_offerLeast_62 : decode cX7_offerLeast 62 = .ok (.getfield 329, 3) := by decide +kernel
theorem dX7_offerLeast_65 : decode cX7_offerLeast 65 = .ok (.goto 20, 3) := by decide +kernel
theorem dX7_offerLeast_68 : decode cX7_offerLeast 68 = .ok (.aload_n 0, 1) := by decide +kernel
theorem dX7_offerLeast_69 : decode cX7_offerLeast 69 = .ok (.getfield 74, 3) := by decide +kernel
theorem dX7_offerLeast_72 : decode cX7_offerLeast 72 = .ok (.getfield 329, 3) := by decide +kernel
theorem dX7_offerLeast_75 : decode cX7_offerLeast 75 = .ok (.aload_n 0, 1) := by decide +kernel
theorem dX7_offerLeast_76 : decode cX7_offerLeast 76 = .ok (.getfield 62, 3) := by decide +kernel
theorem dX7_offerLeast_79 : decode cX7_offerLeast 79 = .ok (.getfield 329, 3) := by decide +kernel
theorem dX7_offerLeast_82 : decode cX7_offerLeast 82 = .ok (.invokestatic 343, 3) := by decide +kernel
theorem dX7_offerLeast_85 : decode cX7_offerLeast 85 = .ok (.invokevirtual 38, 3) := by decide +kernel
theorem dX7_offerLeast_88 : decode cX7_offerLeast 88 = .ok (.return_, 1) := by decide +kernel
theorem dX7_reckonSpeeds_0 : decode cX7_reckonSpeeds 0 = .ok (.iconst 0, 1) := by decide +kernel
theorem dX7_reckonSpeeds_1 : decode cX7_reckonSpeeds 1 = .ok (.istore_n 2, 1) := by decide +kernel
theorem dX7_reckonSpeeds_2 : decode cX7_reckonSpeeds 2 = .ok (.iload_n 2, 1) := by decide +kernel
theorem dX7_reckonSpeeds_3 : decode cX7_reckonSpeeds 3 = .ok (.aload_n 0, 1) := by decide +kernel
theorem dX7_reckonSpeeds_4 : decode cX7_reckonSpeeds 4 = .ok (.getfield 77, 3) := by decide +kernel
theorem dX7_reckonSpeeds_7 : decode cX7_reckonSpeeds 7 = .ok (.if_icmp .ge 156, 3) := by decide +kernel
theorem dX7_reckonSpeeds_10 : decode cX7_reckonSpeeds 10 = .ok (.aload_n 0, 1) := by decide +kernel
theorem dX7_reckonSpeeds_11 : decode cX7_reckonSpeeds 11 = .ok (.getfield 11, 3) := by decide +kernel
theorem dX7_reckonSpeeds_14 : decode cX7_reckonSpeeds 14 = .ok (.aload_n 0, 1) := by decide +kernel
theorem dX7_reckonSpeeds_15 : decode cX7_reckonSpeeds 15 = .ok (.getfield 16, 3) := by decide +kernel
theorem dX7_reckonSpeeds_18 : decode cX7_reckonSpeeds 18 = .ok (.iload_n 2, 1) := by decide +kernel
theorem dX7_reckonSpeeds_19 : decode cX7_reckonSpeeds 19 = .ok (.iaload, 1) := by decide +kernel
theorem dX7_reckonSpeeds_20 : decode cX7_reckonSpeeds 20 = .ok (.aaload, 1) := by decide +kernel
theorem dX7_reckonSpeeds_21 : decode cX7_reckonSpeeds 21 = .ok (.astore_n 3, 1) := by decide +kernel
theorem dX7_reckonSpeeds_22 : decode cX7_reckonSpeeds 22 = .ok (.aload_n 3, 1) := by decide +kernel
theorem dX7_reckonSpeeds_23 : decode cX7_reckonSpeeds 23 = .ok (.getfield 203, 3) := by decide +kernel
theorem dX7_reckonSpeeds_26 : decode cX7_reckonSpeeds 26 = .ok (.tableswitch 107 1 5 #[34, 43, 51, 59, 99], 34) := by decide +kernel
theorem dX7_reckonSpeeds_60 : decode cX7_reckonSpeeds 60 = .ok (.aload_n 0, 1) := by decide +kernel
theorem dX7_reckonSpeeds_61 : decode cX7_reckonSpeeds 61 = .ok (.aload_n 3, 1) := by decide +kernel
theorem dX7_reckonSpeeds_62 : decode cX7_reckonSpeeds 62 = .ok (.iload_n 1, 1) := by decide +kernel
theorem dX7_reckonSpeeds_63 : decode cX7_reckonSpeeds 63 = .ok (.invokevirtual 353, 3) := by decide +kernel
theorem dX7_reckonSpeeds_66 : decode cX7_reckonSpeeds 66 = .ok (.goto 74, 3) := by decide +kernel
theorem dX7_reckonSpeeds_69 : decode cX7_reckonSpeeds 69 = .ok (.aload_n 0, 1) := by decide +kernel
theorem dX7_reckonSpeeds_70 : decode cX7_reckonSpeeds 70 = .ok (.aload_n 3, 1) := by decide +kernel
theorem dX7_reckonSpeeds_71 : decode cX7_reckonSpeeds 71 = .ok (.invokevirtual 357, 3) := by decide +kernel
theorem dX7_reckonSpeeds_74 : decode cX7_reckonSpeeds 74 = .ok (.goto 66, 3) := by decide +kernel
theorem dX7_reckonSpeeds_77 : decode cX7_reckonSpeeds 77 = .ok (.aload_n 0, 1) := by decide +kernel
theorem dX7_reckonSpeeds_78 : decode cX7_reckonSpeeds 78 = .ok (.aload_n 3, 1) := by decide +kernel
theorem dX7_reckonSpeeds_79 : decode cX7_reckonSpeeds 79 = .ok (.invokevirtual 360, 3) := by decide +kernel
theorem dX7_reckonSpeeds_82 : decode cX7_reckonSpeeds 82 = .ok (.goto 58, 3) := by decide +kernel
theorem dX7_reckonSpeeds_85 : decode cX7_reckonSpeeds 85 = .ok (.aload_n 0, 1) := by decide +kernel
theorem dX7_reckonSpeeds_86 : decode cX7_reckonSpeeds 86 = .ok (.aload_n 3, 1) := by decide +kernel
theorem dX7_reckonSpeeds_87 : decode cX7_reckonSpeeds 87 = .ok (.aload_n 3, 1) := by decide +kernel
theorem dX7_reckonSpeeds_88 : decode cX7_reckonSpeeds 88 = .ok (.getfield 363, 3) := by decide +kernel
theorem dX7_reckonSpeeds_91 : decode cX7_reckonSpeeds 91 = .ok (.aload_n 0, 1) := by decide +kernel
theorem dX7_reckonSpeeds_92 : decode cX7_reckonSpeeds 92 = .ok (.getfield 11, 3) := by decide +kernel
theorem dX7_reckonSpeeds_95 : decode cX7_reckonSpeeds 95 = .ok (.aload_n 3, 1) := by decide +kernel
theorem dX7_reckonSpeeds_96 : decode cX7_reckonSpeeds 96 = .ok (.getfield 167, 3) := by decide +kernel
theorem dX7_reckonSpeeds_99 : decode cX7_reckonSpeeds 99 = .ok (.iconst 0, 1) := by decide +kernel
theorem dX7_reckonSpeeds_100 : decode cX7_reckonSpeeds 100 = .ok (.iaload, 1) := by decide +kernel
theorem dX7_reckonSpeeds_101 : decode cX7_reckonSpeeds 101 = .ok (.aaload, 1) := by decide +kernel
theorem dX7_reckonSpeeds_102 : decode cX7_reckonSpeeds 102 = .ok (.getfield 363, 3) := by decide +kernel
theorem dX7_reckonSpeeds_105 : decode cX7_reckonSpeeds 105 = .ok (.aload_n 0, 1) := by decide +kernel
theorem dX7_reckonSpeeds_106 : decode cX7_reckonSpeeds 106 = .ok (.getfield 11, 3) := by decide +kernel
theorem dX7_reckonSpeeds_109 : decode cX7_reckonSpeeds 109 = .ok (.aload_n 3, 1) := by decide +kernel
theorem dX7_reckonSpeeds_110 : decode cX7_reckonSpeeds 110 = .ok (.getfield 167, 3) := by decide +kernel
theorem dX7_reckonSpeeds_113 : decode cX7_reckonSpeeds 113 = .ok (.iconst 1, 1) := by decide +kernel
theorem dX7_reckonSpeeds_114 : decode cX7_reckonSpeeds 114 = .ok (.iaload, 1) := by decide +kernel
theorem dX7_reckonSpeeds_115 : decode cX7_reckonSpeeds 115 = .ok (.aaload, 1) := by decide +kernel
theorem dX7_reckonSpeeds_116 : decode cX7_reckonSpeeds 116 = .ok (.getfield 363, 3) := by decide +kernel
theorem dX7_reckonSpeeds_119 : decode cX7_reckonSpeeds 119 = .ok (.invokevirtual 216, 3) := by decide +kernel
theorem dX7_reckonSpeeds_122 : decode cX7_reckonSpeeds 122 = .ok (.goto 18, 3) := by decide +kernel
theorem dX7_reckonSpeeds_125 : decode cX7_reckonSpeeds 125 = .ok (.aload_n 0, 1) := by decide +kernel
theorem dX7_reckonSpeeds_126 : decode cX7_reckonSpeeds 126 = .ok (.aload_n 3, 1) := by decide +kernel
theorem dX7_reckonSpeeds_127 : decode cX7_reckonSpeeds 127 = .ok (.invokevirtual 366, 3) := by decide +kernel
theorem dX7_reckonSpeeds_130 : decode cX7_reckonSpeeds 130 = .ok (.goto 10, 3) := by decide +kernel
theorem dX7_reckonSpeeds_133 : decode cX7_reckonSpeeds 133 = .ok (.aload_n 3, 1) := by decide +kernel
theorem dX7_reckonSpeeds_134 : decode cX7_reckonSpeeds 134 = .ok (.getfield 363, 3) := by decide +kernel
theorem dX7_reckonSpeeds_137 : decode cX7_reckonSpeeds 137 = .ok (.invokevirtual 262, 3) := by decide +kernel
theorem dX7_reckonSpeeds_140 : decode cX7_reckonSpeeds 140 = .ok (.aload_n 3, 1) := by decide +kernel
theorem dX7_reckonSpeeds_141 : decode cX7_reckonSpeeds 141 = .ok (.getfield 363, 3) := by decide +kernel
theorem dX7_reckonSpeeds_144 : decode cX7_reckonSpeeds 144 = .ok (.invokevirtual 230, 3) := by decide +kernel
theorem dX7_reckonSpeeds_147 : decode cX7_reckonSpeeds 147 = .ok (.ifCond .eq 10, 3) := by decide +kernel
theorem dX7_reckonSpeeds_150 : decode cX7_reckonSpeeds 150 = .ok (.aload_n 3, 1) := by decide +kernel
theorem dX7_reckonSpeeds_151 : decode cX7_reckonSpeeds 151 = .ok (.getfield 363, 3) := by decide +kernel
theorem dX7_reckonSpeeds_154 : decode cX7_reckonSpeeds 154 = .ok (.invokevirtual 197, 3) := by decide +kernel
theorem dX7_reckonSpeeds_157 : decode cX7_reckonSpeeds 157 = .ok (.iinc 2 1, 3) := by decide +kernel
theorem dX7_reckonSpeeds_160 : decode cX7_reckonSpeeds 160 = .ok (.goto (-158), 3) := by decide +kernel
theorem dX7_reckonSpeeds_163 : decode cX7_reckonSpeeds 163 = .ok (.return_, 1) := by decide +kernel
theorem dX7_speedCrank_0 : decode cX7_speedCrank 0 = .ok (.aload_n 1, 1) := by decide +kernel
theorem dX7_speedCrank_1 : decode cX7_speedCrank 1 = .ok (.getfield 363, 3) := by decide +kernel
theorem dX7_speedCrank_4 : decode cX7_speedCrank 4 = .ok (.aload_n 0, 1) := by decide +kernel
theorem dX7_speedCrank_5 : decode cX7_speedCrank 5 = .ok (.getfield 11, 3) := by decide +kernel
theorem dX7_speedCrank_8 : decode cX7_speedCrank 8 = .ok (.aload_n 1, 1) := by decide +kernel
theorem dX7_speedCrank_9 : decode cX7_speedCrank 9 = .ok (.getfield 167, 3) := by decide +kernel
theorem dX7_speedCrank_12 : decode cX7_speedCrank 12 = .ok (.iconst 0, 1) := by decide +kernel
theorem dX7_speedCrank_13 : decode cX7_speedCrank 13 = .ok (.iaload, 1) := by decide +kernel
theorem dX7_speedCrank_14 : decode cX7_speedCrank 14 = .ok (.aaload, 1) := by decide +kernel
theorem dX7_speedCrank_15 : decode cX7_speedCrank 15 = .ok (.getfield 363, 3) := by decide +kernel
theorem dX7_speedCrank_18 : decode cX7_speedCrank 18 = .ok (.invokevirtual 250, 3) := by decide +kernel
theorem dX7_speedCrank_21 : decode cX7_speedCrank 21 = .ok (.aload_n 1, 1) := by decide +kernel
theorem dX7_speedCrank_22 : decode cX7_speedCrank 22 = .ok (.getfield 247, 3) := by decide +kernel
theorem dX7_speedCrank_25 : decode cX7_speedCrank 25 = .ok (.iload_n 2, 1) := by decide +kernel
theorem dX7_speedCrank_26 : decode cX7_speedCrank 26 = .ok (.if_icmp .ne 19, 3) := by decide +kernel
theorem dX7_speedCrank_29 : decode cX7_speedCrank 29 = .ok (.aload_n 1, 1) := by decide +kernel
theorem dX7_speedCrank_30 : decode cX7_speedCrank 30 = .ok (.getfield 363, 3) := by decide +kernel
theorem dX7_speedCrank_33 : decode cX7_speedCrank 33 = .ok (.iconst 1, 1) := by decide +kernel
theorem dX7_speedCrank_34 : decode cX7_speedCrank 34 = .ok (.aload_n 1, 1) := by decide +kernel
theorem dX7_speedCrank_35 : decode cX7_speedCrank 35 = .ok (.getfield 244, 3) := by decide +kernel
theorem dX7_speedCrank_38 : decode cX7_speedCrank 38 = .ok (.aload_n 1, 1) := by decide +kernel
theorem dX7_speedCrank_39 : decode cX7_speedCrank 39 = .ok (.getfield 259, 3) := by decide +kernel
theorem dX7_speedCrank_42 : decode cX7_speedCrank 42 = .ok (.invokevirtual 316, 3) := by decide +kernel
theorem dX7_speedCrank_45 : decode cX7_speedCrank 45 = .ok (.return_, 1) := by decide +kernel
theorem dX7_speedDyad_0 : decode cX7_speedDyad 0 = .ok (.aload_n 0, 1) := by decide +kernel
theorem dX7_speedDyad_1 : decode cX7_speedDyad 1 = .ok (.getfield 11, 3) := by decide +kernel
theorem dX7_speedDyad_4 : decode cX7_speedDyad 4 = .ok (.aload_n 1, 1) := by decide +kernel
theorem dX7_speedDyad_5 : decode cX7_speedDyad 5 = .ok (.getfield 167, 3) := by decide +kernel
theorem dX7_speedDyad_8 : decode cX7_speedDyad 8 = .ok (.iconst 0, 1) := by decide +kernel
theorem dX7_speedDyad_9 : decode cX7_speedDyad 9 = .ok (.iaload, 1) := by decide +kernel
theorem dX7_speedDyad_10 : decode cX7_speedDyad 10 = .ok (.aaload, 1) := by decide +kernel
theorem dX7_speedDyad_11 : decode cX7_speedDyad 11 = .ok (.astore_n 2, 1) := by decide +kernel
theorem dX7_speedDyad_12 : decode cX7_speedDyad 12 = .ok (.aload_n 0, 1) := by decide +kernel
theorem dX7_speedDyad_13 : decode cX7_speedDyad 13 = .ok (.getfield 11, 3) := by decide +kernel
theorem dX7_speedDyad_16 : decode cX7_speedDyad 16 = .ok (.aload_n 1, 1) := by decide +kernel
theorem dX7_speedDyad_17 : decode cX7_speedDyad 17 = .ok (.getfield 167, 3) := by decide +kernel
theorem dX7_speedDyad_20 : decode cX7_speedDyad 20 = .ok (.iconst 1, 1) := by decide +kernel
theorem dX7_speedDyad_21 : decode cX7_speedDyad 21 = .ok (.iaload, 1) := by decide +kernel
theorem dX7_speedDyad_22 : decode cX7_speedDyad 22 = .ok (.aaload, 1) := by decide +kernel
theorem dX7_speedDyad_23 : decode cX7_speedDyad 23 = .ok (.astore_n 3, 1) := by decide +kernel
theorem dX7_speedDyad_24 : decode cX7_speedDyad 24 = .ok (.aload_n 0, 1) := by decide +kernel
theorem dX7_speedDyad_25 : decode cX7_speedDyad 25 = .ok (.getfield 48, 3) := by decide +kernel
theorem dX7_speedDyad_28 : decode cX7_speedDyad 28 = .ok (.aload_n 1, 1) := by decide +kernel
theorem dX7_speedDyad_29 : decode cX7_speedDyad 29 = .ok (.getfield 194, 3) := by decide +kernel
theorem dX7_speedDyad_32 : decode cX7_speedDyad 32 = .ok (.aload_n 2, 1) := by decide +kernel
theorem dX7_speedDyad_33 : decode cX7_speedDyad 33 = .ok (.getfield 194, 3) := by decide +kernel
theorem dX7_speedDyad_36 : decode cX7_speedDyad 36 = .ok (.invokevirtual 282, 3) := by decide +kernel
theorem dX7_speedDyad_39 : decode cX7_speedDyad 39 = .ok (.aload_n 0, 1) := by decide +kernel
theorem dX7_speedDyad_40 : decode cX7_speedDyad 40 = .ok (.getfield 52, 3) := by decide +kernel
theorem dX7_speedDyad_43 : decode cX7_speedDyad 43 = .ok (.aload_n 1, 1) := by decide +kernel
theorem dX7_speedDyad_44 : decode cX7_speedDyad 44 = .ok (.getfield 194, 3) := by decide +kernel
theorem dX7_speedDyad_47 : decode cX7_speedDyad 47 = .ok (.aload_n 3, 1) := by decide +kernel
theorem dX7_speedDyad_48 : decode cX7_speedDyad 48 = .ok (.getfield 194, 3) := by decide +kernel
theorem dX7_speedDyad_51 : decode cX7_speedDyad 51 = .ok (.invokevirtual 282, 3) := by decide +kernel
theorem dX7_speedDyad_54 : decode cX7_speedDyad 54 = .ok (.aload_n 0, 1) := by decide +kernel
theorem dX7_speedDyad_55 : decode cX7_speedDyad 55 = .ok (.getfield 65, 3) := by decide +kernel
theorem dX7_speedDyad_58 : decode cX7_speedDyad 58 = .ok (.aload_n 0, 1) := by decide +kernel
theorem dX7_speedDyad_59 : decode cX7_speedDyad 59 = .ok (.getfield 48, 3) := by decide +kernel
theorem dX7_speedDyad_62 : decode cX7_speedDyad 62 = .ok (.aload_n 2, 1) := by decide +kernel
theorem dX7_speedDyad_63 : decode cX7_speedDyad 63 = .ok (.getfield 363, 3) := by decide +kernel
theorem dX7_speedDyad_66 : decode cX7_speedDyad 66 = .ok (.invokevirtual 320, 3) := by decide +kernel
theorem dX7_speedDyad_69 : decode cX7_speedDyad 69 = .ok (.aload_n 0, 1) := by decide +kernel
theorem dX7_speedDyad_70 : decode cX7_speedDyad 70 = .ok (.getfield 68, 3) := by decide +kernel
theorem dX7_speedDyad_73 : decode cX7_speedDyad 73 = .ok (.aload_n 0, 1) := by decide +kernel
theorem dX7_speedDyad_74 : decode cX7_speedDyad 74 = .ok (.getfield 52, 3) := by decide +kernel
theorem dX7_speedDyad_77 : decode cX7_speedDyad 77 = .ok (.aload_n 3, 1) := by decide +kernel
theorem dX7_speedDyad_78 : decode cX7_speedDyad 78 = .ok (.getfield 363, 3) := by decide +kernel
theorem dX7_speedDyad_81 : decode cX7_speedDyad 81 = .ok (.invokevirtual 320, 3) := by decide +kernel
theorem dX7_speedDyad_84 : decode cX7_speedDyad 84 = .ok (.aload_n 0, 1) := by decide +kernel
theorem dX7_speedDyad_85 : decode cX7_speedDyad 85 = .ok (.aload_n 1, 1) := by decide +kernel
theorem dX7_speedDyad_86 : decode cX7_speedDyad 86 = .ok (.getfield 363, 3) := by decide +kernel
theorem dX7_speedDyad_89 : decode cX7_speedDyad 89 = .ok (.aload_n 0, 1) := by decide +kernel
theorem dX7_speedDyad_90 : decode cX7_speedDyad 90 = .ok (.getfield 48, 3) := by decide +kernel
theorem dX7_speedDyad_93 : decode cX7_speedDyad 93 = .ok (.aload_n 0, 1) := by decide +kernel
theorem dX7_speedDyad_94 : decode cX7_speedDyad 94 = .ok (.getfield 52, 3) := by decide +kernel
theorem dX7_speedDyad_97 : decode cX7_speedDyad 97 = .ok (.invokevirtual 369, 3) := by decide +kernel
theorem dX7_speedDyad_100 : decode cX7_speedDyad 100 = .ok (.return_, 1) := by decide +kernel
theorem dX7_meet_0 : decode cX7_meet 0 = .ok (.aload_n 0, 1) := by decide +kernel
theorem dX7_meet_1 : decode cX7_meet 1 = .ok (.getfield 62, 3) := by decide +kernel
theorem dX7_meet_4 : decode cX7_meet 4 = .ok (.aload_n 2, 1) := by decide +kernel
theorem dX7_meet_5 : decode cX7_meet 5 = .ok (.aload_n 3, 1) := by decide +kernel
theorem dX7_meet_6 : decode cX7_meet 6 = .ok (.invokevirtual 332, 3) := by decide +kernel
theorem dX7_meet_9 : decode cX7_meet 9 = .ok (.aload_n 0, 1) := by decide +kernel
theorem dX7_meet_10 : decode cX7_meet 10 = .ok (.getfield 71, 3) := by decide +kernel
theorem dX7_meet_13 : decode cX7_meet 13 = .ok (.lconst 0, 1) := by decide +kernel
theorem dX7_meet_14 : decode cX7_meet 14 = .ok (.lconst 0, 1) := by decide +kernel
theorem dX7_meet_15 : decode cX7_meet 15 = .ok (.invokevirtual 38, 3) := by decide +kernel
theorem dX7_meet_18 : decode cX7_meet 18 = .ok (.aload_n 0, 1) := by decide +kernel
theorem dX7_meet_19 : decode cX7_meet 19 = .ok (.getfield 71, 3) := by decide +kernel
theorem dX7_meet_22 : decode cX7_meet 22 = .ok (.iconst 1, 1) := by decide +kernel
theorem dX7_meet_23 : decode cX7_meet 23 = .ok (.aload_n 0, 1) := by decide +kernel
theorem dX7_meet_24 : decode cX7_meet 24 = .ok (.getfield 65, 3) := by decide +kernel
theorem dX7_meet_27 : decode cX7_meet 27 = .ok (.aload_n 3, 1) := by decide +kernel
theorem dX7_meet_28 : decode cX7_meet 28 = .ok (.getfield 241, 3) := by decide +kernel
theorem dX7_meet_31 : decode cX7_meet 31 = .ok (.invokevirtual 303, 3) := by decide +kernel
theorem dX7_meet_34 : decode cX7_meet 34 = .ok (.aload_n 0, 1) := by decide +kernel
theorem dX7_meet_35 : decode cX7_meet 35 = .ok (.getfield 71, 3) := by decide +kernel
theorem dX7_meet_38 : decode cX7_meet 38 = .ok (.iconst (-1), 1) := by decide +kernel
theorem dX7_meet_39 : decode cX7_meet 39 = .ok (.aload_n 0, 1) := by decide +kernel
theorem dX7_meet_40 : decode cX7_meet 40 = .ok (.getfield 68, 3) := by decide +kernel
theorem dX7_meet_43 : decode cX7_meet 43 = .ok (.aload_n 2, 1) := by decide +kernel
theorem dX7_meet_44 : decode cX7_meet 44 = .ok (.getfield 241, 3) := by decide +kernel
theorem dX7_meet_47 : decode cX7_meet 47 = .ok (.invokevirtual 303, 3) := by decide +kernel
theorem dX7_meet_50 : decode cX7_meet 50 = .ok (.aload_n 1, 1) := by decide +kernel
theorem dX7_meet_51 : decode cX7_meet 51 = .ok (.getfield 30, 3) := by decide +kernel
theorem dX7_meet_54 : decode cX7_meet 54 = .ok (.aload_n 0, 1) := by decide +kernel
theorem dX7_meet_55 : decode cX7_meet 55 = .ok (.getfield 71, 3) := by decide +kernel
theorem dX7_meet_58 : decode cX7_meet 58 = .ok (.aload_n 0, 1) := by decide +kernel
theorem dX7_meet_59 : decode cX7_meet 59 = .ok (.getfield 62, 3) := by decide +kernel
theorem dX7_meet_62 : decode cX7_meet 62 = .ok (.invokevirtual 300, 3) := by decide +kernel
theorem dX7_meet_65 : decode cX7_meet 65 = .ok (.aload_n 0, 1) := by decide +kernel
theorem dX7_meet_66 : decode cX7_meet 66 = .ok (.getfield 71, 3) := by decide +kernel
theorem dX7_meet_69 : decode cX7_meet 69 = .ok (.lconst 0, 1) := by decide +kernel
theorem dX7_meet_70 : decode cX7_meet 70 = .ok (.lconst 0, 1) := by decide +kernel
theorem dX7_meet_71 : decode cX7_meet 71 = .ok (.invokevirtual 38, 3) := by decide +kernel
theorem dX7_meet_74 : decode cX7_meet 74 = .ok (.aload_n 0, 1) := by decide +kernel
theorem dX7_meet_75 : decode cX7_meet 75 = .ok (.getfield 71, 3) := by decide +kernel
theorem dX7_meet_78 : decode cX7_meet 78 = .ok (.iconst 1, 1) := by decide +kernel
theorem dX7_meet_79 : decode cX7_meet 79 = .ok (.aload_n 2, 1) := by decide +kernel
theorem dX7_meet_80 : decode cX7_meet 80 = .ok (.getfield 30, 3) := by decide +kernel
theorem dX7_meet_83 : decode cX7_meet 83 = .ok (.aload_n 0, 1) := by decide +kernel
theorem dX7_meet_84 : decode cX7_meet 84 = .ok (.getfield 68, 3) := by decide +kernel
theorem dX7_meet_87 : decode cX7_meet 87 = .ok (.invokevirtual 303, 3) := by decide +kernel
theorem dX7_meet_90 : decode cX7_meet 90 = .ok (.aload_n 0, 1) := by decide +kernel
theorem dX7_meet_91 : decode cX7_meet 91 = .ok (.getfield 71, 3) := by decide +kernel
theorem dX7_meet_94 : decode cX7_meet 94 = .ok (.iconst (-1), 1) := by decide +kernel
theorem dX7_meet_95 : decode cX7_meet 95 = .ok (.aload_n 3, 1) := by decide +kernel
theorem dX7_meet_96 : decode cX7_meet 96 = .ok (.getfield 30, 3) := by decide +kernel
theorem dX7_meet_99 : decode cX7_meet 99 = .ok (.aload_n 0, 1) := by decide +kernel
theorem dX7_meet_100 : decode cX7_meet 100 = .ok (.getfield 65, 3) := by decide +kernel
theorem dX7_meet_103 : decode cX7_meet 103 = .ok (.invokevirtual 303, 3) := by decide +kernel
theorem dX7_meet_106 : decode cX7_meet 106 = .ok (.aload_n 1, 1) := by decide +kernel
theorem dX7_meet_107 : decode cX7_meet 107 = .ok (.getfield 241, 3) := by decide +kernel
theorem dX7_meet_110 : decode cX7_meet 110 = .ok (.aload_n 0, 1) := by decide +kernel
theorem dX7_meet_111 : decode cX7_meet 111 = .ok (.getfield 71, 3) := by decide +kernel
theorem dX7_meet_114 : decode cX7_meet 114 = .ok (.aload_n 0, 1) := by decide +kernel
theorem dX7_meet_115 : decode cX7_meet 115 = .ok (.getfield 62, 3) := by decide +kernel
theorem dX7_meet_118 : decode cX7_meet 118 = .ok (.invokevirtual 300, 3) := by decide +kernel
theorem dX7_meet_121 : decode cX7_meet 121 = .ok (.return_, 1) := by decide +kernel
theorem dX7_speedSlide_0 : decode cX7_speedSlide 0 = .ok (.aload_n 0, 1) := by decide +kernel
theorem dX7_speedSlide_1 : decode cX7_speedSlide 1 = .ok (.getfield 11, 3) := by decide +kernel
theorem dX7_speedSlide_4 : decode cX7_speedSlide 4 = .ok (.aload_n 1, 1) := by decide +kernel
theorem dX7_speedSlide_5 : decode cX7_speedSlide 5 = .ok (.getfield 167, 3) := by decide +kernel
theorem dX7_speedSlide_8 : decode cX7_speedSlide 8 = .ok (.iconst 0, 1) := by decide +kernel
theorem dX7_speedSlide_9 : decode cX7_speedSlide 9 = .ok (.iaload, 1) := by decide +kernel
theorem dX7_speedSlide_10 : decode cX7_speedSlide 10 = .ok (.aaload, 1) := by decide +kernel
theorem dX7_speedSlide_11 : decode cX7_speedSlide 11 = .ok (.astore_n 2, 1) := by decide +kernel
theorem dX7_speedSlide_12 : decode cX7_speedSlide 12 = .ok (.aload_n 0, 1) := by decide +kernel
theorem dX7_speedSlide_13 : decode cX7_speedSlide 13 = .ok (.aload_n 0, 1) := by decide +kernel
theorem dX7_speedSlide_14 : decode cX7_speedSlide 14 = .ok (.getfield 68, 3) := by decide +kernel
theorem dX7_speedSlide_17 : decode cX7_speedSlide 17 = .ok (.aload_n 0, 1) := by decide +kernel
theorem dX7_speedSlide_18 : decode cX7_speedSlide 18 = .ok (.getfield 52, 3) := by decide +kernel
theorem dX7_speedSlide_21 : decode cX7_speedSlide 21 = .ok (.aload_n 1, 1) := by decide +kernel
theorem dX7_speedSlide_22 : decode cX7_speedSlide 22 = .ok (.aload_n 0, 1) := by decide +kernel
theorem dX7_speedSlide_23 : decode cX7_speedSlide 23 = .ok (.getfield 11, 3) := by decide +kernel
theorem dX7_speedSlide_26 : decode cX7_speedSlide 26 = .ok (.aload_n 1, 1) := by decide +kernel
theorem dX7_speedSlide_27 : decode cX7_speedSlide 27 = .ok (.getfield 167, 3) := by decide +kernel
theorem dX7_speedSlide_30 : decode cX7_speedSlide 30 = .ok (.iconst 1, 1) := by decide +kernel
theorem dX7_speedSlide_31 : decode cX7_speedSlide 31 = .ok (.iaload, 1) := by decide +kernel
theorem dX7_speedSlide_32 : decode cX7_speedSlide 32 = .ok (.aaload, 1) := by decide +kernel
theorem dX7_speedSlide_33 : decode cX7_speedSlide 33 = .ok (.aload_n 0, 1) := by decide +kernel
theorem dX7_speedSlide_34 : decode cX7_speedSlide 34 = .ok (.getfield 11, 3) := by decide +kernel
theorem dX7_speedSlide_37 : decode cX7_speedSlide 37 = .ok (.aload_n 1, 1) := by decide +kernel
theorem dX7_speedSlide_38 : decode cX7_speedSlide 38 = .ok (.getfield 167, 3) := by decide +kernel
theorem dX7_speedSlide_41 : decode cX7_speedSlide 41 = .ok (.iconst 2, 1) := by decide +kernel
theorem dX7_speedSlide_42 : decode cX7_speedSlide 42 = .ok (.iaload, 1) := by decide +kernel
theorem dX7_speedSlide_43 : decode cX7_speedSlide 43 = .ok (.aaload, 1) := by decide +kernel
theorem dX7_speedSlide_44 : decode cX7_speedSlide 44 = .ok (.invokevirtual 373, 3) := by decide +kernel
theorem dX7_speedSlide_47 : decode cX7_speedSlide 47 = .ok (.aload_n 0, 1) := by decide +kernel
theorem dX7_speedSlide_48 : decode cX7_speedSlide 48 = .ok (.getfield 48, 3) := by decide +kernel
theorem dX7_speedSlide_51 : decode cX7_speedSlide 51 = .ok (.aload_n 1, 1) := by decide +kernel
theorem dX7_speedSlide_52 : decode cX7_speedSlide 52 = .ok (.getfield 194, 3) := by decide +kernel
theorem dX7_speedSlide_55 : decode cX7_speedSlide 55 = .ok (.aload_n 2, 1) := by decide +kernel
theorem dX7_speedSlide_56 : decode cX7_speedSlide 56 = .ok (.getfield 194, 3) := by decide +kernel
theorem dX7_speedSlide_59 : decode cX7_speedSlide 59 = .ok (.invokevirtual 282, 3) := by decide +kernel
theorem dX7_speedSlide_62 : decode cX7_speedSlide 62 = .ok (.aload_n 0, 1) := by decide +kernel
theorem dX7_speedSlide_63 : decode cX7_speedSlide 63 = .ok (.getfield 65, 3) := by decide +kernel
theorem dX7_speedSlide_66 : decode cX7_speedSlide 66 = .ok (.aload_n 0, 1) := by decide +kernel
theorem dX7_speedSlide_67 : decode cX7_speedSlide 67 = .ok (.getfield 48, 3) := by decide +kernel
theorem dX7_speedSlide_70 : decode cX7_speedSlide 70 = .ok (.aload_n 2, 1) := by decide +kernel
theorem dX7_speedSlide_71 : decode cX7_speedSlide 71 = .ok (.getfield 363, 3) := by decide +kernel
theorem dX7_speedSlide_74 : decode cX7_speedSlide 74 = .ok (.invokevirtual 320, 3) := by decide +kernel
theorem dX7_speedSlide_77 : decode cX7_speedSlide 77 = .ok (.aload_n 0, 1) := by decide +kernel
theorem dX7_speedSlide_78 : decode cX7_speedSlide 78 = .ok (.getfield 62, 3) := by decide +kernel
theorem dX7_speedSlide_81 : decode cX7_speedSlide 81 = .ok (.aload_n 0, 1) := by decide +kernel
theorem dX7_speedSlide_82 : decode cX7_speedSlide 82 = .ok (.getfield 48, 3) := by decide +kernel
theorem dX7_speedSlide_85 : decode cX7_speedSlide 85 = .ok (.aload_n 0, 1) := by decide +kernel
theorem dX7_speedSlide_86 : decode cX7_speedSlide 86 = .ok (.getfield 52, 3) := by decide +kernel
theorem dX7_speedSlide_89 : decode cX7_speedSlide 89 = .ok (.invokevirtual 320, 3) := by decide +kernel
theorem dX7_speedSlide_92 : decode cX7_speedSlide 92 = .ok (.aload_n 0, 1) := by decide +kernel
theorem dX7_speedSlide_93 : decode cX7_speedSlide 93 = .ok (.getfield 62, 3) := by decide +kernel
theorem dX7_speedSlide_96 : decode cX7_speedSlide 96 = .ok (.aload_n 0, 1) := by decide +kernel
theorem dX7_speedSlide_97 : decode cX7_speedSlide 97 = .ok (.getfield 62, 3) := by decide +kernel
theorem dX7_speedSlide_100 : decode cX7_speedSlide 100 = .ok (.invokevirtual 256, 3) := by decide +kernel
theorem dX7_speedSlide_103 : decode cX7_speedSlide 103 = .ok (.aload_n 0, 1) := by decide +kernel
theorem dX7_speedSlide_104 : decode cX7_speedSlide 104 = .ok (.getfield 71, 3) := by decide +kernel
theorem dX7_speedSlide_107 : decode cX7_speedSlide 107 = .ok (.lconst 0, 1) := by decide +kernel
theorem dX7_speedSlide_108 : decode cX7_speedSlide 108 = .ok (.lconst 0, 1) := by decide +kernel
theorem dX7_speedSlide_109 : decode cX7_speedSlide 109 = .ok (.invokevirtual 38, 3) := by decide +kernel
theorem dX7_speedSlide_112 : decode cX7_speedSlide 112 = .ok (.aload_n 0, 1) := by decide +kernel
theorem dX7_speedSlide_113 : decode cX7_speedSlide 113 = .ok (.getfield 71, 3) := by decide +kernel
theorem dX7_speedSlide_116 : decode cX7_speedSlide 116 = .ok (.iconst (-1), 1) := by decide +kernel
theorem dX7_speedSlide_117 : decode cX7_speedSlide 117 = .ok (.aload_n 0, 1) := by decide +kernel
theorem dX7_speedSlide_118 : decode cX7_speedSlide 118 = .ok (.getfield 52, 3) := by decide +kernel
theorem dX7_speedSlide_121 : decode cX7_speedSlide 121 = .ok (.getfield 30, 3) := by decide +kernel
theorem dX7_speedSlide_124 : decode cX7_speedSlide 124 = .ok (.aload_n 0, 1) := by decide +kernel
theorem dX7_speedSlide_125 : decode cX7_speedSlide 125 = .ok (.getfield 65, 3) := by decide +kernel
theorem dX7_speedSlide_128 : decode cX7_speedSlide 128 = .ok (.invokevirtual 303, 3) := by decide +kernel
theorem dX7_speedSlide_131 : decode cX7_speedSlide 131 = .ok (.aload_n 0, 1) := by decide +kernel
theorem dX7_speedSlide_132 : decode cX7_speedSlide 132 = .ok (.getfield 71, 3) := by decide +kernel
theorem dX7_speedSlide_135 : decode cX7_speedSlide 135 = .ok (.iconst (-1), 1) := by decide +kernel
theorem dX7_speedSlide_136 : decode cX7_speedSlide 136 = .ok (.aload_n 0, 1) := by decide +kernel
theorem dX7_speedSlide_137 : decode cX7_speedSlide 137 = .ok (.getfield 48, 3) := by decide +kernel
theorem dX7_speedSlide_140 : decode cX7_speedSlide 140 = .ok (.getfield 241, 3) := by decide +kernel
theorem dX7_speedSlide_143 : decode cX7_speedSlide 143 = .ok (.aload_n 0, 1) := by decide +kernel
theorem dX7_speedSlide_144 : decode cX7_speedSlide 144 = .ok (.getfield 68, 3) := by decide +kernel
theorem dX7_speedSlide_147 : decode cX7_speedSlide 147 = .ok (.invokevirtual 303, 3) := by decide +kernel
theorem dX7_speedSlide_150 : decode cX7_speedSlide 150 = .ok (.aload_n 1, 1) := by decide +kernel
theorem dX7_speedSlide_151 : decode cX7_speedSlide 151 = .ok (.getfield 363, 3) := by decide +kernel
theorem dX7_speedSlide_154 : decode cX7_speedSlide 154 = .ok (.getfield 30, 3) := by decide +kernel
theorem dX7_speedSlide_157 : decode cX7_speedSlide 157 = .ok (.aload_n 0, 1) := by decide +kernel
theorem dX7_speedSlide_158 : decode cX7_speedSlide 158 = .ok (.getfield 71, 3) := by decide +kernel
theorem dX7_speedSlide_161 : decode cX7_speedSlide 161 = .ok (.aload_n 0, 1) := by decide +kernel
theorem dX7_speedSlide_162 : decode cX7_speedSlide 162 = .ok (.getfield 62, 3) := by decide +kernel
theorem dX7_speedSlide_165 : decode cX7_speedSlide 165 = .ok (.invokevirtual 300, 3) := by decide +kernel
theorem dX7_speedSlide_168 : decode cX7_speedSlide 168 = .ok (.aload_n 0, 1) := by decide +kernel
theorem dX7_speedSlide_169 : decode cX7_speedSlide 169 = .ok (.getfield 71, 3) := by decide +kernel
theorem dX7_speedSlide_172 : decode cX7_speedSlide 172 = .ok (.lconst 0, 1) := by decide +kernel
theorem dX7_speedSlide_173 : decode cX7_speedSlide 173 = .ok (.lconst 0, 1) := by decide +kernel
theorem dX7_speedSlide_174 : decode cX7_speedSlide 174 = .ok (.invokevirtual 38, 3) := by decide +kernel
theorem dX7_speedSlide_177 : decode cX7_speedSlide 177 = .ok (.aload_n 0, 1) := by decide +kernel
theorem dX7_speedSlide_178 : decode cX7_speedSlide 178 = .ok (.getfield 71, 3) := by decide +kernel
theorem dX7_speedSlide_181 : decode cX7_speedSlide 181 = .ok (.iconst 1, 1) := by decide +kernel
theorem dX7_speedSlide_182 : decode cX7_speedSlide 182 = .ok (.aload_n 0, 1) := by decide +kernel
theorem dX7_speedSlide_183 : decode cX7_speedSlide 183 = .ok (.getfield 48, 3) := by decide +kernel
theorem dX7_speedSlide_186 : decode cX7_speedSlide 186 = .ok (.getfield 30, 3) := by decide +kernel
theorem dX7_speedSlide_189 : decode cX7_speedSlide 189 = .ok (.aload_n 0, 1) := by decide +kernel
theorem dX7_speedSlide_190 : decode cX7_speedSlide 190 = .ok (.getfield 68, 3) := by decide +kernel
theorem dX7_speedSlide_193 : decode cX7_speedSlide 193 = .ok (.invokevirtual 303, 3) := by decide +kernel
theorem dX7_speedSlide_196 : decode cX7_speedSlide 196 = .ok (.aload_n 0, 1) := by decide +kernel
theorem dX7_speedSlide_197 : decode cX7_speedSlide 197 = .ok (.getfield 71, 3) := by decide +kernel
theorem dX7_speedSlide_200 : decode cX7_speedSlide 200 = .ok (.iconst (-1), 1) := by decide +kernel
theorem dX7_speedSlide_201 : decode cX7_speedSlide 201 = .ok (.aload_n 0, 1) := by decide +kernel
theorem dX7_speedSlide_202 : decode cX7_speedSlide 202 = .ok (.getfield 52, 3) := by decide +kernel
theorem dX7_speedSlide_205 : decode cX7_speedSlide 205 = .ok (.getfield 241, 3) := by decide +kernel
theorem dX7_speedSlide_208 : decode cX7_speedSlide 208 = .ok (.aload_n 0, 1) := by decide +kernel
theorem dX7_speedSlide_209 : decode cX7_speedSlide 209 = .ok (.getfield 65, 3) := by decide +kernel
theorem dX7_speedSlide_212 : decode cX7_speedSlide 212 = .ok (.invokevirtual 303, 3) := by decide +kernel
theorem dX7_speedSlide_215 : decode cX7_speedSlide 215 = .ok (.aload_n 1, 1) := by decide +kernel
theorem dX7_speedSlide_216 : decode cX7_speedSlide 216 = .ok (.getfield 363, 3) := by decide +kernel
theorem dX7_speedSlide_219 : decode cX7_speedSlide 219 = .ok (.getfield 241, 3) := by decide +kernel
theorem dX7_speedSlide_222 : decode cX7_speedSlide 222 = .ok (.aload_n 0, 1) := by decide +kernel
theorem dX7_speedSlide_223 : decode cX7_speedSlide 223 = .ok (.getfield 71, 3) := by decide +kernel
theorem dX7_speedSlide_226 : decode cX7_speedSlide 226 = .ok (.aload_n 0, 1) := by decide +kernel
theorem dX7_speedSlide_227 : decode cX7_speedSlide 227 = .ok (.getfield 62, 3) := by decide +kernel
theorem dX7_speedSlide_230 : decode cX7_speedSlide 230 = .ok (.invokevirtual 300, 3) := by decide +kernel
theorem dX7_speedSlide_233 : decode cX7_speedSlide 233 = .ok (.return_, 1) := by decide +kernel
theorem dX7_drift_0 : decode cX7_drift 0 = .ok (.aload_n 2, 1) := by decide +kernel
theorem dX7_drift_1 : decode cX7_drift 1 = .ok (.aload 5, 2) := by decide +kernel
theorem dX7_drift_3 : decode cX7_drift 3 = .ok (.getfield 194, 3) := by decide +kernel
theorem dX7_drift_6 : decode cX7_drift 6 = .ok (.aload 4, 2) := by decide +kernel
theorem dX7_drift_8 : decode cX7_drift 8 = .ok (.getfield 194, 3) := by decide +kernel
theorem dX7_drift_11 : decode cX7_drift 11 = .ok (.invokevirtual 282, 3) := by decide +kernel
theorem dX7_drift_14 : decode cX7_drift 14 = .ok (.aload_n 0, 1) := by decide +kernel
theorem dX7_drift_15 : decode cX7_drift 15 = .ok (.getfield 55, 3) := by decide +kernel
theorem dX7_drift_18 : decode cX7_drift 18 = .ok (.aload 5, 2) := by decide +kernel
theorem dX7_drift_20 : decode cX7_drift 20 = .ok (.getfield 363, 3) := by decide +kernel
theorem dX7_drift_23 : decode cX7_drift 23 = .ok (.aload 4, 2) := by decide +kernel
theorem dX7_drift_25 : decode cX7_drift 25 = .ok (.getfield 363, 3) := by decide +kernel
theorem dX7_drift_28 : decode cX7_drift 28 = .ok (.invokevirtual 282, 3) := by decide +kernel
theorem dX7_drift_31 : decode cX7_drift 31 = .ok (.aload_n 0, 1) := by decide +kernel
theorem dX7_drift_32 : decode cX7_drift 32 = .ok (.getfield 58, 3) := by decide +kernel
theorem dX7_drift_35 : decode cX7_drift 35 = .ok (.aload_n 3, 1) := by decide +kernel
theorem dX7_drift_36 : decode cX7_drift 36 = .ok (.getfield 194, 3) := by decide +kernel
theorem dX7_drift_39 : decode cX7_drift 39 = .ok (.aload 4, 2) := by decide +kernel
theorem dX7_drift_41 : decode cX7_drift 41 = .ok (.getfield 194, 3) := by decide +kernel
theorem dX7_drift_44 : decode cX7_drift 44 = .ok (.invokevirtual 282, 3) := by decide +kernel
theorem dX7_drift_47 : decode cX7_drift 47 = .ok (.aload_n 0, 1) := by decide +kernel
theorem dX7_drift_48 : decode cX7_drift 48 = .ok (.getfield 71, 3) := by decide +kernel
theorem dX7_drift_51 : decode cX7_drift 51 = .ok (.aload_n 0, 1) := by decide +kernel
theorem dX7_drift_52 : decode cX7_drift 52 = .ok (.getfield 58, 3) := by decide +kernel
theorem dX7_drift_55 : decode cX7_drift 55 = .ok (.aload_n 0, 1) := by decide +kernel
theorem dX7_drift_56 : decode cX7_drift 56 = .ok (.getfield 55, 3) := by decide +kernel
theorem dX7_drift_59 : decode cX7_drift 59 = .ok (.invokevirtual 332, 3) := by decide +kernel
theorem dX7_drift_62 : decode cX7_drift 62 = .ok (.aload_n 1, 1) := by decide +kernel
theorem dX7_drift_63 : decode cX7_drift 63 = .ok (.aload 4, 2) := by decide +kernel
theorem dX7_drift_65 : decode cX7_drift 65 = .ok (.getfield 363, 3) := by decide +kernel
theorem dX7_drift_68 : decode cX7_drift 68 = .ok (.aload_n 2, 1) := by decide +kernel
theorem dX7_drift_69 : decode cX7_drift 69 = .ok (.invokevirtual 332, 3) := by decide +kernel
theorem dX7_drift_72 : decode cX7_drift 72 = .ok (.aload_n 1, 1) := by decide +kernel
theorem dX7_drift_73 : decode cX7_drift 73 = .ok (.aload_n 1, 1) := by decide +kernel
theorem dX7_drift_74 : decode cX7_drift 74 = .ok (.aload_n 0, 1) := by decide +kernel
theorem dX7_drift_75 : decode cX7_drift 75 = .ok (.getfield 71, 3) := by decide +kernel
theorem dX7_drift_78 : decode cX7_drift 78 = .ok (.invokevirtual 292, 3) := by decide +kernel
theorem dX7_drift_81 : decode cX7_drift 81 = .ok (.return_, 1) := by decide +kernel
theorem dX7_speedCross_0 : decode cX7_speedCross 0 = .ok (.aload_n 0, 1) := by decide +kernel
theorem dX7_speedCross_1 : decode cX7_speedCross 1 = .ok (.aload_n 0, 1) := by decide +kernel
theorem dX7_speedCross_2 : decode cX7_speedCross 2 = .ok (.getfield 65, 3) := by decide +kernel
theorem dX7_speedCross_5 : decode cX7_speedCross 5 = .ok (.aload_n 0, 1) := by decide +kernel
theorem dX7_speedCross_6 : decode cX7_speedCross 6 = .ok (.getfield 48, 3) := by decide +kernel
theorem dX7_speedCross_9 : decode cX7_speedCross 9 = .ok (.aload_n 1, 1) := by decide +kernel
theorem dX7_speedCross_10 : decode cX7_speedCross 10 = .ok (.aload_n 0, 1) := by decide +kernel
theorem dX7_speedCross_11 : decode cX7_speedCross 11 = .ok (.getfield 11, 3) := by decide +kernel
theorem dX7_speedCross_14 : decode cX7_speedCross 14 = .ok (.aload_n 1, 1) := by decide +kernel
theorem dX7_speedCross_15 : decode cX7_speedCross 15 = .ok (.getfield 167, 3) := by decide +kernel
theorem dX7_speedCross_18 : decode cX7_speedCross 18 = .ok (.iconst 0, 1) := by decide +kernel
theorem dX7_speedCross_19 : decode cX7_speedCross 19 = .ok (.iaload, 1) := by decide +kernel
theorem dX7_speedCross_20 : decode cX7_speedCross 20 = .ok (.aaload, 1) := by decide +kernel
theorem dX7_speedCross_21 : decode cX7_speedCross 21 = .ok (.aload_n 0, 1) := by decide +kernel
theorem dX7_speedCross_22 : decode cX7_speedCross 22 = .ok (.getfield 11, 3) := by decide +kernel
theorem dX7_speedCross_25 : decode cX7_speedCross 25 = .ok (.aload_n 1, 1) := by decide +kernel
theorem dX7_speedCross_26 : decode cX7_speedCross 26 = .ok (.getfield 167, 3) := by decide +kernel
theorem dX7_speedCross_29 : decode cX7_speedCross 29 = .ok (.iconst 1, 1) := by decide +kernel
theorem dX7_speedCross_30 : decode cX7_speedCross 30 = .ok (.iaload, 1) := by decide +kernel
theorem dX7_speedCross_31 : decode cX7_speedCross 31 = .ok (.aaload, 1) := by decide +kernel
theorem dX7_speedCross_32 : decode cX7_speedCross 32 = .ok (.invokevirtual 373, 3) := by decide +kernel
theorem dX7_speedCross_35 : decode cX7_speedCross 35 = .ok (.aload_n 0, 1) := by decide +kernel
theorem dX7_speedCross_36 : decode cX7_speedCross 36 = .ok (.aload_n 0, 1) := by decide +kernel
theorem dX7_speedCross_37 : decode cX7_speedCross 37 = .ok (.getfield 68, 3) := by decide +kernel
theorem dX7_speedCross_40 : decode cX7_speedCross 40 = .ok (.aload_n 0, 1) := by decide +kernel
theorem dX7_speedCross_41 : decode cX7_speedCross 41 = .ok (.getfield 52, 3) := by decide +kernel
theorem dX7_speedCross_44 : decode cX7_speedCross 44 = .ok (.aload_n 1, 1) := by decide +kernel
theorem dX7_speedCross_45 : decode cX7_speedCross 45 = .ok (.aload_n 0, 1) := by decide +kernel
theorem dX7_speedCross_46 : decode cX7_speedCross 46 = .ok (.getfield 11, 3) := by decide +kernel
theorem dX7_speedCross_49 : decode cX7_speedCross 49 = .ok (.aload_n 1, 1) := by decide +kernel
theorem dX7_speedCross_50 : decode cX7_speedCross 50 = .ok (.getfield 167, 3) := by decide +kernel
theorem dX7_speedCross_53 : decode cX7_speedCross 53 = .ok (.iconst 2, 1) := by decide +kernel
theorem dX7_speedCross_54 : decode cX7_speedCross 54 = .ok (.iaload, 1) := by decide +kernel
theorem dX7_speedCross_55 : decode cX7_speedCross 55 = .ok (.aaload, 1) := by decide +kernel
theorem dX7_speedCross_56 : decode cX7_speedCross 56 = .ok (.aload_n 0, 1) := by decide +kernel
theorem dX7_speedCross_57 : decode cX7_speedCross 57 = .ok (.getfield 11, 3) := by decide +kernel
theorem dX7_speedCross_60 : decode cX7_speedCross 60 = .ok (.aload_n 1, 1) := by decide +kernel
theorem dX7_speedCross_61 : decode cX7_speedCross 61 = .ok (.getfield 167, 3) := by decide +kernel
theorem dX7_speedCross_64 : decode cX7_speedCross 64 = .ok (.iconst 3, 1) := by decide +kernel
theorem dX7_speedCross_65 : decode cX7_speedCross 65 = .ok (.iaload, 1) := by decide +kernel
theorem dX7_speedCross_66 : decode cX7_speedCross 66 = .ok (.aaload, 1) := by decide +kernel
theorem dX7_speedCross_67 : decode cX7_speedCross 67 = .ok (.invokevirtual 373, 3) := by decide +kernel
theorem dX7_speedCross_70 : decode cX7_speedCross 70 = .ok (.aload_n 0, 1) := by decide +kernel
theorem dX7_speedCross_71 : decode cX7_speedCross 71 = .ok (.getfield 62, 3) := by decide +kernel
theorem dX7_speedCross_74 : decode cX7_speedCross 74 = .ok (.aload_n 0, 1) := by decide +kernel
theorem dX7_speedCross_75 : decode cX7_speedCross 75 = .ok (.getfield 48, 3) := by decide +kernel
theorem dX7_speedCross_78 : decode cX7_speedCross 78 = .ok (.aload_n 0, 1) := by decide +kernel
theorem dX7_speedCross_79 : decode cX7_speedCross 79 = .ok (.getfield 52, 3) := by decide +kernel
theorem dX7_speedCross_82 : decode cX7_speedCross 82 = .ok (.invokevirtual 332, 3) := by decide +kernel
theorem dX7_speedCross_85 : decode cX7_speedCross 85 = .ok (.aload_n 0, 1) := by decide +kernel
theorem dX7_speedCross_86 : decode cX7_speedCross 86 = .ok (.getfield 71, 3) := by decide +kernel
theorem dX7_speedCross_89 : decode cX7_speedCross 89 = .ok (.lconst 0, 1) := by decide +kernel
theorem dX7_speedCross_90 : decode cX7_speedCross 90 = .ok (.lconst 0, 1) := by decide +kernel
theorem dX7_speedCross_91 : decode cX7_speedCross 91 = .ok (.invokevirtual 38, 3) := by decide +kernel
theorem dX7_speedCross_94 : decode cX7_speedCross 94 = .ok (.aload_n 0, 1) := by decide +kernel
theorem dX7_speedCross_95 : decode cX7_speedCross 95 = .ok (.getfield 71, 3) := by decide +kernel
theorem dX7_speedCross_98 : decode cX7_speedCross 98 = .ok (.iconst 1, 1) := by decide +kernel
theorem dX7_speedCross_99 : decode cX7_speedCross 99 = .ok (.aload_n 0, 1) := by decide +kernel
theorem dX7_speedCross_100 : decode cX7_speedCross 100 = .ok (.getfield 48, 3) := by decide +kernel
theorem dX7_speedCross_103 : decode cX7_speedCross 103 = .ok (.getfield 30, 3) := by decide +kernel
theorem dX7_speedCross_106 : decode cX7_speedCross 106 = .ok (.aload_n 0, 1) := by decide +kernel
theorem dX7_speedCross_107 : decode cX7_speedCross 107 = .ok (.getfield 68, 3) := by decide +kernel
theorem dX7_speedCross_110 : decode cX7_speedCross 110 = .ok (.invokevirtual 303, 3) := by decide +kernel
theorem dX7_speedCross_113 : decode cX7_speedCross 113 = .ok (.aload_n 0, 1) := by decide +kernel
theorem dX7_speedCross_114 : decode cX7_speedCross 114 = .ok (.getfield 71, 3) := by decide +kernel
theorem dX7_speedCross_117 : decode cX7_speedCross 117 = .ok (.iconst (-1), 1) := by decide +kernel
theorem dX7_speedCross_118 : decode cX7_speedCross 118 = .ok (.aload_n 0, 1) := by decide +kernel
theorem dX7_speedCross_119 : decode cX7_speedCross 119 = .ok (.getfield 52, 3) := by decide +kernel
theorem dX7_speedCross_122 : decode cX7_speedCross 122 = .ok (.getfield 30, 3) := by decide +kernel
theorem dX7_speedCross_125 : decode cX7_speedCross 125 = .ok (.aload_n 0, 1) := by decide +kernel
theorem dX7_speedCross_126 : decode cX7_speedCross 126 = .ok (.getfield 65, 3) := by decide +kernel
theorem dX7_speedCross_129 : decode cX7_speedCross 129 = .ok (.invokevirtual 303, 3) := by decide +kernel
theorem dX7_speedCross_132 : decode cX7_speedCross 132 = .ok (.aload_n 1, 1) := by decide +kernel
theorem dX7_speedCross_133 : decode cX7_speedCross 133 = .ok (.getfield 363, 3) := by decide +kernel
theorem dX7_speedCross_136 : decode cX7_speedCross 136 = .ok (.getfield 30, 3) := by decide +kernel
theorem dX7_speedCross_139 : decode cX7_speedCross 139 = .ok (.aload_n 0, 1) := by decide +kernel
theorem dX7_speedCross_140 : decode cX7_speedCross 140 = .ok (.getfield 71, 3) := by decide +kernel
theorem dX7_speedCross_143 : decode cX7_speedCross 143 = .ok (.aload_n 0, 1) := by decide +kernel
theorem dX7_speedCross_144 : decode cX7_speedCross 144 = .ok (.getfield 62, 3) := by decide +kernel
theorem dX7_speedCross_147 : decode cX7_speedCross 147 = .ok (.invokevirtual 300, 3) := by decide +kernel
theorem dX7_speedCross_150 : decode cX7_speedCross 150 = .ok (.aload_n 0, 1) := by decide +kernel
theorem dX7_speedCross_151 : decode cX7_speedCross 151 = .ok (.getfield 71, 3) := by decide +kernel
theorem dX7_speedCross_154 : decode cX7_speedCross 154 = .ok (.lconst 0, 1) := by decide +kernel
theorem dX7_speedCross_155 : decode cX7_speedCross 155 = .ok (.lconst 0, 1) := by decide +kernel
theorem dX7_speedCross_156 : decode cX7_speedCross 156 = .ok (.invokevirtual 38, 3) := by decide +kernel
theorem dX7_speedCross_159 : decode cX7_speedCross 159 = .ok (.aload_n 0, 1) := by decide +kernel
theorem dX7_speedCross_160 : decode cX7_speedCross 160 = .ok (.getfield 71, 3) := by decide +kernel
theorem dX7_speedCross_163 : decode cX7_speedCross 163 = .ok (.iconst 1, 1) := by decide +kernel
theorem dX7_speedCross_164 : decode cX7_speedCross 164 = .ok (.aload_n 0, 1) := by decide +kernel
theorem dX7_speedCross_165 : decode cX7_speedCross 165 = .ok (.getfield 48, 3) := by decide +kernel
theorem dX7_speedCross_168 : decode cX7_speedCross 168 = .ok (.getfield 241, 3) := by decide +kernel
theorem dX7_speedCross_171 : decode cX7_speedCross 171 = .ok (.aload_n 0, 1) := by decide +kernel
theorem dX7_speedCross_172 : decode cX7_speedCross 172 = .ok (.getfield 68, 3) := by decide +kernel
theorem dX7_speedCross_175 : decode cX7_speedCross 175 = .ok (.invokevirtual 303, 3) := by decide +kernel
theorem dX7_speedCross_178 : decode cX7_speedCross 178 = .ok (.aload_n 0, 1) := by decide +kernel
theorem dX7_speedCross_179 : decode cX7_speedCross 179 = .ok (.getfield 71, 3) := by decide +kernel
theorem dX7_speedCross_182 : decode cX7_speedCross 182 = .ok (.iconst (-1), 1) := by decide +kernel
theorem dX7_speedCross_183 : decode cX7_speedCross 183 = .ok (.aload_n 0, 1) := by decide +kernel
theorem dX7_speedCross_184 : decode cX7_speedCross 184 = .ok (.getfield 52, 3) := by decide +kernel
theorem dX7_speedCross_187 : decode cX7_speedCross 187 = .ok (.getfield 241, 3) := by decide +kernel
theorem dX7_speedCross_190 : decode cX7_speedCross 190 = .ok (.aload_n 0, 1) := by decide +kernel
theorem dX7_speedCross_191 : decode cX7_speedCross 191 = .ok (.getfield 65, 3) := by decide +kernel
theorem dX7_speedCross_194 : decode cX7_speedCross 194 = .ok (.invokevirtual 303, 3) := by decide +kernel
theorem dX7_speedCross_197 : decode cX7_speedCross 197 = .ok (.aload_n 1, 1) := by decide +kernel
theorem dX7_speedCross_198 : decode cX7_speedCross 198 = .ok (.getfield 363, 3) := by decide +kernel
theorem dX7_speedCross_201 : decode cX7_speedCross 201 = .ok (.getfield 241, 3) := by decide +kernel
theorem dX7_speedCross_204 : decode cX7_speedCross 204 = .ok (.aload_n 0, 1) := by decide +kernel
theorem dX7_speedCross_205 : decode cX7_speedCross 205 = .ok (.getfield 71, 3) := by decide +kernel
theorem dX7_speedCross_208 : decode cX7_speedCross 208 = .ok (.aload_n 0, 1) := by decide +kernel
theorem dX7_speedCross_209 : decode cX7_speedCross 209 = .ok (.getfield 62, 3) := by decide +kernel
theorem dX7_speedCross_212 : decode cX7_speedCross 212 = .ok (.invokevirtual 300, 3) := by decide +kernel
theorem dX7_speedCross_215 : decode cX7_speedCross 215 = .ok (.return_, 1) := by decide +kernel
theorem dX7_poleOf_0 : decode cX7_poleOf 0 = .ok (.aload_n 0, 1) := by decide +kernel
theorem dX7_poleOf_1 : decode cX7_poleOf 1 = .ok (.getfield 65, 3) := by decide +kernel
theorem dX7_poleOf_4 : decode cX7_poleOf 4 = .ok (.aload_n 0, 1) := by decide +kernel
theorem dX7_poleOf_5 : decode cX7_poleOf 5 = .ok (.getfield 11, 3) := by decide +kernel
theorem dX7_poleOf_8 : decode cX7_poleOf 8 = .ok (.iload_n 1, 1) := by decide +kernel
theorem dX7_poleOf_9 : decode cX7_poleOf 9 = .ok (.aaload, 1) := by decide +kernel
theorem dX7_poleOf_10 : decode cX7_poleOf 10 = .ok (.getfield 194, 3) := by decide +kernel
theorem dX7_poleOf_13 : decode cX7_poleOf 13 = .ok (.aload_n 0, 1) := by decide +kernel
theorem dX7_poleOf_14 : decode cX7_poleOf 14 = .ok (.getfield 11, 3) := by decide +kernel
theorem dX7_poleOf_17 : decode cX7_poleOf 17 = .ok (.iload_n 1, 1) := by decide +kernel
theorem dX7_poleOf_18 : decode cX7_poleOf 18 = .ok (.aaload, 1) := by decide +kernel
theorem dX7_poleOf_19 : decode cX7_poleOf 19 = .ok (.getfield 363, 3) := by decide +kernel
theorem dX7_poleOf_22 : decode cX7_poleOf 22 = .ok (.invokevirtual 320, 3) := by decide +kernel
theorem dX7_poleOf_25 : decode cX7_poleOf 25 = .ok (.aload_n 0, 1) := by decide +kernel
theorem dX7_poleOf_26 : decode cX7_poleOf 26 = .ok (.getfield 68, 3) := by decide +kernel
theorem dX7_poleOf_29 : decode cX7_poleOf 29 = .ok (.aload_n 0, 1) := by decide +kernel
theorem dX7_poleOf_30 : decode cX7_poleOf 30 = .ok (.getfield 11, 3) := by decide +kernel
theorem dX7_poleOf_33 : decode cX7_poleOf 33 = .ok (.iload_n 2, 1) := by decide +kernel
theorem dX7_poleOf_34 : decode cX7_poleOf 34 = .ok (.aaload, 1) := by decide +kernel
theorem dX7_poleOf_35 : decode cX7_poleOf 35 = .ok (.getfield 194, 3) := by decide +kernel
theorem dX7_poleOf_38 : decode cX7_poleOf 38 = .ok (.aload_n 0, 1) := by decide +kernel
theorem dX7_poleOf_39 : decode cX7_poleOf 39 = .ok (.getfield 11, 3) := by decide +kernel
theorem dX7_poleOf_42 : decode cX7_poleOf 42 = .ok (.iload_n 2, 1) := by decide +kernel
theorem dX7_poleOf_43 : decode cX7_poleOf 43 = .ok (.aaload, 1) := by decide +kernel
theorem dX7_poleOf_44 : decode cX7_poleOf 44 = .ok (.getfield 363, 3) := by decide +kernel
theorem dX7_poleOf_47 : decode cX7_poleOf 47 = .ok (.invokevirtual 320, 3) := by decide +kernel
theorem dX7_poleOf_50 : decode cX7_poleOf 50 = .ok (.aload_n 0, 1) := by decide +kernel
theorem dX7_poleOf_51 : decode cX7_poleOf 51 = .ok (.aload_n 0, 1) := by decide +kernel
theorem dX7_poleOf_52 : decode cX7_poleOf 52 = .ok (.getfield 58, 3) := by decide +kernel
theorem dX7_poleOf_55 : decode cX7_poleOf 55 = .ok (.aload_n 0, 1) := by decide +kernel
theorem dX7_poleOf_56 : decode cX7_poleOf 56 = .ok (.getfield 11, 3) := by decide +kernel
theorem dX7_poleOf_59 : decode cX7_poleOf 59 = .ok (.iload_n 1, 1) := by decide +kernel
theorem dX7_poleOf_60 : decode cX7_poleOf 60 = .ok (.aaload, 1) := by decide +kernel
theorem dX7_poleOf_61 : decode cX7_poleOf 61 = .ok (.getfield 363, 3) := by decide +kernel
theorem dX7_poleOf_64 : decode cX7_poleOf 64 = .ok (.aload_n 0, 1) := by decide +kernel
theorem dX7_poleOf_65 : decode cX7_poleOf 65 = .ok (.getfield 11, 3) := by decide +kernel
theorem dX7_poleOf_68 : decode cX7_poleOf 68 = .ok (.iload_n 2, 1) := by decide +kernel
theorem dX7_poleOf_69 : decode cX7_poleOf 69 = .ok (.aaload, 1) := by decide +kernel
theorem dX7_poleOf_70 : decode cX7_poleOf 70 = .ok (.getfield 363, 3) := by decide +kernel
theorem dX7_poleOf_73 : decode cX7_poleOf 73 = .ok (.invokevirtual 369, 3) := by decide +kernel
theorem dX7_poleOf_76 : decode cX7_poleOf 76 = .ok (.aload_n 0, 1) := by decide +kernel
theorem dX7_poleOf_77 : decode cX7_poleOf 77 = .ok (.getfield 58, 3) := by decide +kernel
theorem dX7_poleOf_80 : decode cX7_poleOf 80 = .ok (.areturn, 1) := by decide +kernel
theorem dX7_reckonMoment_0 : decode cX7_reckonMoment 0 = .ok (.aload_n 0, 1) := by decide +kernel
theorem dX7_reckonMoment_1 : decode cX7_reckonMoment 1 = .ok (.getfield 74, 3) := by decide +kernel
theorem dX7_reckonMoment_4 : decode cX7_reckonMoment 4 = .ok (.lconst 0, 1) := by decide +kernel
theorem dX7_reckonMoment_5 : decode cX7_reckonMoment 5 = .ok (.lconst 0, 1) := by decide +kernel
theorem dX7_reckonMoment_6 : decode cX7_reckonMoment 6 = .ok (.invokevirtual 38, 3) := by decide +kernel
theorem dX7_reckonMoment_9 : decode cX7_reckonMoment 9 = .ok (.iconst 0, 1) := by decide +kernel
theorem dX7_reckonMoment_10 : decode cX7_reckonMoment 10 = .ok (.istore_n 1, 1) := by decide +kernel
theorem dX7_reckonMoment_11 : decode cX7_reckonMoment 11 = .ok (.iload_n 1, 1) := by decide +kernel
theorem dX7_reckonMoment_12 : decode cX7_reckonMoment 12 = .ok (.aload_n 0, 1) := by decide +kernel
theorem dX7_reckonMoment_13 : decode cX7_reckonMoment 13 = .ok (.getfield 77, 3) := by decide +kernel
theorem dX7_reckonMoment_16 : decode cX7_reckonMoment 16 = .ok (.if_icmp .ge 92, 3) := by decide +kernel
theorem dX7_reckonMoment_19 : decode cX7_reckonMoment 19 = .ok (.aload_n 0, 1) := by decide +kernel
theorem dX7_reckonMoment_20 : decode cX7_reckonMoment 20 = .ok (.getfield 11, 3) := by decide +kernel
theorem dX7_reckonMoment_23 : decode cX7_reckonMoment 23 = .ok (.iload_n 1, 1) := by decide +kernel
theorem dX7_reckonMoment_24 : decode cX7_reckonMoment 24 = .ok (.aaload, 1) := by decide +kernel
theorem dX7_reckonMoment_25 : decode cX7_reckonMoment 25 = .ok (.astore_n 2, 1) := by decide +kernel
theorem dX7_reckonMoment_26 : decode cX7_reckonMoment 26 = .ok (.aload_n 2, 1) := by decide +kernel
theorem dX7_reckonMoment_27 : decode cX7_reckonMoment 27 = .ok (.getfield 377, 3) := by decide +kernel
theorem dX7_reckonMoment_30 : decode cX7_reckonMoment 30 = .ok (.ifCond .ne 10, 3) := by decide +kernel
theorem dX7_reckonMoment_33 : decode cX7_reckonMoment 33 = .ok (.aload_n 2, 1) := by decide +kernel
theorem dX7_reckonMoment_34 : decode cX7_reckonMoment 34 = .ok (.getfield 380, 3) := by decide +kernel
theorem dX7_reckonMoment_37 : decode cX7_reckonMoment 37 = .ok (.ifCond .eq 65, 3) := by decide +kernel
theorem dX7_reckonMoment_40 : decode cX7_reckonMoment 40 = .ok (.aload_n 0, 1) := by decide +kernel
theorem dX7_reckonMoment_41 : decode cX7_reckonMoment 41 = .ok (.getfield 65, 3) := by decide +kernel
theorem dX7_reckonMoment_44 : decode cX7_reckonMoment 44 = .ok (.lconst 0, 1) := by decide +kernel
theorem dX7_reckonMoment_45 : decode cX7_reckonMoment 45 = .ok (.lconst 0, 1) := by decide +kernel
theorem dX7_reckonMoment_46 : decode cX7_reckonMoment 46 = .ok (.invokevirtual 38, 3) := by decide +kernel
theorem dX7_reckonMoment_49 : decode cX7_reckonMoment 49 = .ok (.aload_n 0, 1) := by decide +kernel
theorem dX7_reckonMoment_50 : decode cX7_reckonMoment 50 = .ok (.getfield 65, 3) := by decide +kernel
theorem dX7_reckonMoment_53 : decode cX7_reckonMoment 53 = .ok (.aload_n 2, 1) := by decide +kernel
theorem dX7_reckonMoment_54 : decode cX7_reckonMoment 54 = .ok (.getfield 377, 3) := by decide +kernel
theorem dX7_reckonMoment_57 : decode cX7_reckonMoment 57 = .ok (.i2l, 1) := by decide +kernel
theorem dX7_reckonMoment_58 : decode cX7_reckonMoment 58 = .ok (.aload_n 2, 1) := by decide +kernel
theorem dX7_reckonMoment_59 : decode cX7_reckonMoment 59 = .ok (.getfield 363, 3) := by decide +kernel
theorem dX7_reckonMoment_62 : decode cX7_reckonMoment 62 = .ok (.getfield 30, 3) := by decide +kernel
theorem dX7_reckonMoment_65 : decode cX7_reckonMoment 65 = .ok (.invokevirtual 383, 3) := by decide +kernel
theorem dX7_reckonMoment_68 : decode cX7_reckonMoment 68 = .ok (.aload_n 0, 1) := by decide +kernel
theorem dX7_reckonMoment_69 : decode cX7_reckonMoment 69 = .ok (.getfield 65, 3) := by decide +kernel
theorem dX7_reckonMoment_72 : decode cX7_reckonMoment 72 = .ok (.aload_n 2, 1) := by decide +kernel
theorem dX7_reckonMoment_73 : decode cX7_reckonMoment 73 = .ok (.getfield 380, 3) := by decide +kernel
theorem dX7_reckonMoment_76 : decode cX7_reckonMoment 76 = .ok (.i2l, 1) := by decide +kernel
theorem dX7_reckonMoment_77 : decode cX7_reckonMoment 77 = .ok (.aload_n 2, 1) := by decide +kernel
theorem dX7_reckonMoment_78 : decode cX7_reckonMoment 78 = .ok (.getfield 363, 3) := by decide +kernel
theorem dX7_reckonMoment_81 : decode cX7_reckonMoment 81 = .ok (.getfield 241, 3) := by decide +kernel
theorem dX7_reckonMoment_84 : decode cX7_reckonMoment 84 = .ok (.invokevirtual 383, 3) := by decide +kernel
theorem dX7_reckonMoment_87 : decode cX7_reckonMoment 87 = .ok (.aload_n 0, 1) := by decide +kernel
theorem dX7_reckonMoment_88 : decode cX7_reckonMoment 88 = .ok (.getfield 74, 3) := by decide +kernel
theorem dX7_reckonMoment_91 : decode cX7_reckonMoment 91 = .ok (.aload_n 0, 1) := by decide +kernel
theorem dX7_reckonMoment_92 : decode cX7_reckonMoment 92 = .ok (.getfield 74, 3) := by decide +kernel
theorem dX7_reckonMoment_95 : decode cX7_reckonMoment 95 = .ok (.aload_n 0, 1) := by decide +kernel
theorem dX7_reckonMoment_96 : decode cX7_reckonMoment 96 = .ok (.getfield 65, 3) := by decide +kernel
theorem dX7_reckonMoment_99 : decode cX7_reckonMoment 99 = .ok (.invokevirtual 288, 3) := by decide +kernel
theorem dX7_reckonMoment_102 : decode cX7_reckonMoment 102 = .ok (.iinc 1 1, 3) := by decide +kernel
theorem dX7_reckonMoment_105 : decode cX7_reckonMoment 105 = .ok (.goto (-94), 3) := by decide +kernel
theorem dX7_reckonMoment_108 : decode cX7_reckonMoment 108 = .ok (.aload_n 0, 1) := by decide +kernel
theorem dX7_reckonMoment_109 : decode cX7_reckonMoment 109 = .ok (.getfield 74, 3) := by decide +kernel
theorem dX7_reckonMoment_112 : decode cX7_reckonMoment 112 = .ok (.aload_n 0, 1) := by decide +kernel
theorem dX7_reckonMoment_113 : decode cX7_reckonMoment 113 = .ok (.getfield 74, 3) := by decide +kernel
theorem dX7_reckonMoment_116 : decode cX7_reckonMoment 116 = .ok (.invokevirtual 256, 3) := by decide +kernel
theorem dX7_reckonMoment_119 : decode cX7_reckonMoment 119 = .ok (.return_, 1) := by decide +kernel
theorem dX7_massInAll_0 : decode cX7_massInAll 0 = .ok (.iconst 0, 1) := by decide +kernel
theorem dX7_massInAll_1 : decode cX7_massInAll 1 = .ok (.istore_n 1, 1) := by decide +kernel
theorem dX7_massInAll_2 : decode cX7_massInAll 2 = .ok (.iconst 0, 1) := by decide +kernel
theorem dX7_massInAll_3 : decode cX7_massInAll 3 = .ok (.istore_n 2, 1) := by decide +kernel
theorem dX7_massInAll_4 : decode cX7_massInAll 4 = .ok (.iload_n 2, 1) := by decide +kernel
theorem dX7_massInAll_5 : decode cX7_massInAll 5 = .ok (.aload_n 0, 1) := by decide +kernel
theorem dX7_massInAll_6 : decode cX7_massInAll 6 = .ok (.getfield 77, 3) := by decide +kernel
theorem dX7_massInAll_9 : decode cX7_massInAll 9 = .ok (.if_icmp .ge 21, 3) := by decide +kernel
theorem dX7_massInAll_12 : decode cX7_massInAll 12 = .ok (.iload_n 1, 1) := by decide +kernel
theorem dX7_massInAll_13 : decode cX7_massInAll 13 = .ok (.aload_n 0, 1) := by decide +kernel
theorem dX7_massInAll_14 : decode cX7_massInAll 14 = .ok (.getfield 11, 3) := by decide +kernel
theorem dX7_massInAll_17 : decode cX7_massInAll 17 = .ok (.iload_n 2, 1) := by decide +kernel
theorem dX7_massInAll_18 : decode cX7_massInAll 18 = .ok (.aaload, 1) := by decide +kernel
theorem dX7_massInAll_19 : decode cX7_massInAll 19 = .ok (.getfield 387, 3) := by decide +kernel
theorem dX7_massInAll_22 : decode cX7_massInAll 22 = .ok (.iadd, 1) := by decide +kernel
theorem dX7_massInAll_23 : decode cX7_massInAll 23 = .ok (.istore_n 1, 1) := by decide +kernel
theorem dX7_massInAll_24 : decode cX7_massInAll 24 = .ok (.iinc 2 1, 3) := by decide +kernel
theorem dX7_massInAll_27 : decode cX7_massInAll 27 = .ok (.goto (-23), 3) := by decide +kernel
theorem dX7_massInAll_30 : decode cX7_massInAll 30 = .ok (.iload_n 1, 1) := by decide +kernel
theorem dX7_massInAll_31 : decode cX7_massInAll 31 = .ok (.ireturn, 1) := by decide +kernel
theorem dX7_reckonMiddle_0 : decode cX7_reckonMiddle 0 = .ok (.aload_n 0, 1) := by decide +kernel
theorem dX7_reckonMiddle_1 : decode cX7_reckonMiddle 1 = .ok (.getfield 74, 3) := by decide +kernel
theorem dX7_reckonMiddle_4 : decode cX7_reckonMiddle 4 = .ok (.lconst 0, 1) := by decide +kernel
theorem dX7_reckonMiddle_5 : decode cX7_reckonMiddle 5 = .ok (.lconst 0, 1) := by decide +kernel
theorem dX7_reckonMiddle_6 : decode cX7_reckonMiddle 6 = .ok (.invokevirtual 38, 3) := by decide +kernel
theorem dX7_reckonMiddle_9 : decode cX7_reckonMiddle 9 = .ok (.iconst 0, 1) := by decide +kernel
theorem dX7_reckonMiddle_10 : decode cX7_reckonMiddle 10 = .ok (.istore_n 2, 1) := by decide +kernel
theorem dX7_reckonMiddle_11 : decode cX7_reckonMiddle 11 = .ok (.iload_n 2, 1) := by decide +kernel
theorem dX7_reckonMiddle_12 : decode cX7_reckonMiddle 12 = .ok (.aload_n 0, 1) := by decide +kernel
theorem dX7_reckonMiddle_13 : decode cX7_reckonMiddle 13 = .ok (.getfield 77, 3) := by decide +kernel
theorem dX7_reckonMiddle_16 : decode cX7_reckonMiddle 16 = .ok (.if_icmp .ge 56, 3) := by decide +kernel
theorem dX7_reckonMiddle_19 : decode cX7_reckonMiddle 19 = .ok (.aload_n 0, 1) := by decide +kernel
theorem dX7_reckonMiddle_20 : decode cX7_reckonMiddle 20 = .ok (.getfield 11, 3) := by decide +kernel
theorem dX7_reckonMiddle_23 : decode cX7_reckonMiddle 23 = .ok (.iload_n 2, 1) := by decide +kernel
theorem dX7_reckonMiddle_24 : decode cX7_reckonMiddle 24 = .ok (.aaload, 1) := by decide +kernel
theorem dX7_reckonMiddle_25 : decode cX7_reckonMiddle 25 = .ok (.astore_n 3, 1) := by decide +kernel
theorem dX7_reckonMiddle_26 : decode cX7_reckonMiddle 26 = .ok (.aload_n 3, 1) := by decide +kernel
theorem dX7_reckonMiddle_27 : decode cX7_reckonMiddle 27 = .ok (.getfield 387, 3) := by decide +kernel
theorem dX7_reckonMiddle_30 : decode cX7_reckonMiddle 30 = .ok (.ifCond .eq 36, 3) := by decide +kernel
theorem dX7_reckonMiddle_33 : decode cX7_reckonMiddle 33 = .ok (.aload_n 0, 1) := by decide +kernel
theorem dX7_reckonMiddle_34 : decode cX7_reckonMiddle 34 = .ok (.getfield 74, 3) := by decide +kernel
theorem dX7_reckonMiddle_37 : decode cX7_reckonMiddle 37 = .ok (.aload_n 3, 1) := by decide +kernel
theorem dX7_reckonMiddle_38 : decode cX7_reckonMiddle 38 = .ok (.getfield 387, 3) := by decide +kernel
theorem dX7_reckonMiddle_41 : decode cX7_reckonMiddle 41 = .ok (.i2l, 1) := by decide +kernel
theorem dX7_reckonMiddle_42 : decode cX7_reckonMiddle 42 = .ok (.iload_n 1, 1) := by decide +kernel
theorem dX7_reckonMiddle_43 : decode cX7_reckonMiddle 43 = .ok (.ifCond .ne 13, 3) := by decide +kernel
theorem dX7_reckonMiddle_46 : decode cX7_reckonMiddle 46 = .ok (.aload_n 3, 1) := by decide +kernel
theorem dX7_reckonMiddle_47 : decode cX7_reckonMiddle 47 = .ok (.getfield 194, 3) := by decide +kernel
theorem dX7_reckonMiddle_50 : decode cX7_reckonMiddle 50 = .ok (.getfield 30, 3) := by decide +kernel
theorem dX7_reckonMiddle_53 : decode cX7_reckonMiddle 53 = .ok (.goto 10, 3) := by decide +kernel
theorem dX7_reckonMiddle_56 : decode cX7_reckonMiddle 56 = .ok (.aload_n 3, 1) := by decide +kernel
theorem dX7_reckonMiddle_57 : decode cX7_reckonMiddle 57 = .ok (.getfield 194, 3) := by decide +kernel
theorem dX7_reckonMiddle_60 : decode cX7_reckonMiddle 60 = .ok (.getfield 241, 3) := by decide +kernel
theorem dX7_reckonMiddle_63 : decode cX7_reckonMiddle 63 = .ok (.invokevirtual 383, 3) := by decide +kernel
theorem dX7_reckonMiddle_66 : decode cX7_reckonMiddle 66 = .ok (.iinc 2 1, 3) := by decide +kernel
theorem dX7_reckonMiddle_69 : decode cX7_reckonMiddle 69 = .ok (.goto (-58), 3) := by decide +kernel
theorem dX7_reckonMiddle_72 : decode cX7_reckonMiddle 72 = .ok (.aload_n 0, 1) := by decide +kernel
theorem dX7_reckonMiddle_73 : decode cX7_reckonMiddle 73 = .ok (.getfield 74, 3) := by decide +kernel
theorem dX7_reckonMiddle_76 : decode cX7_reckonMiddle 76 = .ok (.aload_n 0, 1) := by decide +kernel
theorem dX7_reckonMiddle_77 : decode cX7_reckonMiddle 77 = .ok (.invokevirtual 390, 3) := by decide +kernel
theorem dX7_reckonMiddle_80 : decode cX7_reckonMiddle 80 = .ok (.i2l, 1) := by decide +kernel
theorem dX7_reckonMiddle_81 : decode cX7_reckonMiddle 81 = .ok (.invokevirtual 296, 3) := by decide +kernel
theorem dX7_reckonMiddle_84 : decode cX7_reckonMiddle 84 = .ok (.return_, 1) := by decide +kernel
theorem dX8_init_0 : decode cX8_init 0 = .ok (.aload_n 0, 1) := by decide +kernel
theorem dX8_init_1 : decode cX8_init 1 = .ok (.invokespecial 1, 3) := by decide +kernel
theorem dX8_init_4 : decode cX8_init 4 = .ok (.aload_n 0, 1) := by decide +kernel
theorem dX8_init_5 : decode cX8_init 5 = .ok (.new 7, 3) := by decide +kernel
theorem dX8_init_8 : decode cX8_init 8 = .ok (.dup, 1) := by decide +kernel
theorem dX8_init_9 : decode cX8_init 9 = .ok (.invokespecial 9, 3) := by decide +kernel
theorem dX8_init_12 : decode cX8_init 12 = .ok (.putfield 10, 3) := by decide +kernel
theorem dX8_init_15 : decode cX8_init 15 = .ok (.aload_n 0, 1) := by decide +kernel
theorem dX8_init_16 : decode cX8_init 16 = .ok (.new 7, 3) := by decide +kernel
theorem dX8_init_19 : decode cX8_init 19 = .ok (.dup, 1) := by decide +kernel
theorem dX8_init_20 : decode cX8_init 20 = .ok (.invokespecial 9, 3) := by decide +kernel
theorem dX8_init_23 : decode cX8_init 23 = .ok (.putfield 16, 3) := by decide +kernel
theorem dX8_init_26 : decode cX8_init 26 = .ok (.return_, 1) := by decide +kernel
theorem dX8_isOpen_0 : decode cX8_isOpen 0 = .ok (.aload_n 0, 1) := by decide +kernel
theorem dX8_isOpen_1 : decode cX8_isOpen 1 = .ok (.getfield 10, 3) := by decide +kernel
theorem dX8_isOpen_4 : decode cX8_isOpen 4 = .ok (.getfield 19, 3) := by decide +kernel
theorem dX8_isOpen_7 : decode cX8_isOpen 7 = .ok (.ifCond .ne 13, 3) := by decide +kernel
theorem dX8_isOpen_10 : decode cX8_isOpen 10 = .ok (.aload_n 0, 1) := by decide +kernel
theorem dX8_isOpen_11 : decode cX8_isOpen 11 = .ok (.getfield 16, 3) := by decide +kernel
theorem dX8_isOpen_14 : decode cX8_isOpen 14 = .ok (.getfield 19, 3) := by decide +kernel
theorem dX8_isOpen_17 : decode cX8_isOpen 17 = .ok (.ifCond .eq 7, 3) := by decide +kernel
theorem dX8_isOpen_20 : decode cX8_isOpen 20 = .ok (.iconst 1, 1) := by decide +kernel
theorem dX8_isOpen_21 : decode cX8_isOpen 21 = .ok (.goto 4, 3) := by decide +kernel
theorem dX8_isOpen_24 : decode cX8_isOpen 24 = .ok (.iconst 0, 1) := by decide +kernel
theorem dX8_isOpen_25 : decode cX8_isOpen 25 = .ok (.ireturn, 1) := by decide +kernel
theorem dX8_shut_0 : decode cX8_shut 0 = .ok (.aload_n 0, 1) := by decide +kernel
theorem dX8_shut_1 : decode cX8_shut 1 = .ok (.getfield 10, 3) := by decide +kernel
theorem dX8_shut_4 : decode cX8_shut 4 = .ok (.invokevirtual 23, 3) := by decide +kernel
theorem dX8_shut_7 : decode cX8_shut 7 = .ok (.aload_n 0, 1) := by decide +kernel
theorem dX8_shut_8 : decode cX8_shut 8 = .ok (.getfield 16, 3) := by decide +kernel
theorem dX8_shut_11 : decode cX8_shut 11 = .ok (.invokevirtual 23, 3) := by decide +kernel
theorem dX8_shut_14 : decode cX8_shut 14 = .ok (.return_, 1) := by decide +kernel
theorem dX8_zero_0 : decode cX8_zero 0 = .ok (.aload_n 0, 1) := by decide +kernel
theorem dX8_zero_1 : decode cX8_zero 1 = .ok (.getfield 10, 3) := by decide +kernel
theorem dX8_zero_4 : decode cX8_zero 4 = .ok (.lconst 0, 1) := by decide +kernel
theorem dX8_zero_5 : decode cX8_zero 5 = .ok (.lconst 0, 1) := by decide +kernel
theorem dX8_zero_6 : decode cX8_zero 6 = .ok (.invokevirtual 26, 3) := by decide +kernel
theorem dX8_zero_9 : decode cX8_zero 9 = .ok (.aload_n 0, 1) := by decide +kernel
theorem dX8_zero_10 : decode cX8_zero 10 = .ok (.getfield 16, 3) := by decide +kernel
theorem dX8_zero_13 : decode cX8_zero 13 = .ok (.lconst 0, 1) := by decide +kernel
theorem dX8_zero_14 : decode cX8_zero 14 = .ok (.lconst 0, 1) := by decide +kernel
theorem dX8_zero_15 : decode cX8_zero 15 = .ok (.invokevirtual 26, 3) := by decide +kernel
theorem dX8_zero_18 : decode cX8_zero 18 = .ok (.return_, 1) := by decide +kernel
theorem dX8_copy_0 : decode cX8_copy 0 = .ok (.aload_n 0, 1) := by decide +kernel
theorem dX8_copy_1 : decode cX8_copy 1 = .ok (.getfield 10, 3) := by decide +kernel
theorem dX8_copy_4 : decode cX8_copy 4 = .ok (.aload_n 1, 1) := by decide +kernel
theorem dX8_copy_5 : decode cX8_copy 5 = .ok (.getfield 10, 3) := by decide +kernel
theorem dX8_copy_8 : decode cX8_copy 8 = .ok (.invokevirtual 30, 3) := by decide +kernel
theorem dX8_copy_11 : decode cX8_copy 11 = .ok (.aload_n 0, 1) := by decide +kernel
theorem dX8_copy_12 : decode cX8_copy 12 = .ok (.getfield 16, 3) := by decide +kernel
theorem dX8_copy_15 : decode cX8_copy 15 = .ok (.aload_n 1, 1) := by decide +kernel
theorem dX8_copy_16 : decode cX8_copy 16 = .ok (.getfield 16, 3) := by decide +kernel
theorem dX8_copy_19 : decode cX8_copy 19 = .ok (.invokevirtual 30, 3) := by decide +kernel
theorem dX8_copy_22 : decode cX8_copy 22 = .ok (.return_, 1) := by decide +kernel
theorem dX8_minus_0 : decode cX8_minus 0 = .ok (.aload_n 0, 1) := by decide +kernel
theorem dX8_minus_1 : decode cX8_minus 1 = .ok (.getfield 10, 3) := by decide +kernel
theorem dX8_minus_4 : decode cX8_minus 4 = .ok (.aload_n 1, 1) := by decide +kernel
theorem dX8_minus_5 : decode cX8_minus 5 = .ok (.getfield 10, 3) := by decide +kernel
theorem dX8_minus_8 : decode cX8_minus 8 = .ok (.aload_n 2, 1) := by decide +kernel
theorem dX8_minus_9 : decode cX8_minus 9 = .ok (.getfield 10, 3) := by decide +kernel
theorem dX8_minus_12 : decode cX8_minus 12 = .ok (.invokevirtual 34, 3) := by decide +kernel
theorem dX8_minus_15 : decode cX8_minus 15 = .ok (.aload_n 0, 1) := by decide +kernel
theorem dX8_minus_16 : decode cX8_minus 16 = .ok (.getfield 16, 3) := by decide +kernel
theorem dX8_minus_19 : decode cX8_minus 19 = .ok (.aload_n 1, 1) := by decide +kernel
theorem dX8_minus_20 : decode cX8_minus 20 = .ok (.getfield 16, 3) := by decide +kernel
theorem dX8_minus_23 : decode cX8_minus 23 = .ok (.aload_n 2, 1) := by decide +kernel
theorem dX8_minus_24 : decode cX8_minus 24 = .ok (.getfield 16, 3) := by decide +kernel
theorem dX8_minus_27 : decode cX8_minus 27 = .ok (.invokevirtual 34, 3) := by decide +kernel
theorem dX8_minus_30 : decode cX8_minus 30 = .ok (.return_, 1) := by decide +kernel
theorem dX8_direct_0 : decode cX8_direct 0 = .ok (.iload_n 1, 1) := by decide +kernel
theorem dX8_direct_1 : decode cX8_direct 1 = .ok (.sipush 256, 3) := by decide +kernel
theorem dX8_direct_4 : decode cX8_direct 4 = .ok (.idiv, 1) := by decide +kernel
theorem dX8_direct_5 : decode cX8_direct 5 = .ok (.istore_n 2, 1) := by decide +kernel
theorem dX8_direct_6 : decode cX8_direct 6 = .ok (.iload_n 1, 1) := by decide +kernel
theorem dX8_direct_7 : decode cX8_direct 7 = .ok (.sipush 256, 3) := by decide +kernel
theorem dX8_direct_10 : decode cX8_direct 10 = .ok (.irem, 1) := by decide +kernel
theorem dX8_direct_11 : decode cX8_direct 11 = .ok (.i2l, 1) := by decide +kernel
theorem dX8_direct_12 : decode cX8_direct 12 = .ok (.lstore_n 3, 1) := by decide +kernel
theorem dX8_direct_13 : decode cX8_direct 13 = .ok (.ldc2_w 38, 3) := by decide +kernel
theorem dX8_direct_16 : decode cX8_direct 16 = .ok (.lload_n 3, 1) := by decide +kernel
theorem dX8_direct_17 : decode cX8_direct 17 = .ok (.lload_n 3, 1) := by decide +kernel
theorem dX8_direct_18 : decode cX8_direct 18 = .ok (.lmul, 1) := by decide +kernel
theorem dX8_direct_19 : decode cX8_direct 19 = .ok (.ladd, 1) := by decide +kernel
theorem dX8_direct_20 : decode cX8_direct 20 = .ok (.lstore 5, 2) := by decide +kernel
theorem dX8_direct_22 : decode cX8_direct 22 = .ok (.iload_n 2, 1) := by decide +kernel
theorem dX8_direct_23 : decode cX8_direct 23 = .ok (.iconst 2, 1) := by decide +kernel
theorem dX8_direct_24 : decode cX8_direct 24 = .ok (.irem, 1) := by decide +kernel
theorem dX8_direct_25 : decode cX8_direct 25 = .ok (.ifCond .ne 10, 3) := by decide +kernel
theorem dX8_direct_28 : decode cX8_direct 28 = .ok (.aload_n 0, 1) := by decide +kernel
theorem dX8_direct_29 : decode cX8_direct 29 = .ok (.getfield 10, 3) := by decide +kernel
theorem dX8_direct_32 : decode cX8_direct 32 = .ok (.goto 7, 3) := by decide +kernel
theorem dX8_direct_35 : decode cX8_direct 35 = .ok (.aload_n 0, 1) := by decide +kernel
theorem dX8_direct_36 : decode cX8_direct 36 = .ok (.getfield 16, 3) := by decide +kernel
theorem dX8_direct_39 : decode cX8_direct 39 = .ok (.astore 7, 2) := by decide +kernel
theorem dX8_direct_41 : decode cX8_direct 41 = .ok (.iload_n 2, 1) := by decide +kernel
theorem dX8_direct_42 : decode cX8_direct 42 = .ok (.iconst 2, 1) := by decide +kernel
theorem dX8_direct_43 : decode cX8_direct 43 = .ok (.irem, 1) := by decide +kernel
theorem dX8_direct_44 : decode cX8_direct 44 = .ok (.ifCond .ne 10, 3) := by decide +kernel
theorem dX8_direct_47 : decode cX8_direct 47 = .ok (.aload_n 0, 1) := by decide +kernel
theorem dX8_direct_48 : decode cX8_direct 48 = .ok (.getfield 16, 3) := by decide +kernel
theorem dX8_direct_51 : decode cX8_direct 51 = .ok (.goto 7, 3) := by decide +kernel
theorem dX8_direct_54 : decode cX8_direct 54 = .ok (.aload_n 0, 1) := by decide +kernel
theorem dX8_direct_55 : decode cX8_direct 55 = .ok (.getfield 10, 3) := by decide +kernel
theorem dX8_direct_58 : decode cX8_direct 58 = .ok (.astore 8, 2) := by decide +kernel
theorem dX8_direct_60 : decode cX8_direct 60 = .ok (.aload 7, 2) := by decide +kernel
theorem dX8_direct_62 : decode cX8_direct 62 = .ok (.ldc2_w 38, 3) := by decide +kernel
theorem dX8_direct_65 : decode cX8_direct 65 = .ok (.lload_n 3, 1) := by decide +kernel
theorem dX8_direct_66 : decode cX8_direct 66 = .ok (.lload_n 3, 1) := by decide +kernel
theorem dX8_direct_67 : decode cX8_direct 67 = .ok (.lmul, 1) := by decide +kernel
theorem dX8_direct_68 : decode cX8_direct 68 = .ok (.lsub, 1) := by decide +kernel
theorem dX8_direct_69 : decode cX8_direct 69 = .ok (.lload 5, 2) := by decide +kernel
theorem dX8_direct_71 : decode cX8_direct 71 = .ok (.invokevirtual 40, 3) := by decide +kernel
theorem dX8_direct_74 : decode cX8_direct 74 = .ok (.aload 8, 2) := by decide +kernel
theorem dX8_direct_76 : decode cX8_direct 76 = .ok (.ldc2_w 43, 3) := by decide +kernel
theorem dX8_direct_79 : decode cX8_direct 79 = .ok (.lload_n 3, 1) := by decide +kernel
theorem dX8_direct_80 : decode cX8_direct 80 = .ok (.lmul, 1) := by decide +kernel
theorem dX8_direct_81 : decode cX8_direct 81 = .ok (.lload 5, 2) := by decide +kernel
theorem dX8_direct_83 : decode cX8_direct 83 = .ok (.invokevirtual 40, 3) := by decide +kernel
theorem dX8_direct_86 : decode cX8_direct 86 = .ok (.iload_n 2, 1) := by decide +kernel
theorem dX8_direct_87 : decode cX8_direct 87 = .ok (.iconst 1, 1) := by decide +kernel
theorem dX8_direct_88 : decode cX8_direct 88 = .ok (.if_icmp .eq 8, 3) := by decide +kernel
theorem dX8_direct_91 : decode cX8_direct 91 = .ok (.iload_n 2, 1) := by decide +kernel
theorem dX8_direct_92 : decode cX8_direct 92 = .ok (.iconst 2, 1) := by decide +kernel
theorem dX8_direct_93 : decode cX8_direct 93 = .ok (.if_icmp .ne 14, 3) := by decide +kernel
theorem dX8_direct_96 : decode cX8_direct 96 = .ok (.aload_n 0, 1) := by decide +kernel
theorem dX8_direct_97 : decode cX8_direct 97 = .ok (.getfield 10, 3) := by decide +kernel
theorem dX8_direct_100 : decode cX8_direct 100 = .ok (.aload_n 0, 1) := by decide +kernel
theorem dX8_direct_101 : decode cX8_direct 101 = .ok (.getfield 10, 3) := by decide +kernel
theorem dX8_direct_104 : decode cX8_direct 104 = .ok (.invokevirtual 45, 3) := by decide +kernel
theorem dX8_direct_107 : decode cX8_direct 107 = .ok (.iload_n 2, 1) := by decide +kernel
theorem dX8_direct_108 : decode cX8_direct 108 = .ok (.iconst 2, 1) := by decide +kernel
theorem dX8_direct_109 : decode cX8_direct 109 = .ok (.if_icmp .eq 8, 3) := by decide +kernel
theorem dX8_direct_112 : decode cX8_direct 112 = .ok (.iload_n 2, 1) := by decide +kernel
theorem dX8_direct_113 : decode cX8_direct 113 = .ok (.iconst 3, 1) := by decide +kernel
theorem dX8_direct_114 : decode cX8_direct 114 = .ok (.if_icmp .ne 14, 3) := by decide +kernel
theorem dX8_direct_117 : decode cX8_direct 117 = .ok (.aload_n 0, 1) := by decide +kernel
theorem dX8_direct_118 : decode cX8_direct 118 = .ok (.getfield 16, 3) := by decide +kernel
theorem dX8_direct_121 : decode cX8_direct 121 = .ok (.aload_n 0, 1) := by decide +kernel
theorem dX8_direct_122 : decode cX8_direct 122 = .ok (.getfield 16, 3) := by decide +kernel
theorem dX8_direct_125 : decode cX8_direct 125 = .ok (.invokevirtual 45, 3) := by decide +kernel
theorem dX8_direct_128 : decode cX8_direct 128 = .ok (.return_, 1) := by decide +kernel
theorem dX8_product_0 : decode cX8_product 0 = .ok (.aload_n 0, 1) := by decide +kernel
theorem dX8_product_1 : decode cX8_product 1 = .ok (.getfield 10, 3) := by decide +kernel
theorem dX8_product_4 : decode cX8_product 4 = .ok (.lconst 0, 1) := by decide +kernel
theorem dX8_product_5 : decode cX8_product 5 = .ok (.lconst 0, 1) := by decide +kernel
theorem dX8_product_6 : decode cX8_product 6 = .ok (.invokevirtual 26, 3) := by decide +kernel
theorem dX8_product_9 : decode cX8_product 9 = .ok (.aload_n 0, 1) := by decide +kernel
theorem dX8_product_10 : decode cX8_product 10 = .ok (.getfield 10, 3) := by decide +kernel
theorem dX8_product_13 : decode cX8_product 13 = .ok (.iconst 1, 1) := by decide +kernel
theorem dX8_product_14 : decode cX8_product 14 = .ok (.aload_n 1, 1) := by decide +kernel
theorem dX8_product_15 : decode cX8_product 15 = .ok (.getfield 10, 3) := by decide +kernel
theorem dX8_product_18 : decode cX8_product 18 = .ok (.aload_n 2, 1) := by decide +kernel
theorem dX8_product_19 : decode cX8_product 19 = .ok (.getfield 10, 3) := by decide +kernel
theorem dX8_product_22 : decode cX8_product 22 = .ok (.invokevirtual 48, 3) := by decide +kernel
theorem dX8_product_25 : decode cX8_product 25 = .ok (.aload_n 0, 1) := by decide +kernel
theorem dX8_product_26 : decode cX8_product 26 = .ok (.getfield 10, 3) := by decide +kernel
theorem dX8_product_29 : decode cX8_product 29 = .ok (.iconst (-1), 1) := by decide +kernel
theorem dX8_product_30 : decode cX8_product 30 = .ok (.aload_n 1, 1) := by decide +kernel
theorem dX8_product_31 : decode cX8_product 31 = .ok (.getfield 16, 3) := by decide +kernel
theorem dX8_product_34 : decode cX8_product 34 = .ok (.aload_n 2, 1) := by decide +kernel
theorem dX8_product_35 : decode cX8_product 35 = .ok (.getfield 16, 3) := by decide +kernel
theorem dX8_product_38 : decode cX8_product 38 = .ok (.invokevirtual 48, 3) := by decide +kernel
theorem dX8_product_41 : decode cX8_product 41 = .ok (.aload_n 0, 1) := by decide +kernel
theorem dX8_product_42 : decode cX8_product 42 = .ok (.getfield 16, 3) := by decide +kernel
theorem dX8_product_45 : decode cX8_product 45 = .ok (.lconst 0, 1) := by decide +kernel
theorem dX8_product_46 : decode cX8_product 46 = .ok (.lconst 0, 1) := by decide +kernel
theorem dX8_product_47 : decode cX8_product 47 = .ok (.invokevirtual 26, 3) := by decide +kernel
theorem dX8_product_50 : decode cX8_product 50 = .ok (.aload_n 0, 1) := by decide +kernel
theorem dX8_product_51 : decode cX8_product 51 = .ok (.getfield 16, 3) := by decide +kernel
theorem dX8_product_54 : decode cX8_product 54 = .ok (.iconst 1, 1) := by decide +kernel
theorem dX8_product_55 : decode cX8_product 55 = .ok (.aload_n 1, 1) := by decide +kernel
theorem dX8_product_56 : decode cX8_product 56 = .ok (.getfield 10, 3) := by decide +kernel
theorem dX8_product_59 : decode cX8_product 59 = .ok (.aload_n 2, 1) := by decide +kernel
theorem dX8_product_60 : decode cX8_product 60 = .ok (.getfield 16, 3) := by decide +kernel
theorem dX8_product_63 : decode cX8_product 63 = .ok (.invokevirtual 48, 3) := by decide +kernel
theorem dX8_product_66 : decode cX8_product 66 = .ok (.aload_n 0, 1) := by decide +kernel
theorem dX8_product_67 : decode cX8_product 67 = .ok (.getfield 16, 3) := by decide +kernel
theorem dX8_product_70 : decode cX8_product 70 = .ok (.iconst 1, 1) := by decide +kernel
theorem dX8_product_71 : decode cX8_product 71 = .ok (.aload_n 1, 1) := by decide +kernel
theorem dX8_product_72 : decode cX8_product 72 = .ok (.getfield 16, 3) := by decide +kernel
theorem dX8_product_75 : decode cX8_product 75 = .ok (.aload_n 2, 1) := by decide +kernel
theorem dX8_product_76 : decode cX8_product 76 = .ok (.getfield 10, 3) := by decide +kernel
theorem dX8_product_79 : decode cX8_product 79 = .ok (.invokevirtual 48, 3) := by decide +kernel
theorem dX8_product_82 : decode cX8_product 82 = .ok (.return_, 1) := by decide +kernel
theorem dX8_add_0 : decode cX8_add 0 = .ok (.aload_n 0, 1) := by decide +kernel
theorem dX8_add_1 : decode cX8_add 1 = .ok (.getfield 10, 3) := by decide +kernel
theorem dX8_add_4 : decode cX8_add 4 = .ok (.iconst 1, 1) := by decide +kernel
theorem dX8_add_5 : decode cX8_add 5 = .ok (.aload_n 1, 1) := by decide +kernel
theorem dX8_add_6 : decode cX8_add 6 = .ok (.aload_n 2, 1) := by decide +kernel
theorem dX8_add_7 : decode cX8_add 7 = .ok (.getfield 10, 3) := by decide +kernel
theorem dX8_add_10 : decode cX8_add 10 = .ok (.invokevirtual 48, 3) := by decide +kernel
theorem dX8_add_13 : decode cX8_add 13 = .ok (.aload_n 0, 1) := by decide +kernel
theorem dX8_add_14 : decode cX8_add 14 = .ok (.getfield 16, 3) := by decide +kernel
theorem dX8_add_17 : decode cX8_add 17 = .ok (.iconst 1, 1) := by decide +kernel
theorem dX8_add_18 : decode cX8_add 18 = .ok (.aload_n 1, 1) := by decide +kernel
theorem dX8_add_19 : decode cX8_add 19 = .ok (.aload_n 2, 1) := by decide +kernel
theorem dX8_add_20 : decode cX8_add 20 = .ok (.getfield 16, 3) := by decide +kernel
theorem dX8_add_23 : decode cX8_add 23 = .ok (.invokevirtual 48, 3) := by decide +kernel
theorem dX8_add_26 : decode cX8_add 26 = .ok (.return_, 1) := by decide +kernel
theorem dX8_addTurned_0 : decode cX8_addTurned 0 = .ok (.aload_n 0, 1) := by decide +kernel
theorem dX8_addTurned_1 : decode cX8_addTurned 1 = .ok (.getfield 10, 3) := by decide +kernel
theorem dX8_addTurned_4 : decode cX8_addTurned 4 = .ok (.iload_n 1, 1) := by decide +kernel
theorem dX8_addTurned_5 : decode cX8_addTurned 5 = .ok (.ineg, 1) := by decide +kernel
theorem dX8_addTurned_6 : decode cX8_addTurned 6 = .ok (.aload_n 2, 1) := by decide +kernel
theorem dX8_addTurned_7 : decode cX8_addTurned 7 = .ok (.aload_n 3, 1) := by decide +kernel
theorem dX8_addTurned_8 : decode cX8_addTurned 8 = .ok (.getfield 16, 3) := by decide +kernel
theorem dX8_addTurned_11 : decode cX8_addTurned 11 = .ok (.invokevirtual 48, 3) := by decide +kernel
theorem dX8_addTurned_14 : decode cX8_addTurned 14 = .ok (.aload_n 0, 1) := by decide +kernel
theorem dX8_addTurned_15 : decode cX8_addTurned 15 = .ok (.getfield 16, 3) := by decide +kernel
theorem dX8_addTurned_18 : decode cX8_addTurned 18 = .ok (.iload_n 1, 1) := by decide +kernel
theorem dX8_addTurned_19 : decode cX8_addTurned 19 = .ok (.aload_n 2, 1) := by decide +kernel
theorem dX8_addTurned_20 : decode cX8_addTurned 20 = .ok (.aload_n 3, 1) := by decide +kernel
theorem dX8_addTurned_21 : decode cX8_addTurned 21 = .ok (.getfield 10, 3) := by decide +kernel
theorem dX8_addTurned_24 : decode cX8_addTurned 24 = .ok (.invokevirtual 48, 3) := by decide +kernel
theorem dX8_addTurned_27 : decode cX8_addTurned 27 = .ok (.return_, 1) := by decide +kernel
theorem dX9_init_0 : decode cX9_init 0 = .ok (.aload_n 0, 1) := by decide +kernel
theorem dX9_init_1 : decode cX9_init 1 = .ok (.invokespecial 1, 3) := by decide +kernel
theorem dX9_init_4 : decode cX9_init 4 = .ok (.aload_n 0, 1) := by decide +kernel
theorem dX9_init_5 : decode cX9_init 5 = .ok (.bipush 24, 2) := by decide +kernel
theorem dX9_init_7 : decode cX9_init 7 = .ok (.newarray .long, 2) := by decide +kernel
theorem dX9_init_9 : decode cX9_init 9 = .ok (.putfield 9, 3) := by decide +kernel
theorem dX9_init_12 : decode cX9_init 12 = .ok (.aload_n 0, 1) := by decide +kernel
theorem dX9_init_13 : decode cX9_init 13 = .ok (.bipush 24, 2) := by decide +kernel
theorem dX9_init_15 : decode cX9_init 15 = .ok (.newarray .long, 2) := by decide +kernel
theorem dX9_init_17 : decode cX9_init 17 = .ok (.putfield 13, 3) := by decide +kernel
theorem dX9_init_20 : decode cX9_init 20 = .ok (.return_, 1) := by decide +kernel
theorem dX9_addCorner_0 : decode cX9_addCorner 0 = .ok (.aload_n 0, 1) := by decide +kernel
theorem dX9_addCorner_1 : decode cX9_addCorner 1 = .ok (.getfield 16, 3) := by decide +kernel
theorem dX9_addCorner_4 : decode cX9_addCorner 4 = .ok (.bipush 24, 2) := by decide +kernel
theorem dX9_addCorner_6 : decode cX9_addCorner 6 = .ok (.if_icmp .ge 35, 3) := by decide +kernel
theorem dX9_addCorner_9 : decode cX9_addCorner 9 = .ok (.aload_n 0, 1) := by decide +kernel
theorem dX9_addCorner_10 : decode cX9_addCorner 10 = .ok (.getfield 9, 3) := by decide +kernel
theorem dX9_addCorner_13 : decode cX9_addCorner 13 = .ok (.aload_n 0, 1) := by decide +kernel
theorem dX9_addCorner_14 : decode cX9_addCorner 14 = .ok (.getfield 16, 3) := by decide +kernel
theorem dX9_addCorner_17 : decode cX9_addCorner 17 = .ok (.iload_n 1, 1) := by decide +kernel
theorem dX9_addCorner_18 : decode cX9_addCorner 18 = .ok (.i2l, 1) := by decide +kernel
theorem dX9_addCorner_19 : decode cX9_addCorner 19 = .ok (.lastore, 1) := by decide +kernel
theorem dX9_addCorner_20 : decode cX9_addCorner 20 = .ok (.aload_n 0, 1) := by decide +kernel
theorem dX9_addCorner_21 : decode cX9_addCorner 21 = .ok (.getfield 13, 3) := by decide +kernel
theorem dX9_addCorner_24 : decode cX9_addCorner 24 = .ok (.aload_n 0, 1) := by decide +kernel
theorem dX9_addCorner_25 : decode cX9_addCorner 25 = .ok (.getfield 16, 3) := by decide +kernel
theorem dX9_addCorner_28 : decode cX9_addCorner 28 = .ok (.iload_n 2, 1) := by decide +kernel
theorem dX9_addCorner_29 : decode cX9_addCorner 29 = .ok (.i2l, 1) := by decide +kernel
theorem dX9_addCorner_30 : decode cX9_addCorner 30 = .ok (.lastore, 1) := by decide +kernel
theorem dX9_addCorner_31 : decode cX9_addCorner 31 = .ok (.aload_n 0, 1) := by decide +kernel
theorem dX9_addCorner_32 : decode cX9_addCorner 32 = .ok (.dup, 1) := by decide +kernel
theorem dX9_addCorner_33 : decode cX9_addCorner 33 = .ok (.getfield 16, 3) := by decide +kernel
theorem dX9_addCorner_36 : decode cX9_addCorner 36 = .ok (.iconst 1, 1) := by decide +kernel
theorem dX9_addCorner_37 : decode cX9_addCorner 37 = .ok (.iadd, 1) := by decide +kernel
theorem dX9_addCorner_38 : decode cX9_addCorner 38 = .ok (.putfield 16, 3) := by decide +kernel
theorem dX9_addCorner_41 : decode cX9_addCorner 41 = .ok (.aload_n 0, 1) := by decide +kernel
theorem dX9_addCorner_42 : decode cX9_addCorner 42 = .ok (.getfield 16, 3) := by decide +kernel
theorem dX9_addCorner_45 : decode cX9_addCorner 45 = .ok (.ireturn, 1) := by decide +kernel
theorem dX9_after_0 : decode cX9_after 0 = .ok (.iload_n 1, 1) := by decide +kernel
theorem dX9_after_1 : decode cX9_after 1 = .ok (.iconst 1, 1) := by decide +kernel
theorem dX9_after_2 : decode cX9_after 2 = .ok (.iadd, 1) := by decide +kernel
theorem dX9_after_3 : decode cX9_after 3 = .ok (.aload_n 0, 1) := by decide +kernel
theorem dX9_after_4 : decode cX9_after 4 = .ok (.getfield 16, 3) := by decide +kernel
theorem dX9_after_7 : decode cX9_after 7 = .ok (.if_icmp .ge 9, 3) := by decide +kernel
theorem dX9_after_10 : decode cX9_after 10 = .ok (.iload_n 1, 1) := by decide +kernel
theorem dX9_after_11 : decode cX9_after 11 = .ok (.iconst 1, 1) := by decide +kernel
theorem dX9_after_12 : decode cX9_after 12 = .ok (.iadd, 1) := by decide +kernel
theorem dX9_after_13 : decode cX9_after 13 = .ok (.goto 4, 3) := by decide +kernel
theorem dX9_after_16 : decode cX9_after 16 = .ok (.iconst 0, 1) := by decide +kernel
theorem dX9_after_17 : decode cX9_after 17 = .ok (.ireturn, 1) := by decide +kernel
theorem dX9_crossAt_0 : decode cX9_crossAt 0 = .ok (.aload_n 0, 1) := by decide +kernel
theorem dX9_crossAt_1 : decode cX9_crossAt 1 = .ok (.iload_n 1, 1) := by decide +kernel
theorem dX9_crossAt_2 : decode cX9_crossAt 2 = .ok (.invokevirtual 20, 3) := by decide +kernel
theorem dX9_crossAt_5 : decode cX9_crossAt 5 = .ok (.istore_n 2, 1) := by decide +kernel
theorem dX9_crossAt_6 : decode cX9_crossAt 6 = .ok (.aload_n 0, 1) := by decide +kernel
theorem dX9_crossAt_7 : decode cX9_crossAt 7 = .ok (.getfield 9, 3) := by decide +kernel
theorem dX9_crossAt_10 : decode cX9_crossAt 10 = .ok (.iload_n 1, 1) := by decide +kernel
theorem dX9_crossAt_11 : decode cX9_crossAt 11 = .ok (.laload, 1) := by decide +kernel
theorem dX9_crossAt_12 : decode cX9_crossAt 12 = .ok (.aload_n 0, 1) := by decide +kernel
theorem dX9_crossAt_13 : decode cX9_crossAt 13 = .ok (.getfield 13, 3) := by decide +kernel
theorem dX9_crossAt_16 : decode cX9_crossAt 16 = .ok (.iload_n 2, 1) := by decide +kernel
theorem dX9_crossAt_17 : decode cX9_crossAt 17 = .ok (.laload, 1) := by decide +kernel
theorem dX9_crossAt_18 : decode cX9_crossAt 18 = .ok (.lmul, 1) := by decide +kernel
theorem dX9_crossAt_19 : decode cX9_crossAt 19 = .ok (.aload_n 0, 1) := by decide +kernel
theorem dX9_crossAt_20 : decode cX9_crossAt 20 = .ok (.getfield 9, 3) := by decide +kernel
theorem dX9_crossAt_23 : decode cX9_crossAt 23 = .ok (.iload_n 2, 1) := by decide +kernel
theorem dX9_crossAt_24 : decode cX9_crossAt 24 = .ok (.laload, 1) := by decide +kernel
theorem dX9_crossAt_25 : decode cX9_crossAt 25 = .ok (.aload_n 0, 1) := by decide +kernel
theorem dX9_crossAt_26 : decode cX9_crossAt 26 = .ok (.getfield 13, 3) := by decide +kernel
theorem dX9_crossAt_29 : decode cX9_crossAt 29 = .ok (.iload_n 1, 1) := by decide +kernel
theorem dX9_crossAt_30 : decode cX9_crossAt 30 = .ok (.laload, 1) := by decide +kernel
theorem dX9_crossAt_31 : decode cX9_crossAt 31 = .ok (.lmul, 1) := by decide +kernel
theorem dX9_crossAt_32 : decode cX9_crossAt 32 = .ok (.lsub, 1) := by decide +kernel
theorem dX9_crossAt_33 : decode cX9_crossAt 33 = .ok (.lreturn, 1) := by decide +kernel
theorem dX9_twiceArea_0 : decode cX9_twiceArea 0 = .ok (.lconst 0, 1) := by decide +kernel
theorem dX9_twiceArea_1 : decode cX9_twiceArea 1 = .ok (.lstore_n 1, 1) := by decide +kernel
theorem dX9_twiceArea_2 : decode cX9_twiceArea 2 = .ok (.iconst 0, 1) := by decide +kernel
theorem dX9_twiceArea_3 : decode cX9_twiceArea 3 = .ok (.istore_n 3, 1) := by decide +kernel
theorem dX9_twiceArea_4 : decode cX9_twiceArea 4 = .ok (.iload_n 3, 1) := by decide +kernel
theorem dX9_twiceArea_5 : decode cX9_twiceArea 5 = .ok (.aload_n 0, 1) := by decide +kernel
theorem dX9_twiceArea_6 : decode cX9_twiceArea 6 = .ok (.getfield 16, 3) := by decide +kernel
theorem dX9_twiceArea_9 : decode cX9_twiceArea 9 = .ok (.if_icmp .ge 17, 3) := by decide +kernel
theorem dX9_twiceArea_12 : decode cX9_twiceArea 12 = .ok (.lload_n 1, 1) := by decide +kernel
theorem dX9_twiceArea_13 : decode cX9_twiceArea 13 = .ok (.aload_n 0, 1) := by decide +kernel
theorem dX9_twiceArea_14 : decode cX9_twiceArea 14 = .ok (.iload_n 3, 1) := by decide +kernel
theorem dX9_twiceArea_15 : decode cX9_twiceArea 15 = .ok (.invokevirtual 24, 3) := by decide +kernel
theorem dX9_twiceArea_18 : decode cX9_twiceArea 18 = .ok (.ladd, 1) := by decide +kernel
theorem dX9_twiceArea_19 : decode cX9_twiceArea 19 = .ok (.lstore_n 1, 1) := by decide +kernel
theorem dX9_twiceArea_20 : decode cX9_twiceArea 20 = .ok (.iinc 3 1, 3) := by decide +kernel
theorem dX9_twiceArea_23 : decode cX9_twiceArea 23 = .ok (.goto (-19), 3) := by decide +kernel
theorem dX9_twiceArea_26 : decode cX9_twiceArea 26 = .ok (.lload_n 1, 1) := by decide +kernel
theorem dX9_twiceArea_27 : decode cX9_twiceArea 27 = .ok (.lreturn, 1) := by decide +kernel
theorem dX9_reckon_0 : decode cX9_reckon 0 = .ok (.lconst 0, 1) := by decide +kernel
theorem dX9_reckon_1 : decode cX9_reckon 1 = .ok (.lstore_n 3, 1) := by decide +kernel
theorem dX9_reckon_2 : decode cX9_reckon 2 = .ok (.iconst 0, 1) := by decide +kernel
theorem dX9_reckon_3 : decode cX9_reckon 3 = .ok (.istore 5, 2) := by decide +kernel
theorem dX9_reckon_5 : decode cX9_reckon 5 = .ok (.iload 5, 2) := by decide +kernel
theorem dX9_reckon_7 : decode cX9_reckon 7 = .ok (.aload_n 0, 1) := by decide +kernel
theorem dX9_reckon_8 : decode cX9_reckon 8 = .ok (.getfield 16, 3) := by decide +kernel
theorem dX9_reckon_11 : decode cX9_reckon 11 = .ok (.if_icmp .ge 26, 3) := by decide +kernel
theorem dX9_reckon_14 : decode cX9_reckon 14 = .ok (.lload_n 3, 1) := by decide +kernel
theorem dX9_reckon_15 : decode cX9_reckon 15 = .ok (.aload_n 0, 1) := by decide +kernel
theorem dX9_reckon_16 : decode cX9_reckon 16 = .ok (.iload 5, 2) := by decide +kernel
theorem dX9_reckon_18 : decode cX9_reckon 18 = .ok (.invokevirtual 24, 3) := by decide +kernel
theorem dX9_reckon_21 : decode cX9_reckon 21 = .ok (.aload_n 0, 1) := by decide +kernel
theorem dX9_reckon_22 : decode cX9_reckon 22 = .ok (.iload 5, 2) := by decide +kernel
theorem dX9_reckon_24 : decode cX9_reckon 24 = .ok (.iload_n 1, 1) := by decide +kernel
theorem dX9_reckon_25 : decode cX9_reckon 25 = .ok (.invokevirtual 28, 3) := by decide +kernel
theorem dX9_reckon_28 : decode cX9_reckon 28 = .ok (.lmul, 1) := by decide +kernel
theorem dX9_reckon_29 : decode cX9_reckon 29 = .ok (.ladd, 1) := by decide +kernel
theorem dX9_reckon_30 : decode cX9_reckon 30 = .ok (.lstore_n 3, 1) := by decide +kernel
theorem dX9_reckon_31 : decode cX9_reckon 31 = .ok (.iinc 5 1, 3) := by decide +kernel
theorem dX9_reckon_34 : decode cX9_reckon 34 = .ok (.goto (-29), 3) := by decide +kernel
theorem dX9_reckon_37 : decode cX9_reckon 37 = .ok (.aload_n 2, 1) := by decide +kernel
theorem dX9_reckon_38 : decode cX9_reckon 38 = .ok (.lload_n 3, 1) := by decide +kernel
theorem dX9_reckon_39 : decode cX9_reckon 39 = .ok (.iload_n 1, 1) := by decide +kernel
theorem dX9_reckon_40 : decode cX9_reckon 40 = .ok (.iconst 2, 1) := by decide +kernel
theorem dX9_reckon_41 : decode cX9_reckon 41 = .ok (.if_icmp .ne 9, 3) := by decide +kernel
theorem dX9_reckon_44 : decode cX9_reckon 44 = .ok (.ldc2_w 32, 3) := by decide +kernel
theorem dX9_reckon_47 : decode cX9_reckon 47 = .ok (.goto 11, 3) := by decide +kernel
theorem dX9_reckon_50 : decode cX9_reckon 50 = .ok (.ldc2_w 34, 3) := by decide +kernel
theorem dX9_reckon_53 : decode cX9_reckon 53 = .ok (.aload_n 0, 1) := by decide +kernel
theorem dX9_reckon_54 : decode cX9_reckon 54 = .ok (.invokevirtual 36, 3) := by decide +kernel
theorem dX9_reckon_57 : decode cX9_reckon 57 = .ok (.lmul, 1) := by decide +kernel
theorem dX9_reckon_58 : decode cX9_reckon 58 = .ok (.invokevirtual 40, 3) := by decide +kernel
theorem dX9_reckon_61 : decode cX9_reckon 61 = .ok (.return_, 1) := by decide +kernel
theorem dX9_weightAt_0 : decode cX9_weightAt 0 = .ok (.aload_n 0, 1) := by decide +kernel
theorem dX9_weightAt_1 : decode cX9_weightAt 1 = .ok (.iload_n 1, 1) := by decide +kernel
theorem dX9_weightAt_2 : decode cX9_weightAt 2 = .ok (.invokevirtual 20, 3) := by decide +kernel
theorem dX9_weightAt_5 : decode cX9_weightAt 5 = .ok (.istore_n 3, 1) := by decide +kernel
theorem dX9_weightAt_6 : decode cX9_weightAt 6 = .ok (.iload_n 2, 1) := by decide +kernel
theorem dX9_weightAt_7 : decode cX9_weightAt 7 = .ok (.ifCond .ne 17, 3) := by decide +kernel
theorem dX9_weightAt_10 : decode cX9_weightAt 10 = .ok (.aload_n 0, 1) := by decide +kernel
theorem dX9_weightAt_11 : decode cX9_weightAt 11 = .ok (.getfield 9, 3) := by decide +kernel
theorem dX9_weightAt_14 : decode cX9_weightAt 14 = .ok (.iload_n 1, 1) := by decide +kernel
theorem dX9_weightAt_15 : decode cX9_weightAt 15 = .ok (.laload, 1) := by decide +kernel
theorem dX9_weightAt_16 : decode cX9_weightAt 16 = .ok (.aload_n 0, 1) := by decide +kernel
theorem dX9_weightAt_17 : decode cX9_weightAt 17 = .ok (.getfield 9, 3) := by decide +kernel
theorem dX9_weightAt_20 : decode cX9_weightAt 20 = .ok (.iload_n 3, 1) := by decide +kernel
theorem dX9_weightAt_21 : decode cX9_weightAt 21 = .ok (.laload, 1) := by decide +kernel
theorem dX9_weightAt_22 : decode cX9_weightAt 22 = .ok (.ladd, 1) := by decide +kernel
theorem dX9_weightAt_23 : decode cX9_weightAt 23 = .ok (.lreturn, 1) := by decide +kernel
theorem dX9_weightAt_24 : decode cX9_weightAt 24 = .ok (.iload_n 2, 1) := by decide +kernel
theorem dX9_weightAt_25 : decode cX9_weightAt 25 = .ok (.iconst 1, 1) := by decide +kernel
theorem dX9_weightAt_26 : decode cX9_weightAt 26 = .ok (.if_icmp .ne 17, 3) := by decide +kernel
theorem dX9_weightAt_29 : decode cX9_weightAt 29 = .ok (.aload_n 0, 1) := by decide +kernel
theorem dX9_weightAt_30 : decode cX9_weightAt 30 = .ok (.getfield 13, 3) := by decide +kernel
theorem dX9_weightAt_33 : decode cX9_weightAt 33 = .ok (.iload_n 1, 1) := by decide +kernel
theorem dX9_weightAt_34 : decode cX9_weightAt 34 = .ok (.laload, 1) := by decide +kernel
theorem dX9_weightAt_35 : decode cX9_weightAt 35 = .ok (.aload_n 0, 1) := by decide +kernel
theorem dX9_weightAt_36 : decode cX9_weightAt 36 = .ok (.getfield 13, 3) := by decide +kernel
theorem dX9_weightAt_39 : decode cX9_weightAt 39 = .ok (.iload_n 3, 1) := by decide +kernel
theorem dX9_weightAt_40 : decode cX9_weightAt 40 = .ok (.laload, 1) := by decide +kernel
theorem dX9_weightAt_41 : decode cX9_weightAt 41 = .ok (.ladd, 1) := by decide +kernel
theorem dX9_weightAt_42 : decode cX9_weightAt 42 = .ok (.lreturn, 1) := by decide +kernel
theorem dX9_weightAt_43 : decode cX9_weightAt 43 = .ok (.aload_n 0, 1) := by decide +kernel
theorem dX9_weightAt_44 : decode cX9_weightAt 44 = .ok (.getfield 9, 3) := by decide +kernel
theorem dX9_weightAt_47 : decode cX9_weightAt 47 = .ok (.iload_n 1, 1) := by decide +kernel
theorem dX9_weightAt_48 : decode cX9_weightAt 48 = .ok (.laload, 1) := by decide +kernel
theorem dX9_weightAt_49 : decode cX9_weightAt 49 = .ok (.aload_n 0, 1) := by decide +kernel
theorem dX9_weightAt_50 : decode cX9_weightAt 50 = .ok (.getfield 9, 3) := by decide +kernel
theorem dX9_weightAt_53 : decode cX9_weightAt 53 = .ok (.iload_n 1, 1) := by decide +kernel
theorem dX9_weightAt_54 : decode cX9_weightAt 54 = .ok (.laload, 1) := by decide +kernel
theorem dX9_weightAt_55 : decode cX9_weightAt 55 = .ok (.lmul, 1) := by decide +kernel
theorem dX9_weightAt_56 : decode cX9_weightAt 56 = .ok (.aload_n 0, 1) := by decide +kernel
theorem dX9_weightAt_57 : decode cX9_weightAt 57 = .ok (.getfield 9, 3) := by decide +kernel
theorem dX9_weightAt_60 : decode cX9_weightAt 60 = .ok (.iload_n 1, 1) := by decide +kernel
theorem dX9_weightAt_61 : decode cX9_weightAt 61 = .ok (.laload, 1) := by decide +kernel
theorem dX9_weightAt_62 : decode cX9_weightAt 62 = .ok (.aload_n 0, 1) := by decide +kernel
theorem dX9_weightAt_63 : decode cX9_weightAt 63 = .ok (.getfield 9, 3) := by decide +kernel
theorem dX9_weightAt_66 : decode cX9_weightAt 66 = .ok (.iload_n 3, 1) := by decide +kernel
theorem dX9_weightAt_67 : decode cX9_weightAt 67 = .ok (.laload, 1) := by decide +kernel
theorem dX9_weightAt_68 : decode cX9_weightAt 68 = .ok (.lmul, 1) := by decide +kernel
theorem dX9_weightAt_69 : decode cX9_weightAt 69 = .ok (.ladd, 1) := by decide +kernel
theorem dX9_weightAt_70 : decode cX9_weightAt 70 = .ok (.aload_n 0, 1) := by decide +kernel
theorem dX9_weightAt_71 : decode cX9_weightAt 71 = .ok (.getfield 9, 3) := by decide +kernel
theorem dX9_weightAt_74 : decode cX9_weightAt 74 = .ok (.iload_n 3, 1) := by decide +kernel
theorem dX9_weightAt_75 : decode cX9_weightAt 75 = .ok (.laload, 1) := by decide +kernel
theorem dX9_weightAt_76 : decode cX9_weightAt 76 = .ok (.aload_n 0, 1) := by decide +kernel
theorem dX9_weightAt_77 : decode cX9_weightAt 77 = .ok (.getfield 9, 3) := by decide +kernel
theorem dX9_weightAt_80 : decode cX9_weightAt 80 = .ok (.iload_n 3, 1) := by decide +kernel
theorem dX9_weightAt_81 : decode cX9_weightAt 81 = .ok (.laload, 1) := by decide +kernel
theorem dX9_weightAt_82 : decode cX9_weightAt 82 = .ok (.lmul, 1) := by decide +kernel
theorem dX9_weightAt_83 : decode cX9_weightAt 83 = .ok (.ladd, 1) := by decide +kernel
theorem dX9_weightAt_84 : decode cX9_weightAt 84 = .ok (.aload_n 0, 1) := by decide +kernel
theorem dX9_weightAt_85 : decode cX9_weightAt 85 = .ok (.getfield 13, 3) := by decide +kernel
theorem dX9_weightAt_88 : decode cX9_weightAt 88 = .ok (.iload_n 1, 1) := by decide +kernel
theorem dX9_weightAt_89 : decode cX9_weightAt 89 = .ok (.laload, 1) := by decide +kernel
theorem dX9_weightAt_90 : decode cX9_weightAt 90 = .ok (.aload_n 0, 1) := by decide +kernel
theorem dX9_weightAt_91 : decode cX9_weightAt 91 = .ok (.getfield 13, 3) := by decide +kernel
theorem dX9_weightAt_94 : decode cX9_weightAt 94 = .ok (.iload_n 1, 1) := by decide +kernel
theorem dX9_weightAt_95 : decode cX9_weightAt 95 = .ok (.laload, 1) := by decide +kernel
theorem dX9_weightAt_96 : decode cX9_weightAt 96 = .ok (.lmul, 1) := by decide +kernel
theorem dX9_weightAt_97 : decode cX9_weightAt 97 = .ok (.ladd, 1) := by decide +kernel
theorem dX9_weightAt_98 : decode cX9_weightAt 98 = .ok (.aload_n 0, 1) := by decide +kernel
theorem dX9_weightAt_99 : decode cX9_weightAt 99 = .ok (.getfield 13, 3) := by decide +kernel
theorem dX9_weightAt_102 : decode cX9_weightAt 102 = .ok (.iload_n 1, 1) := by decide +kernel
theorem dX9_weightAt_103 : decode cX9_weightAt 103 = .ok (.laload, 1) := by decide +kernel
theorem dX9_weightAt_104 : decode cX9_weightAt 104 = .ok (.aload_n 0, 1) := by decide +kernel
theorem dX9_weightAt_105 : decode cX9_weightAt 105 = .ok (.getfield 13, 3) := by decide +kernel
theorem dX9_weightAt_108 : decode cX9_weightAt 108 = .ok (.iload_n 3, 1) := by decide +kernel
theorem dX9_weightAt_109 : decode cX9_weightAt 109 = .ok (.laload, 1) := by decide +kernel
theorem dX9_weightAt_110 : decode cX9_weightAt 110 = .ok (.lmul, 1) := by decide +kernel
theorem dX9_weightAt_111 : decode cX9_weightAt 111 = .ok (.ladd, 1) := by decide +kernel
theorem dX9_weightAt_112 : decode cX9_weightAt 112 = .ok (.aload_n 0, 1) := by decide +kernel
theorem dX9_weightAt_113 : decode cX9_weightAt 113 = .ok (.getfield 13, 3) := by decide +kernel
theorem dX9_weightAt_116 : decode cX9_weightAt 116 = .ok (.iload_n 3, 1) := by decide +kernel
theorem dX9_weightAt_117 : decode cX9_weightAt 117 = .ok (.laload, 1) := by decide +kernel
theorem dX9_weightAt_118 : decode cX9_weightAt 118 = .ok (.aload_n 0, 1) := by decide +kernel
theorem dX9_weightAt_119 : decode cX9_weightAt 119 = .ok (.getfield 13, 3) := by decide +kernel
theorem dX9_weightAt_122 : decode cX9_weightAt 122 = .ok (.iload_n 3, 1) := by decide +kernel
theorem dX9_weightAt_123 : decode cX9_weightAt 123 = .ok (.laload, 1) := by decide +kernel
theorem dX9_weightAt_124 : decode cX9_weightAt 124 = .ok (.lmul, 1) := by decide +kernel
theorem dX9_weightAt_125 : decode cX9_weightAt 125 = .ok (.ladd, 1) := by decide +kernel
theorem dX9_weightAt_126 : decode cX9_weightAt 126 = .ok (.lreturn, 1) := by decide +kernel
theorem dX9_crossing_0 : decode cX9_crossing 0 = .ok (.iconst 0, 1) := by decide +kernel
theorem dX9_crossing_1 : decode cX9_crossing 1 = .ok (.istore_n 2, 1) := by decide +kernel
theorem dX9_crossing_2 : decode cX9_crossing 2 = .ok (.iload_n 2, 1) := by decide +kernel
theorem dX9_crossing_3 : decode cX9_crossing 3 = .ok (.aload_n 0, 1) := by decide +kernel
theorem dX9_crossing_4 : decode cX9_crossing 4 = .ok (.getfield 16, 3) := by decide +kernel
theorem dX9_crossing_7 : decode cX9_crossing 7 = .ok (.if_icmp .ge 73, 3) := by decide +kernel
theorem dX9_crossing_10 : decode cX9_crossing 10 = .ok (.iload_n 2, 1) := by decide +kernel
theorem dX9_crossing_11 : decode cX9_crossing 11 = .ok (.iconst 2, 1) := by decide +kernel
theorem dX9_crossing_12 : decode cX9_crossing 12 = .ok (.iadd, 1) := by decide +kernel
theorem dX9_crossing_13 : decode cX9_crossing 13 = .ok (.istore_n 3, 1) := by decide +kernel
theorem dX9_crossing_14 : decode cX9_crossing 14 = .ok (.iload_n 3, 1) := by decide +kernel
theorem dX9_crossing_15 : decode cX9_crossing 15 = .ok (.aload_n 0, 1) := by decide +kernel
theorem dX9_crossing_16 : decode cX9_crossing 16 = .ok (.getfield 16, 3) := by decide +kernel
theorem dX9_crossing_19 : decode cX9_crossing 19 = .ok (.if_icmp .ge 55, 3) := by decide +kernel
theorem dX9_crossing_22 : decode cX9_crossing 22 = .ok (.iload_n 2, 1) := by decide +kernel
theorem dX9_crossing_23 : decode cX9_crossing 23 = .ok (.ifCond .ne 17, 3) := by decide +kernel
theorem dX9_crossing_26 : decode cX9_crossing 26 = .ok (.iload_n 3, 1) := by decide +kernel
theorem dX9_crossing_27 : decode cX9_crossing 27 = .ok (.aload_n 0, 1) := by decide +kernel
theorem dX9_crossing_28 : decode cX9_crossing 28 = .ok (.getfield 16, 3) := by decide +kernel
theorem dX9_crossing_31 : decode cX9_crossing 31 = .ok (.iconst 1, 1) := by decide +kernel
theorem dX9_crossing_32 : decode cX9_crossing 32 = .ok (.isub, 1) := by decide +kernel
theorem dX9_crossing_33 : decode cX9_crossing 33 = .ok (.if_icmp .ne 7, 3) := by decide +kernel
theorem dX9_crossing_36 : decode cX9_crossing 36 = .ok (.iconst 1, 1) := by decide +kernel
theorem dX9_crossing_37 : decode cX9_crossing 37 = .ok (.goto 4, 3) := by decide +kernel
theorem dX9_crossing_40 : decode cX9_crossing 40 = .ok (.iconst 0, 1) := by decide +kernel
theorem dX9_crossing_41 : decode cX9_crossing 41 = .ok (.istore 4, 2) := by decide +kernel
theorem dX9_crossing_43 : decode cX9_crossing 43 = .ok (.iload 4, 2) := by decide +kernel
theorem dX9_crossing_45 : decode cX9_crossing 45 = .ok (.ifCond .ne 23, 3) := by decide +kernel
theorem dX9_crossing_48 : decode cX9_crossing 48 = .ok (.aload_n 0, 1) := by decide +kernel
theorem dX9_crossing_49 : decode cX9_crossing 49 = .ok (.iload_n 2, 1) := by decide +kernel
theorem dX9_crossing_50 : decode cX9_crossing 50 = .ok (.aload_n 0, 1) := by decide +kernel
theorem dX9_crossing_51 : decode cX9_crossing 51 = .ok (.iload_n 3, 1) := by decide +kernel
theorem dX9_crossing_52 : decode cX9_crossing 52 = .ok (.invokevirtual 46, 3) := by decide +kernel
theorem dX9_crossing_55 : decode cX9_crossing 55 = .ok (.ifCond .eq 13, 3) := by decide +kernel
theorem dX9_crossing_58 : decode cX9_crossing 58 = .ok (.iload_n 1, 1) := by decide +kernel
theorem dX9_crossing_59 : decode cX9_crossing 59 = .ok (.ifCond .eq 7, 3) := by decide +kernel
theorem dX9_crossing_62 : decode cX9_crossing 62 = .ok (.iload_n 2, 1) := by decide +kernel
theorem dX9_crossing_63 : decode cX9_crossing 63 = .ok (.goto 4, 3) := by decide +kernel
theorem dX9_crossing_66 : decode cX9_crossing 66 = .ok (.iload_n 3, 1) := by decide +kernel
theorem dX9_crossing_67 : decode cX9_crossing 67 = .ok (.ireturn, 1) := by decide +kernel
theorem dX9_crossing_68 : decode cX9_crossing 68 = .ok (.iinc 3 1, 3) := by decide +kernel
theorem dX9_crossing_71 : decode cX9_crossing 71 = .ok (.goto (-57), 3) := by decide +kernel
theorem dX9_crossing_74 : decode cX9_crossing 74 = .ok (.iinc 2 1, 3) := by decide +kernel
theorem dX9_crossing_77 : decode cX9_crossing 77 = .ok (.goto (-75), 3) := by decide +kernel
theorem dX9_crossing_80 : decode cX9_crossing 80 = .ok (.iconst (-1), 1) := by decide +kernel
theorem dX9_crossing_81 : decode cX9_crossing 81 = .ok (.ireturn, 1) := by decide +kernel
theorem dX9_sideOf_0 : decode cX9_sideOf 0 = .ok (.aload_n 0, 1) := by decide +kernel
theorem dX9_sideOf_1 : decode cX9_sideOf 1 = .ok (.iload_n 1, 1) := by decide +kernel
theorem dX9_sideOf_2 : decode cX9_sideOf 2 = .ok (.invokevirtual 20, 3) := by decide +kernel
theorem dX9_sideOf_5 : decode cX9_sideOf 5 = .ok (.istore 6, 2) := by decide +kernel
theorem dX9_sideOf_7 : decode cX9_sideOf 7 = .ok (.aload_n 0, 1) := by decide +kernel
theorem dX9_sideOf_8 : decode cX9_sideOf 8 = .ok (.getfield 9, 3) := by decide +kernel
theorem dX9_sideOf_11 : decode cX9_sideOf 11 = .ok (.iload 6, 2) := by decide +kernel
theorem dX9_sideOf_13 : decode cX9_sideOf 13 = .ok (.laload, 1) := by decide +kernel
theorem dX9_sideOf_14 : decode cX9_sideOf 14 = .ok (.aload_n 0, 1) := by decide +kernel
theorem dX9_sideOf_15 : decode cX9_sideOf 15 = .ok (.getfield 9, 3) := by decide +kernel
theorem dX9_sideOf_18 : decode cX9_sideOf 18 = .ok (.iload_n 1, 1) := by decide +kernel
theorem dX9_sideOf_19 : decode cX9_sideOf 19 = .ok (.laload, 1) := by decide +kernel
theorem dX9_sideOf_20 : decode cX9_sideOf 20 = .ok (.lsub, 1) := by decide +kernel
theorem dX9_sideOf_21 : decode cX9_sideOf 21 = .ok (.lload 4, 2) := by decide +kernel
theorem dX9_sideOf_23 : decode cX9_sideOf 23 = .ok (.aload_n 0, 1) := by decide +kernel
theorem dX9_sideOf_24 : decode cX9_sideOf 24 = .ok (.getfield 13, 3) := by decide +kernel
theorem dX9_sideOf_27 : decode cX9_sideOf 27 = .ok (.iload_n 1, 1) := by decide +kernel
theorem dX9_sideOf_28 : decode cX9_sideOf 28 = .ok (.laload, 1) := by decide +kernel
theorem dX9_sideOf_29 : decode cX9_sideOf 29 = .ok (.lsub, 1) := by decide +kernel
theorem dX9_sideOf_30 : decode cX9_sideOf 30 = .ok (.lmul, 1) := by decide +kernel
theorem dX9_sideOf_31 : decode cX9_sideOf 31 = .ok (.aload_n 0, 1) := by decide +kernel
theorem dX9_sideOf_32 : decode cX9_sideOf 32 = .ok (.getfield 13, 3) := by decide +kernel
theorem dX9_sideOf_35 : decode cX9_sideOf 35 = .ok (.iload 6, 2) := by decide +kernel
theorem dX9_sideOf_37 : decode cX9_sideOf 37 = .ok (.laload, 1) := by decide +kernel
theorem dX9_sideOf_38 : decode cX9_sideOf 38 = .ok (.aload_n 0, 1) := by decide +kernel
theorem dX9_sideOf_39 : decode cX9_sideOf 39 = .ok (.getfield 13, 3) := by decide +kernel
theorem dX9_sideOf_42 : decode cX9_sideOf 42 = .ok (.iload_n 1, 1) := by decide +kernel
theorem dX9_sideOf_43 : decode cX9_sideOf 43 = .ok (.laload, 1) := by decide +kernel
theorem dX9_sideOf_44 : decode cX9_sideOf 44 = .ok (.lsub, 1) := by decide +kernel
theorem dX9_sideOf_45 : decode cX9_sideOf 45 = .ok (.lload_n 2, 1) := by decide +kernel
theorem dX9_sideOf_46 : decode cX9_sideOf 46 = .ok (.aload_n 0, 1) := by decide +kernel
theorem dX9_sideOf_47 : decode cX9_sideOf 47 = .ok (.getfield 9, 3) := by decide +kernel
theorem dX9_sideOf_50 : decode cX9_sideOf 50 = .ok (.iload_n 1, 1) := by decide +kernel
theorem dX9_sideOf_51 : decode cX9_sideOf 51 = .ok (.laload, 1) := by decide +kernel
theorem dX9_sideOf_52 : decode cX9_sideOf 52 = .ok (.lsub, 1) := by decide +kernel
theorem dX9_sideOf_53 : decode cX9_sideOf 53 = .ok (.lmul, 1) := by decide +kernel
theorem dX9_sideOf_54 : decode cX9_sideOf 54 = .ok (.lsub, 1) := by decide +kernel
theorem dX9_sideOf_55 : decode cX9_sideOf 55 = .ok (.lreturn, 1) := by decide +kernel
theorem dX9_holds_0 : decode cX9_holds 0 = .ok (.aload_n 0, 1) := by decide +kernel
theorem dX9_holds_1 : decode cX9_holds 1 = .ok (.iload_n 1, 1) := by decide +kernel
theorem dX9_holds_2 : decode cX9_holds 2 = .ok (.invokevirtual 20, 3) := by decide +kernel
theorem dX9_holds_5 : decode cX9_holds 5 = .ok (.istore 6, 2) := by decide +kernel
theorem dX9_holds_7 : decode cX9_holds 7 = .ok (.aload_n 0, 1) := by decide +kernel
theorem dX9_holds_8 : decode cX9_holds 8 = .ok (.iload_n 1, 1) := by decide +kernel
theorem dX9_holds_9 : decode cX9_holds 9 = .ok (.lload_n 2, 1) := by decide +kernel
theorem dX9_holds_10 : decode cX9_holds 10 = .ok (.lload 4, 2) := by decide +kernel
theorem dX9_holds_12 : decode cX9_holds 12 = .ok (.invokevirtual 50, 3) := by decide +kernel
theorem dX9_holds_15 : decode cX9_holds 15 = .ok (.lconst 0, 1) := by decide +kernel
theorem dX9_holds_16 : decode cX9_holds 16 = .ok (.lcmp, 1) := by decide +kernel
theorem dX9_holds_17 : decode cX9_holds 17 = .ok (.ifCond .ne 93, 3) := by decide +kernel
theorem dX9_holds_20 : decode cX9_holds 20 = .ok (.aload_n 0, 1) := by decide +kernel
theorem dX9_holds_21 : decode cX9_holds 21 = .ok (.getfield 9, 3) := by decide +kernel
theorem dX9_holds_24 : decode cX9_holds 24 = .ok (.iload_n 1, 1) := by decide +kernel
theorem dX9_holds_25 : decode cX9_holds 25 = .ok (.laload, 1) := by decide +kernel
theorem dX9_holds_26 : decode cX9_holds 26 = .ok (.aload_n 0, 1) := by decide +kernel
theorem dX9_holds_27 : decode cX9_holds 27 = .ok (.getfield 9, 3) := by decide +kernel
theorem dX9_holds_30 : decode cX9_holds 30 = .ok (.iload 6, 2) := by decide +kernel
theorem dX9_holds_32 : decode cX9_holds 32 = .ok (.laload, 1) := by decide +kernel
theorem dX9_holds_33 : decode cX9_holds 33 = .ok (.invokestatic 54, 3) := by decide +kernel
theorem dX9_holds_36 : decode cX9_holds 36 = .ok (.lload_n 2, 1) := by decide +kernel
theorem dX9_holds_37 : decode cX9_holds 37 = .ok (.lcmp, 1) := by decide +kernel
theorem dX9_holds_38 : decode cX9_holds 38 = .ok (.ifCond .gt 72, 3) := by decide +kernel
theorem dX9_holds_41 : decode cX9_holds 41 = .ok (.lload_n 2, 1) := by decide +kernel
theorem dX9_holds_42 : decode cX9_holds 42 = .ok (.aload_n 0, 1) := by decide +kernel
theorem dX9_holds_43 : decode cX9_holds 43 = .ok (.getfield 9, 3) := by decide +kernel
theorem dX9_holds_46 : decode cX9_holds 46 = .ok (.iload_n 1, 1) := by decide +kernel
theorem dX9_holds_47 : decode cX9_holds 47 = .ok (.laload, 1) := by decide +kernel
theorem dX9_holds_48 : decode cX9_holds 48 = .ok (.aload_n 0, 1) := by decide +kernel
theorem dX9_holds_49 : decode cX9_holds 49 = .ok (.getfield 9, 3) := by decide +kernel
theorem dX9_holds_52 : decode cX9_holds 52 = .ok (.iload 6, 2) := by decide +kernel
theorem dX9_holds_54 : decode cX9_holds 54 = .ok (.laload, 1) := by decide +kernel
theorem dX9_holds_55 : decode cX9_holds 55 = .ok (.invokestatic 60, 3) := by decide +kernel
theorem dX9_holds_58 : decode cX9_holds 58 = .ok (.lcmp, 1) := by decide +kernel
theorem dX9_holds_59 : decode cX9_holds 59 = .ok (.ifCond .gt 51, 3) := by decide +kernel
theorem dX9_holds_62 : decode cX9_holds 62 = .ok (.aload_n 0, 1) := by decide +kernel
theorem dX9_holds_63 : decode cX9_holds 63 = .ok (.getfield 13, 3) := by decide +kernel
theorem dX9_holds_66 : decode cX9_holds 66 = .ok (.iload_n 1, 1) := by decide +kernel
theorem dX9_holds_67 : decode cX9_holds 67 = .ok (.laload, 1) := by decide +kernel
theorem dX9_holds_68 : decode cX9_holds 68 = .ok (.aload_n 0, 1) := by decide +kernel
theorem dX9_holds_69 : decode cX9_holds 69 = .ok (.getfield 13, 3) := by decide +kernel
theorem dX9_holds_72 : decode cX9_holds 72 = .ok (.iload 6, 2) := by decide +kernel
theorem dX9_holds_74 : decode cX9_holds 74 = .ok (.laload, 1) := by decide +kernel
theorem dX9_holds_75 : decode cX9_holds 75 = .ok (.invokestatic 54, 3) := by decide +kernel
theorem dX9_holds_78 : decode cX9_holds 78 = .ok (.lload 4, 2) := by decide +kernel
theorem dX9_holds_80 : decode cX9_holds 80 = .ok (.lcmp, 1) := by decide +kernel
theorem dX9_holds_81 : decode cX9_holds 81 = .ok (.ifCond .gt 29, 3) := by decide +kernel
theorem dX9_holds_84 : decode cX9_holds 84 = .ok (.lload 4, 2) := by decide +kernel
theorem dX9_holds_86 : decode cX9_holds 86 = .ok (.aload_n 0, 1) := by decide +kernel
theorem dX9_holds_87 : decode cX9_holds 87 = .ok (.getfield 13, 3) := by decide +kernel
theorem dX9_holds_90 : decode cX9_holds 90 = .ok (.iload_n 1, 1) := by decide +kernel
theorem dX9_holds_91 : decode cX9_holds 91 = .ok (.laload, 1) := by decide +kernel
theorem dX9_holds_92 : decode cX9_holds 92 = .ok (.aload_n 0, 1) := by decide +kernel
theorem dX9_holds_93 : decode cX9_holds 93 = .ok (.getfield 13, 3) := by decide +kernel
theorem dX9_holds_96 : decode cX9_holds 96 = .ok (.iload 6, 2) := by decide +kernel
theorem dX9_holds_98 : decode cX9_holds 98 = .ok (.laload, 1) := by decide +kernel
theorem dX9_holds_99 : decode cX9_holds 99 = .ok (.invokestatic 60, 3) := by decide +kernel
theorem dX9_holds_102 : decode cX9_holds 102 = .ok (.lcmp, 1) := by decide +kernel
theorem dX9_holds_103 : decode cX9_holds 103 = .ok (.ifCond .gt 7, 3) := by decide +kernel
theorem dX9_holds_106 : decode cX9_holds 106 = .ok (.iconst 1, 1) := by decide +kernel
theorem dX9_holds_107 : decode cX9_holds 107 = .ok (.goto 4, 3) := by decide +kernel
theorem dX9_holds_110 : decode cX9_holds 110 = .ok (.iconst 0, 1) := by decide +kernel
theorem dX9_holds_111 : decode cX9_holds 111 = .ok (.ireturn, 1) := by decide +kernel
theorem dX9_parts_0 : decode cX9_parts 0 = .ok (.aload_n 2, 1) := by decide +kernel
theorem dX9_parts_1 : decode cX9_parts 1 = .ok (.iload_n 3, 1) := by decide +kernel
theorem dX9_parts_2 : decode cX9_parts 2 = .ok (.invokevirtual 20, 3) := by decide +kernel
theorem dX9_parts_5 : decode cX9_parts 5 = .ok (.istore 4, 2) := by decide +kernel
theorem dX9_parts_7 : decode cX9_parts 7 = .ok (.aload_n 0, 1) := by decide +kernel
theorem dX9_parts_8 : decode cX9_parts 8 = .ok (.iload_n 1, 1) := by decide +kernel
theorem dX9_parts_9 : decode cX9_parts 9 = .ok (.aload_n 2, 1) := by decide +kernel
theorem dX9_parts_10 : decode cX9_parts 10 = .ok (.getfield 9, 3) := by decide +kernel
theorem dX9_parts_13 : decode cX9_parts 13 = .ok (.iload_n 3, 1) := by decide +kernel
theorem dX9_parts_14 : decode cX9_parts 14 = .ok (.laload, 1) := by decide +kernel
theorem dX9_parts_15 : decode cX9_parts 15 = .ok (.aload_n 2, 1) := by decide +kernel
theorem dX9_parts_16 : decode cX9_parts 16 = .ok (.getfield 13, 3) := by decide +kernel
theorem dX9_parts_19 : decode cX9_parts 19 = .ok (.iload_n 3, 1) := by decide +kernel
theorem dX9_parts_20 : decode cX9_parts 20 = .ok (.laload, 1) := by decide +kernel
theorem dX9_parts_21 : decode cX9_parts 21 = .ok (.invokevirtual 50, 3) := by decide +kernel
theorem dX9_parts_24 : decode cX9_parts 24 = .ok (.lstore 5, 2) := by decide +kernel
theorem dX9_parts_26 : decode cX9_parts 26 = .ok (.aload_n 0, 1) := by decide +kernel
theorem dX9_parts_27 : decode cX9_parts 27 = .ok (.iload_n 1, 1) := by decide +kernel
theorem dX9_parts_28 : decode cX9_parts 28 = .ok (.aload_n 2, 1) := by decide +kernel
theorem dX9_parts_29 : decode cX9_parts 29 = .ok (.getfield 9, 3) := by decide +kernel
theorem dX9_parts_32 : decode cX9_parts 32 = .ok (.iload 4, 2) := by decide +kernel
theorem dX9_parts_34 : decode cX9_parts 34 = .ok (.laload, 1) := by decide +kernel
theorem dX9_parts_35 : decode cX9_parts 35 = .ok (.aload_n 2, 1) := by decide +kernel
theorem dX9_parts_36 : decode cX9_parts 36 = .ok (.getfield 13, 3) := by decide +kernel
theorem dX9_parts_39 : decode cX9_parts 39 = .ok (.iload 4, 2) := by decide +kernel
theorem dX9_parts_41 : decode cX9_parts 41 = .ok (.laload, 1) := by decide +kernel
theorem dX9_parts_42 : decode cX9_parts 42 = .ok (.invokevirtual 50, 3) := by decide +kernel
theorem dX9_parts_45 : decode cX9_parts 45 = .ok (.lstore 7, 2) := by decide +kernel
theorem dX9_parts_47 : decode cX9_parts 47 = .ok (.lload 5, 2) := by decide +kernel
theorem dX9_parts_49 : decode cX9_parts 49 = .ok (.lconst 0, 1) := by decide +kernel
theorem dX9_parts_50 : decode cX9_parts 50 = .ok (.lcmp, 1) := by decide +kernel
theorem dX9_parts_51 : decode cX9_parts 51 = .ok (.ifCond .ge 10, 3) := by decide +kernel
theorem dX9_parts_54 : decode cX9_parts 54 = .ok (.lload 7, 2) := by decide +kernel
theorem dX9_parts_56 : decode cX9_parts 56 = .ok (.lconst 0, 1) := by decide +kernel
theorem dX9_parts_57 : decode cX9_parts 57 = .ok (.lcmp, 1) := by decide +kernel
theorem dX9_parts_58 : decode cX9_parts 58 = .ok (.ifCond .gt 17, 3) := by decide +kernel
theorem dX9_parts_61 : decode cX9_parts 61 = .ok (.lload 5, 2) := by decide +kernel
theorem dX9_parts_63 : decode cX9_parts 63 = .ok (.lconst 0, 1) := by decide +kernel
theorem dX9_parts_64 : decode cX9_parts 64 = .ok (.lcmp, 1) := by decide +kernel
theorem dX9_parts_65 : decode cX9_parts 65 = .ok (.ifCond .le 14, 3) := by decide +kernel
theorem dX9_parts_68 : decode cX9_parts 68 = .ok (.lload 7, 2) := by decide +kernel
theorem dX9_parts_70 : decode cX9_parts 70 = .ok (.lconst 0, 1) := by decide +kernel
theorem dX9_parts_71 : decode cX9_parts 71 = .ok (.lcmp, 1) := by decide +kernel
theorem dX9_parts_72 : decode cX9_parts 72 = .ok (.ifCond .ge 7, 3) := by decide +kernel
theorem dX9_parts_75 : decode cX9_parts 75 = .ok (.iconst 1, 1) := by decide +kernel
theorem dX9_parts_76 : decode cX9_parts 76 = .ok (.goto 4, 3) := by decide +kernel
theorem dX9_parts_79 : decode cX9_parts 79 = .ok (.iconst 0, 1) := by decide +kernel
theorem dX9_parts_80 : decode cX9_parts 80 = .ok (.ireturn, 1) := by decide +kernel
theorem dX9_touches_0 : decode cX9_touches 0 = .ok (.aload_n 0, 1) := by decide +kernel
theorem dX9_touches_1 : decode cX9_touches 1 = .ok (.iload_n 1, 1) := by decide +kernel
theorem dX9_touches_2 : decode cX9_touches 2 = .ok (.aload_n 2, 1) := by decide +kernel
theorem dX9_touches_3 : decode cX9_touches 3 = .ok (.iload_n 3, 1) := by decide +kernel
theorem dX9_touches_4 : decode cX9_touches 4 = .ok (.invokevirtual 63, 3) := by decide +kernel
theorem dX9_touches_7 : decode cX9_touches 7 = .ok (.ifCond .eq 15, 3) := by decide +kernel
theorem dX9_touches_10 : decode cX9_touches 10 = .ok (.aload_n 2, 1) := by decide +kernel
theorem dX9_touches_11 : decode cX9_touches 11 = .ok (.iload_n 3, 1) := by decide +kernel
theorem dX9_touches_12 : decode cX9_touches 12 = .ok (.aload_n 0, 1) := by decide +kernel
theorem dX9_touches_13 : decode cX9_touches 13 = .ok (.iload_n 1, 1) := by decide +kernel
theorem dX9_touches_14 : decode cX9_touches 14 = .ok (.invokevirtual 63, 3) := by decide +kernel
theorem dX9_touches_17 : decode cX9_touches 17 = .ok (.ifCond .eq 5, 3) := by decide +kernel
theorem dX9_touches_20 : decode cX9_touches 20 = .ok (.iconst 1, 1) := by decide +kernel
theorem dX9_touches_21 : decode cX9_touches 21 = .ok (.ireturn, 1) := by decide +kernel
theorem dX9_touches_22 : decode cX9_touches 22 = .ok (.aload_n 0, 1) := by decide +kernel
theorem dX9_touches_23 : decode cX9_touches 23 = .ok (.iload_n 1, 1) := by decide +kernel
theorem dX9_touches_24 : decode cX9_touches 24 = .ok (.invokevirtual 20, 3) := by decide +kernel
theorem dX9_touches_27 : decode cX9_touches 27 = .ok (.istore 4, 2) := by decide +kernel
theorem dX9_touches_29 : decode cX9_touches 29 = .ok (.aload_n 2, 1) := by decide +kernel
theorem dX9_touches_30 : decode cX9_touches 30 = .ok (.iload_n 3, 1) := by decide +kernel
theorem dX9_touches_31 : decode cX9_touches 31 = .ok (.invokevirtual 20, 3) := by decide +kernel
theorem dX9_touches_34 : decode cX9_touches 34 = .ok (.istore 5, 2) := by decide +kernel
theorem dX9_touches_36 : decode cX9_touches 36 = .ok (.aload_n 0, 1) := by decide +kernel
theorem dX9_touches_37 : decode cX9_touches 37 = .ok (.iload_n 1, 1) := by decide +kernel
theorem dX9_touches_38 : decode cX9_touches 38 = .ok (.aload_n 2, 1) := by decide +kernel
theorem dX9_touches_39 : decode cX9_touches 39 = .ok (.getfield 9, 3) := by decide +kernel
theorem dX9_touches_42 : decode cX9_touches 42 = .ok (.iload_n 3, 1) := by decide +kernel
theorem dX9_touches_43 : decode cX9_touches 43 = .ok (.laload, 1) := by decide +kernel
theorem dX9_touches_44 : decode cX9_touches 44 = .ok (.aload_n 2, 1) := by decide +kernel
theorem dX9_touches_45 : decode cX9_touches 45 = .ok (.getfield 13, 3) := by decide +kernel
theorem dX9_touches_48 : decode cX9_touches 48 = .ok (.iload_n 3, 1) := by decide +kernel
theorem dX9_touches_49 : decode cX9_touches 49 = .ok (.laload, 1) := by decide +kernel
theorem dX9_touches_50 : decode cX9_touches 50 = .ok (.invokevirtual 66, 3) := by decide +kernel
theorem dX9_touches_53 : decode cX9_touches 53 = .ok (.ifCond .ne 67, 3) := by decide +kernel
theorem dX9_touches_56 : decode cX9_touches 56 = .ok (.aload_n 0, 1) := by decide +kernel
theorem dX9_touches_57 : decode cX9_touches 57 = .ok (.iload_n 1, 1) := by decide +kernel
theorem dX9_touches_58 : decode cX9_touches 58 = .ok (.aload_n 2, 1) := by decide +kernel
theorem dX9_touches_59 : decode cX9_touches 59 = .ok (.getfield 9, 3) := by decide +kernel
theorem dX9_touches_62 : decode cX9_touches 62 = .ok (.iload 5, 2) := by decide +kernel
theorem dX9_touches_64 : decode cX9_touches 64 = .ok (.laload, 1) := by decide +kernel
theorem dX9_touches_65 : decode cX9_touches 65 = .ok (.aload_n 2, 1) := by decide +kernel
theorem dX9_touches_66 : decode cX9_touches 66 = .ok (.getfield 13, 3) := by decide +kernel
theorem dX9_touches_69 : decode cX9_touches 69 = .ok (.iload 5, 2) := by decide +kernel
theorem dX9_touches_71 : decode cX9_touches 71 = .ok (.laload, 1) := by decide +kernel
theorem dX9_touches_72 : decode cX9_touches 72 = .ok (.invokevirtual 66, 3) := by decide +kernel
theorem dX9_touches_75 : decode cX9_touches 75 = .ok (.ifCond .ne 45, 3) := by decide +kernel
theorem dX9_touches_78 : decode cX9_touches 78 = .ok (.aload_n 2, 1) := by decide +kernel
theorem dX9_touches_79 : decode cX9_touches 79 = .ok (.iload_n 3, 1) := by decide +kernel
theorem dX9_touches_80 : decode cX9_touches 80 = .ok (.aload_n 0, 1) := by decide +kernel
theorem dX9_touches_81 : decode cX9_touches 81 = .ok (.getfield 9, 3) := by decide +kernel
theorem dX9_touches_84 : decode cX9_touches 84 = .ok (.iload_n 1, 1) := by decide +kernel
theorem dX9_touches_85 : decode cX9_touches 85 = .ok (.laload, 1) := by decide +kernel
theorem dX9_touches_86 : decode cX9_touches 86 = .ok (.aload_n 0, 1) := by decide +kernel
theorem dX9_touches_87 : decode cX9_touches 87 = .ok (.getfield 13, 3) := by decide +kernel
theorem dX9_touches_90 : decode cX9_touches 90 = .ok (.iload_n 1, 1) := by decide +kernel
theorem dX9_touches_91 : decode cX9_touches 91 = .ok (.laload, 1) := by decide +kernel
theorem dX9_touches_92 : decode cX9_touches 92 = .ok (.invokevirtual 66, 3) := by decide +kernel
theorem dX9_touches_95 : decode cX9_touches 95 = .ok (.ifCond .ne 25, 3) := by decide +kernel
theorem dX9_touches_98 : decode cX9_touches 98 = .ok (.aload_n 2, 1) := by decide +kernel
theorem dX9_touches_99 : decode cX9_touches 99 = .ok (.iload_n 3, 1) := by decide +kernel
theorem dX9_touches_100 : decode cX9_touches 100 = .ok (.aload_n 0, 1) := by decide +kernel
theorem dX9_touches_101 : decode cX9_touches 101 = .ok (.getfield 9, 3) := by decide +kernel
theorem dX9_touches_104 : decode cX9_touches 104 = .ok (.iload 4, 2) := by decide +kernel
theorem dX9_touches_106 : decode cX9_touches 106 = .ok (.laload, 1) := by decide +kernel
theorem dX9_touches_107 : decode cX9_touches 107 = .ok (.aload_n 0, 1) := by decide +kernel
theorem dX9_touches_108 : decode cX9_touches 108 = .ok (.getfield 13, 3) := by decide +kernel
theorem dX9_touches_111 : decode cX9_touches 111 = .ok (.iload 4, 2) := by decide +kernel
theorem dX9_touches_113 : decode cX9_touches 113 = .ok (.laload, 1) := by decide +kernel
theorem dX9_touches_114 : decode cX9_touches 114 = .ok (.invokevirtual 66, 3) := by decide +kernel
theorem dX9_touches_117 : decode cX9_touches 117 = .ok (.ifCond .eq 7, 3) := by decide +kernel
theorem dX9_touches_120 : decode cX9_touches 120 = .ok (.iconst 1, 1) := by decide +kernel
theorem dX9_touches_121 : decode cX9_touches 121 = .ok (.goto 4, 3) := by decide +kernel
theorem dX9_touches_124 : decode cX9_touches 124 = .ok (.iconst 0, 1) := by decide +kernel
theorem dX9_touches_125 : decode cX9_touches 125 = .ok (.ireturn, 1) := by decide +kernel
theorem dX9_standing_0 : decode cX9_standing 0 = .ok (.iconst 0, 1) := by decide +kernel
theorem dX9_standing_1 : decode cX9_standing 1 = .ok (.istore 5, 2) := by decide +kernel
theorem dX9_standing_3 : decode cX9_standing 3 = .ok (.iconst 0, 1) := by decide +kernel
theorem dX9_standing_4 : decode cX9_standing 4 = .ok (.istore 6, 2) := by decide +kernel
theorem dX9_standing_6 : decode cX9_standing 6 = .ok (.iload 6, 2) := by decide +kernel
theorem dX9_standing_8 : decode cX9_standing 8 = .ok (.aload_n 0, 1) := by decide +kernel
theorem dX9_standing_9 : decode cX9_standing 9 = .ok (.getfield 16, 3) := by decide +kernel
theorem dX9_standing_12 : decode cX9_standing 12 = .ok (.if_icmp .ge 119, 3) := by decide +kernel
theorem dX9_standing_15 : decode cX9_standing 15 = .ok (.aload_n 0, 1) := by decide +kernel
theorem dX9_standing_16 : decode cX9_standing 16 = .ok (.iload 6, 2) := by decide +kernel
theorem dX9_standing_18 : decode cX9_standing 18 = .ok (.lload_n 1, 1) := by decide +kernel
theorem dX9_standing_19 : decode cX9_standing 19 = .ok (.lload_n 3, 1) := by decide +kernel
theorem dX9_standing_20 : decode cX9_standing 20 = .ok (.invokevirtual 66, 3) := by decide +kernel
theorem dX9_standing_23 : decode cX9_standing 23 = .ok (.ifCond .eq 5, 3) := by decide +kernel
theorem dX9_standing_26 : decode cX9_standing 26 = .ok (.iconst 2, 1) := by decide +kernel
theorem dX9_standing_27 : decode cX9_standing 27 = .ok (.ireturn, 1) := by decide +kernel
theorem dX9_standing_28 : decode cX9_standing 28 = .ok (.aload_n 0, 1) := by decide +kernel
theorem dX9_standing_29 : decode cX9_standing 29 = .ok (.getfield 13, 3) := by decide +kernel
theorem dX9_standing_32 : decode cX9_standing 32 = .ok (.iload 6, 2) := by decide +kernel
theorem dX9_standing_34 : decode cX9_standing 34 = .ok (.laload, 1) := by decide +kernel
theorem dX9_standing_35 : decode cX9_standing 35 = .ok (.lload_n 3, 1) := by decide +kernel
theorem dX9_standing_36 : decode cX9_standing 36 = .ok (.lcmp, 1) := by decide +kernel
theorem dX9_standing_37 : decode cX9_standing 37 = .ok (.ifCond .gt 7, 3) := by decide +kernel
theorem dX9_standing_40 : decode cX9_standing 40 = .ok (.iconst 1, 1) := by decide +kernel
theorem dX9_standing_41 : decode cX9_standing 41 = .ok (.goto 4, 3) := by decide +kernel
theorem dX9_standing_44 : decode cX9_standing 44 = .ok (.iconst 0, 1) := by decide +kernel
theorem dX9_standing_45 : decode cX9_standing 45 = .ok (.istore 7, 2) := by decide +kernel
theorem dX9_standing_47 : decode cX9_standing 47 = .ok (.aload_n 0, 1) := by decide +kernel
theorem dX9_standing_48 : decode cX9_standing 48 = .ok (.getfield 13, 3) := by decide +kernel
theorem dX9_standing_51 : decode cX9_standing 51 = .ok (.aload_n 0, 1) := by decide +kernel
theorem dX9_standing_52 : decode cX9_standing 52 = .ok (.iload 6, 2) := by decide +kernel
theorem dX9_standing_54 : decode cX9_standing 54 = .ok (.invokevirtual 20, 3) := by decide +kernel
theorem dX9_standing_57 : decode cX9_standing 57 = .ok (.laload, 1) := by decide +kernel
theorem dX9_standing_58 : decode cX9_standing 58 = .ok (.lload_n 3, 1) := by decide +kernel
theorem dX9_standing_59 : decode cX9_standing 59 = .ok (.lcmp, 1) := by decide +kernel
theorem dX9_standing_60 : decode cX9_standing 60 = .ok (.ifCond .gt 7, 3) := by decide +kernel
theorem dX9_standing_63 : decode cX9_standing 63 = .ok (.iconst 1, 1) := by decide +kernel
theorem dX9_standing_64 : decode cX9_standing 64 = .ok (.goto 4, 3) := by decide +kernel
theorem dX9_standing_67 : decode cX9_standing 67 = .ok (.iconst 0, 1) := by decide +kernel
theorem dX9_standing_68 : decode cX9_standing 68 = .ok (.istore 8, 2) := by decide +kernel
theorem dX9_standing_70 : decode cX9_standing 70 = .ok (.iload 7, 2) := by decide +kernel
theorem dX9_standing_72 : decode cX9_standing 72 = .ok (.ifCond .eq 27, 3) := by decide +kernel
theorem dX9_standing_75 : decode cX9_standing 75 = .ok (.iload 8, 2) := by decide +kernel
theorem dX9_standing_77 : decode cX9_standing 77 = .ok (.ifCond .ne 22, 3) := by decide +kernel
theorem dX9_standing_80 : decode cX9_standing 80 = .ok (.aload_n 0, 1) := by decide +kernel
theorem dX9_standing_81 : decode cX9_standing 81 = .ok (.iload 6, 2) := by decide +kernel
theorem dX9_standing_83 : decode cX9_standing 83 = .ok (.lload_n 1, 1) := by decide +kernel
theorem dX9_standing_84 : decode cX9_standing 84 = .ok (.lload_n 3, 1) := by decide +kernel
theorem dX9_standing_85 : decode cX9_standing 85 = .ok (.invokevirtual 50, 3) := by decide +kernel
theorem dX9_standing_88 : decode cX9_standing 88 = .ok (.lconst 0, 1) := by decide +kernel
theorem dX9_standing_89 : decode cX9_standing 89 = .ok (.lcmp, 1) := by decide +kernel
theorem dX9_standing_90 : decode cX9_standing 90 = .ok (.ifCond .le 9, 3) := by decide +kernel
theorem dX9_standing_93 : decode cX9_standing 93 = .ok (.iinc 5 1, 3) := by decide +kernel
theorem dX9_standing_96 : decode cX9_standing 96 = .ok (.goto 29, 3) := by decide +kernel
theorem dX9_standing_99 : decode cX9_standing 99 = .ok (.iload 7, 2) := by decide +kernel
theorem dX9_standing_101 : decode cX9_standing 101 = .ok (.ifCond .ne 24, 3) := by decide +kernel
theorem dX9_standing_104 : decode cX9_standing 104 = .ok (.iload 8, 2) := by decide +kernel
theorem dX9_standing_106 : decode cX9_standing 106 = .ok (.ifCond .eq 19, 3) := by decide +kernel
theorem dX9_standing_109 : decode cX9_standing 109 = .ok (.aload_n 0, 1) := by decide +kernel
theorem dX9_standing_110 : decode cX9_standing 110 = .ok (.iload 6, 2) := by decide +kernel
theorem dX9_standing_112 : decode cX9_standing 112 = .ok (.lload_n 1, 1) := by decide +kernel
theorem dX9_standing_113 : decode cX9_standing 113 = .ok (.lload_n 3, 1) := by decide +kernel
theorem dX9_standing_114 : decode cX9_standing 114 = .ok (.invokevirtual 50, 3) := by decide +kernel
theorem dX9_standing_117 : decode cX9_standing 117 = .ok (.lconst 0, 1) := by decide +kernel
theorem dX9_standing_118 : decode cX9_standing 118 = .ok (.lcmp, 1) := by decide +kernel
theorem dX9_standing_119 : decode cX9_standing 119 = .ok (.ifCond .ge 6, 3) := by decide +kernel
theorem dX9_standing_122 : decode cX9_standing 122 = .ok (.iinc 5 (-1), 3) := by decide +kernel
theorem dX9_standing_125 : decode cX9_standing 125 = .ok (.iinc 6 1, 3) := by decide +kernel
theorem dX9_standing_128 : decode cX9_standing 128 = .ok (.goto (-122), 3) := by decide +kernel
theorem dX9_standing_131 : decode cX9_standing 131 = .ok (.iload 5, 2) := by decide +kernel
theorem dX9_standing_133 : decode cX9_standing 133 = .ok (.ifCond .eq 7, 3) := by decide +kernel
theorem dX9_standing_136 : decode cX9_standing 136 = .ok (.iconst 1, 1) := by decide +kernel
theorem dX9_standing_137 : decode cX9_standing 137 = .ok (.goto 4, 3) := by decide +kernel
theorem dX9_standing_140 : decode cX9_standing 140 = .ok (.iconst 0, 1) := by decide +kernel
theorem dX9_standing_141 : decode cX9_standing 141 = .ok (.ireturn, 1) := by decide +kernel
theorem dX9_reckonGap_0 : decode cX9_reckonGap 0 = .ok (.aload_n 0, 1) := by decide +kernel
theorem dX9_reckonGap_1 : decode cX9_reckonGap 1 = .ok (.aload_n 1, 1) := by decide +kernel
theorem dX9_reckonGap_2 : decode cX9_reckonGap 2 = .ok (.invokevirtual 70, 3) := by decide +kernel
theorem dX9_reckonGap_5 : decode cX9_reckonGap 5 = .ok (.ifCond .eq 10, 3) := by decide +kernel
theorem dX9_reckonGap_8 : decode cX9_reckonGap 8 = .ok (.aload_n 2, 1) := by decide +kernel
theorem dX9_reckonGap_9 : decode cX9_reckonGap 9 = .ok (.lconst 0, 1) := by decide +kernel
theorem dX9_reckonGap_10 : decode cX9_reckonGap 10 = .ok (.lconst 1, 1) := by decide +kernel
theorem dX9_reckonGap_11 : decode cX9_reckonGap 11 = .ok (.invokevirtual 40, 3) := by decide +kernel
theorem dX9_reckonGap_14 : decode cX9_reckonGap 14 = .ok (.return_, 1) := by decide +kernel
theorem dX9_reckonGap_15 : decode cX9_reckonGap 15 = .ok (.aload_n 1, 1) := by decide +kernel
theorem dX9_reckonGap_16 : decode cX9_reckonGap 16 = .ok (.getfield 9, 3) := by decide +kernel
theorem dX9_reckonGap_19 : decode cX9_reckonGap 19 = .ok (.iconst 0, 1) := by decide +kernel
theorem dX9_reckonGap_20 : decode cX9_reckonGap 20 = .ok (.laload, 1) := by decide +kernel
theorem dX9_reckonGap_21 : decode cX9_reckonGap 21 = .ok (.aload_n 0, 1) := by decide +kernel
theorem dX9_reckonGap_22 : decode cX9_reckonGap 22 = .ok (.getfield 9, 3) := by decide +kernel
theorem dX9_reckonGap_25 : decode cX9_reckonGap 25 = .ok (.iconst 0, 1) := by decide +kernel
theorem dX9_reckonGap_26 : decode cX9_reckonGap 26 = .ok (.laload, 1) := by decide +kernel
theorem dX9_reckonGap_27 : decode cX9_reckonGap 27 = .ok (.lsub, 1) := by decide +kernel
theorem dX9_reckonGap_28 : decode cX9_reckonGap 28 = .ok (.lstore_n 3, 1) := by decide +kernel
theorem dX9_reckonGap_29 : decode cX9_reckonGap 29 = .ok (.aload_n 1, 1) := by decide +kernel
theorem dX9_reckonGap_30 : decode cX9_reckonGap 30 = .ok (.getfield 13, 3) := by decide +kernel
theorem dX9_reckonGap_33 : decode cX9_reckonGap 33 = .ok (.iconst 0, 1) := by decide +kernel
theorem dX9_reckonGap_34 : decode cX9_reckonGap 34 = .ok (.laload, 1) := by decide +kernel
theorem dX9_reckonGap_35 : decode cX9_reckonGap 35 = .ok (.aload_n 0, 1) := by decide +kernel
theorem dX9_reckonGap_36 : decode cX9_reckonGap 36 = .ok (.getfield 13, 3) := by decide +kernel
theorem dX9_reckonGap_39 : decode cX9_reckonGap 39 = .ok (.iconst 0, 1) := by decide +kernel
theorem dX9_reckonGap_40 : decode cX9_reckonGap 40 = .ok (.laload, 1) := by decide +kernel
theorem dX9_reckonGap_41 : decode cX9_reckonGap 41 = .ok (.lsub, 1) := by decide +kernel
theorem dX9_reckonGap_42 : decode cX9_reckonGap 42 = .ok (.lstore 5, 2) := by decide +kernel
theorem dX9_reckonGap_44 : decode cX9_reckonGap 44 = .ok (.aload_n 2, 1) := by decide +kernel
theorem dX9_reckonGap_45 : decode cX9_reckonGap 45 = .ok (.lload_n 3, 1) := by decide +kernel
theorem dX9_reckonGap_46 : decode cX9_reckonGap 46 = .ok (.lload_n 3, 1) := by decide +kernel
theorem dX9_reckonGap_47 : decode cX9_reckonGap 47 = .ok (.lmul, 1) := by decide +kernel
theorem dX9_reckonGap_48 : decode cX9_reckonGap 48 = .ok (.lload 5, 2) := by decide +kernel
theorem dX9_reckonGap_50 : decode cX9_reckonGap 50 = .ok (.lload 5, 2) := by decide +kernel
theorem dX9_reckonGap_52 : decode cX9_reckonGap 52 = .ok (.lmul, 1) := by decide +kernel
theorem dX9_reckonGap_53 : decode cX9_reckonGap 53 = .ok (.ladd, 1) := by decide +kernel
theorem dX9_reckonGap_54 : decode cX9_reckonGap 54 = .ok (.lconst 1, 1) := by decide +kernel
theorem dX9_reckonGap_55 : decode cX9_reckonGap 55 = .ok (.invokevirtual 40, 3) := by decide +kernel
theorem dX9_reckonGap_58 : decode cX9_reckonGap 58 = .ok (.iconst 0, 1) := by decide +kernel
theorem dX9_reckonGap_59 : decode cX9_reckonGap 59 = .ok (.istore 7, 2) := by decide +kernel
theorem dX9_reckonGap_61 : decode cX9_reckonGap 61 = .ok (.iload 7, 2) := by decide +kernel
theorem dX9_reckonGap_63 : decode cX9_reckonGap 63 = .ok (.aload_n 0, 1) := by decide +kernel
theorem dX9_reckonGap_64 : decode cX9_reckonGap 64 = .ok (.getfield 16, 3) := by decide +kernel
theorem dX9_reckonGap_67 : decode cX9_reckonGap 67 = .ok (.if_icmp .ge 69, 3) := by decide +kernel
theorem dX9_reckonGap_70 : decode cX9_reckonGap 70 = .ok (.iconst 0, 1) := by decide +kernel
theorem dX9_reckonGap_71 : decode cX9_reckonGap 71 = .ok (.istore 8, 2) := by decide +kernel
theorem dX9_reckonGap_73 : decode cX9_reckonGap 73 = .ok (.iload 8, 2) := by decide +kernel
theorem dX9_reckonGap_75 : decode cX9_reckonGap 75 = .ok (.aload_n 1, 1) := by decide +kernel
theorem dX9_reckonGap_76 : decode cX9_reckonGap 76 = .ok (.getfield 16, 3) := by decide +kernel
theorem dX9_reckonGap_79 : decode cX9_reckonGap 79 = .ok (.if_icmp .ge 51, 3) := by decide +kernel
theorem dX9_reckonGap_82 : decode cX9_reckonGap 82 = .ok (.aload_n 0, 1) := by decide +kernel
theorem dX9_reckonGap_83 : decode cX9_reckonGap 83 = .ok (.iload 7, 2) := by decide +kernel
theorem dX9_reckonGap_85 : decode cX9_reckonGap 85 = .ok (.aload_n 1, 1) := by decide +kernel
theorem dX9_reckonGap_86 : decode cX9_reckonGap 86 = .ok (.getfield 9, 3) := by decide +kernel
theorem dX9_reckonGap_89 : decode cX9_reckonGap 89 = .ok (.iload 8, 2) := by decide +kernel
theorem dX9_reckonGap_91 : decode cX9_reckonGap 91 = .ok (.laload, 1) := by decide +kernel
theorem dX9_reckonGap_92 : decode cX9_reckonGap 92 = .ok (.aload_n 1, 1) := by decide +kernel
theorem dX9_reckonGap_93 : decode cX9_reckonGap 93 = .ok (.getfield 13, 3) := by decide +kernel
theorem dX9_reckonGap_96 : decode cX9_reckonGap 96 = .ok (.iload 8, 2) := by decide +kernel
theorem dX9_reckonGap_98 : decode cX9_reckonGap 98 = .ok (.laload, 1) := by decide +kernel
theorem dX9_reckonGap_99 : decode cX9_reckonGap 99 = .ok (.aload_n 2, 1) := by decide +kernel
theorem dX9_reckonGap_100 : decode cX9_reckonGap 100 = .ok (.invokevirtual 74, 3) := by decide +kernel
theorem dX9_reckonGap_103 : decode cX9_reckonGap 103 = .ok (.aload_n 1, 1) := by decide +kernel
theorem dX9_reckonGap_104 : decode cX9_reckonGap 104 = .ok (.iload 8, 2) := by decide +kernel
theorem dX9_reckonGap_106 : decode cX9_reckonGap 106 = .ok (.aload_n 0, 1) := by decide +kernel
theorem dX9_reckonGap_107 : decode cX9_reckonGap 107 = .ok (.getfield 9, 3) := by decide +kernel
theorem dX9_reckonGap_110 : decode cX9_reckonGap 110 = .ok (.iload 7, 2) := by decide +kernel
theorem dX9_reckonGap_112 : decode cX9_reckonGap 112 = .ok (.laload, 1) := by decide +kernel
theorem dX9_reckonGap_113 : decode cX9_reckonGap 113 = .ok (.aload_n 0, 1) := by decide +kernel
theorem dX9_reckonGap_114 : decode cX9_reckonGap 114 = .ok (.getfield 13, 3) := by decide +kernel
theorem dX9_reckonGap_117 : decode cX9_reckonGap 117 = .ok (.iload 7, 2) := by decide +kernel
theorem dX9_reckonGap_119 : decode cX9_reckonGap 119 = .ok (.laload, 1) := by decide +kernel
theorem dX9_reckonGap_120 : decode cX9_reckonGap 120 = .ok (.aload_n 2, 1) := by decide +kernel
theorem dX9_reckonGap_121 : decode cX9_reckonGap 121 = .ok (.invokevirtual 74, 3) := by decide +kernel
theorem dX9_reckonGap_124 : decode cX9_reckonGap 124 = .ok (.iinc 8 1, 3) := by decide +kernel
theorem dX9_reckonGap_127 : decode cX9_reckonGap 127 = .ok (.goto (-54), 3) := by decide +kernel
theorem dX9_reckonGap_130 : decode cX9_reckonGap 130 = .ok (.iinc 7 1, 3) := by decide +kernel
theorem dX9_reckonGap_133 : decode cX9_reckonGap 133 = .ok (.goto (-72), 3) := by decide +kernel
theorem dX9_reckonGap_136 : decode cX9_reckonGap 136 = .ok (.return_, 1) := by decide +kernel
theorem dX9_isInReach_0 : decode cX9_isInReach 0 = .ok (.iconst 0, 1) := by decide +kernel
theorem dX9_isInReach_1 : decode cX9_isInReach 1 = .ok (.istore_n 2, 1) := by decide +kernel
theorem dX9_isInReach_2 : decode cX9_isInReach 2 = .ok (.iload_n 2, 1) := by decide +kernel
theorem dX9_isInReach_3 : decode cX9_isInReach 3 = .ok (.aload_n 0, 1) := by decide +kernel
theorem dX9_isInReach_4 : decode cX9_isInReach 4 = .ok (.getfield 16, 3) := by decide +kernel
theorem dX9_isInReach_7 : decode cX9_isInReach 7 = .ok (.if_icmp .ge 37, 3) := by decide +kernel
theorem dX9_isInReach_10 : decode cX9_isInReach 10 = .ok (.iconst 0, 1) := by decide +kernel
theorem dX9_isInReach_11 : decode cX9_isInReach 11 = .ok (.istore_n 3, 1) := by decide +kernel
theorem dX9_isInReach_12 : decode cX9_isInReach 12 = .ok (.iload_n 3, 1) := by decide +kernel
theorem dX9_isInReach_13 : decode cX9_isInReach 13 = .ok (.aload_n 1, 1) := by decide +kernel
theorem dX9_isInReach_14 : decode cX9_isInReach 14 = .ok (.getfield 16, 3) := by decide +kernel
theorem dX9_isInReach_17 : decode cX9_isInReach 17 = .ok (.if_icmp .ge 21, 3) := by decide +kernel
theorem dX9_isInReach_20 : decode cX9_isInReach 20 = .ok (.aload_n 0, 1) := by decide +kernel
theorem dX9_isInReach_21 : decode cX9_isInReach 21 = .ok (.iload_n 2, 1) := by decide +kernel
theorem dX9_isInReach_22 : decode cX9_isInReach 22 = .ok (.aload_n 1, 1) := by decide +kernel
theorem dX9_isInReach_23 : decode cX9_isInReach 23 = .ok (.iload_n 3, 1) := by decide +kernel
theorem dX9_isInReach_24 : decode cX9_isInReach 24 = .ok (.invokevirtual 46, 3) := by decide +kernel
theorem dX9_isInReach_27 : decode cX9_isInReach 27 = .ok (.ifCond .eq 5, 3) := by decide +kernel
theorem dX9_isInReach_30 : decode cX9_isInReach 30 = .ok (.iconst 1, 1) := by decide +kernel
theorem dX9_isInReach_31 : decode cX9_isInReach 31 = .ok (.ireturn, 1) := by decide +kernel
theorem dX9_isInReach_32 : decode cX9_isInReach 32 = .ok (.iinc 3 1, 3) := by decide +kernel
theorem dX9_isInReach_35 : decode cX9_isInReach 35 = .ok (.goto (-23), 3) := by decide +kernel
theorem dX9_isInReach_38 : decode cX9_isInReach 38 = .ok (.iinc 2 1, 3) := by decide +kernel
theorem dX9_isInReach_41 : decode cX9_isInReach 41 = .ok (.goto (-39), 3) := by decide +kernel
theorem dX9_isInReach_44 : decode cX9_isInReach 44 = .ok (.aload_n 0, 1) := by decide +kernel
theorem dX9_isInReach_45 : decode cX9_isInReach 45 = .ok (.aload_n 1, 1) := by decide +kernel
theorem dX9_isInReach_46 : decode cX9_isInReach 46 = .ok (.getfield 9, 3) := by decide +kernel
theorem dX9_isInReach_49 : decode cX9_isInReach 49 = .ok (.iconst 0, 1) := by decide +kernel
theorem dX9_isInReach_50 : decode cX9_isInReach 50 = .ok (.laload, 1) := by decide +kernel
theorem dX9_isInReach_51 : decode cX9_isInReach 51 = .ok (.aload_n 1, 1) := by decide +kernel
theorem dX9_isInReach_52 : decode cX9_isInReach 52 = .ok (.getfield 13, 3) := by decide +kernel
theorem dX9_isInReach_55 : decode cX9_isInReach 55 = .ok (.iconst 0, 1) := by decide +kernel
theorem dX9_isInReach_56 : decode cX9_isInReach 56 = .ok (.laload, 1) := by decide +kernel
theorem dX9_isInReach_57 : decode cX9_isInReach 57 = .ok (.invokevirtual 78, 3) := by decide +kernel
theorem dX9_isInReach_60 : decode cX9_isInReach 60 = .ok (.ifCond .ne 22, 3) := by decide +kernel
theorem dX9_isInReach_63 : decode cX9_isInReach 63 = .ok (.aload_n 1, 1) := by decide +kernel
theorem dX9_isInReach_64 : decode cX9_isInReach 64 = .ok (.aload_n 0, 1) := by decide +kernel
theorem dX9_isInReach_65 : decode cX9_isInReach 65 = .ok (.getfield 9, 3) := by decide +kernel
theorem dX9_isInReach_68 : decode cX9_isInReach 68 = .ok (.iconst 0, 1) := by decide +kernel
theorem dX9_isInReach_69 : decode cX9_isInReach 69 = .ok (.laload, 1) := by decide +kernel
theorem dX9_isInReach_70 : decode cX9_isInReach 70 = .ok (.aload_n 0, 1) := by decide +kernel
theorem dX9_isInReach_71 : decode cX9_isInReach 71 = .ok (.getfield 13, 3) := by decide +kernel
theorem dX9_isInReach_74 : decode cX9_isInReach 74 = .ok (.iconst 0, 1) := by decide +kernel
theorem dX9_isInReach_75 : decode cX9_isInReach 75 = .ok (.laload, 1) := by decide +kernel
theorem dX9_isInReach_76 : decode cX9_isInReach 76 = .ok (.invokevirtual 78, 3) := by decide +kernel
theorem dX9_isInReach_79 : decode cX9_isInReach 79 = .ok (.ifCond .eq 7, 3) := by decide +kernel
theorem dX9_isInReach_82 : decode cX9_isInReach 82 = .ok (.iconst 1, 1) := by decide +kernel
theorem dX9_isInReach_83 : decode cX9_isInReach 83 = .ok (.goto 4, 3) := by decide +kernel
theorem dX9_isInReach_86 : decode cX9_isInReach 86 = .ok (.iconst 0, 1) := by decide +kernel
theorem dX9_isInReach_87 : decode cX9_isInReach 87 = .ok (.ireturn, 1) := by decide +kernel
theorem dX9_offerFoot_0 : decode cX9_offerFoot 0 = .ok (.aload_n 0, 1) := by decide +kernel
theorem dX9_offerFoot_1 : decode cX9_offerFoot 1 = .ok (.iload_n 1, 1) := by decide +kernel
theorem dX9_offerFoot_2 : decode cX9_offerFoot 2 = .ok (.invokevirtual 20, 3) := by decide +kernel
theorem dX9_offerFoot_5 : decode cX9_offerFoot 5 = .ok (.istore 7, 2) := by decide +kernel
theorem dX9_offerFoot_7 : decode cX9_offerFoot 7 = .ok (.aload_n 0, 1) := by decide +kernel
theorem dX9_offerFoot_8 : decode cX9_offerFoot 8 = .ok (.getfield 9, 3) := by decide +kernel
theorem dX9_offerFoot_11 : decode cX9_offerFoot 11 = .ok (.iload 7, 2) := by decide +kernel
theorem dX9_offerFoot_13 : decode cX9_offerFoot 13 = .ok (.laload, 1) := by decide +kernel
theorem dX9_offerFoot_14 : decode cX9_offerFoot 14 = .ok (.aload_n 0, 1) := by decide +kernel
theorem dX9_offerFoot_15 : decode cX9_offerFoot 15 = .ok (.getfield 9, 3) := by decide +kernel
theorem dX9_offerFoot_18 : decode cX9_offerFoot 18 = .ok (.iload_n 1, 1) := by decide +kernel
theorem dX9_offerFoot_19 : decode cX9_offerFoot 19 = .ok (.laload, 1) := by decide +kernel
theorem dX9_offerFoot_20 : decode cX9_offerFoot 20 = .ok (.lsub, 1) := by decide +kernel
theorem dX9_offerFoot_21 : decode cX9_offerFoot 21 = .ok (.lstore 8, 2) := by decide +kernel
theorem dX9_offerFoot_23 : decode cX9_offerFoot 23 = .ok (.aload_n 0, 1) := by decide +kernel
theorem dX9_offerFoot_24 : decode cX9_offerFoot 24 = .ok (.getfield 13, 3) := by decide +kernel
theorem dX9_offerFoot_27 : decode cX9_offerFoot 27 = .ok (.iload 7, 2) := by decide +kernel
theorem dX9_offerFoot_29 : decode cX9_offerFoot 29 = .ok (.laload, 1) := by decide +kernel
theorem dX9_offerFoot_30 : decode cX9_offerFoot 30 = .ok (.aload_n 0, 1) := by decide +kernel
theorem dX9_offerFoot_31 : decode cX9_offerFoot 31 = .ok (.getfield 13, 3) := by decide +kernel
theorem dX9_offerFoot_34 : decode cX9_offerFoot 34 = .ok (.iload_n 1, 1) := by decide +kernel
theorem dX9_offerFoot_35 : decode cX9_offerFoot 35 = .ok (.laload, 1) := by decide +kernel
theorem dX9_offerFoot_36 : decode cX9_offerFoot 36 = .ok (.lsub, 1) := by decide +kernel
theorem dX9_offerFoot_37 : decode cX9_offerFoot 37 = .ok (.lstore 10, 2) := by decide +kernel
theorem dX9_offerFoot_39 : decode cX9_offerFoot 39 = .ok (.lload_n 2, 1) := by decide +kernel
theorem dX9_offerFoot_40 : decode cX9_offerFoot 40 = .ok (.aload_n 0, 1) := by decide +kernel
theorem dX9_offerFoot_41 : decode cX9_offerFoot 41 = .ok (.getfield 9, 3) := by decide +kernel
theorem dX9_offerFoot_44 : decode cX9_offerFoot 44 = .ok (.iload_n 1, 1) := by decide +kernel
theorem dX9_offerFoot_45 : decode cX9_offerFoot 45 = .ok (.laload, 1) := by decide +kernel
theorem dX9_offerFoot_46 : decode cX9_offerFoot 46 = .ok (.lsub, 1) := by decide +kernel
theorem dX9_offerFoot_47 : decode cX9_offerFoot 47 = .ok (.lstore 12, 2) := by decide +kernel
theorem dX9_offerFoot_49 : decode cX9_offerFoot 49 = .ok (.lload 4, 2) := by decide +kernel
theorem dX9_offerFoot_51 : decode cX9_offerFoot 51 = .ok (.aload_n 0, 1) := by decide +kernel
theorem dX9_offerFoot_52 : decode cX9_offerFoot 52 = .ok (.getfield 13, 3) := by decide +kernel
theorem dX9_offerFoot_55 : decode cX9_offerFoot 55 = .ok (.iload_n 1, 1) := by decide +kernel
theorem dX9_offerFoot_56 : decode cX9_offerFoot 56 = .ok (.laload, 1) := by decide +kernel
theorem dX9_offerFoot_57 : decode cX9_offerFoot 57 = .ok (.lsub, 1) := by decide +kernel
theorem dX9_offerFoot_58 : decode cX9_offerFoot 58 = .ok (.lstore 14, 2) := by decide +kernel
theorem dX9_offerFoot_60 : decode cX9_offerFoot 60 = .ok (.lload 12, 2) := by decide +kernel
theorem dX9_offerFoot_62 : decode cX9_offerFoot 62 = .ok (.lload 8, 2) := by decide +kernel
theorem dX9_offerFoot_64 : decode cX9_offerFoot 64 = .ok (.lmul, 1) := by decide +kernel
theorem dX9_offerFoot_65 : decode cX9_offerFoot 65 = .ok (.lload 14, 2) := by decide +kernel
theorem dX9_offerFoot_67 : decode cX9_offerFoot 67 = .ok (.lload 10, 2) := by decide +kernel
theorem dX9_offerFoot_69 : decode cX9_offerFoot 69 = .ok (.lmul, 1) := by decide +kernel
theorem dX9_offerFoot_70 : decode cX9_offerFoot 70 = .ok (.ladd, 1) := by decide +kernel
theorem dX9_offerFoot_71 : decode cX9_offerFoot 71 = .ok (.lstore 16, 2) := by decide +kernel
theorem dX9_offerFoot_73 : decode cX9_offerFoot 73 = .ok (.lload 8, 2) := by decide +kernel
theorem dX9_offerFoot_75 : decode cX9_offerFoot 75 = .ok (.lload 8, 2) := by decide +kernel
theorem dX9_offerFoot_77 : decode cX9_offerFoot 77 = .ok (.lmul, 1) := by decide +kernel
theorem dX9_offerFoot_78 : decode cX9_offerFoot 78 = .ok (.lload 10, 2) := by decide +kernel
theorem dX9_offerFoot_80 : decode cX9_offerFoot 80 = .ok (.lload 10, 2) := by decide +kernel
theorem dX9_offerFoot_82 : decode cX9_offerFoot 82 = .ok (.lmul, 1) := by decide +kernel
theorem dX9_offerFoot_83 : decode cX9_offerFoot 83 = .ok (.ladd, 1) := by decide +kernel
theorem dX9_offerFoot_84 : decode cX9_offerFoot 84 = .ok (.lstore 18, 2) := by decide +kernel
theorem dX9_offerFoot_86 : decode cX9_offerFoot 86 = .ok (.lload 12, 2) := by decide +kernel
theorem dX9_offerFoot_88 : decode cX9_offerFoot 88 = .ok (.lload 10, 2) := by decide +kernel
theorem dX9_offerFoot_90 : decode cX9_offerFoot 90 = .ok (.lmul, 1) := by decide +kernel
theorem dX9_offerFoot_91 : decode cX9_offerFoot 91 = .ok (.lload 14, 2) := by decide +kernel
theorem dX9_offerFoot_93 : decode cX9_offerFoot 93 = .ok (.lload 8, 2) := by decide +kernel
theorem dX9_offerFoot_95 : decode cX9_offerFoot 95 = .ok (.lmul, 1) := by decide +kernel
theorem dX9_offerFoot_96 : decode cX9_offerFoot 96 = .ok (.lsub, 1) := by decide +kernel
theorem dX9_offerFoot_97 : decode cX9_offerFoot 97 = .ok (.lstore 20, 2) := by decide +kernel
theorem dX9_offerFoot_99 : decode cX9_offerFoot 99 = .ok (.lload 16, 2) := by decide +kernel
theorem dX9_offerFoot_101 : decode cX9_offerFoot 101 = .ok (.lconst 0, 1) := by decide +kernel
theorem dX9_offerFoot_102 : decode cX9_offerFoot 102 = .ok (.lcmp, 1) := by decide +kernel
theorem dX9_offerFoot_103 : decode cX9_offerFoot 103 = .ok (.ifCond .gt 23, 3) := by decide +kernel
theorem dX9_offerFoot_106 : decode cX9_offerFoot 106 = .ok (.lload 12, 2) := by decide +kernel
theorem dX9_offerFoot_108 : decode cX9_offerFoot 108 = .ok (.lload 12, 2) := by decide +kernel
theorem dX9_offerFoot_110 : decode cX9_offerFoot 110 = .ok (.lmul, 1) := by decide +kernel
theorem dX9_offerFoot_111 : decode cX9_offerFoot 111 = .ok (.lload 14, 2) := by decide +kernel
theorem dX9_offerFoot_113 : decode cX9_offerFoot 113 = .ok (.lload 14, 2) := by decide +kernel
theorem dX9_offerFoot_115 : decode cX9_offerFoot 115 = .ok (.lmul, 1) := by decide +kernel
theorem dX9_offerFoot_116 : decode cX9_offerFoot 116 = .ok (.ladd, 1) := by decide +kernel
theorem dX9_offerFoot_117 : decode cX9_offerFoot 117 = .ok (.lconst 1, 1) := by decide +kernel
theorem dX9_offerFoot_118 : decode cX9_offerFoot 118 = .ok (.aload 6, 2) := by decide +kernel
theorem dX9_offerFoot_120 : decode cX9_offerFoot 120 = .ok (.invokestatic 82, 3) := by decide +kernel
theorem dX9_offerFoot_123 : decode cX9_offerFoot 123 = .ok (.goto 55, 3) := by decide +kernel
theorem dX9_offerFoot_126 : decode cX9_offerFoot 126 = .ok (.lload 16, 2) := by decide +kernel
theorem dX9_offerFoot_128 : decode cX9_offerFoot 128 = .ok (.lload 18, 2) := by decide +kernel
theorem dX9_offerFoot_130 : decode cX9_offerFoot 130 = .ok (.lcmp, 1) := by decide +kernel
theorem dX9_offerFoot_131 : decode cX9_offerFoot 131 = .ok (.ifCond .lt 35, 3) := by decide +kernel
theorem dX9_offerFoot_134 : decode cX9_offerFoot 134 = .ok (.lload 12, 2) := by decide +kernel
theorem dX9_offerFoot_136 : decode cX9_offerFoot 136 = .ok (.lload 8, 2) := by decide +kernel
theorem dX9_offerFoot_138 : decode cX9_offerFoot 138 = .ok (.lsub, 1) := by decide +kernel
theorem dX9_offerFoot_139 : decode cX9_offerFoot 139 = .ok (.lload 12, 2) := by decide +kernel
theorem dX9_offerFoot_141 : decode cX9_offerFoot 141 = .ok (.lload 8, 2) := by decide +kernel
theorem dX9_offerFoot_143 : decode cX9_offerFoot 143 = .ok (.lsub, 1) := by decide +kernel
theorem dX9_offerFoot_144 : decode cX9_offerFoot 144 = .ok (.lmul, 1) := by decide +kernel
theorem dX9_offerFoot_145 : decode cX9_offerFoot 145 = .ok (.lload 14, 2) := by decide +kernel
theorem dX9_offerFoot_147 : decode cX9_offerFoot 147 = .ok (.lload 10, 2) := by decide +kernel
theorem dX9_offerFoot_149 : decode cX9_offerFoot 149 = .ok (.lsub, 1) := by decide +kernel
theorem dX9_offerFoot_150 : decode cX9_offerFoot 150 = .ok (.lload 14, 2) := by decide +kernel
theorem dX9_offerFoot_152 : decode cX9_offerFoot 152 = .ok (.lload 10, 2) := by decide +kernel
theorem dX9_offerFoot_154 : decode cX9_offerFoot 154 = .ok (.lsub, 1) := by decide +kernel
theorem dX9_offerFoot_155 : decode cX9_offerFoot 155 = .ok (.lmul, 1) := by decide +kernel
theorem dX9_offerFoot_156 : decode cX9_offerFoot 156 = .ok (.ladd, 1) := by decide +kernel
theorem dX9_offerFoot_157 : decode cX9_offerFoot 157 = .ok (.lconst 1, 1) := by decide +kernel
theorem dX9_offerFoot_158 : decode cX9_offerFoot 158 = .ok (.aload 6, 2) := by decide +kernel
theorem dX9_offerFoot_160 : decode cX9_offerFoot 160 = .ok (.invokestatic 82, 3) := by decide +kernel
theorem dX9_offerFoot_163 : decode cX9_offerFoot 163 = .ok (.goto 15, 3) := by decide +kernel
theorem dX9_offerFoot_166 : decode cX9_offerFoot 166 = .ok (.lload 20, 2) := by decide +kernel
theorem dX9_offerFoot_168 : decode cX9_offerFoot 168 = .ok (.lload 20, 2) := by decide +kernel
theorem dX9_offerFoot_170 : decode cX9_offerFoot 170 = .ok (.lmul, 1) := by decide +kernel
theorem dX9_offerFoot_171 : decode cX9_offerFoot 171 = .ok (.lload 18, 2) := by decide +kernel
theorem dX9_offerFoot_173 : decode cX9_offerFoot 173 = .ok (.aload 6, 2) := by decide +kernel
theorem dX9_offerFoot_175 : decode cX9_offerFoot 175 = .ok (.invokestatic 82, 3) := by decide +kernel
theorem dX9_offerFoot_178 : decode cX9_offerFoot 178 = .ok (.return_, 1) := by decide +kernel
theorem dX9_offer_0 : decode cX9_offer 0 = .ok (.aload 4, 2) := by decide +kernel
theorem dX9_offer_2 : decode cX9_offer 2 = .ok (.lload_n 0, 1) := by decide +kernel
theorem dX9_offer_3 : decode cX9_offer 3 = .ok (.lload_n 2, 1) := by decide +kernel
theorem dX9_offer_4 : decode cX9_offer 4 = .ok (.invokevirtual 86, 3) := by decide +kernel
theorem dX9_offer_7 : decode cX9_offer 7 = .ok (.ifCond .eq 10, 3) := by decide +kernel
theorem dX9_offer_10 : decode cX9_offer 10 = .ok (.aload 4, 2) := by decide +kernel
theorem dX9_offer_12 : decode cX9_offer 12 = .ok (.lload_n 0, 1) := by decide +kernel
theorem dX9_offer_13 : decode cX9_offer 13 = .ok (.lload_n 2, 1) := by decide +kernel
theorem dX9_offer_14 : decode cX9_offer 14 = .ok (.invokevirtual 40, 3) := by decide +kernel
theorem dX9_offer_17 : decode cX9_offer 17 = .ok (.return_, 1) := by decide +kernel
theorem dX10_init_0 : decode cX10_init 0 = .ok (.aload_n 0, 1) := by decide +kernel
theorem dX10_init_1 : decode cX10_init 1 = .ok (.invokespecial 1, 3) := by decide +kernel
theorem dX10_init_4 : decode cX10_init 4 = .ok (.aload_n 0, 1) := by decide +kernel
theorem dX10_init_5 : decode cX10_init 5 = .ok (.sipush 4000, 3) := by decide +kernel
theorem dX10_init_8 : decode cX10_init 8 = .ok (.newarray .byte, 2) := by decide +kernel
theorem dX10_init_10 : decode cX10_init 10 = .ok (.putfield 9, 3) := by decide +kernel
theorem dX10_init_13 : decode cX10_init 13 = .ok (.aload_n 0, 1) := by decide +kernel
theorem dX10_init_14 : decode cX10_init 14 = .ok (.bipush 6, 2) := by decide +kernel
theorem dX10_init_16 : decode cX10_init 16 = .ok (.newarray .int, 2) := by decide +kernel
theorem dX10_init_18 : decode cX10_init 18 = .ok (.putfield 13, 3) := by decide +kernel
theorem dX10_init_21 : decode cX10_init 21 = .ok (.aload_n 0, 1) := by decide +kernel
theorem dX10_init_22 : decode cX10_init 22 = .ok (.bipush 6, 2) := by decide +kernel
theorem dX10_init_24 : decode cX10_init 24 = .ok (.newarray .int, 2) := by decide +kernel
theorem dX10_init_26 : decode cX10_init 26 = .ok (.putfield 17, 3) := by decide +kernel
theorem dX10_init_29 : decode cX10_init 29 = .ok (.aload_n 0, 1) := by decide +kernel
theorem dX10_init_30 : decode cX10_init 30 = .ok (.bipush 6, 2) := by decide +kernel
theorem dX10_init_32 : decode cX10_init 32 = .ok (.newarray .long, 2) := by decide +kernel
theorem dX10_init_34 : decode cX10_init 34 = .ok (.putfield 20, 3) := by decide +kernel
theorem dX10_init_37 : decode cX10_init 37 = .ok (.aload_n 0, 1) := by decide +kernel
theorem dX10_init_38 : decode cX10_init 38 = .ok (.bipush 6, 2) := by decide +kernel
theorem dX10_init_40 : decode cX10_init 40 = .ok (.newarray .int, 2) := by decide +kernel
theorem dX10_init_42 : decode cX10_init 42 = .ok (.putfield 24, 3) := by decide +kernel
theorem dX10_init_45 : decode cX10_init 45 = .ok (.aload_n 0, 1) := by decide +kernel
theorem dX10_init_46 : decode cX10_init 46 = .ok (.bipush 6, 2) := by decide +kernel
theorem dX10_init_48 : decode cX10_init 48 = .ok (.newarray .int, 2) := by decide +kernel
theorem dX10_init_50 : decode cX10_init 50 = .ok (.putfield 27, 3) := by decide +kernel
theorem dX10_init_53 : decode cX10_init 53 = .ok (.aload_n 0, 1) := by decide +kernel
theorem dX10_init_54 : decode cX10_init 54 = .ok (.sipush 450, 3) := by decide +kernel
theorem dX10_init_57 : decode cX10_init 57 = .ok (.newarray .long, 2) := by decide +kernel
theorem dX10_init_59 : decode cX10_init 59 = .ok (.putfield 30, 3) := by decide +kernel
theorem dX10_init_62 : decode cX10_init 62 = .ok (.return_, 1) := by decide +kernel
theorem dX10_hasRoom_0 : decode cX10_hasRoom 0 = .ok (.aload_n 0, 1) := by decide +kernel
theorem dX10_hasRoom_1 : decode cX10_hasRoom 1 = .ok (.getfield 33, 3) := by decide +kernel
theorem dX10_hasRoom_4 : decode cX10_hasRoom 4 = .ok (.iload_n 1, 1) := by decide +kernel
theorem dX10_hasRoom_5 : decode cX10_hasRoom 5 = .ok (.iadd, 1) := by decide +kernel
theorem dX10_hasRoom_6 : decode cX10_hasRoom 6 = .ok (.sipush 4000, 3) := by decide +kernel
theorem dX10_hasRoom_9 : decode cX10_hasRoom 9 = .ok (.if_icmp .gt 7, 3) := by decide +kernel
theorem dX10_hasRoom_12 : decode cX10_hasRoom 12 = .ok (.iconst 1, 1) := by decide +kernel
theorem dX10_hasRoom_13 : decode cX10_hasRoom 13 = .ok (.goto 4, 3) := by decide +kernel
theorem dX10_hasRoom_16 : decode cX10_hasRoom 16 = .ok (.iconst 0, 1) := by decide +kernel
theorem dX10_hasRoom_17 : decode cX10_hasRoom 17 = .ok (.ireturn, 1) := by decide +kernel
theorem dX10_gather_0 : decode cX10_gather 0 = .ok (.aload_n 0, 1) := by decide +kernel
theorem dX10_gather_1 : decode cX10_gather 1 = .ok (.iconst 4, 1) := by decide +kernel
theorem dX10_gather_2 : decode cX10_gather 2 = .ok (.invokevirtual 37, 3) := by decide +kernel
theorem dX10_gather_5 : decode cX10_gather 5 = .ok (.ifCond .ne 4, 3) := by decide +kernel
theorem dX10_gather_8 : decode cX10_gather 8 = .ok (.return_, 1) := by decide +kernel
theorem dX10_gather_9 : decode cX10_gather 9 = .ok (.aload_n 0, 1) := by decide +kernel
theorem dX10_gather_10 : decode cX10_gather 10 = .ok (.getfield 9, 3) := by decide +kernel
theorem dX10_gather_13 : decode cX10_gather 13 = .ok (.aload_n 0, 1) := by decide +kernel
theorem dX10_gather_14 : decode cX10_gather 14 = .ok (.getfield 33, 3) := by decide +kernel
theorem dX10_gather_17 : decode cX10_gather 17 = .ok (.iload_n 1, 1) := by decide +kernel
theorem dX10_gather_18 : decode cX10_gather 18 = .ok (.bipush 24, 2) := by decide +kernel
theorem dX10_gather_20 : decode cX10_gather 20 = .ok (.ishr, 1) := by decide +kernel
theorem dX10_gather_21 : decode cX10_gather 21 = .ok (.i2b, 1) := by decide +kernel
theorem dX10_gather_22 : decode cX10_gather 22 = .ok (.bastore, 1) := by decide +kernel
theorem dX10_gather_23 : decode cX10_gather 23 = .ok (.aload_n 0, 1) := by decide +kernel
theorem dX10_gather_24 : decode cX10_gather 24 = .ok (.getfield 9, 3) := by decide +kernel
theorem dX10_gather_27 : decode cX10_gather 27 = .ok (.aload_n 0, 1) := by decide +kernel
theorem dX10_gather_28 : decode cX10_gather 28 = .ok (.getfield 33, 3) := by decide +kernel
theorem dX10_gather_31 : decode cX10_gather 31 = .ok (.iconst 1, 1) := by decide +kernel
theorem dX10_gather_32 : decode cX10_gather 32 = .ok (.iadd, 1) := by decide +kernel
theorem dX10_gather_33 : decode cX10_gather 33 = .ok (.iload_n 1, 1) := by decide +kernel
theorem dX10_gather_34 : decode cX10_gather 34 = .ok (.bipush 16, 2) := by decide +kernel
theorem dX10_gather_36 : decode cX10_gather 36 = .ok (.ishr, 1) := by decide +kernel
theorem dX10_gather_37 : decode cX10_gather 37 = .ok (.i2b, 1) := by decide +kernel
theorem dX10_gather_38 : decode cX10_gather 38 = .ok (.bastore, 1) := by decide +kernel
theorem dX10_gather_39 : decode cX10_gather 39 = .ok (.aload_n 0, 1) := by decide +kernel
theorem dX10_gather_40 : decode cX10_gather 40 = .ok (.getfield 9, 3) := by decide +kernel
theorem dX10_gather_43 : decode cX10_gather 43 = .ok (.aload_n 0, 1) := by decide +kernel
theorem dX10_gather_44 : decode cX10_gather 44 = .ok (.getfield 33, 3) := by decide +kernel
theorem dX10_gather_47 : decode cX10_gather 47 = .ok (.iconst 2, 1) := by decide +kernel
theorem dX10_gather_48 : decode cX10_gather 48 = .ok (.iadd, 1) := by decide +kernel
theorem dX10_gather_49 : decode cX10_gather 49 = .ok (.iload_n 1, 1) := by decide +kernel
theorem dX10_gather_50 : decode cX10_gather 50 = .ok (.bipush 8, 2) := by decide +kernel
theorem dX10_gather_52 : decode cX10_gather 52 = .ok (.ishr, 1) := by decide +kernel
theorem dX10_gather_53 : decode cX10_gather 53 = .ok (.i2b, 1) := by decide +kernel
theorem dX10_gather_54 : decode cX10_gather 54 = .ok (.bastore, 1) := by decide +kernel
theorem dX10_gather_55 : decode cX10_gather 55 = .ok (.aload_n 0, 1) := by decide +kernel
theorem dX10_gather_56 : decode cX10_gather 56 = .ok (.getfield 9, 3) := by decide +kernel
theorem dX10_gather_59 : decode cX10_gather 59 = .ok (.aload_n 0, 1) := by decide +kernel
theorem dX10_gather_60 : decode cX10_gather 60 = .ok (.getfield 33, 3) := by decide +kernel
theorem dX10_gather_63 : decode cX10_gather 63 = .ok (.iconst 3, 1) := by decide +kernel
theorem dX10_gather_64 : decode cX10_gather 64 = .ok (.iadd, 1) := by decide +kernel
theorem dX10_gather_65 : decode cX10_gather 65 = .ok (.iload_n 1, 1) := by decide +kernel
theorem dX10_gather_66 : decode cX10_gather 66 = .ok (.i2b, 1) := by decide +kernel
theorem dX10_gather_67 : decode cX10_gather 67 = .ok (.bastore, 1) := by decide +kernel
theorem dX10_gather_68 : decode cX10_gather 68 = .ok (.aload_n 0, 1) := by decide +kernel
theorem dX10_gather_69 : decode cX10_gather 69 = .ok (.dup, 1) := by decide +kernel
theorem dX10_gather_70 : decode cX10_gather 70 = .ok (.getfield 33, 3) := by decide +kernel
theorem dX10_gather_73 : decode cX10_gather 73 = .ok (.iconst 4, 1) := by decide +kernel
theorem dX10_gather_74 : decode cX10_gather 74 = .ok (.iadd, 1) := by decide +kernel
theorem dX10_gather_75 : decode cX10_gather 75 = .ok (.putfield 33, 3) := by decide +kernel
theorem dX10_gather_78 : decode cX10_gather 78 = .ok (.return_, 1) := by decide +kernel
theorem dX10_wholeName_0 : decode cX10_wholeName 0 = .ok (.aload_n 0, 1) := by decide +kernel
theorem dX10_wholeName_1 : decode cX10_wholeName 1 = .ok (.getfield 33, 3) := by decide +kernel
theorem dX10_wholeName_4 : decode cX10_wholeName 4 = .ok (.iconst 1, 1) := by decide +kernel
theorem dX10_wholeName_5 : decode cX10_wholeName 5 = .ok (.if_icmp .lt 12, 3) := by decide +kernel
theorem dX10_wholeName_8 : decode cX10_wholeName 8 = .ok (.aload_n 0, 1) := by decide +kernel
theorem dX10_wholeName_9 : decode cX10_wholeName 9 = .ok (.getfield 33, 3) := by decide +kernel
theorem dX10_wholeName_12 : decode cX10_wholeName 12 = .ok (.bipush 8, 2) := by decide +kernel
theorem dX10_wholeName_14 : decode cX10_wholeName 14 = .ok (.if_icmp .le 5, 3) := by decide +kernel
theorem dX10_wholeName_17 : decode cX10_wholeName 17 = .ok (.lconst 0, 1) := by decide +kernel
theorem dX10_wholeName_18 : decode cX10_wholeName 18 = .ok (.lreturn, 1) := by decide +kernel
theorem dX10_wholeName_19 : decode cX10_wholeName 19 = .ok (.lconst 0, 1) := by decide +kernel
theorem dX10_wholeName_20 : decode cX10_wholeName 20 = .ok (.lstore_n 1, 1) := by decide +kernel
theorem dX10_wholeName_21 : decode cX10_wholeName 21 = .ok (.iconst 0, 1) := by decide +kernel
theorem dX10_wholeName_22 : decode cX10_wholeName 22 = .ok (.istore_n 3, 1) := by decide +kernel
theorem dX10_wholeName_23 : decode cX10_wholeName 23 = .ok (.iload_n 3, 1) := by decide +kernel
theorem dX10_wholeName_24 : decode cX10_wholeName 24 = .ok (.aload_n 0, 1) := by decide +kernel
theorem dX10_wholeName_25 : decode cX10_wholeName 25 = .ok (.getfield 33, 3) := by decide +kernel
theorem dX10_wholeName_28 : decode cX10_wholeName 28 = .ok (.if_icmp .ge 34, 3) := by decide +kernel
theorem dX10_wholeName_31 : decode cX10_wholeName 31 = .ok (.aload_n 0, 1) := by decide +kernel
theorem dX10_wholeName_32 : decode cX10_wholeName 32 = .ok (.iload_n 3, 1) := by decide +kernel
theorem dX10_wholeName_33 : decode cX10_wholeName 33 = .ok (.invokevirtual 41, 3) := by decide +kernel
theorem dX10_wholeName_36 : decode cX10_wholeName 36 = .ok (.invokestatic 45, 3) := by decide +kernel
theorem dX10_wholeName_39 : decode cX10_wholeName 39 = .ok (.ifCond .ne 5, 3) := by decide +kernel
theorem dX10_wholeName_42 : decode cX10_wholeName 42 = .ok (.lconst 0, 1) := by decide +kernel
theorem dX10_wholeName_43 : decode cX10_wholeName 43 = .ok (.lreturn, 1) := by decide +kernel
theorem dX10_wholeName_44 : decode cX10_wholeName 44 = .ok (.lload_n 1, 1) := by decide +kernel
theorem dX10_wholeName_45 : decode cX10_wholeName 45 = .ok (.bipush 8, 2) := by decide +kernel
theorem dX10_wholeName_47 : decode cX10_wholeName 47 = .ok (.lshl, 1) := by decide +kernel
theorem dX10_wholeName_48 : decode cX10_wholeName 48 = .ok (.aload_n 0, 1) := by decide +kernel
theorem dX10_wholeName_49 : decode cX10_wholeName 49 = .ok (.iload_n 3, 1) := by decide +kernel
theorem dX10_wholeName_50 : decode cX10_wholeName 50 = .ok (.invokevirtual 41, 3) := by decide +kernel
theorem dX10_wholeName_53 : decode cX10_wholeName 53 = .ok (.i2l, 1) := by decide +kernel
theorem dX10_wholeName_54 : decode cX10_wholeName 54 = .ok (.lor, 1) := by decide +kernel
theorem dX10_wholeName_55 : decode cX10_wholeName 55 = .ok (.lstore_n 1, 1) := by decide +kernel
theorem dX10_wholeName_56 : decode cX10_wholeName 56 = .ok (.iinc 3 1, 3) := by decide +kernel
theorem dX10_wholeName_59 : decode cX10_wholeName 59 = .ok (.goto (-36), 3) := by decide +kernel
theorem dX10_wholeName_62 : decode cX10_wholeName 62 = .ok (.lload_n 1, 1) := by decide +kernel
theorem dX10_wholeName_63 : decode cX10_wholeName 63 = .ok (.lreturn, 1) := by decide +kernel
theorem dX10_note_0 : decode cX10_note 0 = .ok (.aload_n 0, 1) := by decide +kernel
theorem dX10_note_1 : decode cX10_note 1 = .ok (.getfield 48, 3) := by decide +kernel
theorem dX10_note_4 : decode cX10_note 4 = .ok (.ifCond .ne 13, 3) := by decide +kernel
theorem dX10_note_7 : decode cX10_note 7 = .ok (.aload_n 0, 1) := by decide +kernel
theorem dX10_note_8 : decode cX10_note 8 = .ok (.iload_n 1, 1) := by decide +kernel
theorem dX10_note_9 : decode cX10_note 9 = .ok (.putfield 48, 3) := by decide +kernel
theorem dX10_note_12 : decode cX10_note 12 = .ok (.aload_n 0, 1) := by decide +kernel
theorem dX10_note_13 : decode cX10_note 13 = .ok (.iload_n 2, 1) := by decide +kernel
theorem dX10_note_14 : decode cX10_note 14 = .ok (.putfield 51, 3) := by decide +kernel
theorem dX10_note_17 : decode cX10_note 17 = .ok (.return_, 1) := by decide +kernel
theorem dX10_rewind_0 : decode cX10_rewind 0 = .ok (.aload_n 0, 1) := by decide +kernel
theorem dX10_rewind_1 : decode cX10_rewind 1 = .ok (.iconst 0, 1) := by decide +kernel
theorem dX10_rewind_2 : decode cX10_rewind 2 = .ok (.putfield 54, 3) := by decide +kernel
theorem dX10_rewind_5 : decode cX10_rewind 5 = .ok (.return_, 1) := by decide +kernel
theorem dX10_isGrammatical_0 : decode cX10_isGrammatical 0 = .ok (.aload_n 0, 1) := by decide +kernel
theorem dX10_isGrammatical_1 : decode cX10_isGrammatical 1 = .ok (.iconst 0, 1) := by decide +kernel
theorem dX10_isGrammatical_2 : decode cX10_isGrammatical 2 = .ok (.putfield 48, 3) := by decide +kernel
theorem dX10_isGrammatical_5 : decode cX10_isGrammatical 5 = .ok (.aload_n 0, 1) := by decide +kernel
theorem dX10_isGrammatical_6 : decode cX10_isGrammatical 6 = .ok (.iconst 0, 1) := by decide +kernel
theorem dX10_isGrammatical_7 : decode cX10_isGrammatical 7 = .ok (.putfield 51, 3) := by decide +kernel
theorem dX10_isGrammatical_10 : decode cX10_isGrammatical 10 = .ok (.aload_n 0, 1) := by decide +kernel
theorem dX10_isGrammatical_11 : decode cX10_isGrammatical 11 = .ok (.iconst 0, 1) := by decide +kernel
theorem dX10_isGrammatical_12 : decode cX10_isGrammatical 12 = .ok (.putfield 57, 3) := by decide +kernel
theorem dX10_isGrammatical_15 : decode cX10_isGrammatical 15 = .ok (.aload_n 0, 1) := by decide +kernel
theorem dX10_isGrammatical_16 : decode cX10_isGrammatical 16 = .ok (.invokevirtual 60, 3) := by decide +kernel
theorem dX10_isGrammatical_19 : decode cX10_isGrammatical 19 = .ok (.iconst 0, 1) := by decide +kernel
theorem dX10_isGrammatical_20 : decode cX10_isGrammatical 20 = .ok (.istore_n 2, 1) := by decide +kernel
theorem dX10_isGrammatical_21 : decode cX10_isGrammatical 21 = .ok (.iload_n 2, 1) := by decide +kernel
theorem dX10_isGrammatical_22 : decode cX10_isGrammatical 22 = .ok (.sipush 4000, 3) := by decide +kernel
theorem dX10_isGrammatical_25 : decode cX10_isGrammatical 25 = .ok (.if_icmp .ge 63, 3) := by decide +kernel
theorem dX10_isGrammatical_28 : decode cX10_isGrammatical 28 = .ok (.aload_n 0, 1) := by decide +kernel
theorem dX10_isGrammatical_29 : decode cX10_isGrammatical 29 = .ok (.aload_n 1, 1) := by decide +kernel
theorem dX10_isGrammatical_30 : decode cX10_isGrammatical 30 = .ok (.invokevirtual 63, 3) := by decide +kernel
theorem dX10_isGrammatical_33 : decode cX10_isGrammatical 33 = .ok (.ifCond .eq 55, 3) := by decide +kernel
theorem dX10_isGrammatical_36 : decode cX10_isGrammatical 36 = .ok (.aload_n 0, 1) := by decide +kernel
theorem dX10_isGrammatical_37 : decode cX10_isGrammatical 37 = .ok (.getfield 13, 3) := by decide +kernel
theorem dX10_isGrammatical_40 : decode cX10_isGrammatical 40 = .ok (.iconst 0, 1) := by decide +kernel
theorem dX10_isGrammatical_41 : decode cX10_isGrammatical 41 = .ok (.iaload, 1) := by decide +kernel
theorem dX10_isGrammatical_42 : decode cX10_isGrammatical 42 = .ok (.bipush 67, 2) := by decide +kernel
theorem dX10_isGrammatical_44 : decode cX10_isGrammatical 44 = .ok (.if_icmp .ne 38, 3) := by decide +kernel
theorem dX10_isGrammatical_47 : decode cX10_isGrammatical 47 = .ok (.aload_n 0, 1) := by decide +kernel
theorem dX10_isGrammatical_48 : decode cX10_isGrammatical 48 = .ok (.getfield 57, 3) := by decide +kernel
theorem dX10_isGrammatical_51 : decode cX10_isGrammatical 51 = .ok (.sipush 450, 3) := by decide +kernel
theorem dX10_isGrammatical_54 : decode cX10_isGrammatical 54 = .ok (.if_icmp .ge 28, 3) := by decide +kernel
theorem dX10_isGrammatical_57 : decode cX10_isGrammatical 57 = .ok (.aload_n 0, 1) := by decide +kernel
theorem dX10_isGrammatical_58 : decode cX10_isGrammatical 58 = .ok (.getfield 30, 3) := by decide +kernel
theorem dX10_isGrammatical_61 : decode cX10_isGrammatical 61 = .ok (.aload_n 0, 1) := by decide +kernel
theorem dX10_isGrammatical_62 : decode cX10_isGrammatical 62 = .ok (.getfield 57, 3) := by decide +kernel
theorem dX10_isGrammatical_65 : decode cX10_isGrammatical 65 = .ok (.aload_n 0, 1) := by decide +kernel
theorem dX10_isGrammatical_66 : decode cX10_isGrammatical 66 = .ok (.getfield 20, 3) := by decide +kernel
theorem dX10_isGrammatical_69 : decode cX10_isGrammatical 69 = .ok (.iconst 0, 1) := by decide +kernel
theorem dX10_isGrammatical_70 : decode cX10_isGrammatical 70 = .ok (.laload, 1) := by decide +kernel
theorem dX10_isGrammatical_71 : decode cX10_isGrammatical 71 = .ok (.lastore, 1) := by decide +kernel
theorem dX10_isGrammatical_72 : decode cX10_isGrammatical 72 = .ok (.aload_n 0, 1) := by decide +kernel
theorem dX10_isGrammatical_73 : decode cX10_isGrammatical 73 = .ok (.dup, 1) := by decide +kernel
theorem dX10_isGrammatical_74 : decode cX10_isGrammatical 74 = .ok (.getfield 57, 3) := by decide +kernel
theorem dX10_isGrammatical_77 : decode cX10_isGrammatical 77 = .ok (.iconst 1, 1) := by decide +kernel
theorem dX10_isGrammatical_78 : decode cX10_isGrammatical 78 = .ok (.iadd, 1) := by decide +kernel
theorem dX10_isGrammatical_79 : decode cX10_isGrammatical 79 = .ok (.putfield 57, 3) := by decide +kernel
theorem dX10_isGrammatical_82 : decode cX10_isGrammatical 82 = .ok (.iinc 2 1, 3) := by decide +kernel
theorem dX10_isGrammatical_85 : decode cX10_isGrammatical 85 = .ok (.goto (-64), 3) := by decide +kernel
theorem dX10_isGrammatical_88 : decode cX10_isGrammatical 88 = .ok (.aload_n 0, 1) := by decide +kernel
theorem dX10_isGrammatical_89 : decode cX10_isGrammatical 89 = .ok (.invokevirtual 60, 3) := by decide +kernel
theorem dX10_isGrammatical_92 : decode cX10_isGrammatical 92 = .ok (.aload_n 0, 1) := by decide +kernel
theorem dX10_isGrammatical_93 : decode cX10_isGrammatical 93 = .ok (.getfield 48, 3) := by decide +kernel
theorem dX10_isGrammatical_96 : decode cX10_isGrammatical 96 = .ok (.ifCond .ne 7, 3) := by decide +kernel
theorem dX10_isGrammatical_99 : decode cX10_isGrammatical 99 = .ok (.iconst 1, 1) := by decide +kernel
theorem dX10_isGrammatical_100 : decode cX10_isGrammatical 100 = .ok (.goto 4, 3) := by decide +kernel
theorem dX10_isGrammatical_103 : decode cX10_isGrammatical 103 = .ok (.iconst 0, 1) := by decide +kernel
theorem dX10_isGrammatical_104 : decode cX10_isGrammatical 104 = .ok (.ireturn, 1) := by decide +kernel
theorem dX10_tellerOf_0 : decode cX10_tellerOf 0 = .ok (.iconst 0, 1) := by decide +kernel
theorem dX10_tellerOf_1 : decode cX10_tellerOf 1 = .ok (.istore_n 3, 1) := by decide +kernel
theorem dX10_tellerOf_2 : decode cX10_tellerOf 2 = .ok (.iload_n 3, 1) := by decide +kernel
theorem dX10_tellerOf_3 : decode cX10_tellerOf 3 = .ok (.aload_n 0, 1) := by decide +kernel
theorem dX10_tellerOf_4 : decode cX10_tellerOf 4 = .ok (.getfield 57, 3) := by decide +kernel
theorem dX10_tellerOf_7 : decode cX10_tellerOf 7 = .ok (.if_icmp .ge 22, 3) := by decide +kernel
theorem dX10_tellerOf_10 : decode cX10_tellerOf 10 = .ok (.aload_n 0, 1) := by decide +kernel
theorem dX10_tellerOf_11 : decode cX10_tellerOf 11 = .ok (.getfield 30, 3) := by decide +kernel
theorem dX10_tellerOf_14 : decode cX10_tellerOf 14 = .ok (.iload_n 3, 1) := by decide +kernel
theorem dX10_tellerOf_15 : decode cX10_tellerOf 15 = .ok (.laload, 1) := by decide +kernel
theorem dX10_tellerOf_16 : decode cX10_tellerOf 16 = .ok (.lload_n 1, 1) := by decide +kernel
theorem dX10_tellerOf_17 : decode cX10_tellerOf 17 = .ok (.lcmp, 1) := by decide +kernel
theorem dX10_tellerOf_18 : decode cX10_tellerOf 18 = .ok (.ifCond .ne 5, 3) := by decide +kernel
theorem dX10_tellerOf_21 : decode cX10_tellerOf 21 = .ok (.iload_n 3, 1) := by decide +kernel
theorem dX10_tellerOf_22 : decode cX10_tellerOf 22 = .ok (.ireturn, 1) := by decide +kernel
theorem dX10_tellerOf_23 : decode cX10_tellerOf 23 = .ok (.iinc 3 1, 3) := by decide +kernel
theorem dX10_tellerOf_26 : decode cX10_tellerOf 26 = .ok (.goto (-24), 3) := by decide +kernel
theorem dX10_tellerOf_29 : decode cX10_tellerOf 29 = .ok (.iconst (-1), 1) := by decide +kernel
theorem dX10_tellerOf_30 : decode cX10_tellerOf 30 = .ok (.ireturn, 1) := by decide +kernel
theorem dX10_hasStatement_0 : decode cX10_hasStatement 0 = .ok (.aload_n 0, 1) := by decide +kernel
theorem dX10_hasStatement_1 : decode cX10_hasStatement 1 = .ok (.invokevirtual 67, 3) := by decide +kernel
theorem dX10_hasStatement_4 : decode cX10_hasStatement 4 = .ok (.aload_n 0, 1) := by decide +kernel
theorem dX10_hasStatement_5 : decode cX10_hasStatement 5 = .ok (.aload_n 0, 1) := by decide +kernel
theorem dX10_hasStatement_6 : decode cX10_hasStatement 6 = .ok (.getfield 70, 3) := by decide +kernel
theorem dX10_hasStatement_9 : decode cX10_hasStatement 9 = .ok (.putfield 73, 3) := by decide +kernel
theorem dX10_hasStatement_12 : decode cX10_hasStatement 12 = .ok (.aload_n 0, 1) := by decide +kernel
theorem dX10_hasStatement_13 : decode cX10_hasStatement 13 = .ok (.getfield 76, 3) := by decide +kernel
theorem dX10_hasStatement_16 : decode cX10_hasStatement 16 = .ok (.ifCond .ne 5, 3) := by decide +kernel
theorem dX10_hasStatement_19 : decode cX10_hasStatement 19 = .ok (.iconst 0, 1) := by decide +kernel
theorem dX10_hasStatement_20 : decode cX10_hasStatement 20 = .ok (.ireturn, 1) := by decide +kernel
theorem dX10_hasStatement_21 : decode cX10_hasStatement 21 = .ok (.aload_n 0, 1) := by decide +kernel
theorem dX10_hasStatement_22 : decode cX10_hasStatement 22 = .ok (.getfield 76, 3) := by decide +kernel
theorem dX10_hasStatement_25 : decode cX10_hasStatement 25 = .ok (.iconst 2, 1) := by decide +kernel
theorem dX10_hasStatement_26 : decode cX10_hasStatement 26 = .ok (.if_icmp .ne 11, 3) := by decide +kernel
theorem dX10_hasStatement_29 : decode cX10_hasStatement 29 = .ok (.aload_n 0, 1) := by decide +kernel
theorem dX10_hasStatement_30 : decode cX10_hasStatement 30 = .ok (.aload_n 1, 1) := by decide +kernel
theorem dX10_hasStatement_31 : decode cX10_hasStatement 31 = .ok (.invokevirtual 79, 3) := by decide +kernel
theorem dX10_hasStatement_34 : decode cX10_hasStatement 34 = .ok (.goto 4, 3) := by decide +kernel
theorem dX10_hasStatement_37 : decode cX10_hasStatement 37 = .ok (.iconst (-1), 1) := by decide +kernel
theorem dX10_hasStatement_38 : decode cX10_hasStatement 38 = .ok (.istore_n 2, 1) := by decide +kernel
theorem dX10_hasStatement_39 : decode cX10_hasStatement 39 = .ok (.iload_n 2, 1) := by decide +kernel
theorem dX10_hasStatement_40 : decode cX10_hasStatement 40 = .ok (.ifCond .ge 14, 3) := by decide +kernel
theorem dX10_hasStatement_43 : decode cX10_hasStatement 43 = .ok (.aload_n 0, 1) := by decide +kernel
theorem dX10_hasStatement_44 : decode cX10_hasStatement 44 = .ok (.iconst 1, 1) := by decide +kernel
theorem dX10_hasStatement_45 : decode cX10_hasStatement 45 = .ok (.aload_n 0, 1) := by decide +kernel
theorem dX10_hasStatement_46 : decode cX10_hasStatement 46 = .ok (.getfield 70, 3) := by decide +kernel
theorem dX10_hasStatement_49 : decode cX10_hasStatement 49 = .ok (.invokevirtual 83, 3) := by decide +kernel
theorem dX10_hasStatement_52 : decode cX10_hasStatement 52 = .ok (.iconst 0, 1) := by decide +kernel
theorem dX10_hasStatement_53 : decode cX10_hasStatement 53 = .ok (.ireturn, 1) := by decide +kernel
theorem dX10_hasStatement_54 : decode cX10_hasStatement 54 = .ok (.aload_n 0, 1) := by decide +kernel
theorem dX10_hasStatement_55 : decode cX10_hasStatement 55 = .ok (.iconst 0, 1) := by decide +kernel
theorem dX10_hasStatement_56 : decode cX10_hasStatement 56 = .ok (.putfield 87, 3) := by decide +kernel
theorem dX10_hasStatement_59 : decode cX10_hasStatement 59 = .ok (.iload_n 2, 1) := by decide +kernel
theorem dX10_hasStatement_60 : decode cX10_hasStatement 60 = .ok (.aload_n 1, 1) := by decide +kernel
theorem dX10_hasStatement_61 : decode cX10_hasStatement 61 = .ok (.invokevirtual 90, 3) := by decide +kernel
theorem dX10_hasStatement_64 : decode cX10_hasStatement 64 = .ok (.if_icmp .ge 64, 3) := by decide +kernel
theorem dX10_hasStatement_67 : decode cX10_hasStatement 67 = .ok (.aload_n 1, 1) := by decide +kernel
theorem dX10_hasStatement_68 : decode cX10_hasStatement 68 = .ok (.iload_n 2, 1) := by decide +kernel
theorem dX10_hasStatement_69 : decode cX10_hasStatement 69 = .ok (.invokevirtual 95, 3) := by decide +kernel
theorem dX10_hasStatement_72 : decode cX10_hasStatement 72 = .ok (.bipush 59, 2) := by decide +kernel
theorem dX10_hasStatement_74 : decode cX10_hasStatement 74 = .ok (.if_icmp .eq 54, 3) := by decide +kernel
theorem dX10_hasStatement_77 : decode cX10_hasStatement 77 = .ok (.aload_n 0, 1) := by decide +kernel
theorem dX10_hasStatement_78 : decode cX10_hasStatement 78 = .ok (.getfield 87, 3) := by decide +kernel
theorem dX10_hasStatement_81 : decode cX10_hasStatement 81 = .ok (.bipush 6, 2) := by decide +kernel
theorem dX10_hasStatement_83 : decode cX10_hasStatement 83 = .ok (.if_icmp .ge 45, 3) := by decide +kernel
theorem dX10_hasStatement_86 : decode cX10_hasStatement 86 = .ok (.aload_n 0, 1) := by decide +kernel
theorem dX10_hasStatement_87 : decode cX10_hasStatement 87 = .ok (.invokevirtual 67, 3) := by decide +kernel
theorem dX10_hasStatement_90 : decode cX10_hasStatement 90 = .ok (.aload_n 0, 1) := by decide +kernel
theorem dX10_hasStatement_91 : decode cX10_hasStatement 91 = .ok (.aload_n 1, 1) := by decide +kernel
theorem dX10_hasStatement_92 : decode cX10_hasStatement 92 = .ok (.iload_n 2, 1) := by decide +kernel
theorem dX10_hasStatement_93 : decode cX10_hasStatement 93 = .ok (.invokevirtual 95, 3) := by decide +kernel
theorem dX10_hasStatement_96 : decode cX10_hasStatement 96 = .ok (.invokevirtual 99, 3) := by decide +kernel
theorem dX10_hasStatement_99 : decode cX10_hasStatement 99 = .ok (.ifCond .ne 14, 3) := by decide +kernel
theorem dX10_hasStatement_102 : decode cX10_hasStatement 102 = .ok (.aload_n 0, 1) := by decide +kernel
theorem dX10_hasStatement_103 : decode cX10_hasStatement 103 = .ok (.iconst 1, 1) := by decide +kernel
theorem dX10_hasStatement_104 : decode cX10_hasStatement 104 = .ok (.aload_n 0, 1) := by decide +kernel
theorem dX10_hasStatement_105 : decode cX10_hasStatement 105 = .ok (.getfield 70, 3) := by decide +kernel
theorem dX10_hasStatement_108 : decode cX10_hasStatement 108 = .ok (.invokevirtual 83, 3) := by decide +kernel
theorem dX10_hasStatement_111 : decode cX10_hasStatement 111 = .ok (.iconst 0, 1) := by decide +kernel
theorem dX10_hasStatement_112 : decode cX10_hasStatement 112 = .ok (.ireturn, 1) := by decide +kernel
theorem dX10_hasStatement_113 : decode cX10_hasStatement 113 = .ok (.aload_n 0, 1) := by decide +kernel
theorem dX10_hasStatement_114 : decode cX10_hasStatement 114 = .ok (.aload_n 1, 1) := by decide +kernel
theorem dX10_hasStatement_115 : decode cX10_hasStatement 115 = .ok (.iload_n 2, 1) := by decide +kernel
theorem dX10_hasStatement_116 : decode cX10_hasStatement 116 = .ok (.invokevirtual 95, 3) := by decide +kernel
theorem dX10_hasStatement_119 : decode cX10_hasStatement 119 = .ok (.invokevirtual 103, 3) := by decide +kernel
theorem dX10_hasStatement_122 : decode cX10_hasStatement 122 = .ok (.iinc 2 1, 3) := by decide +kernel
theorem dX10_hasStatement_125 : decode cX10_hasStatement 125 = .ok (.goto (-66), 3) := by decide +kernel
theorem dX10_hasStatement_128 : decode cX10_hasStatement 128 = .ok (.aload_n 0, 1) := by decide +kernel
theorem dX10_hasStatement_129 : decode cX10_hasStatement 129 = .ok (.invokevirtual 67, 3) := by decide +kernel
theorem dX10_hasStatement_132 : decode cX10_hasStatement 132 = .ok (.aload_n 0, 1) := by decide +kernel
theorem dX10_hasStatement_133 : decode cX10_hasStatement 133 = .ok (.getfield 76, 3) := by decide +kernel
theorem dX10_hasStatement_136 : decode cX10_hasStatement 136 = .ok (.bipush 59, 2) := by decide +kernel
theorem dX10_hasStatement_138 : decode cX10_hasStatement 138 = .ok (.if_icmp .eq 14, 3) := by decide +kernel
theorem dX10_hasStatement_141 : decode cX10_hasStatement 141 = .ok (.aload_n 0, 1) := by decide +kernel
theorem dX10_hasStatement_142 : decode cX10_hasStatement 142 = .ok (.iconst 1, 1) := by decide +kernel
theorem dX10_hasStatement_143 : decode cX10_hasStatement 143 = .ok (.aload_n 0, 1) := by decide +kernel
theorem dX10_hasStatement_144 : decode cX10_hasStatement 144 = .ok (.getfield 70, 3) := by decide +kernel
theorem dX10_hasStatement_147 : decode cX10_hasStatement 147 = .ok (.invokevirtual 83, 3) := by decide +kernel
theorem dX10_hasStatement_150 : decode cX10_hasStatement 150 = .ok (.iconst 0, 1) := by decide +kernel
theorem dX10_hasStatement_151 : decode cX10_hasStatement 151 = .ok (.ireturn, 1) := by decide +kernel
theorem dX10_hasStatement_152 : decode cX10_hasStatement 152 = .ok (.iconst 1, 1) := by decide +kernel
theorem dX10_hasStatement_153 : decode cX10_hasStatement 153 = .ok (.ireturn, 1) := by decide +kernel
theorem dX10_findForm_0 : decode cX10_findForm 0 = .ok (.lconst 0, 1) := by decide +kernel
theorem dX10_findForm_1 : decode cX10_findForm 1 = .ok (.lstore_n 2, 1) := by decide +kernel
theorem dX10_findForm_2 : decode cX10_findForm 2 = .ok (.aload_n 0, 1) := by decide +kernel
theorem dX10_findForm_3 : decode cX10_findForm 3 = .ok (.iconst 0, 1) := by decide +kernel
theorem dX10_findForm_4 : decode cX10_findForm 4 = .ok (.putfield 107, 3) := by decide +kernel
theorem dX10_findForm_7 : decode cX10_findForm 7 = .ok (.iconst 0, 1) := by decide +kernel
theorem dX10_findForm_8 : decode cX10_findForm 8 = .ok (.istore 4, 2) := by decide +kernel
theorem dX10_findForm_10 : decode cX10_findForm 10 = .ok (.iload 4, 2) := by decide +kernel
theorem dX10_findForm_12 : decode cX10_findForm 12 = .ok (.aload_n 1, 1) := by decide +kernel
theorem dX10_findForm_13 : decode cX10_findForm 13 = .ok (.invokevirtual 90, 3) := by decide +kernel
theorem dX10_findForm_16 : decode cX10_findForm 16 = .ok (.if_icmp .ge 72, 3) := by decide +kernel
theorem dX10_findForm_19 : decode cX10_findForm 19 = .ok (.aload_n 1, 1) := by decide +kernel
theorem dX10_findForm_20 : decode cX10_findForm 20 = .ok (.iload 4, 2) := by decide +kernel
theorem dX10_findForm_22 : decode cX10_findForm 22 = .ok (.invokevirtual 95, 3) := by decide +kernel
theorem dX10_findForm_25 : decode cX10_findForm 25 = .ok (.istore 5, 2) := by decide +kernel
theorem dX10_findForm_27 : decode cX10_findForm 27 = .ok (.iload 5, 2) := by decide +kernel
theorem dX10_findForm_29 : decode cX10_findForm 29 = .ok (.bipush 59, 2) := by decide +kernel
theorem dX10_findForm_31 : decode cX10_findForm 31 = .ok (.if_icmp .ne 18, 3) := by decide +kernel
theorem dX10_findForm_34 : decode cX10_findForm 34 = .ok (.aload_n 0, 1) := by decide +kernel
theorem dX10_findForm_35 : decode cX10_findForm 35 = .ok (.dup, 1) := by decide +kernel
theorem dX10_findForm_36 : decode cX10_findForm 36 = .ok (.getfield 107, 3) := by decide +kernel
theorem dX10_findForm_39 : decode cX10_findForm 39 = .ok (.iconst 1, 1) := by decide +kernel
theorem dX10_findForm_40 : decode cX10_findForm 40 = .ok (.iadd, 1) := by decide +kernel
theorem dX10_findForm_41 : decode cX10_findForm 41 = .ok (.putfield 107, 3) := by decide +kernel
theorem dX10_findForm_44 : decode cX10_findForm 44 = .ok (.lconst 0, 1) := by decide +kernel
theorem dX10_findForm_45 : decode cX10_findForm 45 = .ok (.lstore_n 2, 1) := by decide +kernel
theorem dX10_findForm_46 : decode cX10_findForm 46 = .ok (.goto 36, 3) := by decide +kernel
theorem dX10_findForm_49 : decode cX10_findForm 49 = .ok (.iload 5, 2) := by decide +kernel
theorem dX10_findForm_51 : decode cX10_findForm 51 = .ok (.bipush 32, 2) := by decide +kernel
theorem dX10_findForm_53 : decode cX10_findForm 53 = .ok (.if_icmp .eq 15, 3) := by decide +kernel
theorem dX10_findForm_56 : decode cX10_findForm 56 = .ok (.lload_n 2, 1) := by decide +kernel
theorem dX10_findForm_57 : decode cX10_findForm 57 = .ok (.bipush 8, 2) := by decide +kernel
theorem dX10_findForm_59 : decode cX10_findForm 59 = .ok (.lshl, 1) := by decide +kernel
theorem dX10_findForm_60 : decode cX10_findForm 60 = .ok (.iload 5, 2) := by decide +kernel
theorem dX10_findForm_62 : decode cX10_findForm 62 = .ok (.i2l, 1) := by decide +kernel
theorem dX10_findForm_63 : decode cX10_findForm 63 = .ok (.lor, 1) := by decide +kernel
theorem dX10_findForm_64 : decode cX10_findForm 64 = .ok (.lstore_n 2, 1) := by decide +kernel
theorem dX10_findForm_65 : decode cX10_findForm 65 = .ok (.goto 17, 3) := by decide +kernel
theorem dX10_findForm_68 : decode cX10_findForm 68 = .ok (.lload_n 2, 1) := by decide +kernel
theorem dX10_findForm_69 : decode cX10_findForm 69 = .ok (.aload_n 0, 1) := by decide +kernel
theorem dX10_findForm_70 : decode cX10_findForm 70 = .ok (.getfield 110, 3) := by decide +kernel
theorem dX10_findForm_73 : decode cX10_findForm 73 = .ok (.lcmp, 1) := by decide +kernel
theorem dX10_findForm_74 : decode cX10_findForm 74 = .ok (.ifCond .ne 8, 3) := by decide +kernel
theorem dX10_findForm_77 : decode cX10_findForm 77 = .ok (.iload 4, 2) := by decide +kernel
theorem dX10_findForm_79 : decode cX10_findForm 79 = .ok (.iconst 1, 1) := by decide +kernel
theorem dX10_findForm_80 : decode cX10_findForm 80 = .ok (.iadd, 1) := by decide +kernel
theorem dX10_findForm_81 : decode cX10_findForm 81 = .ok (.ireturn, 1) := by decide +kernel
theorem dX10_findForm_82 : decode cX10_findForm 82 = .ok (.iinc 4 1, 3) := by decide +kernel
theorem dX10_findForm_85 : decode cX10_findForm 85 = .ok (.goto (-75), 3) := by decide +kernel
theorem dX10_findForm_88 : decode cX10_findForm 88 = .ok (.iconst (-1), 1) := by decide +kernel
theorem dX10_findForm_89 : decode cX10_findForm 89 = .ok (.ireturn, 1) := by decide +kernel
theorem dX10_fits_0 : decode cX10_fits 0 = .ok (.iload_n 1, 1) := by decide +kernel
theorem dX10_fits_1 : decode cX10_fits 1 = .ok (.lookupswitch 114 #[(67, 43), (68, 90), (80, 43), (83, 57)], 43) := by decide +kernel
theorem dX10_fits_44 : decode cX10_fits 44 = .ok (.aload_n 0, 1) := by decide +kernel
theorem dX10_fits_45 : decode cX10_fits 45 = .ok (.getfield 76, 3) := by decide +kernel
theorem dX10_fits_48 : decode cX10_fits 48 = .ok (.iconst 2, 1) := by decide +kernel
theorem dX10_fits_49 : decode cX10_fits 49 = .ok (.if_icmp .ne 7, 3) := by decide +kernel
theorem dX10_fits_52 : decode cX10_fits 52 = .ok (.iconst 1, 1) := by decide +kernel
theorem dX10_fits_53 : decode cX10_fits 53 = .ok (.goto 4, 3) := by decide +kernel
theorem dX10_fits_56 : decode cX10_fits 56 = .ok (.iconst 0, 1) := by decide +kernel
theorem dX10_fits_57 : decode cX10_fits 57 = .ok (.ireturn, 1) := by decide +kernel
theorem dX10_fits_58 : decode cX10_fits 58 = .ok (.aload_n 0, 1) := by decide +kernel
theorem dX10_fits_59 : decode cX10_fits 59 = .ok (.getfield 76, 3) := by decide +kernel
theorem dX10_fits_62 : decode cX10_fits 62 = .ok (.bipush 43, 2) := by decide +kernel
theorem dX10_fits_64 : decode cX10_fits 64 = .ok (.if_icmp .eq 21, 3) := by decide +kernel
theorem dX10_fits_67 : decode cX10_fits 67 = .ok (.aload_n 0, 1) := by decide +kernel
theorem dX10_fits_68 : decode cX10_fits 68 = .ok (.getfield 76, 3) := by decide +kernel
theorem dX10_fits_71 : decode cX10_fits 71 = .ok (.bipush 45, 2) := by decide +kernel
theorem dX10_fits_73 : decode cX10_fits 73 = .ok (.if_icmp .eq 12, 3) := by decide +kernel
theorem dX10_fits_76 : decode cX10_fits 76 = .ok (.aload_n 0, 1) := by decide +kernel
theorem dX10_fits_77 : decode cX10_fits 77 = .ok (.getfield 76, 3) := by decide +kernel
theorem dX10_fits_80 : decode cX10_fits 80 = .ok (.bipush 63, 2) := by decide +kernel
theorem dX10_fits_82 : decode cX10_fits 82 = .ok (.if_icmp .ne 7, 3) := by decide +kernel
theorem dX10_fits_85 : decode cX10_fits 85 = .ok (.iconst 1, 1) := by decide +kernel
theorem dX10_fits_86 : decode cX10_fits 86 = .ok (.goto 4, 3) := by decide +kernel
theorem dX10_fits_89 : decode cX10_fits 89 = .ok (.iconst 0, 1) := by decide +kernel
theorem dX10_fits_90 : decode cX10_fits 90 = .ok (.ireturn, 1) := by decide +kernel
theorem dX10_fits_91 : decode cX10_fits 91 = .ok (.aload_n 0, 1) := by decide +kernel
theorem dX10_fits_92 : decode cX10_fits 92 = .ok (.getfield 76, 3) := by decide +kernel
theorem dX10_fits_95 : decode cX10_fits 95 = .ok (.bipush 43, 2) := by decide +kernel
theorem dX10_fits_97 : decode cX10_fits 97 = .ok (.if_icmp .eq 12, 3) := by decide +kernel
theorem dX10_fits_100 : decode cX10_fits 100 = .ok (.aload_n 0, 1) := by decide +kernel
theorem dX10_fits_101 : decode cX10_fits 101 = .ok (.getfield 76, 3) := by decide +kernel
theorem dX10_fits_104 : decode cX10_fits 104 = .ok (.bipush 45, 2) := by decide +kernel
theorem dX10_fits_106 : decode cX10_fits 106 = .ok (.if_icmp .ne 7, 3) := by decide +kernel
theorem dX10_fits_109 : decode cX10_fits 109 = .ok (.iconst 1, 1) := by decide +kernel
theorem dX10_fits_110 : decode cX10_fits 110 = .ok (.goto 4, 3) := by decide +kernel
theorem dX10_fits_113 : decode cX10_fits 113 = .ok (.iconst 0, 1) := by decide +kernel
theorem dX10_fits_114 : decode cX10_fits 114 = .ok (.ireturn, 1) := by decide +kernel
theorem dX10_fits_115 : decode cX10_fits 115 = .ok (.aload_n 0, 1) := by decide +kernel
theorem dX10_fits_116 : decode cX10_fits 116 = .ok (.getfield 76, 3) := by decide +kernel
theorem dX10_fits_119 : decode cX10_fits 119 = .ok (.iconst 3, 1) := by decide +kernel
theorem dX10_fits_120 : decode cX10_fits 120 = .ok (.if_icmp .ne 7, 3) := by decide +kernel
theorem dX10_fits_123 : decode cX10_fits 123 = .ok (.iconst 1, 1) := by decide +kernel
theorem dX10_fits_124 : decode cX10_fits 124 = .ok (.goto 4, 3) := by decide +kernel
theorem dX10_fits_127 : decode cX10_fits 127 = .ok (.iconst 0, 1) := by decide +kernel
theorem dX10_fits_128 : decode cX10_fits 128 = .ok (.ireturn, 1) := by decide +kernel
theorem dX10_keepPart_0 : decode cX10_keepPart 0 = .ok (.aload_n 0, 1) := by decide +kernel
theorem dX10_keepPart_1 : decode cX10_keepPart 1 = .ok (.getfield 13, 3) := by decide +kernel
theorem dX10_keepPart_4 : decode cX10_keepPart 4 = .ok (.aload_n 0, 1) := by decide +kernel
theorem dX10_keepPart_5 : decode cX10_keepPart 5 = .ok (.getfield 87, 3) := by decide +kernel
theorem dX10_keepPart_8 : decode cX10_keepPart 8 = .ok (.iload_n 1, 1) := by decide +kernel
theorem dX10_keepPart_9 : decode cX10_keepPart 9 = .ok (.iastore, 1) := by decide +kernel
theorem dX10_keepPart_10 : decode cX10_keepPart 10 = .ok (.aload_n 0, 1) := by decide +kernel
theorem dX10_keepPart_11 : decode cX10_keepPart 11 = .ok (.getfield 17, 3) := by decide +kernel
theorem dX10_keepPart_14 : decode cX10_keepPart 14 = .ok (.aload_n 0, 1) := by decide +kernel
theorem dX10_keepPart_15 : decode cX10_keepPart 15 = .ok (.getfield 87, 3) := by decide +kernel
theorem dX10_keepPart_18 : decode cX10_keepPart 18 = .ok (.aload_n 0, 1) := by decide +kernel
theorem dX10_keepPart_19 : decode cX10_keepPart 19 = .ok (.getfield 70, 3) := by decide +kernel
theorem dX10_keepPart_22 : decode cX10_keepPart 22 = .ok (.iastore, 1) := by decide +kernel
theorem dX10_keepPart_23 : decode cX10_keepPart 23 = .ok (.aload_n 0, 1) := by decide +kernel
theorem dX10_keepPart_24 : decode cX10_keepPart 24 = .ok (.getfield 20, 3) := by decide +kernel
theorem dX10_keepPart_27 : decode cX10_keepPart 27 = .ok (.aload_n 0, 1) := by decide +kernel
theorem dX10_keepPart_28 : decode cX10_keepPart 28 = .ok (.getfield 87, 3) := by decide +kernel
theorem dX10_keepPart_31 : decode cX10_keepPart 31 = .ok (.aload_n 0, 1) := by decide +kernel
theorem dX10_keepPart_32 : decode cX10_keepPart 32 = .ok (.getfield 110, 3) := by decide +kernel
theorem dX10_keepPart_35 : decode cX10_keepPart 35 = .ok (.lastore, 1) := by decide +kernel
theorem dX10_keepPart_36 : decode cX10_keepPart 36 = .ok (.aload_n 0, 1) := by decide +kernel
theorem dX10_keepPart_37 : decode cX10_keepPart 37 = .ok (.getfield 24, 3) := by decide +kernel
theorem dX10_keepPart_40 : decode cX10_keepPart 40 = .ok (.aload_n 0, 1) := by decide +kernel
theorem dX10_keepPart_41 : decode cX10_keepPart 41 = .ok (.getfield 87, 3) := by decide +kernel
theorem dX10_keepPart_44 : decode cX10_keepPart 44 = .ok (.aload_n 0, 1) := by decide +kernel
theorem dX10_keepPart_45 : decode cX10_keepPart 45 = .ok (.getfield 76, 3) := by decide +kernel
theorem dX10_keepPart_48 : decode cX10_keepPart 48 = .ok (.iconst 3, 1) := by decide +kernel
theorem dX10_keepPart_49 : decode cX10_keepPart 49 = .ok (.if_icmp .ne 10, 3) := by decide +kernel
theorem dX10_keepPart_52 : decode cX10_keepPart 52 = .ok (.aload_n 0, 1) := by decide +kernel
theorem dX10_keepPart_53 : decode cX10_keepPart 53 = .ok (.getfield 114, 3) := by decide +kernel
theorem dX10_keepPart_56 : decode cX10_keepPart 56 = .ok (.goto 7, 3) := by decide +kernel
theorem dX10_keepPart_59 : decode cX10_keepPart 59 = .ok (.aload_n 0, 1) := by decide +kernel
theorem dX10_keepPart_60 : decode cX10_keepPart 60 = .ok (.getfield 76, 3) := by decide +kernel
theorem dX10_keepPart_63 : decode cX10_keepPart 63 = .ok (.iastore, 1) := by decide +kernel
theorem dX10_keepPart_64 : decode cX10_keepPart 64 = .ok (.aload_n 0, 1) := by decide +kernel
theorem dX10_keepPart_65 : decode cX10_keepPart 65 = .ok (.getfield 27, 3) := by decide +kernel
theorem dX10_keepPart_68 : decode cX10_keepPart 68 = .ok (.aload_n 0, 1) := by decide +kernel
theorem dX10_keepPart_69 : decode cX10_keepPart 69 = .ok (.getfield 87, 3) := by decide +kernel
theorem dX10_keepPart_72 : decode cX10_keepPart 72 = .ok (.aload_n 0, 1) := by decide +kernel
theorem dX10_keepPart_73 : decode cX10_keepPart 73 = .ok (.getfield 117, 3) := by decide +kernel
theorem dX10_keepPart_76 : decode cX10_keepPart 76 = .ok (.iastore, 1) := by decide +kernel
theorem dX10_keepPart_77 : decode cX10_keepPart 77 = .ok (.aload_n 0, 1) := by decide +kernel
theorem dX10_keepPart_78 : decode cX10_keepPart 78 = .ok (.dup, 1) := by decide +kernel
theorem dX10_keepPart_79 : decode cX10_keepPart 79 = .ok (.getfield 87, 3) := by decide +kernel
theorem dX10_keepPart_82 : decode cX10_keepPart 82 = .ok (.iconst 1, 1) := by decide +kernel
theorem dX10_keepPart_83 : decode cX10_keepPart 83 = .ok (.iadd, 1) := by decide +kernel
theorem dX10_keepPart_84 : decode cX10_keepPart 84 = .ok (.putfield 87, 3) := by decide +kernel
theorem dX10_keepPart_87 : decode cX10_keepPart 87 = .ok (.return_, 1) := by decide +kernel
theorem dX10_isInRange_0 : decode cX10_isInRange 0 = .ok (.aload_n 0, 1) := by decide +kernel
theorem dX10_isInRange_1 : decode cX10_isInRange 1 = .ok (.getfield 13, 3) := by decide +kernel
theorem dX10_isInRange_4 : decode cX10_isInRange 4 = .ok (.iload_n 1, 1) := by decide +kernel
theorem dX10_isInRange_5 : decode cX10_isInRange 5 = .ok (.iaload, 1) := by decide +kernel
theorem dX10_isInRange_6 : decode cX10_isInRange 6 = .ok (.tableswitch 247 97 120 #[228, 237, 247, 247, 247, 247, 247, 247, 170, 247, 188, 208, 247, 178, 247, 247, 247, 137, 247, 216, 247, 247, 198, 110], 110) := by decide +kernel
theorem dX10_isInRange_116 : decode cX10_isInRange 116 = .ok (.aload_n 0, 1) := by decide +kernel
theorem dX10_isInRange_117 : decode cX10_isInRange 117 = .ok (.getfield 24, 3) := by decide +kernel
theorem dX10_isInRange_120 : decode cX10_isInRange 120 = .ok (.iload_n 1, 1) := by decide +kernel
theorem dX10_isInRange_121 : decode cX10_isInRange 121 = .ok (.iaload, 1) := by decide +kernel
theorem dX10_isInRange_122 : decode cX10_isInRange 122 = .ok (.invokestatic 120, 3) := by decide +kernel
theorem dX10_isInRange_125 : decode cX10_isInRange 125 = .ok (.bipush 60, 2) := by decide +kernel
theorem dX10_isInRange_127 : decode cX10_isInRange 127 = .ok (.aload_n 0, 1) := by decide +kernel
theorem dX10_isInRange_128 : decode cX10_isInRange 128 = .ok (.getfield 27, 3) := by decide +kernel
theorem dX10_isInRange_131 : decode cX10_isInRange 131 = .ok (.iload_n 1, 1) := by decide +kernel
theorem dX10_isInRange_132 : decode cX10_isInRange 132 = .ok (.iaload, 1) := by decide +kernel
theorem dX10_isInRange_133 : decode cX10_isInRange 133 = .ok (.imul, 1) := by decide +kernel
theorem dX10_isInRange_134 : decode cX10_isInRange 134 = .ok (.if_icmp .gt 7, 3) := by decide +kernel
theorem dX10_isInRange_137 : decode cX10_isInRange 137 = .ok (.iconst 1, 1) := by decide +kernel
theorem dX10_isInRange_138 : decode cX10_isInRange 138 = .ok (.goto 4, 3) := by decide +kernel
theorem dX10_isInRange_141 : decode cX10_isInRange 141 = .ok (.iconst 0, 1) := by decide +kernel
theorem dX10_isInRange_142 : decode cX10_isInRange 142 = .ok (.ireturn, 1) := by decide +kernel
theorem dX10_isInRange_143 : decode cX10_isInRange 143 = .ok (.aload_n 0, 1) := by decide +kernel
theorem dX10_isInRange_144 : decode cX10_isInRange 144 = .ok (.getfield 24, 3) := by decide +kernel
theorem dX10_isInRange_147 : decode cX10_isInRange 147 = .ok (.iload_n 1, 1) := by decide +kernel
theorem dX10_isInRange_148 : decode cX10_isInRange 148 = .ok (.iaload, 1) := by decide +kernel
theorem dX10_isInRange_149 : decode cX10_isInRange 149 = .ok (.ifCond .le 25, 3) := by decide +kernel
theorem dX10_isInRange_152 : decode cX10_isInRange 152 = .ok (.aload_n 0, 1) := by decide +kernel
theorem dX10_isInRange_153 : decode cX10_isInRange 153 = .ok (.getfield 24, 3) := by decide +kernel
theorem dX10_isInRange_156 : decode cX10_isInRange 156 = .ok (.iload_n 1, 1) := by decide +kernel
theorem dX10_isInRange_157 : decode cX10_isInRange 157 = .ok (.iaload, 1) := by decide +kernel
theorem dX10_isInRange_158 : decode cX10_isInRange 158 = .ok (.bipush 60, 2) := by decide +kernel
theorem dX10_isInRange_160 : decode cX10_isInRange 160 = .ok (.aload_n 0, 1) := by decide +kernel
theorem dX10_isInRange_161 : decode cX10_isInRange 161 = .ok (.getfield 27, 3) := by decide +kernel
theorem dX10_isInRange_164 : decode cX10_isInRange 164 = .ok (.iload_n 1, 1) := by decide +kernel
theorem dX10_isInRange_165 : decode cX10_isInRange 165 = .ok (.iaload, 1) := by decide +kernel
theorem dX10_isInRange_166 : decode cX10_isInRange 166 = .ok (.imul, 1) := by decide +kernel
theorem dX10_isInRange_167 : decode cX10_isInRange 167 = .ok (.if_icmp .gt 7, 3) := by decide +kernel
theorem dX10_isInRange_170 : decode cX10_isInRange 170 = .ok (.iconst 1, 1) := by decide +kernel
theorem dX10_isInRange_171 : decode cX10_isInRange 171 = .ok (.goto 4, 3) := by decide +kernel
theorem dX10_isInRange_174 : decode cX10_isInRange 174 = .ok (.iconst 0, 1) := by decide +kernel
theorem dX10_isInRange_175 : decode cX10_isInRange 175 = .ok (.ireturn, 1) := by decide +kernel
theorem dX10_isInRange_176 : decode cX10_isInRange 176 = .ok (.aload_n 0, 1) := by decide +kernel
theorem dX10_isInRange_177 : decode cX10_isInRange 177 = .ok (.iload_n 1, 1) := by decide +kernel
theorem dX10_isInRange_178 : decode cX10_isInRange 178 = .ok (.iconst 0, 1) := by decide +kernel
theorem dX10_isInRange_179 : decode cX10_isInRange 179 = .ok (.iconst 3, 1) := by decide +kernel
theorem dX10_isInRange_180 : decode cX10_isInRange 180 = .ok (.invokevirtual 125, 3) := by decide +kernel
theorem dX10_isInRange_183 : decode cX10_isInRange 183 = .ok (.ireturn, 1) := by decide +kernel
theorem dX10_isInRange_184 : decode cX10_isInRange 184 = .ok (.aload_n 0, 1) := by decide +kernel
theorem dX10_isInRange_185 : decode cX10_isInRange 185 = .ok (.iload_n 1, 1) := by decide +kernel
theorem dX10_isInRange_186 : decode cX10_isInRange 186 = .ok (.bipush (-8), 2) := by decide +kernel
theorem dX10_isInRange_188 : decode cX10_isInRange 188 = .ok (.bipush 8, 2) := by decide +kernel
theorem dX10_isInRange_190 : decode cX10_isInRange 190 = .ok (.invokevirtual 125, 3) := by decide +kernel
theorem dX10_isInRange_193 : decode cX10_isInRange 193 = .ok (.ireturn, 1) := by decide +kernel
theorem dX10_isInRange_194 : decode cX10_isInRange 194 = .ok (.aload_n 0, 1) := by decide +kernel
theorem dX10_isInRange_195 : decode cX10_isInRange 195 = .ok (.iload_n 1, 1) := by decide +kernel
theorem dX10_isInRange_196 : decode cX10_isInRange 196 = .ok (.iconst 0, 1) := by decide +kernel
theorem dX10_isInRange_197 : decode cX10_isInRange 197 = .ok (.sipush 1023, 3) := by decide +kernel
theorem dX10_isInRange_200 : decode cX10_isInRange 200 = .ok (.invokevirtual 125, 3) := by decide +kernel
theorem dX10_isInRange_203 : decode cX10_isInRange 203 = .ok (.ireturn, 1) := by decide +kernel
theorem dX10_isInRange_204 : decode cX10_isInRange 204 = .ok (.aload_n 0, 1) := by decide +kernel
theorem dX10_isInRange_205 : decode cX10_isInRange 205 = .ok (.iload_n 1, 1) := by decide +kernel
theorem dX10_isInRange_206 : decode cX10_isInRange 206 = .ok (.iconst 1, 1) := by decide +kernel
theorem dX10_isInRange_207 : decode cX10_isInRange 207 = .ok (.sipush 360, 3) := by decide +kernel
theorem dX10_isInRange_210 : decode cX10_isInRange 210 = .ok (.invokevirtual 125, 3) := by decide +kernel
theorem dX10_isInRange_213 : decode cX10_isInRange 213 = .ok (.ireturn, 1) := by decide +kernel
theorem dX10_isInRange_214 : decode cX10_isInRange 214 = .ok (.aload_n 0, 1) := by decide +kernel
theorem dX10_isInRange_215 : decode cX10_isInRange 215 = .ok (.iload_n 1, 1) := by decide +kernel
theorem dX10_isInRange_216 : decode cX10_isInRange 216 = .ok (.iconst 1, 1) := by decide +kernel
theorem dX10_isInRange_217 : decode cX10_isInRange 217 = .ok (.iconst 4, 1) := by decide +kernel
theorem dX10_isInRange_218 : decode cX10_isInRange 218 = .ok (.invokevirtual 125, 3) := by decide +kernel
theorem dX10_isInRange_221 : decode cX10_isInRange 221 = .ok (.ireturn, 1) := by decide +kernel
theorem dX10_isInRange_222 : decode cX10_isInRange 222 = .ok (.aload_n 0, 1) := by decide +kernel
theorem dX10_isInRange_223 : decode cX10_isInRange 223 = .ok (.iload_n 1, 1) := by decide +kernel
theorem dX10_isInRange_224 : decode cX10_isInRange 224 = .ok (.sipush (-1023), 3) := by decide +kernel
theorem dX10_isInRange_227 : decode cX10_isInRange 227 = .ok (.sipush 1023, 3) := by decide +kernel
theorem dX10_isInRange_230 : decode cX10_isInRange 230 = .ok (.invokevirtual 125, 3) := by decide +kernel
theorem dX10_isInRange_233 : decode cX10_isInRange 233 = .ok (.ireturn, 1) := by decide +kernel
theorem dX10_isInRange_234 : decode cX10_isInRange 234 = .ok (.aload_n 0, 1) := by decide +kernel
theorem dX10_isInRange_235 : decode cX10_isInRange 235 = .ok (.iload_n 1, 1) := by decide +kernel
theorem dX10_isInRange_236 : decode cX10_isInRange 236 = .ok (.iconst 1, 1) := by decide +kernel
theorem dX10_isInRange_237 : decode cX10_isInRange 237 = .ok (.bipush 9, 2) := by decide +kernel
theorem dX10_isInRange_239 : decode cX10_isInRange 239 = .ok (.invokevirtual 125, 3) := by decide +kernel
theorem dX10_isInRange_242 : decode cX10_isInRange 242 = .ok (.ireturn, 1) := by decide +kernel
theorem dX10_isInRange_243 : decode cX10_isInRange 243 = .ok (.aload_n 0, 1) := by decide +kernel
theorem dX10_isInRange_244 : decode cX10_isInRange 244 = .ok (.iload_n 1, 1) := by decide +kernel
theorem dX10_isInRange_245 : decode cX10_isInRange 245 = .ok (.iconst 0, 1) := by decide +kernel
theorem dX10_isInRange_246 : decode cX10_isInRange 246 = .ok (.sipush 255, 3) := by decide +kernel
theorem dX10_isInRange_249 : decode cX10_isInRange 249 = .ok (.invokevirtual 125, 3) := by decide +kernel
theorem dX10_isInRange_252 : decode cX10_isInRange 252 = .ok (.ireturn, 1) := by decide +kernel
theorem dX10_isInRange_253 : decode cX10_isInRange 253 = .ok (.iconst 1, 1) := by decide +kernel
theorem dX10_isInRange_254 : decode cX10_isInRange 254 = .ok (.ireturn, 1) := by decide +kernel
theorem dX10_isWhole_0 : decode cX10_isWhole 0 = .ok (.aload_n 0, 1) := by decide +kernel
theorem dX10_isWhole_1 : decode cX10_isWhole 1 = .ok (.iload_n 1, 1) := by decide +kernel
theorem dX10_isWhole_2 : decode cX10_isWhole 2 = .ok (.invokevirtual 129, 3) := by decide +kernel
theorem dX10_isWhole_5 : decode cX10_isWhole 5 = .ok (.istore 4, 2) := by decide +kernel
theorem dX10_isWhole_7 : decode cX10_isWhole 7 = .ok (.iload 4, 2) := by decide +kernel
theorem dX10_isWhole_9 : decode cX10_isWhole 9 = .ok (.aload_n 0, 1) := by decide +kernel
theorem dX10_isWhole_10 : decode cX10_isWhole 10 = .ok (.getfield 27, 3) := by decide +kernel
theorem dX10_isWhole_13 : decode cX10_isWhole 13 = .ok (.iload_n 1, 1) := by decide +kernel
theorem dX10_isWhole_14 : decode cX10_isWhole 14 = .ok (.iaload, 1) := by decide +kernel
theorem dX10_isWhole_15 : decode cX10_isWhole 15 = .ok (.imul, 1) := by decide +kernel
theorem dX10_isWhole_16 : decode cX10_isWhole 16 = .ok (.aload_n 0, 1) := by decide +kernel
theorem dX10_isWhole_17 : decode cX10_isWhole 17 = .ok (.getfield 24, 3) := by decide +kernel
theorem dX10_isWhole_20 : decode cX10_isWhole 20 = .ok (.iload_n 1, 1) := by decide +kernel
theorem dX10_isWhole_21 : decode cX10_isWhole 21 = .ok (.iaload, 1) := by decide +kernel
theorem dX10_isWhole_22 : decode cX10_isWhole 22 = .ok (.if_icmp .ne 19, 3) := by decide +kernel
theorem dX10_isWhole_25 : decode cX10_isWhole 25 = .ok (.iload 4, 2) := by decide +kernel
theorem dX10_isWhole_27 : decode cX10_isWhole 27 = .ok (.iload_n 2, 1) := by decide +kernel
theorem dX10_isWhole_28 : decode cX10_isWhole 28 = .ok (.if_icmp .lt 13, 3) := by decide +kernel
theorem dX10_isWhole_31 : decode cX10_isWhole 31 = .ok (.iload 4, 2) := by decide +kernel
theorem dX10_isWhole_33 : decode cX10_isWhole 33 = .ok (.iload_n 3, 1) := by decide +kernel
theorem dX10_isWhole_34 : decode cX10_isWhole 34 = .ok (.if_icmp .gt 7, 3) := by decide +kernel
theorem dX10_isWhole_37 : decode cX10_isWhole 37 = .ok (.iconst 1, 1) := by decide +kernel
theorem dX10_isWhole_38 : decode cX10_isWhole 38 = .ok (.goto 4, 3) := by decide +kernel
theorem dX10_isWhole_41 : decode cX10_isWhole 41 = .ok (.iconst 0, 1) := by decide +kernel
theorem dX10_isWhole_42 : decode cX10_isWhole 42 = .ok (.ireturn, 1) := by decide +kernel
theorem dX10_whole_0 : decode cX10_whole 0 = .ok (.aload_n 0, 1) := by decide +kernel
theorem dX10_whole_1 : decode cX10_whole 1 = .ok (.getfield 27, 3) := by decide +kernel
theorem dX10_whole_4 : decode cX10_whole 4 = .ok (.iload_n 1, 1) := by decide +kernel
theorem dX10_whole_5 : decode cX10_whole 5 = .ok (.iaload, 1) := by decide +kernel
theorem dX10_whole_6 : decode cX10_whole 6 = .ok (.ifCond .le 19, 3) := by decide +kernel
theorem dX10_whole_9 : decode cX10_whole 9 = .ok (.aload_n 0, 1) := by decide +kernel
theorem dX10_whole_10 : decode cX10_whole 10 = .ok (.getfield 24, 3) := by decide +kernel
theorem dX10_whole_13 : decode cX10_whole 13 = .ok (.iload_n 1, 1) := by decide +kernel
theorem dX10_whole_14 : decode cX10_whole 14 = .ok (.iaload, 1) := by decide +kernel
theorem dX10_whole_15 : decode cX10_whole 15 = .ok (.aload_n 0, 1) := by decide +kernel
theorem dX10_whole_16 : decode cX10_whole 16 = .ok (.getfield 27, 3) := by decide +kernel
theorem dX10_whole_19 : decode cX10_whole 19 = .ok (.iload_n 1, 1) := by decide +kernel
theorem dX10_whole_20 : decode cX10_whole 20 = .ok (.iaload, 1) := by decide +kernel
theorem dX10_whole_21 : decode cX10_whole 21 = .ok (.idiv, 1) := by decide +kernel
theorem dX10_whole_22 : decode cX10_whole 22 = .ok (.goto 4, 3) := by decide +kernel
theorem dX10_whole_25 : decode cX10_whole 25 = .ok (.iconst 0, 1) := by decide +kernel
theorem dX10_whole_26 : decode cX10_whole 26 = .ok (.ireturn, 1) := by decide +kernel
theorem dX10_readToken_0 : decode cX10_readToken 0 = .ok (.aload_n 0, 1) := by decide +kernel
theorem dX10_readToken_1 : decode cX10_readToken 1 = .ok (.invokevirtual 132, 3) := by decide +kernel
theorem dX10_readToken_4 : decode cX10_readToken 4 = .ok (.aload_n 0, 1) := by decide +kernel
theorem dX10_readToken_5 : decode cX10_readToken 5 = .ok (.aload_n 0, 1) := by decide +kernel
theorem dX10_readToken_6 : decode cX10_readToken 6 = .ok (.getfield 54, 3) := by decide +kernel
theorem dX10_readToken_9 : decode cX10_readToken 9 = .ok (.putfield 70, 3) := by decide +kernel
theorem dX10_readToken_12 : decode cX10_readToken 12 = .ok (.aload_n 0, 1) := by decide +kernel
theorem dX10_readToken_13 : decode cX10_readToken 13 = .ok (.lconst 0, 1) := by decide +kernel
theorem dX10_readToken_14 : decode cX10_readToken 14 = .ok (.putfield 110, 3) := by decide +kernel
theorem dX10_readToken_17 : decode cX10_readToken 17 = .ok (.aload_n 0, 1) := by decide +kernel
theorem dX10_readToken_18 : decode cX10_readToken 18 = .ok (.iconst 0, 1) := by decide +kernel
theorem dX10_readToken_19 : decode cX10_readToken 19 = .ok (.putfield 114, 3) := by decide +kernel
theorem dX10_readToken_22 : decode cX10_readToken 22 = .ok (.aload_n 0, 1) := by decide +kernel
theorem dX10_readToken_23 : decode cX10_readToken 23 = .ok (.iconst 1, 1) := by decide +kernel
theorem dX10_readToken_24 : decode cX10_readToken 24 = .ok (.putfield 117, 3) := by decide +kernel
theorem dX10_readToken_27 : decode cX10_readToken 27 = .ok (.aload_n 0, 1) := by decide +kernel
theorem dX10_readToken_28 : decode cX10_readToken 28 = .ok (.aload_n 0, 1) := by decide +kernel
theorem dX10_readToken_29 : decode cX10_readToken 29 = .ok (.getfield 54, 3) := by decide +kernel
theorem dX10_readToken_32 : decode cX10_readToken 32 = .ok (.invokevirtual 41, 3) := by decide +kernel
theorem dX10_readToken_35 : decode cX10_readToken 35 = .ok (.istore_n 1, 1) := by decide +kernel
theorem dX10_readToken_36 : decode cX10_readToken 36 = .ok (.iload_n 1, 1) := by decide +kernel
theorem dX10_readToken_37 : decode cX10_readToken 37 = .ok (.ifCond .ge 11, 3) := by decide +kernel
theorem dX10_readToken_40 : decode cX10_readToken 40 = .ok (.aload_n 0, 1) := by decide +kernel
theorem dX10_readToken_41 : decode cX10_readToken 41 = .ok (.iconst 0, 1) := by decide +kernel
theorem dX10_readToken_42 : decode cX10_readToken 42 = .ok (.putfield 76, 3) := by decide +kernel
theorem dX10_readToken_45 : decode cX10_readToken 45 = .ok (.goto 107, 3) := by decide +kernel
theorem dX10_readToken_48 : decode cX10_readToken 48 = .ok (.iload_n 1, 1) := by decide +kernel
theorem dX10_readToken_49 : decode cX10_readToken 49 = .ok (.invokestatic 45, 3) := by decide +kernel
theorem dX10_readToken_52 : decode cX10_readToken 52 = .ok (.ifCond .eq 10, 3) := by decide +kernel
theorem dX10_readToken_55 : decode cX10_readToken 55 = .ok (.aload_n 0, 1) := by decide +kernel
theorem dX10_readToken_56 : decode cX10_readToken 56 = .ok (.invokevirtual 135, 3) := by decide +kernel
theorem dX10_readToken_59 : decode cX10_readToken 59 = .ok (.goto 93, 3) := by decide +kernel
theorem dX10_readToken_62 : decode cX10_readToken 62 = .ok (.iload_n 1, 1) := by decide +kernel
theorem dX10_readToken_63 : decode cX10_readToken 63 = .ok (.invokestatic 138, 3) := by decide +kernel
theorem dX10_readToken_66 : decode cX10_readToken 66 = .ok (.ifCond .ne 25, 3) := by decide +kernel
theorem dX10_readToken_69 : decode cX10_readToken 69 = .ok (.iload_n 1, 1) := by decide +kernel
theorem dX10_readToken_70 : decode cX10_readToken 70 = .ok (.bipush 45, 2) := by decide +kernel
theorem dX10_readToken_72 : decode cX10_readToken 72 = .ok (.if_icmp .ne 37, 3) := by decide +kernel
theorem dX10_readToken_75 : decode cX10_readToken 75 = .ok (.aload_n 0, 1) := by decide +kernel
theorem dX10_readToken_76 : decode cX10_readToken 76 = .ok (.aload_n 0, 1) := by decide +kernel
theorem dX10_readToken_77 : decode cX10_readToken 77 = .ok (.getfield 54, 3) := by decide +kernel
theorem dX10_readToken_80 : decode cX10_readToken 80 = .ok (.iconst 1, 1) := by decide +kernel
theorem dX10_readToken_81 : decode cX10_readToken 81 = .ok (.iadd, 1) := by decide +kernel
theorem dX10_readToken_82 : decode cX10_readToken 82 = .ok (.invokevirtual 41, 3) := by decide +kernel
theorem dX10_readToken_85 : decode cX10_readToken 85 = .ok (.invokestatic 138, 3) := by decide +kernel
theorem dX10_readToken_88 : decode cX10_readToken 88 = .ok (.ifCond .eq 21, 3) := by decide +kernel
theorem dX10_readToken_91 : decode cX10_readToken 91 = .ok (.aload_n 0, 1) := by decide +kernel
theorem dX10_readToken_92 : decode cX10_readToken 92 = .ok (.iload_n 1, 1) := by decide +kernel
theorem dX10_readToken_93 : decode cX10_readToken 93 = .ok (.bipush 45, 2) := by decide +kernel
theorem dX10_readToken_95 : decode cX10_readToken 95 = .ok (.if_icmp .ne 7, 3) := by decide +kernel
theorem dX10_readToken_98 : decode cX10_readToken 98 = .ok (.iconst 1, 1) := by decide +kernel
theorem dX10_readToken_99 : decode cX10_readToken 99 = .ok (.goto 4, 3) := by decide +kernel
theorem dX10_readToken_102 : decode cX10_readToken 102 = .ok (.iconst 0, 1) := by decide +kernel
theorem dX10_readToken_103 : decode cX10_readToken 103 = .ok (.invokevirtual 141, 3) := by decide +kernel
theorem dX10_readToken_106 : decode cX10_readToken 106 = .ok (.goto 46, 3) := by decide +kernel
theorem dX10_readToken_109 : decode cX10_readToken 109 = .ok (.aload_n 0, 1) := by decide +kernel
theorem dX10_readToken_110 : decode cX10_readToken 110 = .ok (.dup, 1) := by decide +kernel
theorem dX10_readToken_111 : decode cX10_readToken 111 = .ok (.getfield 54, 3) := by decide +kernel
theorem dX10_readToken_114 : decode cX10_readToken 114 = .ok (.iconst 1, 1) := by decide +kernel
theorem dX10_readToken_115 : decode cX10_readToken 115 = .ok (.iadd, 1) := by decide +kernel
theorem dX10_readToken_116 : decode cX10_readToken 116 = .ok (.putfield 54, 3) := by decide +kernel
theorem dX10_readToken_119 : decode cX10_readToken 119 = .ok (.aload_n 0, 1) := by decide +kernel
theorem dX10_readToken_120 : decode cX10_readToken 120 = .ok (.iload_n 1, 1) := by decide +kernel
theorem dX10_readToken_121 : decode cX10_readToken 121 = .ok (.bipush 43, 2) := by decide +kernel
theorem dX10_readToken_123 : decode cX10_readToken 123 = .ok (.if_icmp .eq 21, 3) := by decide +kernel
theorem dX10_readToken_126 : decode cX10_readToken 126 = .ok (.iload_n 1, 1) := by decide +kernel
theorem dX10_readToken_127 : decode cX10_readToken 127 = .ok (.bipush 45, 2) := by decide +kernel
theorem dX10_readToken_129 : decode cX10_readToken 129 = .ok (.if_icmp .eq 15, 3) := by decide +kernel
theorem dX10_readToken_132 : decode cX10_readToken 132 = .ok (.iload_n 1, 1) := by decide +kernel
theorem dX10_readToken_133 : decode cX10_readToken 133 = .ok (.bipush 63, 2) := by decide +kernel
theorem dX10_readToken_135 : decode cX10_readToken 135 = .ok (.if_icmp .eq 9, 3) := by decide +kernel
theorem dX10_readToken_138 : decode cX10_readToken 138 = .ok (.iload_n 1, 1) := by decide +kernel
theorem dX10_readToken_139 : decode cX10_readToken 139 = .ok (.bipush 59, 2) := by decide +kernel
theorem dX10_readToken_141 : decode cX10_readToken 141 = .ok (.if_icmp .ne 7, 3) := by decide +kernel
theorem dX10_readToken_144 : decode cX10_readToken 144 = .ok (.iload_n 1, 1) := by decide +kernel
theorem dX10_readToken_145 : decode cX10_readToken 145 = .ok (.goto 4, 3) := by decide +kernel
theorem dX10_readToken_148 : decode cX10_readToken 148 = .ok (.iconst 1, 1) := by decide +kernel
theorem dX10_readToken_149 : decode cX10_readToken 149 = .ok (.putfield 76, 3) := by decide +kernel
