theorem dX12_pivot_268 : decode cX12_pivot 268 = .ok (.laload, 1) := by decide +kernel
theorem dX12_pivot_269 : decode cX12_pivot 269 = .ok (.aload_n 0, 1) := by decide +kernel
theorem dX12_pivot_270 : decode cX12_pivot 270 = .ok (.getfield 287, 3) := by decide +kernel
theorem dX12_pivot_273 : decode cX12_pivot 273 = .ok (.lneg, 1) := by decide +kernel
theorem dX12_pivot_274 : decode cX12_pivot 274 = .ok (.aload_n 0, 1) := by decide +kernel
theorem dX12_pivot_275 : decode cX12_pivot 275 = .ok (.getfield 291, 3) := by decide +kernel
theorem dX12_pivot_278 : decode cX12_pivot 278 = .ok (.invokevirtual 638, 3) := by decide +kernel
theorem dX12_pivot_281 : decode cX12_pivot 281 = .ok (.aload_n 0, 1) := by decide +kernel
theorem dX12_pivot_282 : decode cX12_pivot 282 = .ok (.bipush 13, 2) := by decide +kernel
theorem dX12_pivot_284 : decode cX12_pivot 284 = .ok (.iload 7, 2) := by decide +kernel
theorem dX12_pivot_286 : decode cX12_pivot 286 = .ok (.imul, 1) := by decide +kernel
theorem dX12_pivot_287 : decode cX12_pivot 287 = .ok (.iload 12, 2) := by decide +kernel
theorem dX12_pivot_289 : decode cX12_pivot 289 = .ok (.iadd, 1) := by decide +kernel
theorem dX12_pivot_290 : decode cX12_pivot 290 = .ok (.invokevirtual 635, 3) := by decide +kernel
theorem dX12_pivot_293 : decode cX12_pivot 293 = .ok (.iinc 12 1, 3) := by decide +kernel
theorem dX12_pivot_296 : decode cX12_pivot 296 = .ok (.goto (-120), 3) := by decide +kernel
theorem dX12_pivot_299 : decode cX12_pivot 299 = .ok (.iinc 7 1, 3) := by decide +kernel
theorem dX12_pivot_302 : decode cX12_pivot 302 = .ok (.goto (-189), 3) := by decide +kernel
theorem dX12_pivot_305 : decode cX12_pivot 305 = .ok (.return_, 1) := by decide +kernel
theorem dX12_solution_0 : decode cX12_solution 0 = .ok (.aload_n 0, 1) := by decide +kernel
theorem dX12_solution_1 : decode cX12_solution 1 = .ok (.iconst 0, 1) := by decide +kernel
theorem dX12_solution_2 : decode cX12_solution 2 = .ok (.putfield 283, 3) := by decide +kernel
theorem dX12_solution_5 : decode cX12_solution 5 = .ok (.aload_n 0, 1) := by decide +kernel
theorem dX12_solution_6 : decode cX12_solution 6 = .ok (.invokevirtual 641, 3) := by decide +kernel
theorem dX12_solution_9 : decode cX12_solution 9 = .ok (.iconst 0, 1) := by decide +kernel
theorem dX12_solution_10 : decode cX12_solution 10 = .ok (.istore_n 1, 1) := by decide +kernel
theorem dX12_solution_11 : decode cX12_solution 11 = .ok (.iconst 0, 1) := by decide +kernel
theorem dX12_solution_12 : decode cX12_solution 12 = .ok (.istore_n 2, 1) := by decide +kernel
theorem dX12_solution_13 : decode cX12_solution 13 = .ok (.iload_n 2, 1) := by decide +kernel
theorem dX12_solution_14 : decode cX12_solution 14 = .ok (.bipush 12, 2) := by decide +kernel
theorem dX12_solution_16 : decode cX12_solution 16 = .ok (.if_icmp .ge 90, 3) := by decide +kernel
theorem dX12_solution_19 : decode cX12_solution 19 = .ok (.aload_n 0, 1) := by decide +kernel
theorem dX12_solution_20 : decode cX12_solution 20 = .ok (.getfield 150, 3) := by decide +kernel
theorem dX12_solution_23 : decode cX12_solution 23 = .ok (.iload_n 2, 1) := by decide +kernel
theorem dX12_solution_24 : decode cX12_solution 24 = .ok (.iconst (-1), 1) := by decide +kernel
theorem dX12_solution_25 : decode cX12_solution 25 = .ok (.iastore, 1) := by decide +kernel
theorem dX12_solution_26 : decode cX12_solution 26 = .ok (.iload_n 1, 1) := by decide +kernel
theorem dX12_solution_27 : decode cX12_solution 27 = .ok (.istore_n 3, 1) := by decide +kernel
theorem dX12_solution_28 : decode cX12_solution 28 = .ok (.iload_n 3, 1) := by decide +kernel
theorem dX12_solution_29 : decode cX12_solution 29 = .ok (.aload_n 0, 1) := by decide +kernel
theorem dX12_solution_30 : decode cX12_solution 30 = .ok (.getfield 626, 3) := by decide +kernel
theorem dX12_solution_33 : decode cX12_solution 33 = .ok (.if_icmp .ge 25, 3) := by decide +kernel
theorem dX12_solution_36 : decode cX12_solution 36 = .ok (.aload_n 0, 1) := by decide +kernel
theorem dX12_solution_37 : decode cX12_solution 37 = .ok (.getfield 144, 3) := by decide +kernel
theorem dX12_solution_40 : decode cX12_solution 40 = .ok (.bipush 13, 2) := by decide +kernel
theorem dX12_solution_42 : decode cX12_solution 42 = .ok (.iload_n 3, 1) := by decide +kernel
theorem dX12_solution_43 : decode cX12_solution 43 = .ok (.imul, 1) := by decide +kernel
theorem dX12_solution_44 : decode cX12_solution 44 = .ok (.iload_n 2, 1) := by decide +kernel
theorem dX12_solution_45 : decode cX12_solution 45 = .ok (.iadd, 1) := by decide +kernel
theorem dX12_solution_46 : decode cX12_solution 46 = .ok (.laload, 1) := by decide +kernel
theorem dX12_solution_47 : decode cX12_solution 47 = .ok (.lconst 0, 1) := by decide +kernel
theorem dX12_solution_48 : decode cX12_solution 48 = .ok (.lcmp, 1) := by decide +kernel
theorem dX12_solution_49 : decode cX12_solution 49 = .ok (.ifCond .ne 9, 3) := by decide +kernel
theorem dX12_solution_52 : decode cX12_solution 52 = .ok (.iinc 3 1, 3) := by decide +kernel
theorem dX12_solution_55 : decode cX12_solution 55 = .ok (.goto (-27), 3) := by decide +kernel
theorem dX12_solution_58 : decode cX12_solution 58 = .ok (.iload_n 3, 1) := by decide +kernel
theorem dX12_solution_59 : decode cX12_solution 59 = .ok (.aload_n 0, 1) := by decide +kernel
theorem dX12_solution_60 : decode cX12_solution 60 = .ok (.getfield 626, 3) := by decide +kernel
theorem dX12_solution_63 : decode cX12_solution 63 = .ok (.if_icmp .lt 6, 3) := by decide +kernel
theorem dX12_solution_66 : decode cX12_solution 66 = .ok (.goto 34, 3) := by decide +kernel
theorem dX12_solution_69 : decode cX12_solution 69 = .ok (.aload_n 0, 1) := by decide +kernel
theorem dX12_solution_70 : decode cX12_solution 70 = .ok (.iload_n 1, 1) := by decide +kernel
theorem dX12_solution_71 : decode cX12_solution 71 = .ok (.iload_n 3, 1) := by decide +kernel
theorem dX12_solution_72 : decode cX12_solution 72 = .ok (.invokevirtual 644, 3) := by decide +kernel
theorem dX12_solution_75 : decode cX12_solution 75 = .ok (.aload_n 0, 1) := by decide +kernel
theorem dX12_solution_76 : decode cX12_solution 76 = .ok (.iload_n 1, 1) := by decide +kernel
theorem dX12_solution_77 : decode cX12_solution 77 = .ok (.iload_n 2, 1) := by decide +kernel
theorem dX12_solution_78 : decode cX12_solution 78 = .ok (.invokevirtual 647, 3) := by decide +kernel
theorem dX12_solution_81 : decode cX12_solution 81 = .ok (.aload_n 0, 1) := by decide +kernel
theorem dX12_solution_82 : decode cX12_solution 82 = .ok (.getfield 283, 3) := by decide +kernel
theorem dX12_solution_85 : decode cX12_solution 85 = .ok (.ifCond .eq 5, 3) := by decide +kernel
theorem dX12_solution_88 : decode cX12_solution 88 = .ok (.iconst 3, 1) := by decide +kernel
theorem dX12_solution_89 : decode cX12_solution 89 = .ok (.ireturn, 1) := by decide +kernel
theorem dX12_solution_90 : decode cX12_solution 90 = .ok (.aload_n 0, 1) := by decide +kernel
theorem dX12_solution_91 : decode cX12_solution 91 = .ok (.getfield 150, 3) := by decide +kernel
theorem dX12_solution_94 : decode cX12_solution 94 = .ok (.iload_n 2, 1) := by decide +kernel
theorem dX12_solution_95 : decode cX12_solution 95 = .ok (.iload_n 1, 1) := by decide +kernel
theorem dX12_solution_96 : decode cX12_solution 96 = .ok (.iastore, 1) := by decide +kernel
theorem dX12_solution_97 : decode cX12_solution 97 = .ok (.iinc 1 1, 3) := by decide +kernel
theorem dX12_solution_100 : decode cX12_solution 100 = .ok (.iinc 2 1, 3) := by decide +kernel
theorem dX12_solution_103 : decode cX12_solution 103 = .ok (.goto (-90), 3) := by decide +kernel
theorem dX12_solution_106 : decode cX12_solution 106 = .ok (.iconst 0, 1) := by decide +kernel
theorem dX12_solution_107 : decode cX12_solution 107 = .ok (.istore_n 2, 1) := by decide +kernel
theorem dX12_solution_108 : decode cX12_solution 108 = .ok (.iload_n 2, 1) := by decide +kernel
theorem dX12_solution_109 : decode cX12_solution 109 = .ok (.aload_n 0, 1) := by decide +kernel
theorem dX12_solution_110 : decode cX12_solution 110 = .ok (.getfield 626, 3) := by decide +kernel
theorem dX12_solution_113 : decode cX12_solution 113 = .ok (.if_icmp .ge 77, 3) := by decide +kernel
theorem dX12_solution_116 : decode cX12_solution 116 = .ok (.iconst 1, 1) := by decide +kernel
theorem dX12_solution_117 : decode cX12_solution 117 = .ok (.istore_n 3, 1) := by decide +kernel
theorem dX12_solution_118 : decode cX12_solution 118 = .ok (.iconst 0, 1) := by decide +kernel
theorem dX12_solution_119 : decode cX12_solution 119 = .ok (.istore 4, 2) := by decide +kernel
theorem dX12_solution_121 : decode cX12_solution 121 = .ok (.iload 4, 2) := by decide +kernel
theorem dX12_solution_123 : decode cX12_solution 123 = .ok (.bipush 12, 2) := by decide +kernel
theorem dX12_solution_125 : decode cX12_solution 125 = .ok (.if_icmp .ge 36, 3) := by decide +kernel
theorem dX12_solution_128 : decode cX12_solution 128 = .ok (.iload_n 3, 1) := by decide +kernel
theorem dX12_solution_129 : decode cX12_solution 129 = .ok (.ifCond .eq 24, 3) := by decide +kernel
theorem dX12_solution_132 : decode cX12_solution 132 = .ok (.aload_n 0, 1) := by decide +kernel
theorem dX12_solution_133 : decode cX12_solution 133 = .ok (.getfield 144, 3) := by decide +kernel
theorem dX12_solution_136 : decode cX12_solution 136 = .ok (.bipush 13, 2) := by decide +kernel
theorem dX12_solution_138 : decode cX12_solution 138 = .ok (.iload_n 2, 1) := by decide +kernel
theorem dX12_solution_139 : decode cX12_solution 139 = .ok (.imul, 1) := by decide +kernel
theorem dX12_solution_140 : decode cX12_solution 140 = .ok (.iload 4, 2) := by decide +kernel
theorem dX12_solution_142 : decode cX12_solution 142 = .ok (.iadd, 1) := by decide +kernel
theorem dX12_solution_143 : decode cX12_solution 143 = .ok (.laload, 1) := by decide +kernel
theorem dX12_solution_144 : decode cX12_solution 144 = .ok (.lconst 0, 1) := by decide +kernel
theorem dX12_solution_145 : decode cX12_solution 145 = .ok (.lcmp, 1) := by decide +kernel
theorem dX12_solution_146 : decode cX12_solution 146 = .ok (.ifCond .ne 7, 3) := by decide +kernel
theorem dX12_solution_149 : decode cX12_solution 149 = .ok (.iconst 1, 1) := by decide +kernel
theorem dX12_solution_150 : decode cX12_solution 150 = .ok (.goto 4, 3) := by decide +kernel
theorem dX12_solution_153 : decode cX12_solution 153 = .ok (.iconst 0, 1) := by decide +kernel
theorem dX12_solution_154 : decode cX12_solution 154 = .ok (.istore_n 3, 1) := by decide +kernel
theorem dX12_solution_155 : decode cX12_solution 155 = .ok (.iinc 4 1, 3) := by decide +kernel
theorem dX12_solution_158 : decode cX12_solution 158 = .ok (.goto (-37), 3) := by decide +kernel
theorem dX12_solution_161 : decode cX12_solution 161 = .ok (.iload_n 3, 1) := by decide +kernel
theorem dX12_solution_162 : decode cX12_solution 162 = .ok (.ifCond .eq 22, 3) := by decide +kernel
theorem dX12_solution_165 : decode cX12_solution 165 = .ok (.aload_n 0, 1) := by decide +kernel
theorem dX12_solution_166 : decode cX12_solution 166 = .ok (.getfield 144, 3) := by decide +kernel
theorem dX12_solution_169 : decode cX12_solution 169 = .ok (.bipush 13, 2) := by decide +kernel
theorem dX12_solution_171 : decode cX12_solution 171 = .ok (.iload_n 2, 1) := by decide +kernel
theorem dX12_solution_172 : decode cX12_solution 172 = .ok (.imul, 1) := by decide +kernel
theorem dX12_solution_173 : decode cX12_solution 173 = .ok (.bipush 12, 2) := by decide +kernel
theorem dX12_solution_175 : decode cX12_solution 175 = .ok (.iadd, 1) := by decide +kernel
theorem dX12_solution_176 : decode cX12_solution 176 = .ok (.laload, 1) := by decide +kernel
theorem dX12_solution_177 : decode cX12_solution 177 = .ok (.lconst 0, 1) := by decide +kernel
theorem dX12_solution_178 : decode cX12_solution 178 = .ok (.lcmp, 1) := by decide +kernel
theorem dX12_solution_179 : decode cX12_solution 179 = .ok (.ifCond .eq 5, 3) := by decide +kernel
theorem dX12_solution_182 : decode cX12_solution 182 = .ok (.iconst 2, 1) := by decide +kernel
theorem dX12_solution_183 : decode cX12_solution 183 = .ok (.ireturn, 1) := by decide +kernel
theorem dX12_solution_184 : decode cX12_solution 184 = .ok (.iinc 2 1, 3) := by decide +kernel
theorem dX12_solution_187 : decode cX12_solution 187 = .ok (.goto (-79), 3) := by decide +kernel
theorem dX12_solution_190 : decode cX12_solution 190 = .ok (.iconst 1, 1) := by decide +kernel
theorem dX12_solution_191 : decode cX12_solution 191 = .ok (.ireturn, 1) := by decide +kernel
theorem dX12_solved_0 : decode cX12_solved 0 = .ok (.aload_n 0, 1) := by decide +kernel
theorem dX12_solved_1 : decode cX12_solved 1 = .ok (.iconst 0, 1) := by decide +kernel
theorem dX12_solved_2 : decode cX12_solved 2 = .ok (.putfield 243, 3) := by decide +kernel
theorem dX12_solved_5 : decode cX12_solved 5 = .ok (.aload_n 0, 1) := by decide +kernel
theorem dX12_solved_6 : decode cX12_solved 6 = .ok (.invokevirtual 650, 3) := by decide +kernel
theorem dX12_solved_9 : decode cX12_solved 9 = .ok (.ireturn, 1) := by decide +kernel
theorem dX12_turns_0 : decode cX12_turns 0 = .ok (.aload_n 0, 1) := by decide +kernel
theorem dX12_turns_1 : decode cX12_turns 1 = .ok (.iload_n 1, 1) := by decide +kernel
theorem dX12_turns_2 : decode cX12_turns 2 = .ok (.i2l, 1) := by decide +kernel
theorem dX12_turns_3 : decode cX12_turns 3 = .ok (.lconst 0, 1) := by decide +kernel
theorem dX12_turns_4 : decode cX12_turns 4 = .ok (.ldc2_w 613, 3) := by decide +kernel
theorem dX12_turns_7 : decode cX12_turns 7 = .ok (.invokestatic 262, 3) := by decide +kernel
theorem dX12_turns_10 : decode cX12_turns 10 = .ok (.ifCond .eq 17, 3) := by decide +kernel
theorem dX12_turns_13 : decode cX12_turns 13 = .ok (.iload_n 2, 1) := by decide +kernel
theorem dX12_turns_14 : decode cX12_turns 14 = .ok (.i2l, 1) := by decide +kernel
theorem dX12_turns_15 : decode cX12_turns 15 = .ok (.lconst 0, 1) := by decide +kernel
theorem dX12_turns_16 : decode cX12_turns 16 = .ok (.lconst 1, 1) := by decide +kernel
theorem dX12_turns_17 : decode cX12_turns 17 = .ok (.invokestatic 262, 3) := by decide +kernel
theorem dX12_turns_20 : decode cX12_turns 20 = .ok (.ifCond .eq 7, 3) := by decide +kernel
theorem dX12_turns_23 : decode cX12_turns 23 = .ok (.iconst 0, 1) := by decide +kernel
theorem dX12_turns_24 : decode cX12_turns 24 = .ok (.goto 4, 3) := by decide +kernel
theorem dX12_turns_27 : decode cX12_turns 27 = .ok (.iconst 1, 1) := by decide +kernel
theorem dX12_turns_28 : decode cX12_turns 28 = .ok (.putfield 243, 3) := by decide +kernel
theorem dX12_turns_31 : decode cX12_turns 31 = .ok (.aload_n 0, 1) := by decide +kernel
theorem dX12_turns_32 : decode cX12_turns 32 = .ok (.getfield 243, 3) := by decide +kernel
theorem dX12_turns_35 : decode cX12_turns 35 = .ok (.ifCond .le 5, 3) := by decide +kernel
theorem dX12_turns_38 : decode cX12_turns 38 = .ok (.lconst 0, 1) := by decide +kernel
theorem dX12_turns_39 : decode cX12_turns 39 = .ok (.lreturn, 1) := by decide +kernel
theorem dX12_turns_40 : decode cX12_turns 40 = .ok (.aload_n 0, 1) := by decide +kernel
theorem dX12_turns_41 : decode cX12_turns 41 = .ok (.invokevirtual 650, 3) := by decide +kernel
theorem dX12_turns_44 : decode cX12_turns 44 = .ok (.iconst 1, 1) := by decide +kernel
theorem dX12_turns_45 : decode cX12_turns 45 = .ok (.if_icmp .eq 10, 3) := by decide +kernel
theorem dX12_turns_48 : decode cX12_turns 48 = .ok (.aload_n 0, 1) := by decide +kernel
theorem dX12_turns_49 : decode cX12_turns 49 = .ok (.iconst 3, 1) := by decide +kernel
theorem dX12_turns_50 : decode cX12_turns 50 = .ok (.putfield 243, 3) := by decide +kernel
theorem dX12_turns_53 : decode cX12_turns 53 = .ok (.lconst 0, 1) := by decide +kernel
theorem dX12_turns_54 : decode cX12_turns 54 = .ok (.lreturn, 1) := by decide +kernel
theorem dX12_turns_55 : decode cX12_turns 55 = .ok (.aload_n 0, 1) := by decide +kernel
theorem dX12_turns_56 : decode cX12_turns 56 = .ok (.getfield 150, 3) := by decide +kernel
theorem dX12_turns_59 : decode cX12_turns 59 = .ok (.iload_n 1, 1) := by decide +kernel
theorem dX12_turns_60 : decode cX12_turns 60 = .ok (.iaload, 1) := by decide +kernel
theorem dX12_turns_61 : decode cX12_turns 61 = .ok (.istore_n 3, 1) := by decide +kernel
theorem dX12_turns_62 : decode cX12_turns 62 = .ok (.iconst 0, 1) := by decide +kernel
theorem dX12_turns_63 : decode cX12_turns 63 = .ok (.istore 4, 2) := by decide +kernel
theorem dX12_turns_65 : decode cX12_turns 65 = .ok (.iconst 0, 1) := by decide +kernel
theorem dX12_turns_66 : decode cX12_turns 66 = .ok (.istore 5, 2) := by decide +kernel
theorem dX12_turns_68 : decode cX12_turns 68 = .ok (.iload 5, 2) := by decide +kernel
theorem dX12_turns_70 : decode cX12_turns 70 = .ok (.bipush 12, 2) := by decide +kernel
theorem dX12_turns_72 : decode cX12_turns 72 = .ok (.if_icmp .ge 39, 3) := by decide +kernel
theorem dX12_turns_75 : decode cX12_turns 75 = .ok (.iload_n 3, 1) := by decide +kernel
theorem dX12_turns_76 : decode cX12_turns 76 = .ok (.ifCond .lt 35, 3) := by decide +kernel
theorem dX12_turns_79 : decode cX12_turns 79 = .ok (.iload 5, 2) := by decide +kernel
theorem dX12_turns_81 : decode cX12_turns 81 = .ok (.iload_n 1, 1) := by decide +kernel
theorem dX12_turns_82 : decode cX12_turns 82 = .ok (.if_icmp .eq 23, 3) := by decide +kernel
theorem dX12_turns_85 : decode cX12_turns 85 = .ok (.aload_n 0, 1) := by decide +kernel
theorem dX12_turns_86 : decode cX12_turns 86 = .ok (.getfield 144, 3) := by decide +kernel
theorem dX12_turns_89 : decode cX12_turns 89 = .ok (.bipush 13, 2) := by decide +kernel
theorem dX12_turns_91 : decode cX12_turns 91 = .ok (.iload_n 3, 1) := by decide +kernel
theorem dX12_turns_92 : decode cX12_turns 92 = .ok (.imul, 1) := by decide +kernel
theorem dX12_turns_93 : decode cX12_turns 93 = .ok (.iload 5, 2) := by decide +kernel
theorem dX12_turns_95 : decode cX12_turns 95 = .ok (.iadd, 1) := by decide +kernel
theorem dX12_turns_96 : decode cX12_turns 96 = .ok (.laload, 1) := by decide +kernel
theorem dX12_turns_97 : decode cX12_turns 97 = .ok (.lconst 0, 1) := by decide +kernel
theorem dX12_turns_98 : decode cX12_turns 98 = .ok (.lcmp, 1) := by decide +kernel
theorem dX12_turns_99 : decode cX12_turns 99 = .ok (.ifCond .eq 6, 3) := by decide +kernel
theorem dX12_turns_102 : decode cX12_turns 102 = .ok (.iinc 4 1, 3) := by decide +kernel
theorem dX12_turns_105 : decode cX12_turns 105 = .ok (.iinc 5 1, 3) := by decide +kernel
theorem dX12_turns_108 : decode cX12_turns 108 = .ok (.goto (-40), 3) := by decide +kernel
theorem dX12_turns_111 : decode cX12_turns 111 = .ok (.aload_n 0, 1) := by decide +kernel
theorem dX12_turns_112 : decode cX12_turns 112 = .ok (.iload_n 3, 1) := by decide +kernel
theorem dX12_turns_113 : decode cX12_turns 113 = .ok (.ifCond .lt 8, 3) := by decide +kernel
theorem dX12_turns_116 : decode cX12_turns 116 = .ok (.iload 4, 2) := by decide +kernel
theorem dX12_turns_118 : decode cX12_turns 118 = .ok (.ifCond .le 7, 3) := by decide +kernel
theorem dX12_turns_121 : decode cX12_turns 121 = .ok (.iconst 2, 1) := by decide +kernel
theorem dX12_turns_122 : decode cX12_turns 122 = .ok (.goto 4, 3) := by decide +kernel
theorem dX12_turns_125 : decode cX12_turns 125 = .ok (.iconst 0, 1) := by decide +kernel
theorem dX12_turns_126 : decode cX12_turns 126 = .ok (.putfield 243, 3) := by decide +kernel
theorem dX12_turns_129 : decode cX12_turns 129 = .ok (.aload_n 0, 1) := by decide +kernel
theorem dX12_turns_130 : decode cX12_turns 130 = .ok (.getfield 243, 3) := by decide +kernel
theorem dX12_turns_133 : decode cX12_turns 133 = .ok (.ifCond .le 7, 3) := by decide +kernel
theorem dX12_turns_136 : decode cX12_turns 136 = .ok (.lconst 0, 1) := by decide +kernel
theorem dX12_turns_137 : decode cX12_turns 137 = .ok (.goto 34, 3) := by decide +kernel
theorem dX12_turns_140 : decode cX12_turns 140 = .ok (.iload_n 2, 1) := by decide +kernel
theorem dX12_turns_141 : decode cX12_turns 141 = .ok (.ifCond .ne 18, 3) := by decide +kernel
theorem dX12_turns_144 : decode cX12_turns 144 = .ok (.aload_n 0, 1) := by decide +kernel
theorem dX12_turns_145 : decode cX12_turns 145 = .ok (.getfield 144, 3) := by decide +kernel
theorem dX12_turns_148 : decode cX12_turns 148 = .ok (.bipush 13, 2) := by decide +kernel
theorem dX12_turns_150 : decode cX12_turns 150 = .ok (.iload_n 3, 1) := by decide +kernel
theorem dX12_turns_151 : decode cX12_turns 151 = .ok (.imul, 1) := by decide +kernel
theorem dX12_turns_152 : decode cX12_turns 152 = .ok (.bipush 12, 2) := by decide +kernel
theorem dX12_turns_154 : decode cX12_turns 154 = .ok (.iadd, 1) := by decide +kernel
theorem dX12_turns_155 : decode cX12_turns 155 = .ok (.laload, 1) := by decide +kernel
theorem dX12_turns_156 : decode cX12_turns 156 = .ok (.goto 15, 3) := by decide +kernel
theorem dX12_turns_159 : decode cX12_turns 159 = .ok (.aload_n 0, 1) := by decide +kernel
theorem dX12_turns_160 : decode cX12_turns 160 = .ok (.getfield 147, 3) := by decide +kernel
theorem dX12_turns_163 : decode cX12_turns 163 = .ok (.bipush 13, 2) := by decide +kernel
theorem dX12_turns_165 : decode cX12_turns 165 = .ok (.iload_n 3, 1) := by decide +kernel
theorem dX12_turns_166 : decode cX12_turns 166 = .ok (.imul, 1) := by decide +kernel
theorem dX12_turns_167 : decode cX12_turns 167 = .ok (.bipush 12, 2) := by decide +kernel
theorem dX12_turns_169 : decode cX12_turns 169 = .ok (.iadd, 1) := by decide +kernel
theorem dX12_turns_170 : decode cX12_turns 170 = .ok (.laload, 1) := by decide +kernel
theorem dX12_turns_171 : decode cX12_turns 171 = .ok (.lreturn, 1) := by decide +kernel
theorem dX12_interference_0 : decode cX12_interference 0 = .ok (.aload_n 0, 1) := by decide +kernel
theorem dX12_interference_1 : decode cX12_interference 1 = .ok (.aload_n 0, 1) := by decide +kernel
theorem dX12_interference_2 : decode cX12_interference 2 = .ok (.iload_n 1, 1) := by decide +kernel
theorem dX12_interference_3 : decode cX12_interference 3 = .ok (.invokevirtual 618, 3) := by decide +kernel
theorem dX12_interference_6 : decode cX12_interference 6 = .ok (.ifCond .eq 15, 3) := by decide +kernel
theorem dX12_interference_9 : decode cX12_interference 9 = .ok (.aload_n 0, 1) := by decide +kernel
theorem dX12_interference_10 : decode cX12_interference 10 = .ok (.iload_n 2, 1) := by decide +kernel
theorem dX12_interference_11 : decode cX12_interference 11 = .ok (.invokevirtual 618, 3) := by decide +kernel
theorem dX12_interference_14 : decode cX12_interference 14 = .ok (.ifCond .eq 7, 3) := by decide +kernel
theorem dX12_interference_17 : decode cX12_interference 17 = .ok (.iconst 0, 1) := by decide +kernel
theorem dX12_interference_18 : decode cX12_interference 18 = .ok (.goto 4, 3) := by decide +kernel
theorem dX12_interference_21 : decode cX12_interference 21 = .ok (.iconst 1, 1) := by decide +kernel
theorem dX12_interference_22 : decode cX12_interference 22 = .ok (.putfield 243, 3) := by decide +kernel
theorem dX12_interference_25 : decode cX12_interference 25 = .ok (.aload_n 0, 1) := by decide +kernel
theorem dX12_interference_26 : decode cX12_interference 26 = .ok (.getfield 243, 3) := by decide +kernel
theorem dX12_interference_29 : decode cX12_interference 29 = .ok (.ifCond .le 5, 3) := by decide +kernel
theorem dX12_interference_32 : decode cX12_interference 32 = .ok (.iconst 0, 1) := by decide +kernel
theorem dX12_interference_33 : decode cX12_interference 33 = .ok (.ireturn, 1) := by decide +kernel
theorem dX12_interference_34 : decode cX12_interference 34 = .ok (.aload_n 0, 1) := by decide +kernel
theorem dX12_interference_35 : decode cX12_interference 35 = .ok (.getfield 117, 3) := by decide +kernel
theorem dX12_interference_38 : decode cX12_interference 38 = .ok (.iload_n 1, 1) := by decide +kernel
theorem dX12_interference_39 : decode cX12_interference 39 = .ok (.iaload, 1) := by decide +kernel
theorem dX12_interference_40 : decode cX12_interference 40 = .ok (.i2l, 1) := by decide +kernel
theorem dX12_interference_41 : decode cX12_interference 41 = .ok (.aload_n 0, 1) := by decide +kernel
theorem dX12_interference_42 : decode cX12_interference 42 = .ok (.getfield 117, 3) := by decide +kernel
theorem dX12_interference_45 : decode cX12_interference 45 = .ok (.iload_n 2, 1) := by decide +kernel
theorem dX12_interference_46 : decode cX12_interference 46 = .ok (.iaload, 1) := by decide +kernel
theorem dX12_interference_47 : decode cX12_interference 47 = .ok (.i2l, 1) := by decide +kernel
theorem dX12_interference_48 : decode cX12_interference 48 = .ok (.invokestatic 314, 3) := by decide +kernel
theorem dX12_interference_51 : decode cX12_interference 51 = .ok (.lstore 4, 2) := by decide +kernel
theorem dX12_interference_53 : decode cX12_interference 53 = .ok (.aload_n 0, 1) := by decide +kernel
theorem dX12_interference_54 : decode cX12_interference 54 = .ok (.getfield 117, 3) := by decide +kernel
theorem dX12_interference_57 : decode cX12_interference 57 = .ok (.iload_n 1, 1) := by decide +kernel
theorem dX12_interference_58 : decode cX12_interference 58 = .ok (.iaload, 1) := by decide +kernel
theorem dX12_interference_59 : decode cX12_interference 59 = .ok (.i2l, 1) := by decide +kernel
theorem dX12_interference_60 : decode cX12_interference 60 = .ok (.aload_n 0, 1) := by decide +kernel
theorem dX12_interference_61 : decode cX12_interference 61 = .ok (.getfield 117, 3) := by decide +kernel
theorem dX12_interference_64 : decode cX12_interference 64 = .ok (.iload_n 2, 1) := by decide +kernel
theorem dX12_interference_65 : decode cX12_interference 65 = .ok (.iaload, 1) := by decide +kernel
theorem dX12_interference_66 : decode cX12_interference 66 = .ok (.i2l, 1) := by decide +kernel
theorem dX12_interference_67 : decode cX12_interference 67 = .ok (.invokestatic 317, 3) := by decide +kernel
theorem dX12_interference_70 : decode cX12_interference 70 = .ok (.lstore 6, 2) := by decide +kernel
theorem dX12_interference_72 : decode cX12_interference 72 = .ok (.lload 4, 2) := by decide +kernel
theorem dX12_interference_74 : decode cX12_interference 74 = .ok (.ldc2_w 653, 3) := by decide +kernel
theorem dX12_interference_77 : decode cX12_interference 77 = .ok (.lmul, 1) := by decide +kernel
theorem dX12_interference_78 : decode cX12_interference 78 = .ok (.ldc2_w 655, 3) := by decide +kernel
theorem dX12_interference_81 : decode cX12_interference 81 = .ok (.lcmp, 1) := by decide +kernel
theorem dX12_interference_82 : decode cX12_interference 82 = .ok (.ifCond .ge 7, 3) := by decide +kernel
theorem dX12_interference_85 : decode cX12_interference 85 = .ok (.iconst 1, 1) := by decide +kernel
theorem dX12_interference_86 : decode cX12_interference 86 = .ok (.goto 4, 3) := by decide +kernel
theorem dX12_interference_89 : decode cX12_interference 89 = .ok (.iconst 0, 1) := by decide +kernel
theorem dX12_interference_90 : decode cX12_interference 90 = .ok (.istore 8, 2) := by decide +kernel
theorem dX12_interference_92 : decode cX12_interference 92 = .ok (.iload_n 3, 1) := by decide +kernel
theorem dX12_interference_93 : decode cX12_interference 93 = .ok (.ifCond .eq 30, 3) := by decide +kernel
theorem dX12_interference_96 : decode cX12_interference 96 = .ok (.iload 8, 2) := by decide +kernel
theorem dX12_interference_98 : decode cX12_interference 98 = .ok (.ifCond .eq 7, 3) := by decide +kernel
theorem dX12_interference_101 : decode cX12_interference 101 = .ok (.iconst 1, 1) := by decide +kernel
theorem dX12_interference_102 : decode cX12_interference 102 = .ok (.goto 20, 3) := by decide +kernel
theorem dX12_interference_105 : decode cX12_interference 105 = .ok (.lload 6, 2) := by decide +kernel
theorem dX12_interference_107 : decode cX12_interference 107 = .ok (.lload 4, 2) := by decide +kernel
theorem dX12_interference_109 : decode cX12_interference 109 = .ok (.lsub, 1) := by decide +kernel
theorem dX12_interference_110 : decode cX12_interference 110 = .ok (.ldc2_w 657, 3) := by decide +kernel
theorem dX12_interference_113 : decode cX12_interference 113 = .ok (.lcmp, 1) := by decide +kernel
theorem dX12_interference_114 : decode cX12_interference 114 = .ok (.ifCond .ge 7, 3) := by decide +kernel
theorem dX12_interference_117 : decode cX12_interference 117 = .ok (.iconst 2, 1) := by decide +kernel
theorem dX12_interference_118 : decode cX12_interference 118 = .ok (.goto 4, 3) := by decide +kernel
theorem dX12_interference_121 : decode cX12_interference 121 = .ok (.iconst 0, 1) := by decide +kernel
theorem dX12_interference_122 : decode cX12_interference 122 = .ok (.ireturn, 1) := by decide +kernel
theorem dX12_interference_123 : decode cX12_interference 123 = .ok (.iload 8, 2) := by decide +kernel
theorem dX12_interference_125 : decode cX12_interference 125 = .ok (.ifCond .ne 5, 3) := by decide +kernel
theorem dX12_interference_128 : decode cX12_interference 128 = .ok (.iconst 0, 1) := by decide +kernel
theorem dX12_interference_129 : decode cX12_interference 129 = .ok (.ireturn, 1) := by decide +kernel
theorem dX12_interference_130 : decode cX12_interference 130 = .ok (.lload 6, 2) := by decide +kernel
theorem dX12_interference_132 : decode cX12_interference 132 = .ok (.ldc2_w 659, 3) := by decide +kernel
theorem dX12_interference_135 : decode cX12_interference 135 = .ok (.ldc2_w 325, 3) := by decide +kernel
theorem dX12_interference_138 : decode cX12_interference 138 = .ok (.lload 4, 2) := by decide +kernel
theorem dX12_interference_140 : decode cX12_interference 140 = .ok (.lmul, 1) := by decide +kernel
theorem dX12_interference_141 : decode cX12_interference 141 = .ok (.ldc2_w 653, 3) := by decide +kernel
theorem dX12_interference_144 : decode cX12_interference 144 = .ok (.lmul, 1) := by decide +kernel
theorem dX12_interference_145 : decode cX12_interference 145 = .ok (.lsub, 1) := by decide +kernel
theorem dX12_interference_146 : decode cX12_interference 146 = .ok (.lmul, 1) := by decide +kernel
theorem dX12_interference_147 : decode cX12_interference 147 = .ok (.lload 4, 2) := by decide +kernel
theorem dX12_interference_149 : decode cX12_interference 149 = .ok (.lload 4, 2) := by decide +kernel
theorem dX12_interference_151 : decode cX12_interference 151 = .ok (.lmul, 1) := by decide +kernel
theorem dX12_interference_152 : decode cX12_interference 152 = .ok (.ldc2_w 653, 3) := by decide +kernel
theorem dX12_interference_155 : decode cX12_interference 155 = .ok (.lmul, 1) := by decide +kernel
theorem dX12_interference_156 : decode cX12_interference 156 = .ok (.ldc2_w 659, 3) := by decide +kernel
theorem dX12_interference_159 : decode cX12_interference 159 = .ok (.lsub, 1) := by decide +kernel
theorem dX12_interference_160 : decode cX12_interference 160 = .ok (.lcmp, 1) := by decide +kernel
theorem dX12_interference_161 : decode cX12_interference 161 = .ok (.ifCond .le 7, 3) := by decide +kernel
theorem dX12_interference_164 : decode cX12_interference 164 = .ok (.iconst 2, 1) := by decide +kernel
theorem dX12_interference_165 : decode cX12_interference 165 = .ok (.goto 4, 3) := by decide +kernel
theorem dX12_interference_168 : decode cX12_interference 168 = .ok (.iconst 1, 1) := by decide +kernel
theorem dX12_interference_169 : decode cX12_interference 169 = .ok (.ireturn, 1) := by decide +kernel
theorem dX12_trains_0 : decode cX12_trains 0 = .ok (.iload_n 1, 1) := by decide +kernel
theorem dX12_trains_1 : decode cX12_trains 1 = .ok (.i2l, 1) := by decide +kernel
theorem dX12_trains_2 : decode cX12_trains 2 = .ok (.lconst 1, 1) := by decide +kernel
theorem dX12_trains_3 : decode cX12_trains 3 = .ok (.ldc2_w 661, 3) := by decide +kernel
theorem dX12_trains_6 : decode cX12_trains 6 = .ok (.invokestatic 262, 3) := by decide +kernel
theorem dX12_trains_9 : decode cX12_trains 9 = .ok (.ifCond .eq 54, 3) := by decide +kernel
theorem dX12_trains_12 : decode cX12_trains 12 = .ok (.iload_n 2, 1) := by decide +kernel
theorem dX12_trains_13 : decode cX12_trains 13 = .ok (.i2l, 1) := by decide +kernel
theorem dX12_trains_14 : decode cX12_trains 14 = .ok (.lconst 1, 1) := by decide +kernel
theorem dX12_trains_15 : decode cX12_trains 15 = .ok (.ldc2_w 661, 3) := by decide +kernel
theorem dX12_trains_18 : decode cX12_trains 18 = .ok (.invokestatic 262, 3) := by decide +kernel
theorem dX12_trains_21 : decode cX12_trains 21 = .ok (.ifCond .eq 42, 3) := by decide +kernel
theorem dX12_trains_24 : decode cX12_trains 24 = .ok (.iload_n 3, 1) := by decide +kernel
theorem dX12_trains_25 : decode cX12_trains 25 = .ok (.i2l, 1) := by decide +kernel
theorem dX12_trains_26 : decode cX12_trains 26 = .ok (.ldc2_w 609, 3) := by decide +kernel
theorem dX12_trains_29 : decode cX12_trains 29 = .ok (.ldc2_w 663, 3) := by decide +kernel
theorem dX12_trains_32 : decode cX12_trains 32 = .ok (.invokestatic 262, 3) := by decide +kernel
theorem dX12_trains_35 : decode cX12_trains 35 = .ok (.ifCond .eq 28, 3) := by decide +kernel
theorem dX12_trains_38 : decode cX12_trains 38 = .ok (.iload 4, 2) := by decide +kernel
theorem dX12_trains_40 : decode cX12_trains 40 = .ok (.i2l, 1) := by decide +kernel
theorem dX12_trains_41 : decode cX12_trains 41 = .ok (.ldc2_w 609, 3) := by decide +kernel
theorem dX12_trains_44 : decode cX12_trains 44 = .ok (.ldc2_w 663, 3) := by decide +kernel
theorem dX12_trains_47 : decode cX12_trains 47 = .ok (.invokestatic 262, 3) := by decide +kernel
theorem dX12_trains_50 : decode cX12_trains 50 = .ok (.ifCond .eq 13, 3) := by decide +kernel
theorem dX12_trains_53 : decode cX12_trains 53 = .ok (.iload_n 3, 1) := by decide +kernel
theorem dX12_trains_54 : decode cX12_trains 54 = .ok (.iload 4, 2) := by decide +kernel
theorem dX12_trains_56 : decode cX12_trains 56 = .ok (.if_icmp .gt 7, 3) := by decide +kernel
theorem dX12_trains_59 : decode cX12_trains 59 = .ok (.iconst 1, 1) := by decide +kernel
theorem dX12_trains_60 : decode cX12_trains 60 = .ok (.goto 4, 3) := by decide +kernel
theorem dX12_trains_63 : decode cX12_trains 63 = .ok (.iconst 0, 1) := by decide +kernel
theorem dX12_trains_64 : decode cX12_trains 64 = .ok (.istore 5, 2) := by decide +kernel
theorem dX12_trains_66 : decode cX12_trains 66 = .ok (.aload_n 0, 1) := by decide +kernel
theorem dX12_trains_67 : decode cX12_trains 67 = .ok (.iload 5, 2) := by decide +kernel
theorem dX12_trains_69 : decode cX12_trains 69 = .ok (.ifCond .eq 7, 3) := by decide +kernel
theorem dX12_trains_72 : decode cX12_trains 72 = .ok (.iconst 0, 1) := by decide +kernel
theorem dX12_trains_73 : decode cX12_trains 73 = .ok (.goto 4, 3) := by decide +kernel
theorem dX12_trains_76 : decode cX12_trains 76 = .ok (.iconst 1, 1) := by decide +kernel
theorem dX12_trains_77 : decode cX12_trains 77 = .ok (.putfield 243, 3) := by decide +kernel
theorem dX12_trains_80 : decode cX12_trains 80 = .ok (.aload_n 0, 1) := by decide +kernel
theorem dX12_trains_81 : decode cX12_trains 81 = .ok (.getfield 243, 3) := by decide +kernel
theorem dX12_trains_84 : decode cX12_trains 84 = .ok (.ifCond .le 5, 3) := by decide +kernel
theorem dX12_trains_87 : decode cX12_trains 87 = .ok (.iconst 0, 1) := by decide +kernel
theorem dX12_trains_88 : decode cX12_trains 88 = .ok (.ireturn, 1) := by decide +kernel
theorem dX12_trains_89 : decode cX12_trains 89 = .ok (.aload_n 0, 1) := by decide +kernel
theorem dX12_trains_90 : decode cX12_trains 90 = .ok (.iconst 0, 1) := by decide +kernel
theorem dX12_trains_91 : decode cX12_trains 91 = .ok (.putfield 665, 3) := by decide +kernel
theorem dX12_trains_94 : decode cX12_trains 94 = .ok (.iconst 0, 1) := by decide +kernel
theorem dX12_trains_95 : decode cX12_trains 95 = .ok (.istore 6, 2) := by decide +kernel
theorem dX12_trains_97 : decode cX12_trains 97 = .ok (.iload_n 3, 1) := by decide +kernel
theorem dX12_trains_98 : decode cX12_trains 98 = .ok (.istore 7, 2) := by decide +kernel
theorem dX12_trains_100 : decode cX12_trains 100 = .ok (.iload 7, 2) := by decide +kernel
theorem dX12_trains_102 : decode cX12_trains 102 = .ok (.iload 4, 2) := by decide +kernel
theorem dX12_trains_104 : decode cX12_trains 104 = .ok (.if_icmp .gt 203, 3) := by decide +kernel
theorem dX12_trains_107 : decode cX12_trains 107 = .ok (.iload 7, 2) := by decide +kernel
theorem dX12_trains_109 : decode cX12_trains 109 = .ok (.istore 8, 2) := by decide +kernel
theorem dX12_trains_111 : decode cX12_trains 111 = .ok (.iload 8, 2) := by decide +kernel
theorem dX12_trains_113 : decode cX12_trains 113 = .ok (.iload 4, 2) := by decide +kernel
theorem dX12_trains_115 : decode cX12_trains 115 = .ok (.if_icmp .gt 186, 3) := by decide +kernel
theorem dX12_trains_118 : decode cX12_trains 118 = .ok (.iload 7, 2) := by decide +kernel
theorem dX12_trains_120 : decode cX12_trains 120 = .ok (.i2l, 1) := by decide +kernel
theorem dX12_trains_121 : decode cX12_trains 121 = .ok (.iload 8, 2) := by decide +kernel
theorem dX12_trains_123 : decode cX12_trains 123 = .ok (.i2l, 1) := by decide +kernel
theorem dX12_trains_124 : decode cX12_trains 124 = .ok (.lmul, 1) := by decide +kernel
theorem dX12_trains_125 : decode cX12_trains 125 = .ok (.iload_n 2, 1) := by decide +kernel
theorem dX12_trains_126 : decode cX12_trains 126 = .ok (.i2l, 1) := by decide +kernel
theorem dX12_trains_127 : decode cX12_trains 127 = .ok (.lmul, 1) := by decide +kernel
theorem dX12_trains_128 : decode cX12_trains 128 = .ok (.lstore 9, 2) := by decide +kernel
theorem dX12_trains_130 : decode cX12_trains 130 = .ok (.lload 9, 2) := by decide +kernel
theorem dX12_trains_132 : decode cX12_trains 132 = .ok (.iload_n 1, 1) := by decide +kernel
theorem dX12_trains_133 : decode cX12_trains 133 = .ok (.i2l, 1) := by decide +kernel
theorem dX12_trains_134 : decode cX12_trains 134 = .ok (.lrem, 1) := by decide +kernel
theorem dX12_trains_135 : decode cX12_trains 135 = .ok (.lconst 0, 1) := by decide +kernel
theorem dX12_trains_136 : decode cX12_trains 136 = .ok (.lcmp, 1) := by decide +kernel
theorem dX12_trains_137 : decode cX12_trains 137 = .ok (.ifCond .eq 6, 3) := by decide +kernel
theorem dX12_trains_140 : decode cX12_trains 140 = .ok (.goto 155, 3) := by decide +kernel
theorem dX12_trains_143 : decode cX12_trains 143 = .ok (.lload 9, 2) := by decide +kernel
theorem dX12_trains_145 : decode cX12_trains 145 = .ok (.iload_n 1, 1) := by decide +kernel
theorem dX12_trains_146 : decode cX12_trains 146 = .ok (.i2l, 1) := by decide +kernel
theorem dX12_trains_147 : decode cX12_trains 147 = .ok (.ldiv, 1) := by decide +kernel
theorem dX12_trains_148 : decode cX12_trains 148 = .ok (.lstore 9, 2) := by decide +kernel
theorem dX12_trains_150 : decode cX12_trains 150 = .ok (.iload_n 3, 1) := by decide +kernel
theorem dX12_trains_151 : decode cX12_trains 151 = .ok (.istore 11, 2) := by decide +kernel
theorem dX12_trains_153 : decode cX12_trains 153 = .ok (.iload 11, 2) := by decide +kernel
theorem dX12_trains_155 : decode cX12_trains 155 = .ok (.iload 4, 2) := by decide +kernel
theorem dX12_trains_157 : decode cX12_trains 157 = .ok (.if_icmp .gt 138, 3) := by decide +kernel
theorem dX12_trains_160 : decode cX12_trains 160 = .ok (.iload 11, 2) := by decide +kernel
theorem dX12_trains_162 : decode cX12_trains 162 = .ok (.i2l, 1) := by decide +kernel
theorem dX12_trains_163 : decode cX12_trains 163 = .ok (.iload 11, 2) := by decide +kernel
theorem dX12_trains_165 : decode cX12_trains 165 = .ok (.i2l, 1) := by decide +kernel
theorem dX12_trains_166 : decode cX12_trains 166 = .ok (.lmul, 1) := by decide +kernel
theorem dX12_trains_167 : decode cX12_trains 167 = .ok (.lload 9, 2) := by decide +kernel
theorem dX12_trains_169 : decode cX12_trains 169 = .ok (.lcmp, 1) := by decide +kernel
theorem dX12_trains_170 : decode cX12_trains 170 = .ok (.ifCond .gt 125, 3) := by decide +kernel
theorem dX12_trains_173 : decode cX12_trains 173 = .ok (.lload 9, 2) := by decide +kernel
theorem dX12_trains_175 : decode cX12_trains 175 = .ok (.iload 11, 2) := by decide +kernel
theorem dX12_trains_177 : decode cX12_trains 177 = .ok (.i2l, 1) := by decide +kernel
theorem dX12_trains_178 : decode cX12_trains 178 = .ok (.lrem, 1) := by decide +kernel
theorem dX12_trains_179 : decode cX12_trains 179 = .ok (.lconst 0, 1) := by decide +kernel
theorem dX12_trains_180 : decode cX12_trains 180 = .ok (.lcmp, 1) := by decide +kernel
theorem dX12_trains_181 : decode cX12_trains 181 = .ok (.ifCond .ne 108, 3) := by decide +kernel
theorem dX12_trains_184 : decode cX12_trains 184 = .ok (.lload 9, 2) := by decide +kernel
theorem dX12_trains_186 : decode cX12_trains 186 = .ok (.iload 11, 2) := by decide +kernel
theorem dX12_trains_188 : decode cX12_trains 188 = .ok (.i2l, 1) := by decide +kernel
theorem dX12_trains_189 : decode cX12_trains 189 = .ok (.ldiv, 1) := by decide +kernel
theorem dX12_trains_190 : decode cX12_trains 190 = .ok (.iload 4, 2) := by decide +kernel
theorem dX12_trains_192 : decode cX12_trains 192 = .ok (.i2l, 1) := by decide +kernel
theorem dX12_trains_193 : decode cX12_trains 193 = .ok (.lcmp, 1) := by decide +kernel
theorem dX12_trains_194 : decode cX12_trains 194 = .ok (.ifCond .le 6, 3) := by decide +kernel
theorem dX12_trains_197 : decode cX12_trains 197 = .ok (.goto 92, 3) := by decide +kernel
theorem dX12_trains_200 : decode cX12_trains 200 = .ok (.iinc 6 1, 3) := by decide +kernel
theorem dX12_trains_203 : decode cX12_trains 203 = .ok (.aload_n 0, 1) := by decide +kernel
theorem dX12_trains_204 : decode cX12_trains 204 = .ok (.getfield 665, 3) := by decide +kernel
theorem dX12_trains_207 : decode cX12_trains 207 = .ok (.sipush 300, 3) := by decide +kernel
theorem dX12_trains_210 : decode cX12_trains 210 = .ok (.if_icmp .ne 6, 3) := by decide +kernel
theorem dX12_trains_213 : decode cX12_trains 213 = .ok (.goto 76, 3) := by decide +kernel
theorem dX12_trains_216 : decode cX12_trains 216 = .ok (.aload_n 0, 1) := by decide +kernel
theorem dX12_trains_217 : decode cX12_trains 217 = .ok (.getfield 153, 3) := by decide +kernel
theorem dX12_trains_220 : decode cX12_trains 220 = .ok (.iconst 4, 1) := by decide +kernel
theorem dX12_trains_221 : decode cX12_trains 221 = .ok (.aload_n 0, 1) := by decide +kernel
theorem dX12_trains_222 : decode cX12_trains 222 = .ok (.getfield 665, 3) := by decide +kernel
theorem dX12_trains_225 : decode cX12_trains 225 = .ok (.imul, 1) := by decide +kernel
theorem dX12_trains_226 : decode cX12_trains 226 = .ok (.iload 7, 2) := by decide +kernel
theorem dX12_trains_228 : decode cX12_trains 228 = .ok (.iastore, 1) := by decide +kernel
theorem dX12_trains_229 : decode cX12_trains 229 = .ok (.aload_n 0, 1) := by decide +kernel
theorem dX12_trains_230 : decode cX12_trains 230 = .ok (.getfield 153, 3) := by decide +kernel
theorem dX12_trains_233 : decode cX12_trains 233 = .ok (.iconst 4, 1) := by decide +kernel
theorem dX12_trains_234 : decode cX12_trains 234 = .ok (.aload_n 0, 1) := by decide +kernel
theorem dX12_trains_235 : decode cX12_trains 235 = .ok (.getfield 665, 3) := by decide +kernel
theorem dX12_trains_238 : decode cX12_trains 238 = .ok (.imul, 1) := by decide +kernel
theorem dX12_trains_239 : decode cX12_trains 239 = .ok (.iconst 1, 1) := by decide +kernel
theorem dX12_trains_240 : decode cX12_trains 240 = .ok (.iadd, 1) := by decide +kernel
theorem dX12_trains_241 : decode cX12_trains 241 = .ok (.iload 11, 2) := by decide +kernel
theorem dX12_trains_243 : decode cX12_trains 243 = .ok (.iastore, 1) := by decide +kernel
theorem dX12_trains_244 : decode cX12_trains 244 = .ok (.aload_n 0, 1) := by decide +kernel
theorem dX12_trains_245 : decode cX12_trains 245 = .ok (.getfield 153, 3) := by decide +kernel
theorem dX12_trains_248 : decode cX12_trains 248 = .ok (.iconst 4, 1) := by decide +kernel
theorem dX12_trains_249 : decode cX12_trains 249 = .ok (.aload_n 0, 1) := by decide +kernel
theorem dX12_trains_250 : decode cX12_trains 250 = .ok (.getfield 665, 3) := by decide +kernel
theorem dX12_trains_253 : decode cX12_trains 253 = .ok (.imul, 1) := by decide +kernel
theorem dX12_trains_254 : decode cX12_trains 254 = .ok (.iconst 2, 1) := by decide +kernel
theorem dX12_trains_255 : decode cX12_trains 255 = .ok (.iadd, 1) := by decide +kernel
theorem dX12_trains_256 : decode cX12_trains 256 = .ok (.iload 8, 2) := by decide +kernel
theorem dX12_trains_258 : decode cX12_trains 258 = .ok (.iastore, 1) := by decide +kernel
theorem dX12_trains_259 : decode cX12_trains 259 = .ok (.aload_n 0, 1) := by decide +kernel
theorem dX12_trains_260 : decode cX12_trains 260 = .ok (.getfield 153, 3) := by decide +kernel
theorem dX12_trains_263 : decode cX12_trains 263 = .ok (.iconst 4, 1) := by decide +kernel
theorem dX12_trains_264 : decode cX12_trains 264 = .ok (.aload_n 0, 1) := by decide +kernel
theorem dX12_trains_265 : decode cX12_trains 265 = .ok (.getfield 665, 3) := by decide +kernel
theorem dX12_trains_268 : decode cX12_trains 268 = .ok (.imul, 1) := by decide +kernel
theorem dX12_trains_269 : decode cX12_trains 269 = .ok (.iconst 3, 1) := by decide +kernel
theorem dX12_trains_270 : decode cX12_trains 270 = .ok (.iadd, 1) := by decide +kernel
theorem dX12_trains_271 : decode cX12_trains 271 = .ok (.lload 9, 2) := by decide +kernel
theorem dX12_trains_273 : decode cX12_trains 273 = .ok (.iload 11, 2) := by decide +kernel
theorem dX12_trains_275 : decode cX12_trains 275 = .ok (.i2l, 1) := by decide +kernel
theorem dX12_trains_276 : decode cX12_trains 276 = .ok (.ldiv, 1) := by decide +kernel
theorem dX12_trains_277 : decode cX12_trains 277 = .ok (.l2i, 1) := by decide +kernel
theorem dX12_trains_278 : decode cX12_trains 278 = .ok (.iastore, 1) := by decide +kernel
theorem dX12_trains_279 : decode cX12_trains 279 = .ok (.aload_n 0, 1) := by decide +kernel
theorem dX12_trains_280 : decode cX12_trains 280 = .ok (.dup, 1) := by decide +kernel
theorem dX12_trains_281 : decode cX12_trains 281 = .ok (.getfield 665, 3) := by decide +kernel
theorem dX12_trains_284 : decode cX12_trains 284 = .ok (.iconst 1, 1) := by decide +kernel
theorem dX12_trains_285 : decode cX12_trains 285 = .ok (.iadd, 1) := by decide +kernel
theorem dX12_trains_286 : decode cX12_trains 286 = .ok (.putfield 665, 3) := by decide +kernel
theorem dX12_trains_289 : decode cX12_trains 289 = .ok (.iinc 11 1, 3) := by decide +kernel
theorem dX12_trains_292 : decode cX12_trains 292 = .ok (.goto (-139), 3) := by decide +kernel
theorem dX12_trains_295 : decode cX12_trains 295 = .ok (.iinc 8 1, 3) := by decide +kernel
theorem dX12_trains_298 : decode cX12_trains 298 = .ok (.goto (-187), 3) := by decide +kernel
theorem dX12_trains_301 : decode cX12_trains 301 = .ok (.iinc 7 1, 3) := by decide +kernel
theorem dX12_trains_304 : decode cX12_trains 304 = .ok (.goto (-204), 3) := by decide +kernel
theorem dX12_trains_307 : decode cX12_trains 307 = .ok (.iload 6, 2) := by decide +kernel
theorem dX12_trains_309 : decode cX12_trains 309 = .ok (.ireturn, 1) := by decide +kernel
theorem dX12_train_0 : decode cX12_train 0 = .ok (.aload_n 0, 1) := by decide +kernel
theorem dX12_train_1 : decode cX12_train 1 = .ok (.iload_n 2, 1) := by decide +kernel
theorem dX12_train_2 : decode cX12_train 2 = .ok (.i2l, 1) := by decide +kernel
theorem dX12_train_3 : decode cX12_train 3 = .ok (.lconst 0, 1) := by decide +kernel
theorem dX12_train_4 : decode cX12_train 4 = .ok (.ldc2_w 466, 3) := by decide +kernel
theorem dX12_train_7 : decode cX12_train 7 = .ok (.invokestatic 262, 3) := by decide +kernel
theorem dX12_train_10 : decode cX12_train 10 = .ok (.ifCond .ne 7, 3) := by decide +kernel
theorem dX12_train_13 : decode cX12_train 13 = .ok (.iconst 1, 1) := by decide +kernel
theorem dX12_train_14 : decode cX12_train 14 = .ok (.goto 24, 3) := by decide +kernel
theorem dX12_train_17 : decode cX12_train 17 = .ok (.iload_n 1, 1) := by decide +kernel
theorem dX12_train_18 : decode cX12_train 18 = .ok (.i2l, 1) := by decide +kernel
theorem dX12_train_19 : decode cX12_train 19 = .ok (.lconst 0, 1) := by decide +kernel
theorem dX12_train_20 : decode cX12_train 20 = .ok (.aload_n 0, 1) := by decide +kernel
theorem dX12_train_21 : decode cX12_train 21 = .ok (.getfield 665, 3) := by decide +kernel
theorem dX12_train_24 : decode cX12_train 24 = .ok (.iconst 1, 1) := by decide +kernel
theorem dX12_train_25 : decode cX12_train 25 = .ok (.isub, 1) := by decide +kernel
theorem dX12_train_26 : decode cX12_train 26 = .ok (.i2l, 1) := by decide +kernel
theorem dX12_train_27 : decode cX12_train 27 = .ok (.invokestatic 262, 3) := by decide +kernel
theorem dX12_train_30 : decode cX12_train 30 = .ok (.ifCond .eq 7, 3) := by decide +kernel
theorem dX12_train_33 : decode cX12_train 33 = .ok (.iconst 0, 1) := by decide +kernel
theorem dX12_train_34 : decode cX12_train 34 = .ok (.goto 4, 3) := by decide +kernel
theorem dX12_train_37 : decode cX12_train 37 = .ok (.iconst 2, 1) := by decide +kernel
theorem dX12_train_38 : decode cX12_train 38 = .ok (.putfield 243, 3) := by decide +kernel
theorem dX12_train_41 : decode cX12_train 41 = .ok (.aload_n 0, 1) := by decide +kernel
theorem dX12_train_42 : decode cX12_train 42 = .ok (.getfield 243, 3) := by decide +kernel
theorem dX12_train_45 : decode cX12_train 45 = .ok (.ifCond .le 7, 3) := by decide +kernel
theorem dX12_train_48 : decode cX12_train 48 = .ok (.iconst 0, 1) := by decide +kernel
theorem dX12_train_49 : decode cX12_train 49 = .ok (.goto 13, 3) := by decide +kernel
theorem dX12_train_52 : decode cX12_train 52 = .ok (.aload_n 0, 1) := by decide +kernel
theorem dX12_train_53 : decode cX12_train 53 = .ok (.getfield 153, 3) := by decide +kernel
theorem dX12_train_56 : decode cX12_train 56 = .ok (.iconst 4, 1) := by decide +kernel
theorem dX12_train_57 : decode cX12_train 57 = .ok (.iload_n 1, 1) := by decide +kernel
theorem dX12_train_58 : decode cX12_train 58 = .ok (.imul, 1) := by decide +kernel
theorem dX12_train_59 : decode cX12_train 59 = .ok (.iload_n 2, 1) := by decide +kernel
theorem dX12_train_60 : decode cX12_train 60 = .ok (.iadd, 1) := by decide +kernel
theorem dX12_train_61 : decode cX12_train 61 = .ok (.iaload, 1) := by decide +kernel
theorem dX12_train_62 : decode cX12_train 62 = .ok (.ireturn, 1) := by decide +kernel
theorem dX12_camStatement_0 : decode cX12_camStatement 0 = .ok (.aload_n 0, 1) := by decide +kernel
theorem dX12_camStatement_1 : decode cX12_camStatement 1 = .ok (.ldc_w 668, 3) := by decide +kernel
theorem dX12_camStatement_4 : decode cX12_camStatement 4 = .ok (.invokevirtual 386, 3) := by decide +kernel
theorem dX12_camStatement_7 : decode cX12_camStatement 7 = .ok (.ifCond .eq 7, 3) := by decide +kernel
theorem dX12_camStatement_10 : decode cX12_camStatement 10 = .ok (.iconst 0, 1) := by decide +kernel
theorem dX12_camStatement_11 : decode cX12_camStatement 11 = .ok (.goto 32, 3) := by decide +kernel
theorem dX12_camStatement_14 : decode cX12_camStatement 14 = .ok (.aload_n 0, 1) := by decide +kernel
theorem dX12_camStatement_15 : decode cX12_camStatement 15 = .ok (.ldc_w 670, 3) := by decide +kernel
theorem dX12_camStatement_18 : decode cX12_camStatement 18 = .ok (.invokevirtual 386, 3) := by decide +kernel
theorem dX12_camStatement_21 : decode cX12_camStatement 21 = .ok (.ifCond .eq 7, 3) := by decide +kernel
theorem dX12_camStatement_24 : decode cX12_camStatement 24 = .ok (.iconst 1, 1) := by decide +kernel
theorem dX12_camStatement_25 : decode cX12_camStatement 25 = .ok (.goto 18, 3) := by decide +kernel
theorem dX12_camStatement_28 : decode cX12_camStatement 28 = .ok (.aload_n 0, 1) := by decide +kernel
theorem dX12_camStatement_29 : decode cX12_camStatement 29 = .ok (.ldc_w 672, 3) := by decide +kernel
theorem dX12_camStatement_32 : decode cX12_camStatement 32 = .ok (.invokevirtual 386, 3) := by decide +kernel
theorem dX12_camStatement_35 : decode cX12_camStatement 35 = .ok (.ifCond .eq 7, 3) := by decide +kernel
theorem dX12_camStatement_38 : decode cX12_camStatement 38 = .ok (.iconst 2, 1) := by decide +kernel
theorem dX12_camStatement_39 : decode cX12_camStatement 39 = .ok (.goto 4, 3) := by decide +kernel
theorem dX12_camStatement_42 : decode cX12_camStatement 42 = .ok (.iconst (-1), 1) := by decide +kernel
theorem dX12_camStatement_43 : decode cX12_camStatement 43 = .ok (.istore_n 1, 1) := by decide +kernel
theorem dX12_camStatement_44 : decode cX12_camStatement 44 = .ok (.iload_n 1, 1) := by decide +kernel
theorem dX12_camStatement_45 : decode cX12_camStatement 45 = .ok (.ifCond .ge 13, 3) := by decide +kernel
theorem dX12_camStatement_48 : decode cX12_camStatement 48 = .ok (.aload_n 0, 1) := by decide +kernel
theorem dX12_camStatement_49 : decode cX12_camStatement 49 = .ok (.iconst 1, 1) := by decide +kernel
theorem dX12_camStatement_50 : decode cX12_camStatement 50 = .ok (.aload_n 0, 1) := by decide +kernel
theorem dX12_camStatement_51 : decode cX12_camStatement 51 = .ok (.getfield 337, 3) := by decide +kernel
theorem dX12_camStatement_54 : decode cX12_camStatement 54 = .ok (.invokevirtual 374, 3) := by decide +kernel
theorem dX12_camStatement_57 : decode cX12_camStatement 57 = .ok (.return_, 1) := by decide +kernel
theorem dX12_camStatement_58 : decode cX12_camStatement 58 = .ok (.aload_n 0, 1) := by decide +kernel
theorem dX12_camStatement_59 : decode cX12_camStatement 59 = .ok (.getfield 674, 3) := by decide +kernel
theorem dX12_camStatement_62 : decode cX12_camStatement 62 = .ok (.bipush 30, 2) := by decide +kernel
theorem dX12_camStatement_64 : decode cX12_camStatement 64 = .ok (.if_icmp .ne 13, 3) := by decide +kernel
theorem dX12_camStatement_67 : decode cX12_camStatement 67 = .ok (.aload_n 0, 1) := by decide +kernel
theorem dX12_camStatement_68 : decode cX12_camStatement 68 = .ok (.bipush 6, 2) := by decide +kernel
theorem dX12_camStatement_70 : decode cX12_camStatement 70 = .ok (.aload_n 0, 1) := by decide +kernel
theorem dX12_camStatement_71 : decode cX12_camStatement 71 = .ok (.getfield 337, 3) := by decide +kernel
theorem dX12_camStatement_74 : decode cX12_camStatement 74 = .ok (.invokevirtual 378, 3) := by decide +kernel
theorem dX12_camStatement_77 : decode cX12_camStatement 77 = .ok (.aload_n 0, 1) := by decide +kernel
theorem dX12_camStatement_78 : decode cX12_camStatement 78 = .ok (.getfield 674, 3) := by decide +kernel
theorem dX12_camStatement_81 : decode cX12_camStatement 81 = .ok (.bipush 30, 2) := by decide +kernel
theorem dX12_camStatement_83 : decode cX12_camStatement 83 = .ok (.if_icmp .ge 10, 3) := by decide +kernel
theorem dX12_camStatement_86 : decode cX12_camStatement 86 = .ok (.aload_n 0, 1) := by decide +kernel
theorem dX12_camStatement_87 : decode cX12_camStatement 87 = .ok (.getfield 674, 3) := by decide +kernel
theorem dX12_camStatement_90 : decode cX12_camStatement 90 = .ok (.goto 4, 3) := by decide +kernel
theorem dX12_camStatement_93 : decode cX12_camStatement 93 = .ok (.iconst (-1), 1) := by decide +kernel
theorem dX12_camStatement_94 : decode cX12_camStatement 94 = .ok (.istore_n 2, 1) := by decide +kernel
theorem dX12_camStatement_95 : decode cX12_camStatement 95 = .ok (.aload_n 0, 1) := by decide +kernel
theorem dX12_camStatement_96 : decode cX12_camStatement 96 = .ok (.invokevirtual 371, 3) := by decide +kernel
theorem dX12_camStatement_99 : decode cX12_camStatement 99 = .ok (.aload_n 0, 1) := by decide +kernel
theorem dX12_camStatement_100 : decode cX12_camStatement 100 = .ok (.iconst 2, 1) := by decide +kernel
theorem dX12_camStatement_101 : decode cX12_camStatement 101 = .ok (.invokevirtual 381, 3) := by decide +kernel
theorem dX12_camStatement_104 : decode cX12_camStatement 104 = .ok (.ifCond .ne 4, 3) := by decide +kernel
theorem dX12_camStatement_107 : decode cX12_camStatement 107 = .ok (.return_, 1) := by decide +kernel
theorem dX12_camStatement_108 : decode cX12_camStatement 108 = .ok (.aload_n 0, 1) := by decide +kernel
theorem dX12_camStatement_109 : decode cX12_camStatement 109 = .ok (.lconst 1, 1) := by decide +kernel
theorem dX12_camStatement_110 : decode cX12_camStatement 110 = .ok (.ldc2_w 677, 3) := by decide +kernel
theorem dX12_camStatement_113 : decode cX12_camStatement 113 = .ok (.invokevirtual 408, 3) := by decide +kernel
theorem dX12_camStatement_116 : decode cX12_camStatement 116 = .ok (.iload_n 2, 1) := by decide +kernel
theorem dX12_camStatement_117 : decode cX12_camStatement 117 = .ok (.ifCond .lt 42, 3) := by decide +kernel
theorem dX12_camStatement_120 : decode cX12_camStatement 120 = .ok (.aload_n 0, 1) := by decide +kernel
theorem dX12_camStatement_121 : decode cX12_camStatement 121 = .ok (.getfield 171, 3) := by decide +kernel
theorem dX12_camStatement_124 : decode cX12_camStatement 124 = .ok (.iload_n 2, 1) := by decide +kernel
theorem dX12_camStatement_125 : decode cX12_camStatement 125 = .ok (.iload_n 1, 1) := by decide +kernel
theorem dX12_camStatement_126 : decode cX12_camStatement 126 = .ok (.iastore, 1) := by decide +kernel
theorem dX12_camStatement_127 : decode cX12_camStatement 127 = .ok (.aload_n 0, 1) := by decide +kernel
theorem dX12_camStatement_128 : decode cX12_camStatement 128 = .ok (.getfield 174, 3) := by decide +kernel
theorem dX12_camStatement_131 : decode cX12_camStatement 131 = .ok (.iload_n 2, 1) := by decide +kernel
theorem dX12_camStatement_132 : decode cX12_camStatement 132 = .ok (.aload_n 0, 1) := by decide +kernel
theorem dX12_camStatement_133 : decode cX12_camStatement 133 = .ok (.getfield 353, 3) := by decide +kernel
theorem dX12_camStatement_136 : decode cX12_camStatement 136 = .ok (.l2i, 1) := by decide +kernel
theorem dX12_camStatement_137 : decode cX12_camStatement 137 = .ok (.iastore, 1) := by decide +kernel
theorem dX12_camStatement_138 : decode cX12_camStatement 138 = .ok (.aload_n 0, 1) := by decide +kernel
theorem dX12_camStatement_139 : decode cX12_camStatement 139 = .ok (.getfield 177, 3) := by decide +kernel
theorem dX12_camStatement_142 : decode cX12_camStatement 142 = .ok (.iload_n 2, 1) := by decide +kernel
theorem dX12_camStatement_143 : decode cX12_camStatement 143 = .ok (.lconst 0, 1) := by decide +kernel
theorem dX12_camStatement_144 : decode cX12_camStatement 144 = .ok (.lastore, 1) := by decide +kernel
theorem dX12_camStatement_145 : decode cX12_camStatement 145 = .ok (.aload_n 0, 1) := by decide +kernel
theorem dX12_camStatement_146 : decode cX12_camStatement 146 = .ok (.getfield 180, 3) := by decide +kernel
theorem dX12_camStatement_149 : decode cX12_camStatement 149 = .ok (.iload_n 2, 1) := by decide +kernel
theorem dX12_camStatement_150 : decode cX12_camStatement 150 = .ok (.lconst 1, 1) := by decide +kernel
theorem dX12_camStatement_151 : decode cX12_camStatement 151 = .ok (.lastore, 1) := by decide +kernel
theorem dX12_camStatement_152 : decode cX12_camStatement 152 = .ok (.aload_n 0, 1) := by decide +kernel
theorem dX12_camStatement_153 : decode cX12_camStatement 153 = .ok (.getfield 183, 3) := by decide +kernel
theorem dX12_camStatement_156 : decode cX12_camStatement 156 = .ok (.iload_n 2, 1) := by decide +kernel
theorem dX12_camStatement_157 : decode cX12_camStatement 157 = .ok (.iconst 1, 1) := by decide +kernel
theorem dX12_camStatement_158 : decode cX12_camStatement 158 = .ok (.iastore, 1) := by decide +kernel
theorem dX12_camStatement_159 : decode cX12_camStatement 159 = .ok (.aload_n 0, 1) := by decide +kernel
theorem dX12_camStatement_160 : decode cX12_camStatement 160 = .ok (.invokevirtual 371, 3) := by decide +kernel
theorem dX12_camStatement_163 : decode cX12_camStatement 163 = .ok (.iload_n 1, 1) := by decide +kernel
theorem dX12_camStatement_164 : decode cX12_camStatement 164 = .ok (.ifCond .le 110, 3) := by decide +kernel
theorem dX12_camStatement_167 : decode cX12_camStatement 167 = .ok (.aload_n 0, 1) := by decide +kernel
theorem dX12_camStatement_168 : decode cX12_camStatement 168 = .ok (.iconst 2, 1) := by decide +kernel
theorem dX12_camStatement_169 : decode cX12_camStatement 169 = .ok (.invokevirtual 381, 3) := by decide +kernel
theorem dX12_camStatement_172 : decode cX12_camStatement 172 = .ok (.ifCond .ne 4, 3) := by decide +kernel
theorem dX12_camStatement_175 : decode cX12_camStatement 175 = .ok (.return_, 1) := by decide +kernel
theorem dX12_camStatement_176 : decode cX12_camStatement 176 = .ok (.aload_n 0, 1) := by decide +kernel
theorem dX12_camStatement_177 : decode cX12_camStatement 177 = .ok (.getfield 353, 3) := by decide +kernel
theorem dX12_camStatement_180 : decode cX12_camStatement 180 = .ok (.lconst 0, 1) := by decide +kernel
theorem dX12_camStatement_181 : decode cX12_camStatement 181 = .ok (.lcmp, 1) := by decide +kernel
theorem dX12_camStatement_182 : decode cX12_camStatement 182 = .ok (.ifCond .le 19, 3) := by decide +kernel
theorem dX12_camStatement_185 : decode cX12_camStatement 185 = .ok (.aload_n 0, 1) := by decide +kernel
theorem dX12_camStatement_186 : decode cX12_camStatement 186 = .ok (.getfield 353, 3) := by decide +kernel
theorem dX12_camStatement_189 : decode cX12_camStatement 189 = .ok (.ldc2_w 406, 3) := by decide +kernel
theorem dX12_camStatement_192 : decode cX12_camStatement 192 = .ok (.aload_n 0, 1) := by decide +kernel
theorem dX12_camStatement_193 : decode cX12_camStatement 193 = .ok (.getfield 356, 3) := by decide +kernel
theorem dX12_camStatement_196 : decode cX12_camStatement 196 = .ok (.lmul, 1) := by decide +kernel
theorem dX12_camStatement_197 : decode cX12_camStatement 197 = .ok (.lcmp, 1) := by decide +kernel
theorem dX12_camStatement_198 : decode cX12_camStatement 198 = .ok (.ifCond .le 12, 3) := by decide +kernel
theorem dX12_camStatement_201 : decode cX12_camStatement 201 = .ok (.aload_n 0, 1) := by decide +kernel
theorem dX12_camStatement_202 : decode cX12_camStatement 202 = .ok (.iconst 5, 1) := by decide +kernel
theorem dX12_camStatement_203 : decode cX12_camStatement 203 = .ok (.aload_n 0, 1) := by decide +kernel
theorem dX12_camStatement_204 : decode cX12_camStatement 204 = .ok (.getfield 337, 3) := by decide +kernel
theorem dX12_camStatement_207 : decode cX12_camStatement 207 = .ok (.invokevirtual 378, 3) := by decide +kernel
theorem dX12_camStatement_210 : decode cX12_camStatement 210 = .ok (.iload_n 2, 1) := by decide +kernel
theorem dX12_camStatement_211 : decode cX12_camStatement 211 = .ok (.ifCond .lt 23, 3) := by decide +kernel
theorem dX12_camStatement_214 : decode cX12_camStatement 214 = .ok (.aload_n 0, 1) := by decide +kernel
theorem dX12_camStatement_215 : decode cX12_camStatement 215 = .ok (.getfield 177, 3) := by decide +kernel
theorem dX12_camStatement_218 : decode cX12_camStatement 218 = .ok (.iload_n 2, 1) := by decide +kernel
theorem dX12_camStatement_219 : decode cX12_camStatement 219 = .ok (.aload_n 0, 1) := by decide +kernel
theorem dX12_camStatement_220 : decode cX12_camStatement 220 = .ok (.getfield 353, 3) := by decide +kernel
theorem dX12_camStatement_223 : decode cX12_camStatement 223 = .ok (.lastore, 1) := by decide +kernel
theorem dX12_camStatement_224 : decode cX12_camStatement 224 = .ok (.aload_n 0, 1) := by decide +kernel
theorem dX12_camStatement_225 : decode cX12_camStatement 225 = .ok (.getfield 180, 3) := by decide +kernel
theorem dX12_camStatement_228 : decode cX12_camStatement 228 = .ok (.iload_n 2, 1) := by decide +kernel
theorem dX12_camStatement_229 : decode cX12_camStatement 229 = .ok (.aload_n 0, 1) := by decide +kernel
theorem dX12_camStatement_230 : decode cX12_camStatement 230 = .ok (.getfield 356, 3) := by decide +kernel
theorem dX12_camStatement_233 : decode cX12_camStatement 233 = .ok (.lastore, 1) := by decide +kernel
theorem dX12_camStatement_234 : decode cX12_camStatement 234 = .ok (.aload_n 0, 1) := by decide +kernel
theorem dX12_camStatement_235 : decode cX12_camStatement 235 = .ok (.invokevirtual 371, 3) := by decide +kernel
theorem dX12_camStatement_238 : decode cX12_camStatement 238 = .ok (.aload_n 0, 1) := by decide +kernel
theorem dX12_camStatement_239 : decode cX12_camStatement 239 = .ok (.iconst 2, 1) := by decide +kernel
theorem dX12_camStatement_240 : decode cX12_camStatement 240 = .ok (.invokevirtual 381, 3) := by decide +kernel
theorem dX12_camStatement_243 : decode cX12_camStatement 243 = .ok (.ifCond .ne 4, 3) := by decide +kernel
theorem dX12_camStatement_246 : decode cX12_camStatement 246 = .ok (.return_, 1) := by decide +kernel
theorem dX12_camStatement_247 : decode cX12_camStatement 247 = .ok (.aload_n 0, 1) := by decide +kernel
theorem dX12_camStatement_248 : decode cX12_camStatement 248 = .ok (.lconst 1, 1) := by decide +kernel
theorem dX12_camStatement_249 : decode cX12_camStatement 249 = .ok (.ldc2_w 609, 3) := by decide +kernel
theorem dX12_camStatement_252 : decode cX12_camStatement 252 = .ok (.invokevirtual 408, 3) := by decide +kernel
theorem dX12_camStatement_255 : decode cX12_camStatement 255 = .ok (.iload_n 2, 1) := by decide +kernel
theorem dX12_camStatement_256 : decode cX12_camStatement 256 = .ok (.ifCond .lt 14, 3) := by decide +kernel
theorem dX12_camStatement_259 : decode cX12_camStatement 259 = .ok (.aload_n 0, 1) := by decide +kernel
theorem dX12_camStatement_260 : decode cX12_camStatement 260 = .ok (.getfield 183, 3) := by decide +kernel
theorem dX12_camStatement_263 : decode cX12_camStatement 263 = .ok (.iload_n 2, 1) := by decide +kernel
theorem dX12_camStatement_264 : decode cX12_camStatement 264 = .ok (.aload_n 0, 1) := by decide +kernel
theorem dX12_camStatement_265 : decode cX12_camStatement 265 = .ok (.getfield 353, 3) := by decide +kernel
theorem dX12_camStatement_268 : decode cX12_camStatement 268 = .ok (.l2i, 1) := by decide +kernel
theorem dX12_camStatement_269 : decode cX12_camStatement 269 = .ok (.iastore, 1) := by decide +kernel
theorem dX12_camStatement_270 : decode cX12_camStatement 270 = .ok (.aload_n 0, 1) := by decide +kernel
theorem dX12_camStatement_271 : decode cX12_camStatement 271 = .ok (.invokevirtual 371, 3) := by decide +kernel
theorem dX12_camStatement_274 : decode cX12_camStatement 274 = .ok (.aload_n 0, 1) := by decide +kernel
theorem dX12_camStatement_275 : decode cX12_camStatement 275 = .ok (.invokevirtual 424, 3) := by decide +kernel
theorem dX12_camStatement_278 : decode cX12_camStatement 278 = .ok (.aload_n 0, 1) := by decide +kernel
theorem dX12_camStatement_279 : decode cX12_camStatement 279 = .ok (.getfield 266, 3) := by decide +kernel
theorem dX12_camStatement_282 : decode cX12_camStatement 282 = .ok (.ifCond .ne 17, 3) := by decide +kernel
theorem dX12_camStatement_285 : decode cX12_camStatement 285 = .ok (.iload_n 2, 1) := by decide +kernel
theorem dX12_camStatement_286 : decode cX12_camStatement 286 = .ok (.ifCond .lt 13, 3) := by decide +kernel
theorem dX12_camStatement_289 : decode cX12_camStatement 289 = .ok (.aload_n 0, 1) := by decide +kernel
theorem dX12_camStatement_290 : decode cX12_camStatement 290 = .ok (.dup, 1) := by decide +kernel
theorem dX12_camStatement_291 : decode cX12_camStatement 291 = .ok (.getfield 674, 3) := by decide +kernel
theorem dX12_camStatement_294 : decode cX12_camStatement 294 = .ok (.iconst 1, 1) := by decide +kernel
theorem dX12_camStatement_295 : decode cX12_camStatement 295 = .ok (.iadd, 1) := by decide +kernel
theorem dX12_camStatement_296 : decode cX12_camStatement 296 = .ok (.putfield 674, 3) := by decide +kernel
theorem dX12_camStatement_299 : decode cX12_camStatement 299 = .ok (.return_, 1) := by decide +kernel
theorem dX12_camSums_0 : decode cX12_camSums 0 = .ok (.iconst 0, 1) := by decide +kernel
theorem dX12_camSums_1 : decode cX12_camSums 1 = .ok (.istore_n 1, 1) := by decide +kernel
theorem dX12_camSums_2 : decode cX12_camSums 2 = .ok (.lconst 0, 1) := by decide +kernel
theorem dX12_camSums_3 : decode cX12_camSums 3 = .ok (.lstore_n 2, 1) := by decide +kernel
theorem dX12_camSums_4 : decode cX12_camSums 4 = .ok (.lconst 1, 1) := by decide +kernel
theorem dX12_camSums_5 : decode cX12_camSums 5 = .ok (.lstore 4, 2) := by decide +kernel
theorem dX12_camSums_7 : decode cX12_camSums 7 = .ok (.aload_n 0, 1) := by decide +kernel
theorem dX12_camSums_8 : decode cX12_camSums 8 = .ok (.iconst 0, 1) := by decide +kernel
theorem dX12_camSums_9 : decode cX12_camSums 9 = .ok (.putfield 283, 3) := by decide +kernel
theorem dX12_camSums_12 : decode cX12_camSums 12 = .ok (.iconst 0, 1) := by decide +kernel
theorem dX12_camSums_13 : decode cX12_camSums 13 = .ok (.istore 6, 2) := by decide +kernel
theorem dX12_camSums_15 : decode cX12_camSums 15 = .ok (.iload 6, 2) := by decide +kernel
theorem dX12_camSums_17 : decode cX12_camSums 17 = .ok (.aload_n 0, 1) := by decide +kernel
theorem dX12_camSums_18 : decode cX12_camSums 18 = .ok (.getfield 674, 3) := by decide +kernel
theorem dX12_camSums_21 : decode cX12_camSums 21 = .ok (.if_icmp .ge 73, 3) := by decide +kernel
theorem dX12_camSums_24 : decode cX12_camSums 24 = .ok (.iload_n 1, 1) := by decide +kernel
theorem dX12_camSums_25 : decode cX12_camSums 25 = .ok (.aload_n 0, 1) := by decide +kernel
theorem dX12_camSums_26 : decode cX12_camSums 26 = .ok (.getfield 174, 3) := by decide +kernel
theorem dX12_camSums_29 : decode cX12_camSums 29 = .ok (.iload 6, 2) := by decide +kernel
theorem dX12_camSums_31 : decode cX12_camSums 31 = .ok (.iaload, 1) := by decide +kernel
theorem dX12_camSums_32 : decode cX12_camSums 32 = .ok (.iadd, 1) := by decide +kernel
theorem dX12_camSums_33 : decode cX12_camSums 33 = .ok (.istore_n 1, 1) := by decide +kernel
theorem dX12_camSums_34 : decode cX12_camSums 34 = .ok (.aload_n 0, 1) := by decide +kernel
theorem dX12_camSums_35 : decode cX12_camSums 35 = .ok (.lload_n 2, 1) := by decide +kernel
theorem dX12_camSums_36 : decode cX12_camSums 36 = .ok (.lload 4, 2) := by decide +kernel
theorem dX12_camSums_38 : decode cX12_camSums 38 = .ok (.aload_n 0, 1) := by decide +kernel
theorem dX12_camSums_39 : decode cX12_camSums 39 = .ok (.getfield 171, 3) := by decide +kernel
theorem dX12_camSums_42 : decode cX12_camSums 42 = .ok (.iload 6, 2) := by decide +kernel
theorem dX12_camSums_44 : decode cX12_camSums 44 = .ok (.iaload, 1) := by decide +kernel
theorem dX12_camSums_45 : decode cX12_camSums 45 = .ok (.iconst 2, 1) := by decide +kernel
theorem dX12_camSums_46 : decode cX12_camSums 46 = .ok (.if_icmp .ne 14, 3) := by decide +kernel
theorem dX12_camSums_49 : decode cX12_camSums 49 = .ok (.aload_n 0, 1) := by decide +kernel
theorem dX12_camSums_50 : decode cX12_camSums 50 = .ok (.getfield 177, 3) := by decide +kernel
theorem dX12_camSums_53 : decode cX12_camSums 53 = .ok (.iload 6, 2) := by decide +kernel
theorem dX12_camSums_55 : decode cX12_camSums 55 = .ok (.laload, 1) := by decide +kernel
theorem dX12_camSums_56 : decode cX12_camSums 56 = .ok (.lneg, 1) := by decide +kernel
theorem dX12_camSums_57 : decode cX12_camSums 57 = .ok (.goto 10, 3) := by decide +kernel
theorem dX12_camSums_60 : decode cX12_camSums 60 = .ok (.aload_n 0, 1) := by decide +kernel
theorem dX12_camSums_61 : decode cX12_camSums 61 = .ok (.getfield 177, 3) := by decide +kernel
theorem dX12_camSums_64 : decode cX12_camSums 64 = .ok (.iload 6, 2) := by decide +kernel
theorem dX12_camSums_66 : decode cX12_camSums 66 = .ok (.laload, 1) := by decide +kernel
theorem dX12_camSums_67 : decode cX12_camSums 67 = .ok (.aload_n 0, 1) := by decide +kernel
theorem dX12_camSums_68 : decode cX12_camSums 68 = .ok (.getfield 180, 3) := by decide +kernel
theorem dX12_camSums_71 : decode cX12_camSums 71 = .ok (.iload 6, 2) := by decide +kernel
theorem dX12_camSums_73 : decode cX12_camSums 73 = .ok (.laload, 1) := by decide +kernel
theorem dX12_camSums_74 : decode cX12_camSums 74 = .ok (.invokevirtual 638, 3) := by decide +kernel
theorem dX12_camSums_77 : decode cX12_camSums 77 = .ok (.aload_n 0, 1) := by decide +kernel
theorem dX12_camSums_78 : decode cX12_camSums 78 = .ok (.getfield 287, 3) := by decide +kernel
theorem dX12_camSums_81 : decode cX12_camSums 81 = .ok (.lstore_n 2, 1) := by decide +kernel
theorem dX12_camSums_82 : decode cX12_camSums 82 = .ok (.aload_n 0, 1) := by decide +kernel
theorem dX12_camSums_83 : decode cX12_camSums 83 = .ok (.getfield 291, 3) := by decide +kernel
theorem dX12_camSums_86 : decode cX12_camSums 86 = .ok (.lstore 4, 2) := by decide +kernel
theorem dX12_camSums_88 : decode cX12_camSums 88 = .ok (.iinc 6 1, 3) := by decide +kernel
theorem dX12_camSums_91 : decode cX12_camSums 91 = .ok (.goto (-76), 3) := by decide +kernel
theorem dX12_camSums_94 : decode cX12_camSums 94 = .ok (.iload_n 1, 1) := by decide +kernel
theorem dX12_camSums_95 : decode cX12_camSums 95 = .ok (.sipush 360, 3) := by decide +kernel
theorem dX12_camSums_98 : decode cX12_camSums 98 = .ok (.if_icmp .eq 13, 3) := by decide +kernel
theorem dX12_camSums_101 : decode cX12_camSums 101 = .ok (.aload_n 0, 1) := by decide +kernel
theorem dX12_camSums_102 : decode cX12_camSums 102 = .ok (.bipush 7, 2) := by decide +kernel
theorem dX12_camSums_104 : decode cX12_camSums 104 = .ok (.aload_n 0, 1) := by decide +kernel
theorem dX12_camSums_105 : decode cX12_camSums 105 = .ok (.getfield 272, 3) := by decide +kernel
theorem dX12_camSums_108 : decode cX12_camSums 108 = .ok (.invokevirtual 374, 3) := by decide +kernel
theorem dX12_camSums_111 : decode cX12_camSums 111 = .ok (.aload_n 0, 1) := by decide +kernel
theorem dX12_camSums_112 : decode cX12_camSums 112 = .ok (.getfield 283, 3) := by decide +kernel
theorem dX12_camSums_115 : decode cX12_camSums 115 = .ok (.ifCond .ne 9, 3) := by decide +kernel
theorem dX12_camSums_118 : decode cX12_camSums 118 = .ok (.lload_n 2, 1) := by decide +kernel
theorem dX12_camSums_119 : decode cX12_camSums 119 = .ok (.lconst 0, 1) := by decide +kernel
theorem dX12_camSums_120 : decode cX12_camSums 120 = .ok (.lcmp, 1) := by decide +kernel
theorem dX12_camSums_121 : decode cX12_camSums 121 = .ok (.ifCond .eq 13, 3) := by decide +kernel
theorem dX12_camSums_124 : decode cX12_camSums 124 = .ok (.aload_n 0, 1) := by decide +kernel
theorem dX12_camSums_125 : decode cX12_camSums 125 = .ok (.bipush 8, 2) := by decide +kernel
theorem dX12_camSums_127 : decode cX12_camSums 127 = .ok (.aload_n 0, 1) := by decide +kernel
theorem dX12_camSums_128 : decode cX12_camSums 128 = .ok (.getfield 272, 3) := by decide +kernel
theorem dX12_camSums_131 : decode cX12_camSums 131 = .ok (.invokevirtual 374, 3) := by decide +kernel
theorem dX12_camSums_134 : decode cX12_camSums 134 = .ok (.return_, 1) := by decide +kernel
theorem dX12_cam_0 : decode cX12_cam 0 = .ok (.aload_n 0, 1) := by decide +kernel
theorem dX12_cam_1 : decode cX12_cam 1 = .ok (.invokevirtual 445, 3) := by decide +kernel
theorem dX12_cam_4 : decode cX12_cam 4 = .ok (.aload_n 0, 1) := by decide +kernel
theorem dX12_cam_5 : decode cX12_cam 5 = .ok (.iconst 0, 1) := by decide +kernel
theorem dX12_cam_6 : decode cX12_cam 6 = .ok (.putfield 674, 3) := by decide +kernel
theorem dX12_cam_9 : decode cX12_cam 9 = .ok (.aload_n 0, 1) := by decide +kernel
theorem dX12_cam_10 : decode cX12_cam 10 = .ok (.getfield 266, 3) := by decide +kernel
theorem dX12_cam_13 : decode cX12_cam 13 = .ok (.ifCond .ne 17, 3) := by decide +kernel
theorem dX12_cam_16 : decode cX12_cam 16 = .ok (.aload_n 0, 1) := by decide +kernel
theorem dX12_cam_17 : decode cX12_cam 17 = .ok (.getfield 340, 3) := by decide +kernel
theorem dX12_cam_20 : decode cX12_cam 20 = .ok (.ifCond .eq 10, 3) := by decide +kernel
theorem dX12_cam_23 : decode cX12_cam 23 = .ok (.aload_n 0, 1) := by decide +kernel
theorem dX12_cam_24 : decode cX12_cam 24 = .ok (.invokevirtual 679, 3) := by decide +kernel
theorem dX12_cam_27 : decode cX12_cam 27 = .ok (.goto (-18), 3) := by decide +kernel
theorem dX12_cam_30 : decode cX12_cam 30 = .ok (.aload_n 0, 1) := by decide +kernel
theorem dX12_cam_31 : decode cX12_cam 31 = .ok (.getfield 266, 3) := by decide +kernel
theorem dX12_cam_34 : decode cX12_cam 34 = .ok (.ifCond .ne 14, 3) := by decide +kernel
theorem dX12_cam_37 : decode cX12_cam 37 = .ok (.aload_n 0, 1) := by decide +kernel
theorem dX12_cam_38 : decode cX12_cam 38 = .ok (.getfield 275, 3) := by decide +kernel
theorem dX12_cam_41 : decode cX12_cam 41 = .ok (.ifCond .ne 7, 3) := by decide +kernel
theorem dX12_cam_44 : decode cX12_cam 44 = .ok (.aload_n 0, 1) := by decide +kernel
theorem dX12_cam_45 : decode cX12_cam 45 = .ok (.invokevirtual 682, 3) := by decide +kernel
theorem dX12_cam_48 : decode cX12_cam 48 = .ok (.aload_n 0, 1) := by decide +kernel
theorem dX12_cam_49 : decode cX12_cam 49 = .ok (.invokevirtual 457, 3) := by decide +kernel
theorem dX12_cam_52 : decode cX12_cam 52 = .ok (.aload_n 0, 1) := by decide +kernel
theorem dX12_cam_53 : decode cX12_cam 53 = .ok (.getfield 243, 3) := by decide +kernel
theorem dX12_cam_56 : decode cX12_cam 56 = .ok (.ifCond .le 5, 3) := by decide +kernel
theorem dX12_cam_59 : decode cX12_cam 59 = .ok (.iconst 0, 1) := by decide +kernel
theorem dX12_cam_60 : decode cX12_cam 60 = .ok (.ireturn, 1) := by decide +kernel
theorem dX12_cam_61 : decode cX12_cam 61 = .ok (.aload_n 0, 1) := by decide +kernel
theorem dX12_cam_62 : decode cX12_cam 62 = .ok (.aload_n 0, 1) := by decide +kernel
theorem dX12_cam_63 : decode cX12_cam 63 = .ok (.getfield 674, 3) := by decide +kernel
theorem dX12_cam_66 : decode cX12_cam 66 = .ok (.putfield 685, 3) := by decide +kernel
theorem dX12_cam_69 : decode cX12_cam 69 = .ok (.iconst 0, 1) := by decide +kernel
theorem dX12_cam_70 : decode cX12_cam 70 = .ok (.istore_n 1, 1) := by decide +kernel
theorem dX12_cam_71 : decode cX12_cam 71 = .ok (.iload_n 1, 1) := by decide +kernel
theorem dX12_cam_72 : decode cX12_cam 72 = .ok (.aload_n 0, 1) := by decide +kernel
theorem dX12_cam_73 : decode cX12_cam 73 = .ok (.getfield 685, 3) := by decide +kernel
theorem dX12_cam_76 : decode cX12_cam 76 = .ok (.if_icmp .ge 69, 3) := by decide +kernel
theorem dX12_cam_79 : decode cX12_cam 79 = .ok (.aload_n 0, 1) := by decide +kernel
theorem dX12_cam_80 : decode cX12_cam 80 = .ok (.getfield 156, 3) := by decide +kernel
theorem dX12_cam_83 : decode cX12_cam 83 = .ok (.iload_n 1, 1) := by decide +kernel
theorem dX12_cam_84 : decode cX12_cam 84 = .ok (.aload_n 0, 1) := by decide +kernel
theorem dX12_cam_85 : decode cX12_cam 85 = .ok (.getfield 171, 3) := by decide +kernel
theorem dX12_cam_88 : decode cX12_cam 88 = .ok (.iload_n 1, 1) := by decide +kernel
theorem dX12_cam_89 : decode cX12_cam 89 = .ok (.iaload, 1) := by decide +kernel
theorem dX12_cam_90 : decode cX12_cam 90 = .ok (.iastore, 1) := by decide +kernel
theorem dX12_cam_91 : decode cX12_cam 91 = .ok (.aload_n 0, 1) := by decide +kernel
theorem dX12_cam_92 : decode cX12_cam 92 = .ok (.getfield 159, 3) := by decide +kernel
theorem dX12_cam_95 : decode cX12_cam 95 = .ok (.iload_n 1, 1) := by decide +kernel
theorem dX12_cam_96 : decode cX12_cam 96 = .ok (.aload_n 0, 1) := by decide +kernel
theorem dX12_cam_97 : decode cX12_cam 97 = .ok (.getfield 174, 3) := by decide +kernel
theorem dX12_cam_100 : decode cX12_cam 100 = .ok (.iload_n 1, 1) := by decide +kernel
theorem dX12_cam_101 : decode cX12_cam 101 = .ok (.iaload, 1) := by decide +kernel
theorem dX12_cam_102 : decode cX12_cam 102 = .ok (.iastore, 1) := by decide +kernel
theorem dX12_cam_103 : decode cX12_cam 103 = .ok (.aload_n 0, 1) := by decide +kernel
theorem dX12_cam_104 : decode cX12_cam 104 = .ok (.getfield 162, 3) := by decide +kernel
theorem dX12_cam_107 : decode cX12_cam 107 = .ok (.iload_n 1, 1) := by decide +kernel
theorem dX12_cam_108 : decode cX12_cam 108 = .ok (.aload_n 0, 1) := by decide +kernel
theorem dX12_cam_109 : decode cX12_cam 109 = .ok (.getfield 177, 3) := by decide +kernel
theorem dX12_cam_112 : decode cX12_cam 112 = .ok (.iload_n 1, 1) := by decide +kernel
theorem dX12_cam_113 : decode cX12_cam 113 = .ok (.laload, 1) := by decide +kernel
theorem dX12_cam_114 : decode cX12_cam 114 = .ok (.lastore, 1) := by decide +kernel
theorem dX12_cam_115 : decode cX12_cam 115 = .ok (.aload_n 0, 1) := by decide +kernel
theorem dX12_cam_116 : decode cX12_cam 116 = .ok (.getfield 165, 3) := by decide +kernel
theorem dX12_cam_119 : decode cX12_cam 119 = .ok (.iload_n 1, 1) := by decide +kernel
theorem dX12_cam_120 : decode cX12_cam 120 = .ok (.aload_n 0, 1) := by decide +kernel
theorem dX12_cam_121 : decode cX12_cam 121 = .ok (.getfield 180, 3) := by decide +kernel
theorem dX12_cam_124 : decode cX12_cam 124 = .ok (.iload_n 1, 1) := by decide +kernel
theorem dX12_cam_125 : decode cX12_cam 125 = .ok (.laload, 1) := by decide +kernel
theorem dX12_cam_126 : decode cX12_cam 126 = .ok (.lastore, 1) := by decide +kernel
theorem dX12_cam_127 : decode cX12_cam 127 = .ok (.aload_n 0, 1) := by decide +kernel
theorem dX12_cam_128 : decode cX12_cam 128 = .ok (.getfield 168, 3) := by decide +kernel
theorem dX12_cam_131 : decode cX12_cam 131 = .ok (.iload_n 1, 1) := by decide +kernel
theorem dX12_cam_132 : decode cX12_cam 132 = .ok (.aload_n 0, 1) := by decide +kernel
theorem dX12_cam_133 : decode cX12_cam 133 = .ok (.getfield 183, 3) := by decide +kernel
theorem dX12_cam_136 : decode cX12_cam 136 = .ok (.iload_n 1, 1) := by decide +kernel
theorem dX12_cam_137 : decode cX12_cam 137 = .ok (.iaload, 1) := by decide +kernel
theorem dX12_cam_138 : decode cX12_cam 138 = .ok (.iastore, 1) := by decide +kernel
theorem dX12_cam_139 : decode cX12_cam 139 = .ok (.iinc 1 1, 3) := by decide +kernel
theorem dX12_cam_142 : decode cX12_cam 142 = .ok (.goto (-71), 3) := by decide +kernel
theorem dX12_cam_145 : decode cX12_cam 145 = .ok (.aload_n 0, 1) := by decide +kernel
theorem dX12_cam_146 : decode cX12_cam 146 = .ok (.getfield 685, 3) := by decide +kernel
theorem dX12_cam_149 : decode cX12_cam 149 = .ok (.ireturn, 1) := by decide +kernel
theorem dX12_plus_0 : decode cX12_plus 0 = .ok (.aload_n 0, 1) := by decide +kernel
theorem dX12_plus_1 : decode cX12_plus 1 = .ok (.aload_n 0, 1) := by decide +kernel
theorem dX12_plus_2 : decode cX12_plus 2 = .ok (.getfield 287, 3) := by decide +kernel
theorem dX12_plus_5 : decode cX12_plus 5 = .ok (.aload_n 0, 1) := by decide +kernel
theorem dX12_plus_6 : decode cX12_plus 6 = .ok (.getfield 291, 3) := by decide +kernel
theorem dX12_plus_9 : decode cX12_plus 9 = .ok (.lload_n 1, 1) := by decide +kernel
theorem dX12_plus_10 : decode cX12_plus 10 = .ok (.lconst 1, 1) := by decide +kernel
theorem dX12_plus_11 : decode cX12_plus 11 = .ok (.invokevirtual 638, 3) := by decide +kernel
theorem dX12_plus_14 : decode cX12_plus 14 = .ok (.return_, 1) := by decide +kernel
theorem dX12_byT_0 : decode cX12_byT 0 = .ok (.aload_n 0, 1) := by decide +kernel
theorem dX12_byT_1 : decode cX12_byT 1 = .ok (.aload_n 0, 1) := by decide +kernel
theorem dX12_byT_2 : decode cX12_byT 2 = .ok (.getfield 287, 3) := by decide +kernel
theorem dX12_byT_5 : decode cX12_byT 5 = .ok (.aload_n 0, 1) := by decide +kernel
theorem dX12_byT_6 : decode cX12_byT 6 = .ok (.getfield 291, 3) := by decide +kernel
theorem dX12_byT_9 : decode cX12_byT 9 = .ok (.lload_n 1, 1) := by decide +kernel
theorem dX12_byT_10 : decode cX12_byT 10 = .ok (.lload_n 3, 1) := by decide +kernel
theorem dX12_byT_11 : decode cX12_byT 11 = .ok (.invokevirtual 304, 3) := by decide +kernel
theorem dX12_byT_14 : decode cX12_byT 14 = .ok (.return_, 1) := by decide +kernel
theorem dX12_lawAt_0 : decode cX12_lawAt 0 = .ok (.aload_n 0, 1) := by decide +kernel
theorem dX12_lawAt_1 : decode cX12_lawAt 1 = .ok (.lload_n 2, 1) := by decide +kernel
theorem dX12_lawAt_2 : decode cX12_lawAt 2 = .ok (.putfield 287, 3) := by decide +kernel
theorem dX12_lawAt_5 : decode cX12_lawAt 5 = .ok (.aload_n 0, 1) := by decide +kernel
theorem dX12_lawAt_6 : decode cX12_lawAt 6 = .ok (.lload 4, 2) := by decide +kernel
theorem dX12_lawAt_8 : decode cX12_lawAt 8 = .ok (.putfield 291, 3) := by decide +kernel
theorem dX12_lawAt_11 : decode cX12_lawAt 11 = .ok (.iload_n 1, 1) := by decide +kernel
theorem dX12_lawAt_12 : decode cX12_lawAt 12 = .ok (.iconst 1, 1) := by decide +kernel
theorem dX12_lawAt_13 : decode cX12_lawAt 13 = .ok (.if_icmp .ne 4, 3) := by decide +kernel
theorem dX12_lawAt_16 : decode cX12_lawAt 16 = .ok (.return_, 1) := by decide +kernel
theorem dX12_lawAt_17 : decode cX12_lawAt 17 = .ok (.iload_n 1, 1) := by decide +kernel
theorem dX12_lawAt_18 : decode cX12_lawAt 18 = .ok (.iconst 2, 1) := by decide +kernel
theorem dX12_lawAt_19 : decode cX12_lawAt 19 = .ok (.if_icmp .ne 91, 3) := by decide +kernel
theorem dX12_lawAt_22 : decode cX12_lawAt 22 = .ok (.ldc2_w 325, 3) := by decide +kernel
theorem dX12_lawAt_25 : decode cX12_lawAt 25 = .ok (.lload_n 2, 1) := by decide +kernel
theorem dX12_lawAt_26 : decode cX12_lawAt 26 = .ok (.lmul, 1) := by decide +kernel
theorem dX12_lawAt_27 : decode cX12_lawAt 27 = .ok (.lload 4, 2) := by decide +kernel
theorem dX12_lawAt_29 : decode cX12_lawAt 29 = .ok (.lcmp, 1) := by decide +kernel
theorem dX12_lawAt_30 : decode cX12_lawAt 30 = .ok (.ifCond .gt 22, 3) := by decide +kernel
theorem dX12_lawAt_33 : decode cX12_lawAt 33 = .ok (.aload_n 0, 1) := by decide +kernel
theorem dX12_lawAt_34 : decode cX12_lawAt 34 = .ok (.ldc2_w 325, 3) := by decide +kernel
theorem dX12_lawAt_37 : decode cX12_lawAt 37 = .ok (.lconst 1, 1) := by decide +kernel
theorem dX12_lawAt_38 : decode cX12_lawAt 38 = .ok (.lload_n 2, 1) := by decide +kernel
theorem dX12_lawAt_39 : decode cX12_lawAt 39 = .ok (.lload 4, 2) := by decide +kernel
theorem dX12_lawAt_41 : decode cX12_lawAt 41 = .ok (.invokevirtual 304, 3) := by decide +kernel
theorem dX12_lawAt_44 : decode cX12_lawAt 44 = .ok (.aload_n 0, 1) := by decide +kernel
theorem dX12_lawAt_45 : decode cX12_lawAt 45 = .ok (.lload_n 2, 1) := by decide +kernel
theorem dX12_lawAt_46 : decode cX12_lawAt 46 = .ok (.lload 4, 2) := by decide +kernel
theorem dX12_lawAt_48 : decode cX12_lawAt 48 = .ok (.invokevirtual 688, 3) := by decide +kernel
theorem dX12_lawAt_51 : decode cX12_lawAt 51 = .ok (.return_, 1) := by decide +kernel
theorem dX12_lawAt_52 : decode cX12_lawAt 52 = .ok (.aload_n 0, 1) := by decide +kernel
theorem dX12_lawAt_53 : decode cX12_lawAt 53 = .ok (.lconst 1, 1) := by decide +kernel
theorem dX12_lawAt_54 : decode cX12_lawAt 54 = .ok (.lconst 1, 1) := by decide +kernel
theorem dX12_lawAt_55 : decode cX12_lawAt 55 = .ok (.lload_n 2, 1) := by decide +kernel
theorem dX12_lawAt_56 : decode cX12_lawAt 56 = .ok (.lneg, 1) := by decide +kernel
theorem dX12_lawAt_57 : decode cX12_lawAt 57 = .ok (.lload 4, 2) := by decide +kernel
theorem dX12_lawAt_59 : decode cX12_lawAt 59 = .ok (.invokevirtual 638, 3) := by decide +kernel
theorem dX12_lawAt_62 : decode cX12_lawAt 62 = .ok (.aload_n 0, 1) := by decide +kernel
theorem dX12_lawAt_63 : decode cX12_lawAt 63 = .ok (.getfield 287, 3) := by decide +kernel
theorem dX12_lawAt_66 : decode cX12_lawAt 66 = .ok (.lstore 6, 2) := by decide +kernel
theorem dX12_lawAt_68 : decode cX12_lawAt 68 = .ok (.aload_n 0, 1) := by decide +kernel
theorem dX12_lawAt_69 : decode cX12_lawAt 69 = .ok (.getfield 291, 3) := by decide +kernel
theorem dX12_lawAt_72 : decode cX12_lawAt 72 = .ok (.lstore 8, 2) := by decide +kernel
theorem dX12_lawAt_74 : decode cX12_lawAt 74 = .ok (.aload_n 0, 1) := by decide +kernel
theorem dX12_lawAt_75 : decode cX12_lawAt 75 = .ok (.ldc2_w 325, 3) := by decide +kernel
theorem dX12_lawAt_78 : decode cX12_lawAt 78 = .ok (.lconst 1, 1) := by decide +kernel
theorem dX12_lawAt_79 : decode cX12_lawAt 79 = .ok (.lload 6, 2) := by decide +kernel
theorem dX12_lawAt_81 : decode cX12_lawAt 81 = .ok (.lload 8, 2) := by decide +kernel
theorem dX12_lawAt_83 : decode cX12_lawAt 83 = .ok (.invokevirtual 304, 3) := by decide +kernel
theorem dX12_lawAt_86 : decode cX12_lawAt 86 = .ok (.aload_n 0, 1) := by decide +kernel
theorem dX12_lawAt_87 : decode cX12_lawAt 87 = .ok (.lload 6, 2) := by decide +kernel
theorem dX12_lawAt_89 : decode cX12_lawAt 89 = .ok (.lload 8, 2) := by decide +kernel
theorem dX12_lawAt_91 : decode cX12_lawAt 91 = .ok (.invokevirtual 688, 3) := by decide +kernel
theorem dX12_lawAt_94 : decode cX12_lawAt 94 = .ok (.aload_n 0, 1) := by decide +kernel
theorem dX12_lawAt_95 : decode cX12_lawAt 95 = .ok (.lconst 1, 1) := by decide +kernel
theorem dX12_lawAt_96 : decode cX12_lawAt 96 = .ok (.lconst 1, 1) := by decide +kernel
theorem dX12_lawAt_97 : decode cX12_lawAt 97 = .ok (.aload_n 0, 1) := by decide +kernel
theorem dX12_lawAt_98 : decode cX12_lawAt 98 = .ok (.getfield 287, 3) := by decide +kernel
theorem dX12_lawAt_101 : decode cX12_lawAt 101 = .ok (.lneg, 1) := by decide +kernel
theorem dX12_lawAt_102 : decode cX12_lawAt 102 = .ok (.aload_n 0, 1) := by decide +kernel
theorem dX12_lawAt_103 : decode cX12_lawAt 103 = .ok (.getfield 291, 3) := by decide +kernel
theorem dX12_lawAt_106 : decode cX12_lawAt 106 = .ok (.invokevirtual 638, 3) := by decide +kernel
theorem dX12_lawAt_109 : decode cX12_lawAt 109 = .ok (.return_, 1) := by decide +kernel
theorem dX12_lawAt_110 : decode cX12_lawAt 110 = .ok (.aload_n 0, 1) := by decide +kernel
theorem dX12_lawAt_111 : decode cX12_lawAt 111 = .ok (.iload_n 1, 1) := by decide +kernel
theorem dX12_lawAt_112 : decode cX12_lawAt 112 = .ok (.iconst 3, 1) := by decide +kernel
theorem dX12_lawAt_113 : decode cX12_lawAt 113 = .ok (.if_icmp .ne 9, 3) := by decide +kernel
theorem dX12_lawAt_116 : decode cX12_lawAt 116 = .ok (.ldc2_w 691, 3) := by decide +kernel
theorem dX12_lawAt_119 : decode cX12_lawAt 119 = .ok (.goto 6, 3) := by decide +kernel
theorem dX12_lawAt_122 : decode cX12_lawAt 122 = .ok (.ldc2_w 693, 3) := by decide +kernel
theorem dX12_lawAt_125 : decode cX12_lawAt 125 = .ok (.lconst 1, 1) := by decide +kernel
theorem dX12_lawAt_126 : decode cX12_lawAt 126 = .ok (.lload_n 2, 1) := by decide +kernel
theorem dX12_lawAt_127 : decode cX12_lawAt 127 = .ok (.lload 4, 2) := by decide +kernel
theorem dX12_lawAt_129 : decode cX12_lawAt 129 = .ok (.invokevirtual 304, 3) := by decide +kernel
theorem dX12_lawAt_132 : decode cX12_lawAt 132 = .ok (.aload_n 0, 1) := by decide +kernel
theorem dX12_lawAt_133 : decode cX12_lawAt 133 = .ok (.iload_n 1, 1) := by decide +kernel
theorem dX12_lawAt_134 : decode cX12_lawAt 134 = .ok (.iconst 3, 1) := by decide +kernel
theorem dX12_lawAt_135 : decode cX12_lawAt 135 = .ok (.if_icmp .ne 9, 3) := by decide +kernel
theorem dX12_lawAt_138 : decode cX12_lawAt 138 = .ok (.ldc2_w 695, 3) := by decide +kernel
theorem dX12_lawAt_141 : decode cX12_lawAt 141 = .ok (.goto 6, 3) := by decide +kernel
theorem dX12_lawAt_144 : decode cX12_lawAt 144 = .ok (.ldc2_w 697, 3) := by decide +kernel
theorem dX12_lawAt_147 : decode cX12_lawAt 147 = .ok (.invokevirtual 699, 3) := by decide +kernel
theorem dX12_lawAt_150 : decode cX12_lawAt 150 = .ok (.aload_n 0, 1) := by decide +kernel
theorem dX12_lawAt_151 : decode cX12_lawAt 151 = .ok (.lload_n 2, 1) := by decide +kernel
theorem dX12_lawAt_152 : decode cX12_lawAt 152 = .ok (.lload 4, 2) := by decide +kernel
theorem dX12_lawAt_154 : decode cX12_lawAt 154 = .ok (.invokevirtual 688, 3) := by decide +kernel
theorem dX12_lawAt_157 : decode cX12_lawAt 157 = .ok (.aload_n 0, 1) := by decide +kernel
theorem dX12_lawAt_158 : decode cX12_lawAt 158 = .ok (.iload_n 1, 1) := by decide +kernel
theorem dX12_lawAt_159 : decode cX12_lawAt 159 = .ok (.iconst 3, 1) := by decide +kernel
theorem dX12_lawAt_160 : decode cX12_lawAt 160 = .ok (.if_icmp .ne 9, 3) := by decide +kernel
theorem dX12_lawAt_163 : decode cX12_lawAt 163 = .ok (.ldc2_w 703, 3) := by decide +kernel
theorem dX12_lawAt_166 : decode cX12_lawAt 166 = .ok (.goto 6, 3) := by decide +kernel
theorem dX12_lawAt_169 : decode cX12_lawAt 169 = .ok (.ldc2_w 705, 3) := by decide +kernel
theorem dX12_lawAt_172 : decode cX12_lawAt 172 = .ok (.invokevirtual 699, 3) := by decide +kernel
theorem dX12_lawAt_175 : decode cX12_lawAt 175 = .ok (.aload_n 0, 1) := by decide +kernel
theorem dX12_lawAt_176 : decode cX12_lawAt 176 = .ok (.lload_n 2, 1) := by decide +kernel
theorem dX12_lawAt_177 : decode cX12_lawAt 177 = .ok (.lload 4, 2) := by decide +kernel
theorem dX12_lawAt_179 : decode cX12_lawAt 179 = .ok (.invokevirtual 688, 3) := by decide +kernel
theorem dX12_lawAt_182 : decode cX12_lawAt 182 = .ok (.iload_n 1, 1) := by decide +kernel
theorem dX12_lawAt_183 : decode cX12_lawAt 183 = .ok (.iconst 4, 1) := by decide +kernel
theorem dX12_lawAt_184 : decode cX12_lawAt 184 = .ok (.if_icmp .ne 24, 3) := by decide +kernel
theorem dX12_lawAt_187 : decode cX12_lawAt 187 = .ok (.aload_n 0, 1) := by decide +kernel
theorem dX12_lawAt_188 : decode cX12_lawAt 188 = .ok (.ldc2_w 707, 3) := by decide +kernel
theorem dX12_lawAt_191 : decode cX12_lawAt 191 = .ok (.invokevirtual 699, 3) := by decide +kernel
theorem dX12_lawAt_194 : decode cX12_lawAt 194 = .ok (.aload_n 0, 1) := by decide +kernel
theorem dX12_lawAt_195 : decode cX12_lawAt 195 = .ok (.lload_n 2, 1) := by decide +kernel
theorem dX12_lawAt_196 : decode cX12_lawAt 196 = .ok (.lload 4, 2) := by decide +kernel
theorem dX12_lawAt_198 : decode cX12_lawAt 198 = .ok (.invokevirtual 688, 3) := by decide +kernel
theorem dX12_lawAt_201 : decode cX12_lawAt 201 = .ok (.aload_n 0, 1) := by decide +kernel
theorem dX12_lawAt_202 : decode cX12_lawAt 202 = .ok (.lload_n 2, 1) := by decide +kernel
theorem dX12_lawAt_203 : decode cX12_lawAt 203 = .ok (.lload 4, 2) := by decide +kernel
theorem dX12_lawAt_205 : decode cX12_lawAt 205 = .ok (.invokevirtual 688, 3) := by decide +kernel
theorem dX12_lawAt_208 : decode cX12_lawAt 208 = .ok (.aload_n 0, 1) := by decide +kernel
theorem dX12_lawAt_209 : decode cX12_lawAt 209 = .ok (.lload_n 2, 1) := by decide +kernel
theorem dX12_lawAt_210 : decode cX12_lawAt 210 = .ok (.lload 4, 2) := by decide +kernel
theorem dX12_lawAt_212 : decode cX12_lawAt 212 = .ok (.invokevirtual 688, 3) := by decide +kernel
theorem dX12_lawAt_215 : decode cX12_lawAt 215 = .ok (.aload_n 0, 1) := by decide +kernel
theorem dX12_lawAt_216 : decode cX12_lawAt 216 = .ok (.lload_n 2, 1) := by decide +kernel
theorem dX12_lawAt_217 : decode cX12_lawAt 217 = .ok (.lload 4, 2) := by decide +kernel
theorem dX12_lawAt_219 : decode cX12_lawAt 219 = .ok (.invokevirtual 688, 3) := by decide +kernel
theorem dX12_lawAt_222 : decode cX12_lawAt 222 = .ok (.return_, 1) := by decide +kernel
theorem dX12_lift_0 : decode cX12_lift 0 = .ok (.iload_n 2, 1) := by decide +kernel
theorem dX12_lift_1 : decode cX12_lift 1 = .ok (.i2l, 1) := by decide +kernel
theorem dX12_lift_2 : decode cX12_lift 2 = .ok (.lconst 1, 1) := by decide +kernel
theorem dX12_lift_3 : decode cX12_lift 3 = .ok (.ldc2_w 603, 3) := by decide +kernel
theorem dX12_lift_6 : decode cX12_lift 6 = .ok (.invokestatic 262, 3) := by decide +kernel
theorem dX12_lift_9 : decode cX12_lift 9 = .ok (.ifCond .eq 33, 3) := by decide +kernel
theorem dX12_lift_12 : decode cX12_lift 12 = .ok (.iload_n 1, 1) := by decide +kernel
theorem dX12_lift_13 : decode cX12_lift 13 = .ok (.ifCond .lt 29, 3) := by decide +kernel
theorem dX12_lift_16 : decode cX12_lift 16 = .ok (.iload_n 1, 1) := by decide +kernel
theorem dX12_lift_17 : decode cX12_lift 17 = .ok (.i2l, 1) := by decide +kernel
theorem dX12_lift_18 : decode cX12_lift 18 = .ok (.ldc2_w 677, 3) := by decide +kernel
theorem dX12_lift_21 : decode cX12_lift 21 = .ok (.iload_n 2, 1) := by decide +kernel
theorem dX12_lift_22 : decode cX12_lift 22 = .ok (.i2l, 1) := by decide +kernel
theorem dX12_lift_23 : decode cX12_lift 23 = .ok (.lmul, 1) := by decide +kernel
theorem dX12_lift_24 : decode cX12_lift 24 = .ok (.lcmp, 1) := by decide +kernel
theorem dX12_lift_25 : decode cX12_lift 25 = .ok (.ifCond .ge 17, 3) := by decide +kernel
theorem dX12_lift_28 : decode cX12_lift 28 = .ok (.iload_n 3, 1) := by decide +kernel
theorem dX12_lift_29 : decode cX12_lift 29 = .ok (.i2l, 1) := by decide +kernel
theorem dX12_lift_30 : decode cX12_lift 30 = .ok (.lconst 0, 1) := by decide +kernel
theorem dX12_lift_31 : decode cX12_lift 31 = .ok (.lconst 1, 1) := by decide +kernel
theorem dX12_lift_32 : decode cX12_lift 32 = .ok (.invokestatic 262, 3) := by decide +kernel
theorem dX12_lift_35 : decode cX12_lift 35 = .ok (.ifCond .eq 7, 3) := by decide +kernel
theorem dX12_lift_38 : decode cX12_lift 38 = .ok (.iconst 1, 1) := by decide +kernel
theorem dX12_lift_39 : decode cX12_lift 39 = .ok (.goto 4, 3) := by decide +kernel
theorem dX12_lift_42 : decode cX12_lift 42 = .ok (.iconst 0, 1) := by decide +kernel
theorem dX12_lift_43 : decode cX12_lift 43 = .ok (.istore 4, 2) := by decide +kernel
theorem dX12_lift_45 : decode cX12_lift 45 = .ok (.aload_n 0, 1) := by decide +kernel
theorem dX12_lift_46 : decode cX12_lift 46 = .ok (.iload 4, 2) := by decide +kernel
theorem dX12_lift_48 : decode cX12_lift 48 = .ok (.ifCond .ne 7, 3) := by decide +kernel
theorem dX12_lift_51 : decode cX12_lift 51 = .ok (.iconst 1, 1) := by decide +kernel
theorem dX12_lift_52 : decode cX12_lift 52 = .ok (.goto 15, 3) := by decide +kernel
theorem dX12_lift_55 : decode cX12_lift 55 = .ok (.aload_n 0, 1) := by decide +kernel
theorem dX12_lift_56 : decode cX12_lift 56 = .ok (.getfield 685, 3) := by decide +kernel
theorem dX12_lift_59 : decode cX12_lift 59 = .ok (.ifCond .ne 7, 3) := by decide +kernel
theorem dX12_lift_62 : decode cX12_lift 62 = .ok (.iconst 2, 1) := by decide +kernel
theorem dX12_lift_63 : decode cX12_lift 63 = .ok (.goto 4, 3) := by decide +kernel
theorem dX12_lift_66 : decode cX12_lift 66 = .ok (.iconst 0, 1) := by decide +kernel
theorem dX12_lift_67 : decode cX12_lift 67 = .ok (.putfield 243, 3) := by decide +kernel
theorem dX12_lift_70 : decode cX12_lift 70 = .ok (.aload_n 0, 1) := by decide +kernel
theorem dX12_lift_71 : decode cX12_lift 71 = .ok (.getfield 243, 3) := by decide +kernel
theorem dX12_lift_74 : decode cX12_lift 74 = .ok (.ifCond .le 5, 3) := by decide +kernel
theorem dX12_lift_77 : decode cX12_lift 77 = .ok (.lconst 0, 1) := by decide +kernel
theorem dX12_lift_78 : decode cX12_lift 78 = .ok (.lreturn, 1) := by decide +kernel
theorem dX12_lift_79 : decode cX12_lift 79 = .ok (.aload_n 0, 1) := by decide +kernel
theorem dX12_lift_80 : decode cX12_lift 80 = .ok (.iconst 0, 1) := by decide +kernel
theorem dX12_lift_81 : decode cX12_lift 81 = .ok (.putfield 283, 3) := by decide +kernel
theorem dX12_lift_84 : decode cX12_lift 84 = .ok (.iconst 0, 1) := by decide +kernel
theorem dX12_lift_85 : decode cX12_lift 85 = .ok (.istore 5, 2) := by decide +kernel
theorem dX12_lift_87 : decode cX12_lift 87 = .ok (.lconst 0, 1) := by decide +kernel
theorem dX12_lift_88 : decode cX12_lift 88 = .ok (.lstore 6, 2) := by decide +kernel
theorem dX12_lift_90 : decode cX12_lift 90 = .ok (.lconst 1, 1) := by decide +kernel
theorem dX12_lift_91 : decode cX12_lift 91 = .ok (.lstore 8, 2) := by decide +kernel
theorem dX12_lift_93 : decode cX12_lift 93 = .ok (.iconst 0, 1) := by decide +kernel
theorem dX12_lift_94 : decode cX12_lift 94 = .ok (.istore 10, 2) := by decide +kernel
theorem dX12_lift_96 : decode cX12_lift 96 = .ok (.iload_n 1, 1) := by decide +kernel
theorem dX12_lift_97 : decode cX12_lift 97 = .ok (.i2l, 1) := by decide +kernel
theorem dX12_lift_98 : decode cX12_lift 98 = .ok (.iload 5, 2) := by decide +kernel
theorem dX12_lift_100 : decode cX12_lift 100 = .ok (.aload_n 0, 1) := by decide +kernel
theorem dX12_lift_101 : decode cX12_lift 101 = .ok (.getfield 159, 3) := by decide +kernel
theorem dX12_lift_104 : decode cX12_lift 104 = .ok (.iload 10, 2) := by decide +kernel
theorem dX12_lift_106 : decode cX12_lift 106 = .ok (.iaload, 1) := by decide +kernel
theorem dX12_lift_107 : decode cX12_lift 107 = .ok (.iadd, 1) := by decide +kernel
theorem dX12_lift_108 : decode cX12_lift 108 = .ok (.i2l, 1) := by decide +kernel
theorem dX12_lift_109 : decode cX12_lift 109 = .ok (.iload_n 2, 1) := by decide +kernel
theorem dX12_lift_110 : decode cX12_lift 110 = .ok (.i2l, 1) := by decide +kernel
theorem dX12_lift_111 : decode cX12_lift 111 = .ok (.lmul, 1) := by decide +kernel
theorem dX12_lift_112 : decode cX12_lift 112 = .ok (.lcmp, 1) := by decide +kernel
theorem dX12_lift_113 : decode cX12_lift 113 = .ok (.ifCond .lt 77, 3) := by decide +kernel
theorem dX12_lift_116 : decode cX12_lift 116 = .ok (.aload_n 0, 1) := by decide +kernel
theorem dX12_lift_117 : decode cX12_lift 117 = .ok (.lload 6, 2) := by decide +kernel
theorem dX12_lift_119 : decode cX12_lift 119 = .ok (.lload 8, 2) := by decide +kernel
theorem dX12_lift_121 : decode cX12_lift 121 = .ok (.aload_n 0, 1) := by decide +kernel
theorem dX12_lift_122 : decode cX12_lift 122 = .ok (.getfield 156, 3) := by decide +kernel
theorem dX12_lift_125 : decode cX12_lift 125 = .ok (.iload 10, 2) := by decide +kernel
theorem dX12_lift_127 : decode cX12_lift 127 = .ok (.iaload, 1) := by decide +kernel
theorem dX12_lift_128 : decode cX12_lift 128 = .ok (.iconst 2, 1) := by decide +kernel
theorem dX12_lift_129 : decode cX12_lift 129 = .ok (.if_icmp .ne 14, 3) := by decide +kernel
theorem dX12_lift_132 : decode cX12_lift 132 = .ok (.aload_n 0, 1) := by decide +kernel
theorem dX12_lift_133 : decode cX12_lift 133 = .ok (.getfield 162, 3) := by decide +kernel
theorem dX12_lift_136 : decode cX12_lift 136 = .ok (.iload 10, 2) := by decide +kernel
theorem dX12_lift_138 : decode cX12_lift 138 = .ok (.laload, 1) := by decide +kernel
theorem dX12_lift_139 : decode cX12_lift 139 = .ok (.lneg, 1) := by decide +kernel
theorem dX12_lift_140 : decode cX12_lift 140 = .ok (.goto 10, 3) := by decide +kernel
theorem dX12_lift_143 : decode cX12_lift 143 = .ok (.aload_n 0, 1) := by decide +kernel
theorem dX12_lift_144 : decode cX12_lift 144 = .ok (.getfield 162, 3) := by decide +kernel
theorem dX12_lift_147 : decode cX12_lift 147 = .ok (.iload 10, 2) := by decide +kernel
theorem dX12_lift_149 : decode cX12_lift 149 = .ok (.laload, 1) := by decide +kernel
theorem dX12_lift_150 : decode cX12_lift 150 = .ok (.aload_n 0, 1) := by decide +kernel
theorem dX12_lift_151 : decode cX12_lift 151 = .ok (.getfield 165, 3) := by decide +kernel
theorem dX12_lift_154 : decode cX12_lift 154 = .ok (.iload 10, 2) := by decide +kernel
theorem dX12_lift_156 : decode cX12_lift 156 = .ok (.laload, 1) := by decide +kernel
theorem dX12_lift_157 : decode cX12_lift 157 = .ok (.invokevirtual 638, 3) := by decide +kernel
theorem dX12_lift_160 : decode cX12_lift 160 = .ok (.aload_n 0, 1) := by decide +kernel
theorem dX12_lift_161 : decode cX12_lift 161 = .ok (.getfield 287, 3) := by decide +kernel
theorem dX12_lift_164 : decode cX12_lift 164 = .ok (.lstore 6, 2) := by decide +kernel
theorem dX12_lift_166 : decode cX12_lift 166 = .ok (.aload_n 0, 1) := by decide +kernel
theorem dX12_lift_167 : decode cX12_lift 167 = .ok (.getfield 291, 3) := by decide +kernel
theorem dX12_lift_170 : decode cX12_lift 170 = .ok (.lstore 8, 2) := by decide +kernel
theorem dX12_lift_172 : decode cX12_lift 172 = .ok (.iload 5, 2) := by decide +kernel
theorem dX12_lift_174 : decode cX12_lift 174 = .ok (.aload_n 0, 1) := by decide +kernel
theorem dX12_lift_175 : decode cX12_lift 175 = .ok (.getfield 159, 3) := by decide +kernel
theorem dX12_lift_178 : decode cX12_lift 178 = .ok (.iload 10, 2) := by decide +kernel
theorem dX12_lift_180 : decode cX12_lift 180 = .ok (.iaload, 1) := by decide +kernel
theorem dX12_lift_181 : decode cX12_lift 181 = .ok (.iadd, 1) := by decide +kernel
theorem dX12_lift_182 : decode cX12_lift 182 = .ok (.istore 5, 2) := by decide +kernel
theorem dX12_lift_184 : decode cX12_lift 184 = .ok (.iinc 10 1, 3) := by decide +kernel
theorem dX12_lift_187 : decode cX12_lift 187 = .ok (.goto (-91), 3) := by decide +kernel
theorem dX12_lift_190 : decode cX12_lift 190 = .ok (.aload_n 0, 1) := by decide +kernel
theorem dX12_lift_191 : decode cX12_lift 191 = .ok (.getfield 156, 3) := by decide +kernel
theorem dX12_lift_194 : decode cX12_lift 194 = .ok (.iload 10, 2) := by decide +kernel
theorem dX12_lift_196 : decode cX12_lift 196 = .ok (.iaload, 1) := by decide +kernel
theorem dX12_lift_197 : decode cX12_lift 197 = .ok (.ifCond .le 132, 3) := by decide +kernel
theorem dX12_lift_200 : decode cX12_lift 200 = .ok (.aload_n 0, 1) := by decide +kernel
theorem dX12_lift_201 : decode cX12_lift 201 = .ok (.iload_n 1, 1) := by decide +kernel
theorem dX12_lift_202 : decode cX12_lift 202 = .ok (.i2l, 1) := by decide +kernel
theorem dX12_lift_203 : decode cX12_lift 203 = .ok (.iload_n 2, 1) := by decide +kernel
theorem dX12_lift_204 : decode cX12_lift 204 = .ok (.i2l, 1) := by decide +kernel
theorem dX12_lift_205 : decode cX12_lift 205 = .ok (.invokevirtual 300, 3) := by decide +kernel
theorem dX12_lift_208 : decode cX12_lift 208 = .ok (.aload_n 0, 1) := by decide +kernel
theorem dX12_lift_209 : decode cX12_lift 209 = .ok (.aload_n 0, 1) := by decide +kernel
theorem dX12_lift_210 : decode cX12_lift 210 = .ok (.getfield 287, 3) := by decide +kernel
theorem dX12_lift_213 : decode cX12_lift 213 = .ok (.aload_n 0, 1) := by decide +kernel
theorem dX12_lift_214 : decode cX12_lift 214 = .ok (.getfield 291, 3) := by decide +kernel
theorem dX12_lift_217 : decode cX12_lift 217 = .ok (.iload 5, 2) := by decide +kernel
theorem dX12_lift_219 : decode cX12_lift 219 = .ok (.ineg, 1) := by decide +kernel
theorem dX12_lift_220 : decode cX12_lift 220 = .ok (.i2l, 1) := by decide +kernel
theorem dX12_lift_221 : decode cX12_lift 221 = .ok (.lconst 1, 1) := by decide +kernel
theorem dX12_lift_222 : decode cX12_lift 222 = .ok (.invokevirtual 638, 3) := by decide +kernel
theorem dX12_lift_225 : decode cX12_lift 225 = .ok (.aload_n 0, 1) := by decide +kernel
theorem dX12_lift_226 : decode cX12_lift 226 = .ok (.aload_n 0, 1) := by decide +kernel
theorem dX12_lift_227 : decode cX12_lift 227 = .ok (.getfield 287, 3) := by decide +kernel
theorem dX12_lift_230 : decode cX12_lift 230 = .ok (.aload_n 0, 1) := by decide +kernel
theorem dX12_lift_231 : decode cX12_lift 231 = .ok (.getfield 291, 3) := by decide +kernel
theorem dX12_lift_234 : decode cX12_lift 234 = .ok (.aload_n 0, 1) := by decide +kernel
theorem dX12_lift_235 : decode cX12_lift 235 = .ok (.getfield 159, 3) := by decide +kernel
theorem dX12_lift_238 : decode cX12_lift 238 = .ok (.iload 10, 2) := by decide +kernel
theorem dX12_lift_240 : decode cX12_lift 240 = .ok (.iaload, 1) := by decide +kernel
theorem dX12_lift_241 : decode cX12_lift 241 = .ok (.i2l, 1) := by decide +kernel
theorem dX12_lift_242 : decode cX12_lift 242 = .ok (.lconst 1, 1) := by decide +kernel
theorem dX12_lift_243 : decode cX12_lift 243 = .ok (.invokevirtual 632, 3) := by decide +kernel
theorem dX12_lift_246 : decode cX12_lift 246 = .ok (.aload_n 0, 1) := by decide +kernel
theorem dX12_lift_247 : decode cX12_lift 247 = .ok (.aload_n 0, 1) := by decide +kernel
theorem dX12_lift_248 : decode cX12_lift 248 = .ok (.getfield 168, 3) := by decide +kernel
theorem dX12_lift_251 : decode cX12_lift 251 = .ok (.iload 10, 2) := by decide +kernel
theorem dX12_lift_253 : decode cX12_lift 253 = .ok (.iaload, 1) := by decide +kernel
theorem dX12_lift_254 : decode cX12_lift 254 = .ok (.aload_n 0, 1) := by decide +kernel
theorem dX12_lift_255 : decode cX12_lift 255 = .ok (.getfield 287, 3) := by decide +kernel
theorem dX12_lift_258 : decode cX12_lift 258 = .ok (.aload_n 0, 1) := by decide +kernel
theorem dX12_lift_259 : decode cX12_lift 259 = .ok (.getfield 291, 3) := by decide +kernel
theorem dX12_lift_262 : decode cX12_lift 262 = .ok (.invokevirtual 709, 3) := by decide +kernel
theorem dX12_lift_265 : decode cX12_lift 265 = .ok (.aload_n 0, 1) := by decide +kernel
theorem dX12_lift_266 : decode cX12_lift 266 = .ok (.aload_n 0, 1) := by decide +kernel
theorem dX12_lift_267 : decode cX12_lift 267 = .ok (.getfield 287, 3) := by decide +kernel
theorem dX12_lift_270 : decode cX12_lift 270 = .ok (.aload_n 0, 1) := by decide +kernel
theorem dX12_lift_271 : decode cX12_lift 271 = .ok (.getfield 291, 3) := by decide +kernel
theorem dX12_lift_274 : decode cX12_lift 274 = .ok (.aload_n 0, 1) := by decide +kernel
theorem dX12_lift_275 : decode cX12_lift 275 = .ok (.getfield 162, 3) := by decide +kernel
theorem dX12_lift_278 : decode cX12_lift 278 = .ok (.iload 10, 2) := by decide +kernel
theorem dX12_lift_280 : decode cX12_lift 280 = .ok (.laload, 1) := by decide +kernel
theorem dX12_lift_281 : decode cX12_lift 281 = .ok (.aload_n 0, 1) := by decide +kernel
theorem dX12_lift_282 : decode cX12_lift 282 = .ok (.getfield 165, 3) := by decide +kernel
theorem dX12_lift_285 : decode cX12_lift 285 = .ok (.iload 10, 2) := by decide +kernel
theorem dX12_lift_287 : decode cX12_lift 287 = .ok (.laload, 1) := by decide +kernel
theorem dX12_lift_288 : decode cX12_lift 288 = .ok (.invokevirtual 304, 3) := by decide +kernel
theorem dX12_lift_291 : decode cX12_lift 291 = .ok (.aload_n 0, 1) := by decide +kernel
theorem dX12_lift_292 : decode cX12_lift 292 = .ok (.lload 6, 2) := by decide +kernel
theorem dX12_lift_294 : decode cX12_lift 294 = .ok (.lload 8, 2) := by decide +kernel
theorem dX12_lift_296 : decode cX12_lift 296 = .ok (.aload_n 0, 1) := by decide +kernel
theorem dX12_lift_297 : decode cX12_lift 297 = .ok (.getfield 156, 3) := by decide +kernel
theorem dX12_lift_300 : decode cX12_lift 300 = .ok (.iload 10, 2) := by decide +kernel
theorem dX12_lift_302 : decode cX12_lift 302 = .ok (.iaload, 1) := by decide +kernel
theorem dX12_lift_303 : decode cX12_lift 303 = .ok (.iconst 2, 1) := by decide +kernel
theorem dX12_lift_304 : decode cX12_lift 304 = .ok (.if_icmp .ne 11, 3) := by decide +kernel
theorem dX12_lift_307 : decode cX12_lift 307 = .ok (.aload_n 0, 1) := by decide +kernel
theorem dX12_lift_308 : decode cX12_lift 308 = .ok (.getfield 287, 3) := by decide +kernel
theorem dX12_lift_311 : decode cX12_lift 311 = .ok (.lneg, 1) := by decide +kernel
theorem dX12_lift_312 : decode cX12_lift 312 = .ok (.goto 7, 3) := by decide +kernel
theorem dX12_lift_315 : decode cX12_lift 315 = .ok (.aload_n 0, 1) := by decide +kernel
theorem dX12_lift_316 : decode cX12_lift 316 = .ok (.getfield 287, 3) := by decide +kernel
theorem dX12_lift_319 : decode cX12_lift 319 = .ok (.aload_n 0, 1) := by decide +kernel
theorem dX12_lift_320 : decode cX12_lift 320 = .ok (.getfield 291, 3) := by decide +kernel
theorem dX12_lift_323 : decode cX12_lift 323 = .ok (.invokevirtual 638, 3) := by decide +kernel
theorem dX12_lift_326 : decode cX12_lift 326 = .ok (.goto 15, 3) := by decide +kernel
theorem dX12_lift_329 : decode cX12_lift 329 = .ok (.aload_n 0, 1) := by decide +kernel
theorem dX12_lift_330 : decode cX12_lift 330 = .ok (.lload 6, 2) := by decide +kernel
theorem dX12_lift_332 : decode cX12_lift 332 = .ok (.putfield 287, 3) := by decide +kernel
theorem dX12_lift_335 : decode cX12_lift 335 = .ok (.aload_n 0, 1) := by decide +kernel
theorem dX12_lift_336 : decode cX12_lift 336 = .ok (.lload 8, 2) := by decide +kernel
theorem dX12_lift_338 : decode cX12_lift 338 = .ok (.putfield 291, 3) := by decide +kernel
theorem dX12_lift_341 : decode cX12_lift 341 = .ok (.aload_n 0, 1) := by decide +kernel
theorem dX12_lift_342 : decode cX12_lift 342 = .ok (.aload_n 0, 1) := by decide +kernel
theorem dX12_lift_343 : decode cX12_lift 343 = .ok (.getfield 283, 3) := by decide +kernel
theorem dX12_lift_346 : decode cX12_lift 346 = .ok (.ifCond .eq 7, 3) := by decide +kernel
theorem dX12_lift_349 : decode cX12_lift 349 = .ok (.iconst 3, 1) := by decide +kernel
theorem dX12_lift_350 : decode cX12_lift 350 = .ok (.goto 4, 3) := by decide +kernel
theorem dX12_lift_353 : decode cX12_lift 353 = .ok (.iconst 0, 1) := by decide +kernel
theorem dX12_lift_354 : decode cX12_lift 354 = .ok (.putfield 243, 3) := by decide +kernel
theorem dX12_lift_357 : decode cX12_lift 357 = .ok (.aload_n 0, 1) := by decide +kernel
theorem dX12_lift_358 : decode cX12_lift 358 = .ok (.getfield 243, 3) := by decide +kernel
theorem dX12_lift_361 : decode cX12_lift 361 = .ok (.ifCond .le 7, 3) := by decide +kernel
theorem dX12_lift_364 : decode cX12_lift 364 = .ok (.lconst 0, 1) := by decide +kernel
theorem dX12_lift_365 : decode cX12_lift 365 = .ok (.goto 18, 3) := by decide +kernel
theorem dX12_lift_368 : decode cX12_lift 368 = .ok (.iload_n 3, 1) := by decide +kernel
theorem dX12_lift_369 : decode cX12_lift 369 = .ok (.ifCond .ne 10, 3) := by decide +kernel
theorem dX12_lift_372 : decode cX12_lift 372 = .ok (.aload_n 0, 1) := by decide +kernel
theorem dX12_lift_373 : decode cX12_lift 373 = .ok (.getfield 287, 3) := by decide +kernel
theorem dX12_lift_376 : decode cX12_lift 376 = .ok (.goto 7, 3) := by decide +kernel
theorem dX12_lift_379 : decode cX12_lift 379 = .ok (.aload_n 0, 1) := by decide +kernel
theorem dX12_lift_380 : decode cX12_lift 380 = .ok (.getfield 291, 3) := by decide +kernel
theorem dX12_lift_383 : decode cX12_lift 383 = .ok (.lreturn, 1) := by decide +kernel
theorem dX12_slope_0 : decode cX12_slope 0 = .ok (.aload_n 0, 1) := by decide +kernel
theorem dX12_slope_1 : decode cX12_slope 1 = .ok (.lconst 0, 1) := by decide +kernel
theorem dX12_slope_2 : decode cX12_slope 2 = .ok (.putfield 287, 3) := by decide +kernel
theorem dX12_slope_5 : decode cX12_slope 5 = .ok (.aload_n 0, 1) := by decide +kernel
theorem dX12_slope_6 : decode cX12_slope 6 = .ok (.lconst 1, 1) := by decide +kernel
theorem dX12_slope_7 : decode cX12_slope 7 = .ok (.putfield 291, 3) := by decide +kernel
theorem dX12_slope_10 : decode cX12_slope 10 = .ok (.aload_n 0, 1) := by decide +kernel
theorem dX12_slope_11 : decode cX12_slope 11 = .ok (.getfield 156, 3) := by decide +kernel
theorem dX12_slope_14 : decode cX12_slope 14 = .ok (.iload_n 1, 1) := by decide +kernel
theorem dX12_slope_15 : decode cX12_slope 15 = .ok (.iaload, 1) := by decide +kernel
theorem dX12_slope_16 : decode cX12_slope 16 = .ok (.ifCond .le 57, 3) := by decide +kernel
theorem dX12_slope_19 : decode cX12_slope 19 = .ok (.aload_n 0, 1) := by decide +kernel
theorem dX12_slope_20 : decode cX12_slope 20 = .ok (.getfield 168, 3) := by decide +kernel
theorem dX12_slope_23 : decode cX12_slope 23 = .ok (.iload_n 1, 1) := by decide +kernel
theorem dX12_slope_24 : decode cX12_slope 24 = .ok (.iaload, 1) := by decide +kernel
theorem dX12_slope_25 : decode cX12_slope 25 = .ok (.iconst 1, 1) := by decide +kernel
theorem dX12_slope_26 : decode cX12_slope 26 = .ok (.if_icmp .ne 47, 3) := by decide +kernel
theorem dX12_slope_29 : decode cX12_slope 29 = .ok (.aload_n 0, 1) := by decide +kernel
theorem dX12_slope_30 : decode cX12_slope 30 = .ok (.aload_n 0, 1) := by decide +kernel
theorem dX12_slope_31 : decode cX12_slope 31 = .ok (.getfield 156, 3) := by decide +kernel
theorem dX12_slope_34 : decode cX12_slope 34 = .ok (.iload_n 1, 1) := by decide +kernel
theorem dX12_slope_35 : decode cX12_slope 35 = .ok (.iaload, 1) := by decide +kernel
theorem dX12_slope_36 : decode cX12_slope 36 = .ok (.iconst 2, 1) := by decide +kernel
theorem dX12_slope_37 : decode cX12_slope 37 = .ok (.if_icmp .ne 13, 3) := by decide +kernel
theorem dX12_slope_40 : decode cX12_slope 40 = .ok (.aload_n 0, 1) := by decide +kernel
theorem dX12_slope_41 : decode cX12_slope 41 = .ok (.getfield 162, 3) := by decide +kernel
theorem dX12_slope_44 : decode cX12_slope 44 = .ok (.iload_n 1, 1) := by decide +kernel
theorem dX12_slope_45 : decode cX12_slope 45 = .ok (.laload, 1) := by decide +kernel
theorem dX12_slope_46 : decode cX12_slope 46 = .ok (.lneg, 1) := by decide +kernel
theorem dX12_slope_47 : decode cX12_slope 47 = .ok (.goto 9, 3) := by decide +kernel
theorem dX12_slope_50 : decode cX12_slope 50 = .ok (.aload_n 0, 1) := by decide +kernel
theorem dX12_slope_51 : decode cX12_slope 51 = .ok (.getfield 162, 3) := by decide +kernel
theorem dX12_slope_54 : decode cX12_slope 54 = .ok (.iload_n 1, 1) := by decide +kernel
theorem dX12_slope_55 : decode cX12_slope 55 = .ok (.laload, 1) := by decide +kernel
theorem dX12_slope_56 : decode cX12_slope 56 = .ok (.aload_n 0, 1) := by decide +kernel
theorem dX12_slope_57 : decode cX12_slope 57 = .ok (.getfield 165, 3) := by decide +kernel
theorem dX12_slope_60 : decode cX12_slope 60 = .ok (.iload_n 1, 1) := by decide +kernel
theorem dX12_slope_61 : decode cX12_slope 61 = .ok (.laload, 1) := by decide +kernel
theorem dX12_slope_62 : decode cX12_slope 62 = .ok (.aload_n 0, 1) := by decide +kernel
theorem dX12_slope_63 : decode cX12_slope 63 = .ok (.getfield 159, 3) := by decide +kernel
theorem dX12_slope_66 : decode cX12_slope 66 = .ok (.iload_n 1, 1) := by decide +kernel
theorem dX12_slope_67 : decode cX12_slope 67 = .ok (.iaload, 1) := by decide +kernel
theorem dX12_slope_68 : decode cX12_slope 68 = .ok (.i2l, 1) := by decide +kernel
theorem dX12_slope_69 : decode cX12_slope 69 = .ok (.lconst 1, 1) := by decide +kernel
theorem dX12_slope_70 : decode cX12_slope 70 = .ok (.invokevirtual 632, 3) := by decide +kernel
theorem dX12_slope_73 : decode cX12_slope 73 = .ok (.return_, 1) := by decide +kernel
theorem dX12_smooth_0 : decode cX12_smooth 0 = .ok (.iconst 0, 1) := by decide +kernel
theorem dX12_smooth_1 : decode cX12_smooth 1 = .ok (.istore_n 1, 1) := by decide +kernel
theorem dX12_smooth_2 : decode cX12_smooth 2 = .ok (.iconst 0, 1) := by decide +kernel
theorem dX12_smooth_3 : decode cX12_smooth 3 = .ok (.istore_n 2, 1) := by decide +kernel
theorem dX12_smooth_4 : decode cX12_smooth 4 = .ok (.iload_n 2, 1) := by decide +kernel
theorem dX12_smooth_5 : decode cX12_smooth 5 = .ok (.aload_n 0, 1) := by decide +kernel
theorem dX12_smooth_6 : decode cX12_smooth 6 = .ok (.getfield 685, 3) := by decide +kernel
theorem dX12_smooth_9 : decode cX12_smooth 9 = .ok (.if_icmp .ge 87, 3) := by decide +kernel
theorem dX12_smooth_12 : decode cX12_smooth 12 = .ok (.aload_n 0, 1) := by decide +kernel
theorem dX12_smooth_13 : decode cX12_smooth 13 = .ok (.iload_n 2, 1) := by decide +kernel
theorem dX12_smooth_14 : decode cX12_smooth 14 = .ok (.invokevirtual 712, 3) := by decide +kernel
theorem dX12_smooth_17 : decode cX12_smooth 17 = .ok (.aload_n 0, 1) := by decide +kernel
theorem dX12_smooth_18 : decode cX12_smooth 18 = .ok (.getfield 287, 3) := by decide +kernel
theorem dX12_smooth_21 : decode cX12_smooth 21 = .ok (.lstore_n 3, 1) := by decide +kernel
theorem dX12_smooth_22 : decode cX12_smooth 22 = .ok (.aload_n 0, 1) := by decide +kernel
theorem dX12_smooth_23 : decode cX12_smooth 23 = .ok (.getfield 291, 3) := by decide +kernel
theorem dX12_smooth_26 : decode cX12_smooth 26 = .ok (.lstore 5, 2) := by decide +kernel
theorem dX12_smooth_28 : decode cX12_smooth 28 = .ok (.aload_n 0, 1) := by decide +kernel
theorem dX12_smooth_29 : decode cX12_smooth 29 = .ok (.iload_n 2, 1) := by decide +kernel
theorem dX12_smooth_30 : decode cX12_smooth 30 = .ok (.iconst 1, 1) := by decide +kernel
theorem dX12_smooth_31 : decode cX12_smooth 31 = .ok (.iadd, 1) := by decide +kernel
theorem dX12_smooth_32 : decode cX12_smooth 32 = .ok (.aload_n 0, 1) := by decide +kernel
theorem dX12_smooth_33 : decode cX12_smooth 33 = .ok (.getfield 685, 3) := by decide +kernel
theorem dX12_smooth_36 : decode cX12_smooth 36 = .ok (.irem, 1) := by decide +kernel
theorem dX12_smooth_37 : decode cX12_smooth 37 = .ok (.invokevirtual 712, 3) := by decide +kernel
theorem dX12_smooth_40 : decode cX12_smooth 40 = .ok (.aload_n 0, 1) := by decide +kernel
theorem dX12_smooth_41 : decode cX12_smooth 41 = .ok (.getfield 287, 3) := by decide +kernel
theorem dX12_smooth_44 : decode cX12_smooth 44 = .ok (.lload_n 3, 1) := by decide +kernel
theorem dX12_smooth_45 : decode cX12_smooth 45 = .ok (.lcmp, 1) := by decide +kernel
theorem dX12_smooth_46 : decode cX12_smooth 46 = .ok (.ifCond .ne 13, 3) := by decide +kernel
theorem dX12_smooth_49 : decode cX12_smooth 49 = .ok (.aload_n 0, 1) := by decide +kernel
theorem dX12_smooth_50 : decode cX12_smooth 50 = .ok (.getfield 291, 3) := by decide +kernel
theorem dX12_smooth_53 : decode cX12_smooth 53 = .ok (.lload 5, 2) := by decide +kernel
theorem dX12_smooth_55 : decode cX12_smooth 55 = .ok (.lcmp, 1) := by decide +kernel
theorem dX12_smooth_56 : decode cX12_smooth 56 = .ok (.ifCond .eq 5, 3) := by decide +kernel
theorem dX12_smooth_59 : decode cX12_smooth 59 = .ok (.iconst 0, 1) := by decide +kernel
theorem dX12_smooth_60 : decode cX12_smooth 60 = .ok (.ireturn, 1) := by decide +kernel
theorem dX12_smooth_61 : decode cX12_smooth 61 = .ok (.iload_n 1, 1) := by decide +kernel
theorem dX12_smooth_62 : decode cX12_smooth 62 = .ok (.ifCond .ne 22, 3) := by decide +kernel
theorem dX12_smooth_65 : decode cX12_smooth 65 = .ok (.aload_n 0, 1) := by decide +kernel
theorem dX12_smooth_66 : decode cX12_smooth 66 = .ok (.getfield 156, 3) := by decide +kernel
theorem dX12_smooth_69 : decode cX12_smooth 69 = .ok (.iload_n 2, 1) := by decide +kernel
theorem dX12_smooth_70 : decode cX12_smooth 70 = .ok (.iaload, 1) := by decide +kernel
theorem dX12_smooth_71 : decode cX12_smooth 71 = .ok (.ifCond .le 17, 3) := by decide +kernel
theorem dX12_smooth_74 : decode cX12_smooth 74 = .ok (.aload_n 0, 1) := by decide +kernel
theorem dX12_smooth_75 : decode cX12_smooth 75 = .ok (.getfield 168, 3) := by decide +kernel
theorem dX12_smooth_78 : decode cX12_smooth 78 = .ok (.iload_n 2, 1) := by decide +kernel
theorem dX12_smooth_79 : decode cX12_smooth 79 = .ok (.iaload, 1) := by decide +kernel
theorem dX12_smooth_80 : decode cX12_smooth 80 = .ok (.iconst 2, 1) := by decide +kernel
theorem dX12_smooth_81 : decode cX12_smooth 81 = .ok (.if_icmp .ne 7, 3) := by decide +kernel
theorem dX12_smooth_84 : decode cX12_smooth 84 = .ok (.iconst 1, 1) := by decide +kernel
theorem dX12_smooth_85 : decode cX12_smooth 85 = .ok (.goto 4, 3) := by decide +kernel
theorem dX12_smooth_88 : decode cX12_smooth 88 = .ok (.iconst 0, 1) := by decide +kernel
theorem dX12_smooth_89 : decode cX12_smooth 89 = .ok (.istore_n 1, 1) := by decide +kernel
theorem dX12_smooth_90 : decode cX12_smooth 90 = .ok (.iinc 2 1, 3) := by decide +kernel
theorem dX12_smooth_93 : decode cX12_smooth 93 = .ok (.goto (-89), 3) := by decide +kernel
theorem dX12_smooth_96 : decode cX12_smooth 96 = .ok (.iload_n 1, 1) := by decide +kernel
theorem dX12_smooth_97 : decode cX12_smooth 97 = .ok (.ifCond .eq 7, 3) := by decide +kernel
theorem dX12_smooth_100 : decode cX12_smooth 100 = .ok (.iconst 1, 1) := by decide +kernel
theorem dX12_smooth_101 : decode cX12_smooth 101 = .ok (.goto 4, 3) := by decide +kernel
theorem dX12_smooth_104 : decode cX12_smooth 104 = .ok (.iconst 2, 1) := by decide +kernel
theorem dX12_smooth_105 : decode cX12_smooth 105 = .ok (.ireturn, 1) := by decide +kernel
theorem dX12_steepest_0 : decode cX12_steepest 0 = .ok (.lconst 0, 1) := by decide +kernel
theorem dX12_steepest_1 : decode cX12_steepest 1 = .ok (.lstore_n 1, 1) := by decide +kernel
theorem dX12_steepest_2 : decode cX12_steepest 2 = .ok (.lconst 1, 1) := by decide +kernel
theorem dX12_steepest_3 : decode cX12_steepest 3 = .ok (.lstore_n 3, 1) := by decide +kernel
theorem dX12_steepest_4 : decode cX12_steepest 4 = .ok (.iconst 0, 1) := by decide +kernel
theorem dX12_steepest_5 : decode cX12_steepest 5 = .ok (.istore 5, 2) := by decide +kernel
theorem dX12_steepest_7 : decode cX12_steepest 7 = .ok (.iload 5, 2) := by decide +kernel
theorem dX12_steepest_9 : decode cX12_steepest 9 = .ok (.aload_n 0, 1) := by decide +kernel
theorem dX12_steepest_10 : decode cX12_steepest 10 = .ok (.getfield 685, 3) := by decide +kernel
theorem dX12_steepest_13 : decode cX12_steepest 13 = .ok (.if_icmp .ge 161, 3) := by decide +kernel
theorem dX12_steepest_16 : decode cX12_steepest 16 = .ok (.aload_n 0, 1) := by decide +kernel
theorem dX12_steepest_17 : decode cX12_steepest 17 = .ok (.getfield 156, 3) := by decide +kernel
theorem dX12_steepest_20 : decode cX12_steepest 20 = .ok (.iload 5, 2) := by decide +kernel
theorem dX12_steepest_22 : decode cX12_steepest 22 = .ok (.iaload, 1) := by decide +kernel
theorem dX12_steepest_23 : decode cX12_steepest 23 = .ok (.ifCond .ne 6, 3) := by decide +kernel
theorem dX12_steepest_26 : decode cX12_steepest 26 = .ok (.goto 142, 3) := by decide +kernel
theorem dX12_steepest_29 : decode cX12_steepest 29 = .ok (.aload_n 0, 1) := by decide +kernel
theorem dX12_steepest_30 : decode cX12_steepest 30 = .ok (.aload_n 0, 1) := by decide +kernel
theorem dX12_steepest_31 : decode cX12_steepest 31 = .ok (.getfield 162, 3) := by decide +kernel
theorem dX12_steepest_34 : decode cX12_steepest 34 = .ok (.iload 5, 2) := by decide +kernel
theorem dX12_steepest_36 : decode cX12_steepest 36 = .ok (.laload, 1) := by decide +kernel
theorem dX12_steepest_37 : decode cX12_steepest 37 = .ok (.aload_n 0, 1) := by decide +kernel
theorem dX12_steepest_38 : decode cX12_steepest 38 = .ok (.getfield 165, 3) := by decide +kernel
theorem dX12_steepest_41 : decode cX12_steepest 41 = .ok (.iload 5, 2) := by decide +kernel
theorem dX12_steepest_43 : decode cX12_steepest 43 = .ok (.laload, 1) := by decide +kernel
theorem dX12_steepest_44 : decode cX12_steepest 44 = .ok (.aload_n 0, 1) := by decide +kernel
theorem dX12_steepest_45 : decode cX12_steepest 45 = .ok (.getfield 159, 3) := by decide +kernel
theorem dX12_steepest_48 : decode cX12_steepest 48 = .ok (.iload 5, 2) := by decide +kernel
theorem dX12_steepest_50 : decode cX12_steepest 50 = .ok (.iaload, 1) := by decide +kernel
theorem dX12_steepest_51 : decode cX12_steepest 51 = .ok (.i2l, 1) := by decide +kernel
theorem dX12_steepest_52 : decode cX12_steepest 52 = .ok (.lconst 1, 1) := by decide +kernel
theorem dX12_steepest_53 : decode cX12_steepest 53 = .ok (.invokevirtual 632, 3) := by decide +kernel
theorem dX12_steepest_56 : decode cX12_steepest 56 = .ok (.aload_n 0, 1) := by decide +kernel
theorem dX12_steepest_57 : decode cX12_steepest 57 = .ok (.getfield 168, 3) := by decide +kernel
theorem dX12_steepest_60 : decode cX12_steepest 60 = .ok (.iload 5, 2) := by decide +kernel
theorem dX12_steepest_62 : decode cX12_steepest 62 = .ok (.iaload, 1) := by decide +kernel
theorem dX12_steepest_63 : decode cX12_steepest 63 = .ok (.istore 6, 2) := by decide +kernel
theorem dX12_steepest_65 : decode cX12_steepest 65 = .ok (.aload_n 0, 1) := by decide +kernel
theorem dX12_steepest_66 : decode cX12_steepest 66 = .ok (.aload_n 0, 1) := by decide +kernel
theorem dX12_steepest_67 : decode cX12_steepest 67 = .ok (.getfield 287, 3) := by decide +kernel
theorem dX12_steepest_70 : decode cX12_steepest 70 = .ok (.aload_n 0, 1) := by decide +kernel
theorem dX12_steepest_71 : decode cX12_steepest 71 = .ok (.getfield 291, 3) := by decide +kernel
theorem dX12_steepest_74 : decode cX12_steepest 74 = .ok (.iload 6, 2) := by decide +kernel
theorem dX12_steepest_76 : decode cX12_steepest 76 = .ok (.iconst 1, 1) := by decide +kernel
theorem dX12_steepest_77 : decode cX12_steepest 77 = .ok (.if_icmp .ne 7, 3) := by decide +kernel
theorem dX12_steepest_80 : decode cX12_steepest 80 = .ok (.lconst 1, 1) := by decide +kernel
theorem dX12_steepest_81 : decode cX12_steepest 81 = .ok (.goto 30, 3) := by decide +kernel
theorem dX12_steepest_84 : decode cX12_steepest 84 = .ok (.iload 6, 2) := by decide +kernel
theorem dX12_steepest_86 : decode cX12_steepest 86 = .ok (.iconst 2, 1) := by decide +kernel
theorem dX12_steepest_87 : decode cX12_steepest 87 = .ok (.if_icmp .ne 9, 3) := by decide +kernel
theorem dX12_steepest_90 : decode cX12_steepest 90 = .ok (.ldc2_w 325, 3) := by decide +kernel
theorem dX12_steepest_93 : decode cX12_steepest 93 = .ok (.goto 18, 3) := by decide +kernel
theorem dX12_steepest_96 : decode cX12_steepest 96 = .ok (.iload 6, 2) := by decide +kernel
theorem dX12_steepest_98 : decode cX12_steepest 98 = .ok (.iconst 3, 1) := by decide +kernel
theorem dX12_steepest_99 : decode cX12_steepest 99 = .ok (.if_icmp .ne 9, 3) := by decide +kernel
theorem dX12_steepest_102 : decode cX12_steepest 102 = .ok (.ldc2_w 715, 3) := by decide +kernel
theorem dX12_steepest_105 : decode cX12_steepest 105 = .ok (.goto 6, 3) := by decide +kernel
theorem dX12_steepest_108 : decode cX12_steepest 108 = .ok (.ldc2_w 707, 3) := by decide +kernel
theorem dX12_steepest_111 : decode cX12_steepest 111 = .ok (.iload 6, 2) := by decide +kernel
theorem dX12_steepest_113 : decode cX12_steepest 113 = .ok (.iconst 3, 1) := by decide +kernel
theorem dX12_steepest_114 : decode cX12_steepest 114 = .ok (.if_icmp .ge 7, 3) := by decide +kernel
theorem dX12_steepest_117 : decode cX12_steepest 117 = .ok (.lconst 1, 1) := by decide +kernel
theorem dX12_steepest_118 : decode cX12_steepest 118 = .ok (.goto 18, 3) := by decide +kernel
theorem dX12_steepest_121 : decode cX12_steepest 121 = .ok (.iload 6, 2) := by decide +kernel
theorem dX12_steepest_123 : decode cX12_steepest 123 = .ok (.iconst 3, 1) := by decide +kernel
theorem dX12_steepest_124 : decode cX12_steepest 124 = .ok (.if_icmp .ne 9, 3) := by decide +kernel
theorem dX12_steepest_127 : decode cX12_steepest 127 = .ok (.ldc2_w 657, 3) := by decide +kernel
theorem dX12_steepest_130 : decode cX12_steepest 130 = .ok (.goto 6, 3) := by decide +kernel
theorem dX12_steepest_133 : decode cX12_steepest 133 = .ok (.ldc2_w 717, 3) := by decide +kernel
theorem dX12_steepest_136 : decode cX12_steepest 136 = .ok (.invokevirtual 304, 3) := by decide +kernel
theorem dX12_steepest_139 : decode cX12_steepest 139 = .ok (.lload_n 1, 1) := by decide +kernel
theorem dX12_steepest_140 : decode cX12_steepest 140 = .ok (.lload_n 3, 1) := by decide +kernel
theorem dX12_steepest_141 : decode cX12_steepest 141 = .ok (.aload_n 0, 1) := by decide +kernel
theorem dX12_steepest_142 : decode cX12_steepest 142 = .ok (.getfield 287, 3) := by decide +kernel
theorem dX12_steepest_145 : decode cX12_steepest 145 = .ok (.aload_n 0, 1) := by decide +kernel
theorem dX12_steepest_146 : decode cX12_steepest 146 = .ok (.getfield 291, 3) := by decide +kernel
theorem dX12_steepest_149 : decode cX12_steepest 149 = .ok (.invokestatic 719, 3) := by decide +kernel
theorem dX12_steepest_152 : decode cX12_steepest 152 = .ok (.ifCond .ne 6, 3) := by decide +kernel
theorem dX12_steepest_155 : decode cX12_steepest 155 = .ok (.goto 13, 3) := by decide +kernel
theorem dX12_steepest_158 : decode cX12_steepest 158 = .ok (.aload_n 0, 1) := by decide +kernel
theorem dX12_steepest_159 : decode cX12_steepest 159 = .ok (.getfield 287, 3) := by decide +kernel
theorem dX12_steepest_162 : decode cX12_steepest 162 = .ok (.lstore_n 1, 1) := by decide +kernel
theorem dX12_steepest_163 : decode cX12_steepest 163 = .ok (.aload_n 0, 1) := by decide +kernel
theorem dX12_steepest_164 : decode cX12_steepest 164 = .ok (.getfield 291, 3) := by decide +kernel
theorem dX12_steepest_167 : decode cX12_steepest 167 = .ok (.lstore_n 3, 1) := by decide +kernel
theorem dX12_steepest_168 : decode cX12_steepest 168 = .ok (.iinc 5 1, 3) := by decide +kernel
theorem dX12_steepest_171 : decode cX12_steepest 171 = .ok (.goto (-164), 3) := by decide +kernel
theorem dX12_steepest_174 : decode cX12_steepest 174 = .ok (.aload_n 0, 1) := by decide +kernel
theorem dX12_steepest_175 : decode cX12_steepest 175 = .ok (.lload_n 1, 1) := by decide +kernel
theorem dX12_steepest_176 : decode cX12_steepest 176 = .ok (.putfield 287, 3) := by decide +kernel
theorem dX12_steepest_179 : decode cX12_steepest 179 = .ok (.aload_n 0, 1) := by decide +kernel
theorem dX12_steepest_180 : decode cX12_steepest 180 = .ok (.lload_n 3, 1) := by decide +kernel
theorem dX12_steepest_181 : decode cX12_steepest 181 = .ok (.putfield 291, 3) := by decide +kernel
theorem dX12_steepest_184 : decode cX12_steepest 184 = .ok (.return_, 1) := by decide +kernel
theorem dX12_isLess_0 : decode cX12_isLess 0 = .ok (.lload_n 0, 1) := by decide +kernel
theorem dX12_isLess_1 : decode cX12_isLess 1 = .ok (.lstore 8, 2) := by decide +kernel
theorem dX12_isLess_3 : decode cX12_isLess 3 = .ok (.lload_n 2, 1) := by decide +kernel
theorem dX12_isLess_4 : decode cX12_isLess 4 = .ok (.lstore 10, 2) := by decide +kernel
theorem dX12_isLess_6 : decode cX12_isLess 6 = .ok (.lload 4, 2) := by decide +kernel
theorem dX12_isLess_8 : decode cX12_isLess 8 = .ok (.lstore 12, 2) := by decide +kernel
theorem dX12_isLess_10 : decode cX12_isLess 10 = .ok (.lload 6, 2) := by decide +kernel
theorem dX12_isLess_12 : decode cX12_isLess 12 = .ok (.lstore 14, 2) := by decide +kernel
theorem dX12_isLess_14 : decode cX12_isLess 14 = .ok (.iconst 0, 1) := by decide +kernel
theorem dX12_isLess_15 : decode cX12_isLess 15 = .ok (.istore 16, 2) := by decide +kernel
theorem dX12_isLess_17 : decode cX12_isLess 17 = .ok (.lload 8, 2) := by decide +kernel
theorem dX12_isLess_19 : decode cX12_isLess 19 = .ok (.lload 10, 2) := by decide +kernel
theorem dX12_isLess_21 : decode cX12_isLess 21 = .ok (.ldiv, 1) := by decide +kernel
theorem dX12_isLess_22 : decode cX12_isLess 22 = .ok (.lstore 17, 2) := by decide +kernel
theorem dX12_isLess_24 : decode cX12_isLess 24 = .ok (.lload 12, 2) := by decide +kernel
theorem dX12_isLess_26 : decode cX12_isLess 26 = .ok (.lload 14, 2) := by decide +kernel
theorem dX12_isLess_28 : decode cX12_isLess 28 = .ok (.ldiv, 1) := by decide +kernel
theorem dX12_isLess_29 : decode cX12_isLess 29 = .ok (.lstore 19, 2) := by decide +kernel
theorem dX12_isLess_31 : decode cX12_isLess 31 = .ok (.lload 17, 2) := by decide +kernel
theorem dX12_isLess_33 : decode cX12_isLess 33 = .ok (.lload 19, 2) := by decide +kernel
theorem dX12_isLess_35 : decode cX12_isLess 35 = .ok (.lcmp, 1) := by decide +kernel
theorem dX12_isLess_36 : decode cX12_isLess 36 = .ok (.ifCond .eq 27, 3) := by decide +kernel
theorem dX12_isLess_39 : decode cX12_isLess 39 = .ok (.lload 17, 2) := by decide +kernel
theorem dX12_isLess_41 : decode cX12_isLess 41 = .ok (.lload 19, 2) := by decide +kernel
theorem dX12_isLess_43 : decode cX12_isLess 43 = .ok (.lcmp, 1) := by decide +kernel
theorem dX12_isLess_44 : decode cX12_isLess 44 = .ok (.ifCond .ge 7, 3) := by decide +kernel
theorem dX12_isLess_47 : decode cX12_isLess 47 = .ok (.iconst 1, 1) := by decide +kernel
theorem dX12_isLess_48 : decode cX12_isLess 48 = .ok (.goto 4, 3) := by decide +kernel
theorem dX12_isLess_51 : decode cX12_isLess 51 = .ok (.iconst 0, 1) := by decide +kernel
theorem dX12_isLess_52 : decode cX12_isLess 52 = .ok (.iload 16, 2) := by decide +kernel
theorem dX12_isLess_54 : decode cX12_isLess 54 = .ok (.if_icmp .eq 7, 3) := by decide +kernel
theorem dX12_isLess_57 : decode cX12_isLess 57 = .ok (.iconst 1, 1) := by decide +kernel
theorem dX12_isLess_58 : decode cX12_isLess 58 = .ok (.goto 4, 3) := by decide +kernel
theorem dX12_isLess_61 : decode cX12_isLess 61 = .ok (.iconst 0, 1) := by decide +kernel
theorem dX12_isLess_62 : decode cX12_isLess 62 = .ok (.ireturn, 1) := by decide +kernel
theorem dX12_isLess_63 : decode cX12_isLess 63 = .ok (.lload 8, 2) := by decide +kernel
theorem dX12_isLess_65 : decode cX12_isLess 65 = .ok (.lload 10, 2) := by decide +kernel
theorem dX12_isLess_67 : decode cX12_isLess 67 = .ok (.lrem, 1) := by decide +kernel
theorem dX12_isLess_68 : decode cX12_isLess 68 = .ok (.lstore 8, 2) := by decide +kernel
theorem dX12_isLess_70 : decode cX12_isLess 70 = .ok (.lload 12, 2) := by decide +kernel
theorem dX12_isLess_72 : decode cX12_isLess 72 = .ok (.lload 14, 2) := by decide +kernel
theorem dX12_isLess_74 : decode cX12_isLess 74 = .ok (.lrem, 1) := by decide +kernel
theorem dX12_isLess_75 : decode cX12_isLess 75 = .ok (.lstore 12, 2) := by decide +kernel
theorem dX12_isLess_77 : decode cX12_isLess 77 = .ok (.lload 12, 2) := by decide +kernel
theorem dX12_isLess_79 : decode cX12_isLess 79 = .ok (.lconst 0, 1) := by decide +kernel
theorem dX12_isLess_80 : decode cX12_isLess 80 = .ok (.lcmp, 1) := by decide +kernel
theorem dX12_isLess_81 : decode cX12_isLess 81 = .ok (.ifCond .ne 21, 3) := by decide +kernel
theorem dX12_isLess_84 : decode cX12_isLess 84 = .ok (.lload 8, 2) := by decide +kernel
theorem dX12_isLess_86 : decode cX12_isLess 86 = .ok (.lconst 0, 1) := by decide +kernel
theorem dX12_isLess_87 : decode cX12_isLess 87 = .ok (.lcmp, 1) := by decide +kernel
theorem dX12_isLess_88 : decode cX12_isLess 88 = .ok (.ifCond .eq 12, 3) := by decide +kernel
theorem dX12_isLess_91 : decode cX12_isLess 91 = .ok (.iload 16, 2) := by decide +kernel
theorem dX12_isLess_93 : decode cX12_isLess 93 = .ok (.ifCond .eq 7, 3) := by decide +kernel
theorem dX12_isLess_96 : decode cX12_isLess 96 = .ok (.iconst 1, 1) := by decide +kernel
theorem dX12_isLess_97 : decode cX12_isLess 97 = .ok (.goto 4, 3) := by decide +kernel
theorem dX12_isLess_100 : decode cX12_isLess 100 = .ok (.iconst 0, 1) := by decide +kernel
theorem dX12_isLess_101 : decode cX12_isLess 101 = .ok (.ireturn, 1) := by decide +kernel
theorem dX12_isLess_102 : decode cX12_isLess 102 = .ok (.lload 8, 2) := by decide +kernel
theorem dX12_isLess_104 : decode cX12_isLess 104 = .ok (.lconst 0, 1) := by decide +kernel
theorem dX12_isLess_105 : decode cX12_isLess 105 = .ok (.lcmp, 1) := by decide +kernel
theorem dX12_isLess_106 : decode cX12_isLess 106 = .ok (.ifCond .ne 14, 3) := by decide +kernel
theorem dX12_isLess_109 : decode cX12_isLess 109 = .ok (.iload 16, 2) := by decide +kernel
theorem dX12_isLess_111 : decode cX12_isLess 111 = .ok (.ifCond .ne 7, 3) := by decide +kernel
theorem dX12_isLess_114 : decode cX12_isLess 114 = .ok (.iconst 1, 1) := by decide +kernel
theorem dX12_isLess_115 : decode cX12_isLess 115 = .ok (.goto 4, 3) := by decide +kernel
theorem dX12_isLess_118 : decode cX12_isLess 118 = .ok (.iconst 0, 1) := by decide +kernel
theorem dX12_isLess_119 : decode cX12_isLess 119 = .ok (.ireturn, 1) := by decide +kernel
theorem dX12_isLess_120 : decode cX12_isLess 120 = .ok (.lload 8, 2) := by decide +kernel
theorem dX12_isLess_122 : decode cX12_isLess 122 = .ok (.lstore 21, 2) := by decide +kernel
theorem dX12_isLess_124 : decode cX12_isLess 124 = .ok (.lload 10, 2) := by decide +kernel
theorem dX12_isLess_126 : decode cX12_isLess 126 = .ok (.lstore 8, 2) := by decide +kernel
theorem dX12_isLess_128 : decode cX12_isLess 128 = .ok (.lload 21, 2) := by decide +kernel
theorem dX12_isLess_130 : decode cX12_isLess 130 = .ok (.lstore 10, 2) := by decide +kernel
theorem dX12_isLess_132 : decode cX12_isLess 132 = .ok (.lload 12, 2) := by decide +kernel
theorem dX12_isLess_134 : decode cX12_isLess 134 = .ok (.lstore 21, 2) := by decide +kernel
theorem dX12_isLess_136 : decode cX12_isLess 136 = .ok (.lload 14, 2) := by decide +kernel
theorem dX12_isLess_138 : decode cX12_isLess 138 = .ok (.lstore 12, 2) := by decide +kernel
theorem dX12_isLess_140 : decode cX12_isLess 140 = .ok (.lload 21, 2) := by decide +kernel
theorem dX12_isLess_142 : decode cX12_isLess 142 = .ok (.lstore 14, 2) := by decide +kernel
theorem dX12_isLess_144 : decode cX12_isLess 144 = .ok (.iload 16, 2) := by decide +kernel
theorem dX12_isLess_146 : decode cX12_isLess 146 = .ok (.ifCond .ne 7, 3) := by decide +kernel
theorem dX12_isLess_149 : decode cX12_isLess 149 = .ok (.iconst 1, 1) := by decide +kernel
theorem dX12_isLess_150 : decode cX12_isLess 150 = .ok (.goto 4, 3) := by decide +kernel
theorem dX12_isLess_153 : decode cX12_isLess 153 = .ok (.iconst 0, 1) := by decide +kernel
theorem dX12_isLess_154 : decode cX12_isLess 154 = .ok (.istore 16, 2) := by decide +kernel
theorem dX12_isLess_156 : decode cX12_isLess 156 = .ok (.goto (-139), 3) := by decide +kernel
theorem dX12_camAbout_0 : decode cX12_camAbout 0 = .ok (.aload_n 0, 1) := by decide +kernel
theorem dX12_camAbout_1 : decode cX12_camAbout 1 = .ok (.iload_n 1, 1) := by decide +kernel
theorem dX12_camAbout_2 : decode cX12_camAbout 2 = .ok (.i2l, 1) := by decide +kernel
theorem dX12_camAbout_3 : decode cX12_camAbout 3 = .ok (.lconst 0, 1) := by decide +kernel
theorem dX12_camAbout_4 : decode cX12_camAbout 4 = .ok (.ldc2_w 466, 3) := by decide +kernel
theorem dX12_camAbout_7 : decode cX12_camAbout 7 = .ok (.invokestatic 262, 3) := by decide +kernel
theorem dX12_camAbout_10 : decode cX12_camAbout 10 = .ok (.ifCond .ne 7, 3) := by decide +kernel
theorem dX12_camAbout_13 : decode cX12_camAbout 13 = .ok (.iconst 1, 1) := by decide +kernel
theorem dX12_camAbout_14 : decode cX12_camAbout 14 = .ok (.goto 15, 3) := by decide +kernel
theorem dX12_camAbout_17 : decode cX12_camAbout 17 = .ok (.aload_n 0, 1) := by decide +kernel
theorem dX12_camAbout_18 : decode cX12_camAbout 18 = .ok (.getfield 685, 3) := by decide +kernel
theorem dX12_camAbout_21 : decode cX12_camAbout 21 = .ok (.ifCond .ne 7, 3) := by decide +kernel
theorem dX12_camAbout_24 : decode cX12_camAbout 24 = .ok (.iconst 2, 1) := by decide +kernel
theorem dX12_camAbout_25 : decode cX12_camAbout 25 = .ok (.goto 4, 3) := by decide +kernel
theorem dX12_camAbout_28 : decode cX12_camAbout 28 = .ok (.iconst 0, 1) := by decide +kernel
theorem dX12_camAbout_29 : decode cX12_camAbout 29 = .ok (.putfield 243, 3) := by decide +kernel
theorem dX12_camAbout_32 : decode cX12_camAbout 32 = .ok (.aload_n 0, 1) := by decide +kernel
theorem dX12_camAbout_33 : decode cX12_camAbout 33 = .ok (.getfield 243, 3) := by decide +kernel
theorem dX12_camAbout_36 : decode cX12_camAbout 36 = .ok (.ifCond .le 5, 3) := by decide +kernel
theorem dX12_camAbout_39 : decode cX12_camAbout 39 = .ok (.lconst 0, 1) := by decide +kernel
theorem dX12_camAbout_40 : decode cX12_camAbout 40 = .ok (.lreturn, 1) := by decide +kernel
theorem dX12_camAbout_41 : decode cX12_camAbout 41 = .ok (.aload_n 0, 1) := by decide +kernel
theorem dX12_camAbout_42 : decode cX12_camAbout 42 = .ok (.iconst 0, 1) := by decide +kernel
theorem dX12_camAbout_43 : decode cX12_camAbout 43 = .ok (.putfield 283, 3) := by decide +kernel
theorem dX12_camAbout_46 : decode cX12_camAbout 46 = .ok (.iload_n 1, 1) := by decide +kernel
theorem dX12_camAbout_47 : decode cX12_camAbout 47 = .ok (.ifCond .ne 9, 3) := by decide +kernel
theorem dX12_camAbout_50 : decode cX12_camAbout 50 = .ok (.aload_n 0, 1) := by decide +kernel
theorem dX12_camAbout_51 : decode cX12_camAbout 51 = .ok (.invokevirtual 723, 3) := by decide +kernel
theorem dX12_camAbout_54 : decode cX12_camAbout 54 = .ok (.i2l, 1) := by decide +kernel
theorem dX12_camAbout_55 : decode cX12_camAbout 55 = .ok (.lreturn, 1) := by decide +kernel
theorem dX12_camAbout_56 : decode cX12_camAbout 56 = .ok (.iload_n 1, 1) := by decide +kernel
theorem dX12_camAbout_57 : decode cX12_camAbout 57 = .ok (.iconst 3, 1) := by decide +kernel
theorem dX12_camAbout_58 : decode cX12_camAbout 58 = .ok (.if_icmp .ne 9, 3) := by decide +kernel
theorem dX12_camAbout_61 : decode cX12_camAbout 61 = .ok (.aload_n 0, 1) := by decide +kernel
theorem dX12_camAbout_62 : decode cX12_camAbout 62 = .ok (.getfield 685, 3) := by decide +kernel
theorem dX12_camAbout_65 : decode cX12_camAbout 65 = .ok (.i2l, 1) := by decide +kernel
theorem dX12_camAbout_66 : decode cX12_camAbout 66 = .ok (.lreturn, 1) := by decide +kernel
theorem dX12_camAbout_67 : decode cX12_camAbout 67 = .ok (.aload_n 0, 1) := by decide +kernel
theorem dX12_camAbout_68 : decode cX12_camAbout 68 = .ok (.invokevirtual 726, 3) := by decide +kernel
theorem dX12_camAbout_71 : decode cX12_camAbout 71 = .ok (.iload_n 1, 1) := by decide +kernel
theorem dX12_camAbout_72 : decode cX12_camAbout 72 = .ok (.iconst 1, 1) := by decide +kernel
theorem dX12_camAbout_73 : decode cX12_camAbout 73 = .ok (.if_icmp .ne 10, 3) := by decide +kernel
theorem dX12_camAbout_76 : decode cX12_camAbout 76 = .ok (.aload_n 0, 1) := by decide +kernel
theorem dX12_camAbout_77 : decode cX12_camAbout 77 = .ok (.getfield 287, 3) := by decide +kernel
theorem dX12_camAbout_80 : decode cX12_camAbout 80 = .ok (.goto 7, 3) := by decide +kernel
theorem dX12_camAbout_83 : decode cX12_camAbout 83 = .ok (.aload_n 0, 1) := by decide +kernel
theorem dX12_camAbout_84 : decode cX12_camAbout 84 = .ok (.getfield 291, 3) := by decide +kernel
theorem dX12_camAbout_87 : decode cX12_camAbout 87 = .ok (.lreturn, 1) := by decide +kernel
theorem dX12_corner_0 : decode cX12_corner 0 = .ok (.iload_n 1, 1) := by decide +kernel
theorem dX12_corner_1 : decode cX12_corner 1 = .ok (.i2l, 1) := by decide +kernel
theorem dX12_corner_2 : decode cX12_corner 2 = .ok (.lconst 0, 1) := by decide +kernel
theorem dX12_corner_3 : decode cX12_corner 3 = .ok (.ldc2_w 729, 3) := by decide +kernel
theorem dX12_corner_6 : decode cX12_corner 6 = .ok (.invokestatic 262, 3) := by decide +kernel
theorem dX12_corner_9 : decode cX12_corner 9 = .ok (.ifCond .eq 35, 3) := by decide +kernel
theorem dX12_corner_12 : decode cX12_corner 12 = .ok (.iload_n 2, 1) := by decide +kernel
theorem dX12_corner_13 : decode cX12_corner 13 = .ok (.i2l, 1) := by decide +kernel
theorem dX12_corner_14 : decode cX12_corner 14 = .ok (.ldc2_w 601, 3) := by decide +kernel
theorem dX12_corner_17 : decode cX12_corner 17 = .ok (.ldc2_w 603, 3) := by decide +kernel
theorem dX12_corner_20 : decode cX12_corner 20 = .ok (.invokestatic 262, 3) := by decide +kernel
theorem dX12_corner_23 : decode cX12_corner 23 = .ok (.ifCond .eq 21, 3) := by decide +kernel
theorem dX12_corner_26 : decode cX12_corner 26 = .ok (.iload_n 3, 1) := by decide +kernel
theorem dX12_corner_27 : decode cX12_corner 27 = .ok (.i2l, 1) := by decide +kernel
theorem dX12_corner_28 : decode cX12_corner 28 = .ok (.ldc2_w 601, 3) := by decide +kernel
theorem dX12_corner_31 : decode cX12_corner 31 = .ok (.ldc2_w 603, 3) := by decide +kernel
theorem dX12_corner_34 : decode cX12_corner 34 = .ok (.invokestatic 262, 3) := by decide +kernel
theorem dX12_corner_37 : decode cX12_corner 37 = .ok (.ifCond .eq 7, 3) := by decide +kernel
theorem dX12_corner_40 : decode cX12_corner 40 = .ok (.iconst 1, 1) := by decide +kernel
theorem dX12_corner_41 : decode cX12_corner 41 = .ok (.goto 4, 3) := by decide +kernel
theorem dX12_corner_44 : decode cX12_corner 44 = .ok (.iconst 0, 1) := by decide +kernel
theorem dX12_corner_45 : decode cX12_corner 45 = .ok (.istore 4, 2) := by decide +kernel
theorem dX12_corner_47 : decode cX12_corner 47 = .ok (.aload_n 0, 1) := by decide +kernel
theorem dX12_corner_48 : decode cX12_corner 48 = .ok (.iload 4, 2) := by decide +kernel
theorem dX12_corner_50 : decode cX12_corner 50 = .ok (.ifCond .ne 7, 3) := by decide +kernel
theorem dX12_corner_53 : decode cX12_corner 53 = .ok (.iconst 1, 1) := by decide +kernel
theorem dX12_corner_54 : decode cX12_corner 54 = .ok (.goto 19, 3) := by decide +kernel
theorem dX12_corner_57 : decode cX12_corner 57 = .ok (.aload_n 0, 1) := by decide +kernel
theorem dX12_corner_58 : decode cX12_corner 58 = .ok (.getfield 186, 3) := by decide +kernel
theorem dX12_corner_61 : decode cX12_corner 61 = .ok (.iload_n 1, 1) := by decide +kernel
theorem dX12_corner_62 : decode cX12_corner 62 = .ok (.iaload, 1) := by decide +kernel
theorem dX12_corner_63 : decode cX12_corner 63 = .ok (.bipush 24, 2) := by decide +kernel
theorem dX12_corner_65 : decode cX12_corner 65 = .ok (.if_icmp .ne 7, 3) := by decide +kernel
theorem dX12_corner_68 : decode cX12_corner 68 = .ok (.iconst 2, 1) := by decide +kernel
theorem dX12_corner_69 : decode cX12_corner 69 = .ok (.goto 4, 3) := by decide +kernel
theorem dX12_corner_72 : decode cX12_corner 72 = .ok (.iconst 0, 1) := by decide +kernel
theorem dX12_corner_73 : decode cX12_corner 73 = .ok (.putfield 243, 3) := by decide +kernel
theorem dX12_corner_76 : decode cX12_corner 76 = .ok (.aload_n 0, 1) := by decide +kernel
theorem dX12_corner_77 : decode cX12_corner 77 = .ok (.getfield 243, 3) := by decide +kernel
theorem dX12_corner_80 : decode cX12_corner 80 = .ok (.ifCond .le 5, 3) := by decide +kernel
theorem dX12_corner_83 : decode cX12_corner 83 = .ok (.iconst 0, 1) := by decide +kernel
theorem dX12_corner_84 : decode cX12_corner 84 = .ok (.ireturn, 1) := by decide +kernel
theorem dX12_corner_85 : decode cX12_corner 85 = .ok (.aload_n 0, 1) := by decide +kernel
theorem dX12_corner_86 : decode cX12_corner 86 = .ok (.getfield 189, 3) := by decide +kernel
theorem dX12_corner_89 : decode cX12_corner 89 = .ok (.bipush 24, 2) := by decide +kernel
theorem dX12_corner_91 : decode cX12_corner 91 = .ok (.iload_n 1, 1) := by decide +kernel
theorem dX12_corner_92 : decode cX12_corner 92 = .ok (.imul, 1) := by decide +kernel
theorem dX12_corner_93 : decode cX12_corner 93 = .ok (.aload_n 0, 1) := by decide +kernel
theorem dX12_corner_94 : decode cX12_corner 94 = .ok (.getfield 186, 3) := by decide +kernel
theorem dX12_corner_97 : decode cX12_corner 97 = .ok (.iload_n 1, 1) := by decide +kernel
theorem dX12_corner_98 : decode cX12_corner 98 = .ok (.iaload, 1) := by decide +kernel
theorem dX12_corner_99 : decode cX12_corner 99 = .ok (.iadd, 1) := by decide +kernel
theorem dX12_corner_100 : decode cX12_corner 100 = .ok (.iload_n 2, 1) := by decide +kernel
theorem dX12_corner_101 : decode cX12_corner 101 = .ok (.i2l, 1) := by decide +kernel
theorem dX12_corner_102 : decode cX12_corner 102 = .ok (.lastore, 1) := by decide +kernel
theorem dX12_corner_103 : decode cX12_corner 103 = .ok (.aload_n 0, 1) := by decide +kernel
theorem dX12_corner_104 : decode cX12_corner 104 = .ok (.getfield 192, 3) := by decide +kernel
theorem dX12_corner_107 : decode cX12_corner 107 = .ok (.bipush 24, 2) := by decide +kernel
theorem dX12_corner_109 : decode cX12_corner 109 = .ok (.iload_n 1, 1) := by decide +kernel
theorem dX12_corner_110 : decode cX12_corner 110 = .ok (.imul, 1) := by decide +kernel
theorem dX12_corner_111 : decode cX12_corner 111 = .ok (.aload_n 0, 1) := by decide +kernel
theorem dX12_corner_112 : decode cX12_corner 112 = .ok (.getfield 186, 3) := by decide +kernel
theorem dX12_corner_115 : decode cX12_corner 115 = .ok (.iload_n 1, 1) := by decide +kernel
theorem dX12_corner_116 : decode cX12_corner 116 = .ok (.iaload, 1) := by decide +kernel
theorem dX12_corner_117 : decode cX12_corner 117 = .ok (.iadd, 1) := by decide +kernel
theorem dX12_corner_118 : decode cX12_corner 118 = .ok (.iload_n 3, 1) := by decide +kernel
theorem dX12_corner_119 : decode cX12_corner 119 = .ok (.i2l, 1) := by decide +kernel
theorem dX12_corner_120 : decode cX12_corner 120 = .ok (.lastore, 1) := by decide +kernel
theorem dX12_corner_121 : decode cX12_corner 121 = .ok (.aload_n 0, 1) := by decide +kernel
theorem dX12_corner_122 : decode cX12_corner 122 = .ok (.getfield 186, 3) := by decide +kernel
theorem dX12_corner_125 : decode cX12_corner 125 = .ok (.iload_n 1, 1) := by decide +kernel
theorem dX12_corner_126 : decode cX12_corner 126 = .ok (.dup2, 1) := by decide +kernel
theorem dX12_corner_127 : decode cX12_corner 127 = .ok (.iaload, 1) := by decide +kernel
theorem dX12_corner_128 : decode cX12_corner 128 = .ok (.iconst 1, 1) := by decide +kernel
theorem dX12_corner_129 : decode cX12_corner 129 = .ok (.iadd, 1) := by decide +kernel
theorem dX12_corner_130 : decode cX12_corner 130 = .ok (.iastore, 1) := by decide +kernel
theorem dX12_corner_131 : decode cX12_corner 131 = .ok (.aload_n 0, 1) := by decide +kernel
theorem dX12_corner_132 : decode cX12_corner 132 = .ok (.getfield 186, 3) := by decide +kernel
theorem dX12_corner_135 : decode cX12_corner 135 = .ok (.iload_n 1, 1) := by decide +kernel
theorem dX12_corner_136 : decode cX12_corner 136 = .ok (.iaload, 1) := by decide +kernel
theorem dX12_corner_137 : decode cX12_corner 137 = .ok (.ireturn, 1) := by decide +kernel
theorem dX12_empty_0 : decode cX12_empty 0 = .ok (.aload_n 0, 1) := by decide +kernel
theorem dX12_empty_1 : decode cX12_empty 1 = .ok (.iload_n 1, 1) := by decide +kernel
theorem dX12_empty_2 : decode cX12_empty 2 = .ok (.i2l, 1) := by decide +kernel
theorem dX12_empty_3 : decode cX12_empty 3 = .ok (.lconst 0, 1) := by decide +kernel
theorem dX12_empty_4 : decode cX12_empty 4 = .ok (.ldc2_w 729, 3) := by decide +kernel
theorem dX12_empty_7 : decode cX12_empty 7 = .ok (.invokestatic 262, 3) := by decide +kernel
theorem dX12_empty_10 : decode cX12_empty 10 = .ok (.ifCond .eq 7, 3) := by decide +kernel
theorem dX12_empty_13 : decode cX12_empty 13 = .ok (.iconst 0, 1) := by decide +kernel
theorem dX12_empty_14 : decode cX12_empty 14 = .ok (.goto 4, 3) := by decide +kernel
theorem dX12_empty_17 : decode cX12_empty 17 = .ok (.iconst 1, 1) := by decide +kernel
theorem dX12_empty_18 : decode cX12_empty 18 = .ok (.putfield 243, 3) := by decide +kernel
theorem dX12_empty_21 : decode cX12_empty 21 = .ok (.aload_n 0, 1) := by decide +kernel
theorem dX12_empty_22 : decode cX12_empty 22 = .ok (.getfield 243, 3) := by decide +kernel
theorem dX12_empty_25 : decode cX12_empty 25 = .ok (.ifCond .ne 10, 3) := by decide +kernel
theorem dX12_empty_28 : decode cX12_empty 28 = .ok (.aload_n 0, 1) := by decide +kernel
theorem dX12_empty_29 : decode cX12_empty 29 = .ok (.getfield 186, 3) := by decide +kernel
theorem dX12_empty_32 : decode cX12_empty 32 = .ok (.iload_n 1, 1) := by decide +kernel
theorem dX12_empty_33 : decode cX12_empty 33 = .ok (.iconst 0, 1) := by decide +kernel
theorem dX12_empty_34 : decode cX12_empty 34 = .ok (.iastore, 1) := by decide +kernel
theorem dX12_empty_35 : decode cX12_empty 35 = .ok (.return_, 1) := by decide +kernel
theorem dX12_after_0 : decode cX12_after 0 = .ok (.bipush 24, 2) := by decide +kernel
theorem dX12_after_2 : decode cX12_after 2 = .ok (.iload_n 1, 1) := by decide +kernel
theorem dX12_after_3 : decode cX12_after 3 = .ok (.imul, 1) := by decide +kernel
theorem dX12_after_4 : decode cX12_after 4 = .ok (.iload_n 2, 1) := by decide +kernel
theorem dX12_after_5 : decode cX12_after 5 = .ok (.iconst 1, 1) := by decide +kernel
theorem dX12_after_6 : decode cX12_after 6 = .ok (.iadd, 1) := by decide +kernel
theorem dX12_after_7 : decode cX12_after 7 = .ok (.aload_n 0, 1) := by decide +kernel
theorem dX12_after_8 : decode cX12_after 8 = .ok (.getfield 186, 3) := by decide +kernel
theorem dX12_after_11 : decode cX12_after 11 = .ok (.iload_n 1, 1) := by decide +kernel
theorem dX12_after_12 : decode cX12_after 12 = .ok (.iaload, 1) := by decide +kernel
theorem dX12_after_13 : decode cX12_after 13 = .ok (.if_icmp .ne 7, 3) := by decide +kernel
theorem dX12_after_16 : decode cX12_after 16 = .ok (.iconst 0, 1) := by decide +kernel
theorem dX12_after_17 : decode cX12_after 17 = .ok (.goto 6, 3) := by decide +kernel
theorem dX12_after_20 : decode cX12_after 20 = .ok (.iload_n 2, 1) := by decide +kernel
theorem dX12_after_21 : decode cX12_after 21 = .ok (.iconst 1, 1) := by decide +kernel
theorem dX12_after_22 : decode cX12_after 22 = .ok (.iadd, 1) := by decide +kernel
theorem dX12_after_23 : decode cX12_after 23 = .ok (.iadd, 1) := by decide +kernel
theorem dX12_after_24 : decode cX12_after 24 = .ok (.ireturn, 1) := by decide +kernel
theorem dX12_plateSum_0 : decode cX12_plateSum 0 = .ok (.lconst 0, 1) := by decide +kernel
theorem dX12_plateSum_1 : decode cX12_plateSum 1 = .ok (.lstore_n 3, 1) := by decide +kernel
theorem dX12_plateSum_2 : decode cX12_plateSum 2 = .ok (.iconst 0, 1) := by decide +kernel
theorem dX12_plateSum_3 : decode cX12_plateSum 3 = .ok (.istore 5, 2) := by decide +kernel
theorem dX12_plateSum_5 : decode cX12_plateSum 5 = .ok (.iload 5, 2) := by decide +kernel
theorem dX12_plateSum_7 : decode cX12_plateSum 7 = .ok (.aload_n 0, 1) := by decide +kernel
theorem dX12_plateSum_8 : decode cX12_plateSum 8 = .ok (.getfield 186, 3) := by decide +kernel
theorem dX12_plateSum_11 : decode cX12_plateSum 11 = .ok (.iload_n 1, 1) := by decide +kernel
theorem dX12_plateSum_12 : decode cX12_plateSum 12 = .ok (.iaload, 1) := by decide +kernel
theorem dX12_plateSum_13 : decode cX12_plateSum 13 = .ok (.if_icmp .ge 160, 3) := by decide +kernel
theorem dX12_plateSum_16 : decode cX12_plateSum 16 = .ok (.aload_n 0, 1) := by decide +kernel
theorem dX12_plateSum_17 : decode cX12_plateSum 17 = .ok (.getfield 189, 3) := by decide +kernel
theorem dX12_plateSum_20 : decode cX12_plateSum 20 = .ok (.bipush 24, 2) := by decide +kernel
theorem dX12_plateSum_22 : decode cX12_plateSum 22 = .ok (.iload_n 1, 1) := by decide +kernel
theorem dX12_plateSum_23 : decode cX12_plateSum 23 = .ok (.imul, 1) := by decide +kernel
theorem dX12_plateSum_24 : decode cX12_plateSum 24 = .ok (.iload 5, 2) := by decide +kernel
theorem dX12_plateSum_26 : decode cX12_plateSum 26 = .ok (.iadd, 1) := by decide +kernel
theorem dX12_plateSum_27 : decode cX12_plateSum 27 = .ok (.laload, 1) := by decide +kernel
theorem dX12_plateSum_28 : decode cX12_plateSum 28 = .ok (.lstore 6, 2) := by decide +kernel
theorem dX12_plateSum_30 : decode cX12_plateSum 30 = .ok (.aload_n 0, 1) := by decide +kernel
theorem dX12_plateSum_31 : decode cX12_plateSum 31 = .ok (.getfield 192, 3) := by decide +kernel
theorem dX12_plateSum_34 : decode cX12_plateSum 34 = .ok (.bipush 24, 2) := by decide +kernel
theorem dX12_plateSum_36 : decode cX12_plateSum 36 = .ok (.iload_n 1, 1) := by decide +kernel
theorem dX12_plateSum_37 : decode cX12_plateSum 37 = .ok (.imul, 1) := by decide +kernel
theorem dX12_plateSum_38 : decode cX12_plateSum 38 = .ok (.iload 5, 2) := by decide +kernel
theorem dX12_plateSum_40 : decode cX12_plateSum 40 = .ok (.iadd, 1) := by decide +kernel
theorem dX12_plateSum_41 : decode cX12_plateSum 41 = .ok (.laload, 1) := by decide +kernel
theorem dX12_plateSum_42 : decode cX12_plateSum 42 = .ok (.lstore 8, 2) := by decide +kernel
theorem dX12_plateSum_44 : decode cX12_plateSum 44 = .ok (.aload_n 0, 1) := by decide +kernel
theorem dX12_plateSum_45 : decode cX12_plateSum 45 = .ok (.getfield 189, 3) := by decide +kernel
theorem dX12_plateSum_48 : decode cX12_plateSum 48 = .ok (.aload_n 0, 1) := by decide +kernel
theorem dX12_plateSum_49 : decode cX12_plateSum 49 = .ok (.iload_n 1, 1) := by decide +kernel
theorem dX12_plateSum_50 : decode cX12_plateSum 50 = .ok (.iload 5, 2) := by decide +kernel
theorem dX12_plateSum_52 : decode cX12_plateSum 52 = .ok (.invokevirtual 731, 3) := by decide +kernel
theorem dX12_plateSum_55 : decode cX12_plateSum 55 = .ok (.laload, 1) := by decide +kernel
theorem dX12_plateSum_56 : decode cX12_plateSum 56 = .ok (.lstore 10, 2) := by decide +kernel
theorem dX12_plateSum_58 : decode cX12_plateSum 58 = .ok (.aload_n 0, 1) := by decide +kernel
theorem dX12_plateSum_59 : decode cX12_plateSum 59 = .ok (.getfield 192, 3) := by decide +kernel
theorem dX12_plateSum_62 : decode cX12_plateSum 62 = .ok (.aload_n 0, 1) := by decide +kernel
theorem dX12_plateSum_63 : decode cX12_plateSum 63 = .ok (.iload_n 1, 1) := by decide +kernel
theorem dX12_plateSum_64 : decode cX12_plateSum 64 = .ok (.iload 5, 2) := by decide +kernel
theorem dX12_plateSum_66 : decode cX12_plateSum 66 = .ok (.invokevirtual 731, 3) := by decide +kernel
theorem dX12_plateSum_69 : decode cX12_plateSum 69 = .ok (.laload, 1) := by decide +kernel
theorem dX12_plateSum_70 : decode cX12_plateSum 70 = .ok (.lstore 12, 2) := by decide +kernel
theorem dX12_plateSum_72 : decode cX12_plateSum 72 = .ok (.lload 6, 2) := by decide +kernel
theorem dX12_plateSum_74 : decode cX12_plateSum 74 = .ok (.lload 12, 2) := by decide +kernel
theorem dX12_plateSum_76 : decode cX12_plateSum 76 = .ok (.lmul, 1) := by decide +kernel
theorem dX12_plateSum_77 : decode cX12_plateSum 77 = .ok (.lload 10, 2) := by decide +kernel
theorem dX12_plateSum_79 : decode cX12_plateSum 79 = .ok (.lload 8, 2) := by decide +kernel
theorem dX12_plateSum_81 : decode cX12_plateSum 81 = .ok (.lmul, 1) := by decide +kernel
theorem dX12_plateSum_82 : decode cX12_plateSum 82 = .ok (.lsub, 1) := by decide +kernel
theorem dX12_plateSum_83 : decode cX12_plateSum 83 = .ok (.lstore 14, 2) := by decide +kernel
theorem dX12_plateSum_85 : decode cX12_plateSum 85 = .ok (.lload_n 3, 1) := by decide +kernel
theorem dX12_plateSum_86 : decode cX12_plateSum 86 = .ok (.iload_n 2, 1) := by decide +kernel
theorem dX12_plateSum_87 : decode cX12_plateSum 87 = .ok (.ifCond .ne 8, 3) := by decide +kernel
theorem dX12_plateSum_90 : decode cX12_plateSum 90 = .ok (.lload 14, 2) := by decide +kernel
theorem dX12_plateSum_92 : decode cX12_plateSum 92 = .ok (.goto 73, 3) := by decide +kernel
theorem dX12_plateSum_95 : decode cX12_plateSum 95 = .ok (.iload_n 2, 1) := by decide +kernel
theorem dX12_plateSum_96 : decode cX12_plateSum 96 = .ok (.iconst 1, 1) := by decide +kernel
theorem dX12_plateSum_97 : decode cX12_plateSum 97 = .ok (.if_icmp .ne 14, 3) := by decide +kernel
theorem dX12_plateSum_100 : decode cX12_plateSum 100 = .ok (.lload 6, 2) := by decide +kernel
theorem dX12_plateSum_102 : decode cX12_plateSum 102 = .ok (.lload 10, 2) := by decide +kernel
theorem dX12_plateSum_104 : decode cX12_plateSum 104 = .ok (.ladd, 1) := by decide +kernel
theorem dX12_plateSum_105 : decode cX12_plateSum 105 = .ok (.lload 14, 2) := by decide +kernel
theorem dX12_plateSum_107 : decode cX12_plateSum 107 = .ok (.lmul, 1) := by decide +kernel
theorem dX12_plateSum_108 : decode cX12_plateSum 108 = .ok (.goto 57, 3) := by decide +kernel
theorem dX12_plateSum_111 : decode cX12_plateSum 111 = .ok (.iload_n 2, 1) := by decide +kernel
theorem dX12_plateSum_112 : decode cX12_plateSum 112 = .ok (.iconst 2, 1) := by decide +kernel
theorem dX12_plateSum_113 : decode cX12_plateSum 113 = .ok (.if_icmp .ne 14, 3) := by decide +kernel
theorem dX12_plateSum_116 : decode cX12_plateSum 116 = .ok (.lload 8, 2) := by decide +kernel
theorem dX12_plateSum_118 : decode cX12_plateSum 118 = .ok (.lload 12, 2) := by decide +kernel
theorem dX12_plateSum_120 : decode cX12_plateSum 120 = .ok (.ladd, 1) := by decide +kernel
theorem dX12_plateSum_121 : decode cX12_plateSum 121 = .ok (.lload 14, 2) := by decide +kernel
theorem dX12_plateSum_123 : decode cX12_plateSum 123 = .ok (.lmul, 1) := by decide +kernel
theorem dX12_plateSum_124 : decode cX12_plateSum 124 = .ok (.goto 41, 3) := by decide +kernel
theorem dX12_plateSum_127 : decode cX12_plateSum 127 = .ok (.lload 14, 2) := by decide +kernel
theorem dX12_plateSum_129 : decode cX12_plateSum 129 = .ok (.lload 6, 2) := by decide +kernel
theorem dX12_plateSum_131 : decode cX12_plateSum 131 = .ok (.lload 6, 2) := by decide +kernel
theorem dX12_plateSum_133 : decode cX12_plateSum 133 = .ok (.lmul, 1) := by decide +kernel
theorem dX12_plateSum_134 : decode cX12_plateSum 134 = .ok (.lload 6, 2) := by decide +kernel
theorem dX12_plateSum_136 : decode cX12_plateSum 136 = .ok (.lload 10, 2) := by decide +kernel
theorem dX12_plateSum_138 : decode cX12_plateSum 138 = .ok (.lmul, 1) := by decide +kernel
theorem dX12_plateSum_139 : decode cX12_plateSum 139 = .ok (.ladd, 1) := by decide +kernel
theorem dX12_plateSum_140 : decode cX12_plateSum 140 = .ok (.lload 10, 2) := by decide +kernel
theorem dX12_plateSum_142 : decode cX12_plateSum 142 = .ok (.lload 10, 2) := by decide +kernel
theorem dX12_plateSum_144 : decode cX12_plateSum 144 = .ok (.lmul, 1) := by decide +kernel
theorem dX12_plateSum_145 : decode cX12_plateSum 145 = .ok (.ladd, 1) := by decide +kernel
theorem dX12_plateSum_146 : decode cX12_plateSum 146 = .ok (.lload 8, 2) := by decide +kernel
theorem dX12_plateSum_148 : decode cX12_plateSum 148 = .ok (.lload 8, 2) := by decide +kernel
theorem dX12_plateSum_150 : decode cX12_plateSum 150 = .ok (.lmul, 1) := by decide +kernel
theorem dX12_plateSum_151 : decode cX12_plateSum 151 = .ok (.ladd, 1) := by decide +kernel
theorem dX12_plateSum_152 : decode cX12_plateSum 152 = .ok (.lload 8, 2) := by decide +kernel
theorem dX12_plateSum_154 : decode cX12_plateSum 154 = .ok (.lload 12, 2) := by decide +kernel
theorem dX12_plateSum_156 : decode cX12_plateSum 156 = .ok (.lmul, 1) := by decide +kernel
theorem dX12_plateSum_157 : decode cX12_plateSum 157 = .ok (.ladd, 1) := by decide +kernel
theorem dX12_plateSum_158 : decode cX12_plateSum 158 = .ok (.lload 12, 2) := by decide +kernel
theorem dX12_plateSum_160 : decode cX12_plateSum 160 = .ok (.lload 12, 2) := by decide +kernel
theorem dX12_plateSum_162 : decode cX12_plateSum 162 = .ok (.lmul, 1) := by decide +kernel
theorem dX12_plateSum_163 : decode cX12_plateSum 163 = .ok (.ladd, 1) := by decide +kernel
theorem dX12_plateSum_164 : decode cX12_plateSum 164 = .ok (.lmul, 1) := by decide +kernel
theorem dX12_plateSum_165 : decode cX12_plateSum 165 = .ok (.ladd, 1) := by decide +kernel
theorem dX12_plateSum_166 : decode cX12_plateSum 166 = .ok (.lstore_n 3, 1) := by decide +kernel
theorem dX12_plateSum_167 : decode cX12_plateSum 167 = .ok (.iinc 5 1, 3) := by decide +kernel
theorem dX12_plateSum_170 : decode cX12_plateSum 170 = .ok (.goto (-165), 3) := by decide +kernel
theorem dX12_plateSum_173 : decode cX12_plateSum 173 = .ok (.lload_n 3, 1) := by decide +kernel
theorem dX12_plateSum_174 : decode cX12_plateSum 174 = .ok (.lreturn, 1) := by decide +kernel
theorem dX12_plate_0 : decode cX12_plate 0 = .ok (.iload_n 1, 1) := by decide +kernel
theorem dX12_plate_1 : decode cX12_plate 1 = .ok (.i2l, 1) := by decide +kernel
theorem dX12_plate_2 : decode cX12_plate 2 = .ok (.lconst 0, 1) := by decide +kernel
theorem dX12_plate_3 : decode cX12_plate 3 = .ok (.ldc2_w 729, 3) := by decide +kernel
theorem dX12_plate_6 : decode cX12_plate 6 = .ok (.invokestatic 262, 3) := by decide +kernel
theorem dX12_plate_9 : decode cX12_plate 9 = .ok (.ifCond .eq 19, 3) := by decide +kernel
theorem dX12_plate_12 : decode cX12_plate 12 = .ok (.iload_n 2, 1) := by decide +kernel
theorem dX12_plate_13 : decode cX12_plate 13 = .ok (.i2l, 1) := by decide +kernel
theorem dX12_plate_14 : decode cX12_plate 14 = .ok (.lconst 0, 1) := by decide +kernel
theorem dX12_plate_15 : decode cX12_plate 15 = .ok (.ldc2_w 657, 3) := by decide +kernel
theorem dX12_plate_18 : decode cX12_plate 18 = .ok (.invokestatic 262, 3) := by decide +kernel
theorem dX12_plate_21 : decode cX12_plate 21 = .ok (.ifCond .eq 7, 3) := by decide +kernel
theorem dX12_plate_24 : decode cX12_plate 24 = .ok (.iconst 1, 1) := by decide +kernel
theorem dX12_plate_25 : decode cX12_plate 25 = .ok (.goto 4, 3) := by decide +kernel
theorem dX12_plate_28 : decode cX12_plate 28 = .ok (.iconst 0, 1) := by decide +kernel
theorem dX12_plate_29 : decode cX12_plate 29 = .ok (.istore_n 3, 1) := by decide +kernel
theorem dX12_plate_30 : decode cX12_plate 30 = .ok (.aload_n 0, 1) := by decide +kernel
theorem dX12_plate_31 : decode cX12_plate 31 = .ok (.iload_n 3, 1) := by decide +kernel
theorem dX12_plate_32 : decode cX12_plate 32 = .ok (.ifCond .ne 7, 3) := by decide +kernel
theorem dX12_plate_35 : decode cX12_plate 35 = .ok (.iconst 1, 1) := by decide +kernel
theorem dX12_plate_36 : decode cX12_plate 36 = .ok (.goto 38, 3) := by decide +kernel
theorem dX12_plate_39 : decode cX12_plate 39 = .ok (.aload_n 0, 1) := by decide +kernel
theorem dX12_plate_40 : decode cX12_plate 40 = .ok (.getfield 186, 3) := by decide +kernel
theorem dX12_plate_43 : decode cX12_plate 43 = .ok (.iload_n 1, 1) := by decide +kernel
theorem dX12_plate_44 : decode cX12_plate 44 = .ok (.iaload, 1) := by decide +kernel
theorem dX12_plate_45 : decode cX12_plate 45 = .ok (.iconst 3, 1) := by decide +kernel
theorem dX12_plate_46 : decode cX12_plate 46 = .ok (.if_icmp .lt 23, 3) := by decide +kernel
theorem dX12_plate_49 : decode cX12_plate 49 = .ok (.iload_n 2, 1) := by decide +kernel
theorem dX12_plate_50 : decode cX12_plate 50 = .ok (.ifCond .le 23, 3) := by decide +kernel
theorem dX12_plate_53 : decode cX12_plate 53 = .ok (.iload_n 2, 1) := by decide +kernel
theorem dX12_plate_54 : decode cX12_plate 54 = .ok (.iconst 5, 1) := by decide +kernel
theorem dX12_plate_55 : decode cX12_plate 55 = .ok (.if_icmp .ge 18, 3) := by decide +kernel
theorem dX12_plate_58 : decode cX12_plate 58 = .ok (.aload_n 0, 1) := by decide +kernel
theorem dX12_plate_59 : decode cX12_plate 59 = .ok (.iload_n 1, 1) := by decide +kernel
theorem dX12_plate_60 : decode cX12_plate 60 = .ok (.iconst 0, 1) := by decide +kernel
theorem dX12_plate_61 : decode cX12_plate 61 = .ok (.invokevirtual 734, 3) := by decide +kernel
theorem dX12_plate_64 : decode cX12_plate 64 = .ok (.lconst 0, 1) := by decide +kernel
theorem dX12_plate_65 : decode cX12_plate 65 = .ok (.lcmp, 1) := by decide +kernel
theorem dX12_plate_66 : decode cX12_plate 66 = .ok (.ifCond .ne 7, 3) := by decide +kernel
theorem dX12_plate_69 : decode cX12_plate 69 = .ok (.iconst 2, 1) := by decide +kernel
theorem dX12_plate_70 : decode cX12_plate 70 = .ok (.goto 4, 3) := by decide +kernel
theorem dX12_plate_73 : decode cX12_plate 73 = .ok (.iconst 0, 1) := by decide +kernel
theorem dX12_plate_74 : decode cX12_plate 74 = .ok (.putfield 243, 3) := by decide +kernel
theorem dX12_plate_77 : decode cX12_plate 77 = .ok (.aload_n 0, 1) := by decide +kernel
theorem dX12_plate_78 : decode cX12_plate 78 = .ok (.getfield 243, 3) := by decide +kernel
theorem dX12_plate_81 : decode cX12_plate 81 = .ok (.ifCond .le 5, 3) := by decide +kernel
theorem dX12_plate_84 : decode cX12_plate 84 = .ok (.lconst 0, 1) := by decide +kernel
theorem dX12_plate_85 : decode cX12_plate 85 = .ok (.lreturn, 1) := by decide +kernel
theorem dX12_plate_86 : decode cX12_plate 86 = .ok (.iload_n 2, 1) := by decide +kernel
theorem dX12_plate_87 : decode cX12_plate 87 = .ok (.ifCond .ne 10, 3) := by decide +kernel
theorem dX12_plate_90 : decode cX12_plate 90 = .ok (.aload_n 0, 1) := by decide +kernel
theorem dX12_plate_91 : decode cX12_plate 91 = .ok (.iload_n 1, 1) := by decide +kernel
theorem dX12_plate_92 : decode cX12_plate 92 = .ok (.iconst 0, 1) := by decide +kernel
theorem dX12_plate_93 : decode cX12_plate 93 = .ok (.invokevirtual 734, 3) := by decide +kernel
theorem dX12_plate_96 : decode cX12_plate 96 = .ok (.lreturn, 1) := by decide +kernel
theorem dX12_plate_97 : decode cX12_plate 97 = .ok (.iload_n 2, 1) := by decide +kernel
theorem dX12_plate_98 : decode cX12_plate 98 = .ok (.bipush 6, 2) := by decide +kernel
theorem dX12_plate_100 : decode cX12_plate 100 = .ok (.if_icmp .le 20, 3) := by decide +kernel
theorem dX12_plate_103 : decode cX12_plate 103 = .ok (.aload_n 0, 1) := by decide +kernel
theorem dX12_plate_104 : decode cX12_plate 104 = .ok (.iload_n 1, 1) := by decide +kernel
theorem dX12_plate_105 : decode cX12_plate 105 = .ok (.iload_n 2, 1) := by decide +kernel
theorem dX12_plate_106 : decode cX12_plate 106 = .ok (.bipush 7, 2) := by decide +kernel
theorem dX12_plate_108 : decode cX12_plate 108 = .ok (.if_icmp .ne 7, 3) := by decide +kernel
theorem dX12_plate_111 : decode cX12_plate 111 = .ok (.iconst 1, 1) := by decide +kernel
theorem dX12_plate_112 : decode cX12_plate 112 = .ok (.goto 4, 3) := by decide +kernel
theorem dX12_plate_115 : decode cX12_plate 115 = .ok (.iconst 0, 1) := by decide +kernel
theorem dX12_plate_116 : decode cX12_plate 116 = .ok (.invokevirtual 737, 3) := by decide +kernel
theorem dX12_plate_119 : decode cX12_plate 119 = .ok (.lreturn, 1) := by decide +kernel
theorem dX12_plate_120 : decode cX12_plate 120 = .ok (.iload_n 2, 1) := by decide +kernel
theorem dX12_plate_121 : decode cX12_plate 121 = .ok (.iconst 5, 1) := by decide +kernel
theorem dX12_plate_122 : decode cX12_plate 122 = .ok (.if_icmp .ge 21, 3) := by decide +kernel
theorem dX12_plate_125 : decode cX12_plate 125 = .ok (.aload_n 0, 1) := by decide +kernel
theorem dX12_plate_126 : decode cX12_plate 126 = .ok (.iload_n 1, 1) := by decide +kernel
theorem dX12_plate_127 : decode cX12_plate 127 = .ok (.iload_n 2, 1) := by decide +kernel
theorem dX12_plate_128 : decode cX12_plate 128 = .ok (.iconst 3, 1) := by decide +kernel
theorem dX12_plate_129 : decode cX12_plate 129 = .ok (.if_icmp .ge 7, 3) := by decide +kernel
theorem dX12_plate_132 : decode cX12_plate 132 = .ok (.iconst 1, 1) := by decide +kernel
theorem dX12_plate_133 : decode cX12_plate 133 = .ok (.goto 4, 3) := by decide +kernel
theorem dX12_plate_136 : decode cX12_plate 136 = .ok (.iconst 2, 1) := by decide +kernel
theorem dX12_plate_137 : decode cX12_plate 137 = .ok (.invokevirtual 734, 3) := by decide +kernel
theorem dX12_plate_140 : decode cX12_plate 140 = .ok (.goto 9, 3) := by decide +kernel
theorem dX12_plate_143 : decode cX12_plate 143 = .ok (.aload_n 0, 1) := by decide +kernel
theorem dX12_plate_144 : decode cX12_plate 144 = .ok (.iload_n 1, 1) := by decide +kernel
theorem dX12_plate_145 : decode cX12_plate 145 = .ok (.iconst 3, 1) := by decide +kernel
theorem dX12_plate_146 : decode cX12_plate 146 = .ok (.invokevirtual 734, 3) := by decide +kernel
theorem dX12_plate_149 : decode cX12_plate 149 = .ok (.lstore 4, 2) := by decide +kernel
theorem dX12_plate_151 : decode cX12_plate 151 = .ok (.iload_n 2, 1) := by decide +kernel
theorem dX12_plate_152 : decode cX12_plate 152 = .ok (.iconst 5, 1) := by decide +kernel
theorem dX12_plate_153 : decode cX12_plate 153 = .ok (.if_icmp .ge 16, 3) := by decide +kernel
theorem dX12_plate_156 : decode cX12_plate 156 = .ok (.ldc2_w 466, 3) := by decide +kernel
theorem dX12_plate_159 : decode cX12_plate 159 = .ok (.aload_n 0, 1) := by decide +kernel
theorem dX12_plate_160 : decode cX12_plate 160 = .ok (.iload_n 1, 1) := by decide +kernel
theorem dX12_plate_161 : decode cX12_plate 161 = .ok (.iconst 0, 1) := by decide +kernel
theorem dX12_plate_162 : decode cX12_plate 162 = .ok (.invokevirtual 734, 3) := by decide +kernel
theorem dX12_plate_165 : decode cX12_plate 165 = .ok (.lmul, 1) := by decide +kernel
theorem dX12_plate_166 : decode cX12_plate 166 = .ok (.goto 6, 3) := by decide +kernel
theorem dX12_plate_169 : decode cX12_plate 169 = .ok (.ldc2_w 741, 3) := by decide +kernel
theorem dX12_plate_172 : decode cX12_plate 172 = .ok (.lstore 6, 2) := by decide +kernel
theorem dX12_plate_174 : decode cX12_plate 174 = .ok (.lload 6, 2) := by decide +kernel
theorem dX12_plate_176 : decode cX12_plate 176 = .ok (.lconst 0, 1) := by decide +kernel
theorem dX12_plate_177 : decode cX12_plate 177 = .ok (.lcmp, 1) := by decide +kernel
theorem dX12_plate_178 : decode cX12_plate 178 = .ok (.ifCond .ge 13, 3) := by decide +kernel
theorem dX12_plate_181 : decode cX12_plate 181 = .ok (.lload 4, 2) := by decide +kernel
theorem dX12_plate_183 : decode cX12_plate 183 = .ok (.lneg, 1) := by decide +kernel
theorem dX12_plate_184 : decode cX12_plate 184 = .ok (.lstore 4, 2) := by decide +kernel
theorem dX12_plate_186 : decode cX12_plate 186 = .ok (.lload 6, 2) := by decide +kernel
theorem dX12_plate_188 : decode cX12_plate 188 = .ok (.lneg, 1) := by decide +kernel
theorem dX12_plate_189 : decode cX12_plate 189 = .ok (.lstore 6, 2) := by decide +kernel
theorem dX12_plate_191 : decode cX12_plate 191 = .ok (.lload 4, 2) := by decide +kernel
theorem dX12_plate_193 : decode cX12_plate 193 = .ok (.lload 6, 2) := by decide +kernel
theorem dX12_plate_195 : decode cX12_plate 195 = .ok (.invokestatic 294, 3) := by decide +kernel
theorem dX12_plate_198 : decode cX12_plate 198 = .ok (.lstore 8, 2) := by decide +kernel
theorem dX12_plate_200 : decode cX12_plate 200 = .ok (.iload_n 2, 1) := by decide +kernel
theorem dX12_plate_201 : decode cX12_plate 201 = .ok (.iconst 2, 1) := by decide +kernel
theorem dX12_plate_202 : decode cX12_plate 202 = .ok (.irem, 1) := by decide +kernel
theorem dX12_plate_203 : decode cX12_plate 203 = .ok (.iconst 1, 1) := by decide +kernel
theorem dX12_plate_204 : decode cX12_plate 204 = .ok (.if_icmp .ne 11, 3) := by decide +kernel
theorem dX12_plate_207 : decode cX12_plate 207 = .ok (.lload 4, 2) := by decide +kernel
theorem dX12_plate_209 : decode cX12_plate 209 = .ok (.lload 8, 2) := by decide +kernel
theorem dX12_plate_211 : decode cX12_plate 211 = .ok (.ldiv, 1) := by decide +kernel
theorem dX12_plate_212 : decode cX12_plate 212 = .ok (.goto 8, 3) := by decide +kernel
theorem dX12_plate_215 : decode cX12_plate 215 = .ok (.lload 6, 2) := by decide +kernel
theorem dX12_plate_217 : decode cX12_plate 217 = .ok (.lload 8, 2) := by decide +kernel
theorem dX12_plate_219 : decode cX12_plate 219 = .ok (.ldiv, 1) := by decide +kernel
theorem dX12_plate_220 : decode cX12_plate 220 = .ok (.lreturn, 1) := by decide +kernel
theorem dX12_sign_0 : decode cX12_sign 0 = .ok (.lload_n 0, 1) := by decide +kernel
theorem dX12_sign_1 : decode cX12_sign 1 = .ok (.lconst 0, 1) := by decide +kernel
theorem dX12_sign_2 : decode cX12_sign 2 = .ok (.lcmp, 1) := by decide +kernel
theorem dX12_sign_3 : decode cX12_sign 3 = .ok (.ifCond .ge 7, 3) := by decide +kernel
theorem dX12_sign_6 : decode cX12_sign 6 = .ok (.iconst (-1), 1) := by decide +kernel
theorem dX12_sign_7 : decode cX12_sign 7 = .ok (.goto 14, 3) := by decide +kernel
theorem dX12_sign_10 : decode cX12_sign 10 = .ok (.lload_n 0, 1) := by decide +kernel
theorem dX12_sign_11 : decode cX12_sign 11 = .ok (.lconst 0, 1) := by decide +kernel
theorem dX12_sign_12 : decode cX12_sign 12 = .ok (.lcmp, 1) := by decide +kernel
theorem dX12_sign_13 : decode cX12_sign 13 = .ok (.ifCond .le 7, 3) := by decide +kernel
theorem dX12_sign_16 : decode cX12_sign 16 = .ok (.iconst 1, 1) := by decide +kernel
theorem dX12_sign_17 : decode cX12_sign 17 = .ok (.goto 4, 3) := by decide +kernel
theorem dX12_sign_20 : decode cX12_sign 20 = .ok (.iconst 0, 1) := by decide +kernel
theorem dX12_sign_21 : decode cX12_sign 21 = .ok (.ireturn, 1) := by decide +kernel
theorem dX12_side_0 : decode cX12_side 0 = .ok (.aload_n 0, 1) := by decide +kernel
theorem dX12_side_1 : decode cX12_side 1 = .ok (.getfield 189, 3) := by decide +kernel
theorem dX12_side_4 : decode cX12_side 4 = .ok (.iload_n 2, 1) := by decide +kernel
theorem dX12_side_5 : decode cX12_side 5 = .ok (.laload, 1) := by decide +kernel
theorem dX12_side_6 : decode cX12_side 6 = .ok (.aload_n 0, 1) := by decide +kernel
theorem dX12_side_7 : decode cX12_side 7 = .ok (.getfield 189, 3) := by decide +kernel
theorem dX12_side_10 : decode cX12_side 10 = .ok (.iload_n 1, 1) := by decide +kernel
theorem dX12_side_11 : decode cX12_side 11 = .ok (.laload, 1) := by decide +kernel
theorem dX12_side_12 : decode cX12_side 12 = .ok (.lsub, 1) := by decide +kernel
theorem dX12_side_13 : decode cX12_side 13 = .ok (.aload_n 0, 1) := by decide +kernel
theorem dX12_side_14 : decode cX12_side 14 = .ok (.getfield 192, 3) := by decide +kernel
theorem dX12_side_17 : decode cX12_side 17 = .ok (.iload_n 3, 1) := by decide +kernel
theorem dX12_side_18 : decode cX12_side 18 = .ok (.laload, 1) := by decide +kernel
theorem dX12_side_19 : decode cX12_side 19 = .ok (.aload_n 0, 1) := by decide +kernel
theorem dX12_side_20 : decode cX12_side 20 = .ok (.getfield 192, 3) := by decide +kernel
theorem dX12_side_23 : decode cX12_side 23 = .ok (.iload_n 1, 1) := by decide +kernel
theorem dX12_side_24 : decode cX12_side 24 = .ok (.laload, 1) := by decide +kernel
theorem dX12_side_25 : decode cX12_side 25 = .ok (.lsub, 1) := by decide +kernel
theorem dX12_side_26 : decode cX12_side 26 = .ok (.lmul, 1) := by decide +kernel
theorem dX12_side_27 : decode cX12_side 27 = .ok (.aload_n 0, 1) := by decide +kernel
theorem dX12_side_28 : decode cX12_side 28 = .ok (.getfield 192, 3) := by decide +kernel
theorem dX12_side_31 : decode cX12_side 31 = .ok (.iload_n 2, 1) := by decide +kernel
theorem dX12_side_32 : decode cX12_side 32 = .ok (.laload, 1) := by decide +kernel
theorem dX12_side_33 : decode cX12_side 33 = .ok (.aload_n 0, 1) := by decide +kernel
theorem dX12_side_34 : decode cX12_side 34 = .ok (.getfield 192, 3) := by decide +kernel
theorem dX12_side_37 : decode cX12_side 37 = .ok (.iload_n 1, 1) := by decide +kernel
theorem dX12_side_38 : decode cX12_side 38 = .ok (.laload, 1) := by decide +kernel
theorem dX12_side_39 : decode cX12_side 39 = .ok (.lsub, 1) := by decide +kernel
theorem dX12_side_40 : decode cX12_side 40 = .ok (.aload_n 0, 1) := by decide +kernel
theorem dX12_side_41 : decode cX12_side 41 = .ok (.getfield 189, 3) := by decide +kernel
theorem dX12_side_44 : decode cX12_side 44 = .ok (.iload_n 3, 1) := by decide +kernel
theorem dX12_side_45 : decode cX12_side 45 = .ok (.laload, 1) := by decide +kernel
theorem dX12_side_46 : decode cX12_side 46 = .ok (.aload_n 0, 1) := by decide +kernel
theorem dX12_side_47 : decode cX12_side 47 = .ok (.getfield 189, 3) := by decide +kernel
theorem dX12_side_50 : decode cX12_side 50 = .ok (.iload_n 1, 1) := by decide +kernel
theorem dX12_side_51 : decode cX12_side 51 = .ok (.laload, 1) := by decide +kernel
theorem dX12_side_52 : decode cX12_side 52 = .ok (.lsub, 1) := by decide +kernel
theorem dX12_side_53 : decode cX12_side 53 = .ok (.lmul, 1) := by decide +kernel
theorem dX12_side_54 : decode cX12_side 54 = .ok (.lsub, 1) := by decide +kernel
theorem dX12_side_55 : decode cX12_side 55 = .ok (.invokestatic 743, 3) := by decide +kernel
theorem dX12_side_58 : decode cX12_side 58 = .ok (.ireturn, 1) := by decide +kernel
theorem dX12_within_0 : decode cX12_within 0 = .ok (.aload_n 0, 1) := by decide +kernel
theorem dX12_within_1 : decode cX12_within 1 = .ok (.getfield 189, 3) := by decide +kernel
theorem dX12_within_4 : decode cX12_within 4 = .ok (.iload_n 1, 1) := by decide +kernel
theorem dX12_within_5 : decode cX12_within 5 = .ok (.laload, 1) := by decide +kernel
theorem dX12_within_6 : decode cX12_within 6 = .ok (.aload_n 0, 1) := by decide +kernel
theorem dX12_within_7 : decode cX12_within 7 = .ok (.getfield 189, 3) := by decide +kernel
theorem dX12_within_10 : decode cX12_within 10 = .ok (.iload_n 2, 1) := by decide +kernel
theorem dX12_within_11 : decode cX12_within 11 = .ok (.laload, 1) := by decide +kernel
theorem dX12_within_12 : decode cX12_within 12 = .ok (.invokestatic 314, 3) := by decide +kernel
theorem dX12_within_15 : decode cX12_within 15 = .ok (.aload_n 0, 1) := by decide +kernel
theorem dX12_within_16 : decode cX12_within 16 = .ok (.getfield 189, 3) := by decide +kernel
theorem dX12_within_19 : decode cX12_within 19 = .ok (.iload_n 3, 1) := by decide +kernel
theorem dX12_within_20 : decode cX12_within 20 = .ok (.laload, 1) := by decide +kernel
theorem dX12_within_21 : decode cX12_within 21 = .ok (.lcmp, 1) := by decide +kernel
theorem dX12_within_22 : decode cX12_within 22 = .ok (.ifCond .gt 82, 3) := by decide +kernel
theorem dX12_within_25 : decode cX12_within 25 = .ok (.aload_n 0, 1) := by decide +kernel
theorem dX12_within_26 : decode cX12_within 26 = .ok (.getfield 189, 3) := by decide +kernel
theorem dX12_within_29 : decode cX12_within 29 = .ok (.iload_n 3, 1) := by decide +kernel
theorem dX12_within_30 : decode cX12_within 30 = .ok (.laload, 1) := by decide +kernel
theorem dX12_within_31 : decode cX12_within 31 = .ok (.aload_n 0, 1) := by decide +kernel
theorem dX12_within_32 : decode cX12_within 32 = .ok (.getfield 189, 3) := by decide +kernel
theorem dX12_within_35 : decode cX12_within 35 = .ok (.iload_n 1, 1) := by decide +kernel
theorem dX12_within_36 : decode cX12_within 36 = .ok (.laload, 1) := by decide +kernel
theorem dX12_within_37 : decode cX12_within 37 = .ok (.aload_n 0, 1) := by decide +kernel
theorem dX12_within_38 : decode cX12_within 38 = .ok (.getfield 189, 3) := by decide +kernel
theorem dX12_within_41 : decode cX12_within 41 = .ok (.iload_n 2, 1) := by decide +kernel
theorem dX12_within_42 : decode cX12_within 42 = .ok (.laload, 1) := by decide +kernel
theorem dX12_within_43 : decode cX12_within 43 = .ok (.invokestatic 317, 3) := by decide +kernel
theorem dX12_within_46 : decode cX12_within 46 = .ok (.lcmp, 1) := by decide +kernel
theorem dX12_within_47 : decode cX12_within 47 = .ok (.ifCond .gt 57, 3) := by decide +kernel
theorem dX12_within_50 : decode cX12_within 50 = .ok (.aload_n 0, 1) := by decide +kernel
theorem dX12_within_51 : decode cX12_within 51 = .ok (.getfield 192, 3) := by decide +kernel
theorem dX12_within_54 : decode cX12_within 54 = .ok (.iload_n 1, 1) := by decide +kernel
theorem dX12_within_55 : decode cX12_within 55 = .ok (.laload, 1) := by decide +kernel
theorem dX12_within_56 : decode cX12_within 56 = .ok (.aload_n 0, 1) := by decide +kernel
theorem dX12_within_57 : decode cX12_within 57 = .ok (.getfield 192, 3) := by decide +kernel
theorem dX12_within_60 : decode cX12_within 60 = .ok (.iload_n 2, 1) := by decide +kernel
theorem dX12_within_61 : decode cX12_within 61 = .ok (.laload, 1) := by decide +kernel
theorem dX12_within_62 : decode cX12_within 62 = .ok (.invokestatic 314, 3) := by decide +kernel
theorem dX12_within_65 : decode cX12_within 65 = .ok (.aload_n 0, 1) := by decide +kernel
theorem dX12_within_66 : decode cX12_within 66 = .ok (.getfield 192, 3) := by decide +kernel
theorem dX12_within_69 : decode cX12_within 69 = .ok (.iload_n 3, 1) := by decide +kernel
theorem dX12_within_70 : decode cX12_within 70 = .ok (.laload, 1) := by decide +kernel
theorem dX12_within_71 : decode cX12_within 71 = .ok (.lcmp, 1) := by decide +kernel
theorem dX12_within_72 : decode cX12_within 72 = .ok (.ifCond .gt 32, 3) := by decide +kernel
theorem dX12_within_75 : decode cX12_within 75 = .ok (.aload_n 0, 1) := by decide +kernel
theorem dX12_within_76 : decode cX12_within 76 = .ok (.getfield 192, 3) := by decide +kernel
theorem dX12_within_79 : decode cX12_within 79 = .ok (.iload_n 3, 1) := by decide +kernel
theorem dX12_within_80 : decode cX12_within 80 = .ok (.laload, 1) := by decide +kernel
theorem dX12_within_81 : decode cX12_within 81 = .ok (.aload_n 0, 1) := by decide +kernel
theorem dX12_within_82 : decode cX12_within 82 = .ok (.getfield 192, 3) := by decide +kernel
theorem dX12_within_85 : decode cX12_within 85 = .ok (.iload_n 1, 1) := by decide +kernel
theorem dX12_within_86 : decode cX12_within 86 = .ok (.laload, 1) := by decide +kernel
theorem dX12_within_87 : decode cX12_within 87 = .ok (.aload_n 0, 1) := by decide +kernel
theorem dX12_within_88 : decode cX12_within 88 = .ok (.getfield 192, 3) := by decide +kernel
theorem dX12_within_91 : decode cX12_within 91 = .ok (.iload_n 2, 1) := by decide +kernel
theorem dX12_within_92 : decode cX12_within 92 = .ok (.laload, 1) := by decide +kernel
theorem dX12_within_93 : decode cX12_within 93 = .ok (.invokestatic 317, 3) := by decide +kernel
theorem dX12_within_96 : decode cX12_within 96 = .ok (.lcmp, 1) := by decide +kernel
theorem dX12_within_97 : decode cX12_within 97 = .ok (.ifCond .gt 7, 3) := by decide +kernel
theorem dX12_within_100 : decode cX12_within 100 = .ok (.iconst 1, 1) := by decide +kernel
theorem dX12_within_101 : decode cX12_within 101 = .ok (.goto 4, 3) := by decide +kernel
theorem dX12_within_104 : decode cX12_within 104 = .ok (.iconst 0, 1) := by decide +kernel
theorem dX12_within_105 : decode cX12_within 105 = .ok (.ireturn, 1) := by decide +kernel
theorem dX12_meet_0 : decode cX12_meet 0 = .ok (.aload_n 0, 1) := by decide +kernel
theorem dX12_meet_1 : decode cX12_meet 1 = .ok (.iload_n 1, 1) := by decide +kernel
theorem dX12_meet_2 : decode cX12_meet 2 = .ok (.iload_n 2, 1) := by decide +kernel
theorem dX12_meet_3 : decode cX12_meet 3 = .ok (.iload_n 3, 1) := by decide +kernel
theorem dX12_meet_4 : decode cX12_meet 4 = .ok (.invokevirtual 747, 3) := by decide +kernel
theorem dX12_meet_7 : decode cX12_meet 7 = .ok (.istore 5, 2) := by decide +kernel
theorem dX12_meet_9 : decode cX12_meet 9 = .ok (.aload_n 0, 1) := by decide +kernel
theorem dX12_meet_10 : decode cX12_meet 10 = .ok (.iload_n 1, 1) := by decide +kernel
theorem dX12_meet_11 : decode cX12_meet 11 = .ok (.iload_n 2, 1) := by decide +kernel
theorem dX12_meet_12 : decode cX12_meet 12 = .ok (.iload 4, 2) := by decide +kernel
theorem dX12_meet_14 : decode cX12_meet 14 = .ok (.invokevirtual 747, 3) := by decide +kernel
theorem dX12_meet_17 : decode cX12_meet 17 = .ok (.istore 6, 2) := by decide +kernel
theorem dX12_meet_19 : decode cX12_meet 19 = .ok (.aload_n 0, 1) := by decide +kernel
theorem dX12_meet_20 : decode cX12_meet 20 = .ok (.iload_n 3, 1) := by decide +kernel
theorem dX12_meet_21 : decode cX12_meet 21 = .ok (.iload 4, 2) := by decide +kernel
theorem dX12_meet_23 : decode cX12_meet 23 = .ok (.iload_n 1, 1) := by decide +kernel
theorem dX12_meet_24 : decode cX12_meet 24 = .ok (.invokevirtual 747, 3) := by decide +kernel
theorem dX12_meet_27 : decode cX12_meet 27 = .ok (.istore 7, 2) := by decide +kernel
theorem dX12_meet_29 : decode cX12_meet 29 = .ok (.aload_n 0, 1) := by decide +kernel
theorem dX12_meet_30 : decode cX12_meet 30 = .ok (.iload_n 3, 1) := by decide +kernel
theorem dX12_meet_31 : decode cX12_meet 31 = .ok (.iload 4, 2) := by decide +kernel
theorem dX12_meet_33 : decode cX12_meet 33 = .ok (.iload_n 2, 1) := by decide +kernel
theorem dX12_meet_34 : decode cX12_meet 34 = .ok (.invokevirtual 747, 3) := by decide +kernel
theorem dX12_meet_37 : decode cX12_meet 37 = .ok (.istore 8, 2) := by decide +kernel
theorem dX12_meet_39 : decode cX12_meet 39 = .ok (.iload 5, 2) := by decide +kernel
theorem dX12_meet_41 : decode cX12_meet 41 = .ok (.iload 6, 2) := by decide +kernel
theorem dX12_meet_43 : decode cX12_meet 43 = .ok (.if_icmp .eq 28, 3) := by decide +kernel
theorem dX12_meet_46 : decode cX12_meet 46 = .ok (.iload 7, 2) := by decide +kernel
theorem dX12_meet_48 : decode cX12_meet 48 = .ok (.iload 8, 2) := by decide +kernel
theorem dX12_meet_50 : decode cX12_meet 50 = .ok (.if_icmp .eq 21, 3) := by decide +kernel
theorem dX12_meet_53 : decode cX12_meet 53 = .ok (.iload 5, 2) := by decide +kernel
theorem dX12_meet_55 : decode cX12_meet 55 = .ok (.iload 6, 2) := by decide +kernel
theorem dX12_meet_57 : decode cX12_meet 57 = .ok (.imul, 1) := by decide +kernel
theorem dX12_meet_58 : decode cX12_meet 58 = .ok (.ifCond .gt 13, 3) := by decide +kernel
theorem dX12_meet_61 : decode cX12_meet 61 = .ok (.iload 7, 2) := by decide +kernel
theorem dX12_meet_63 : decode cX12_meet 63 = .ok (.iload 8, 2) := by decide +kernel
theorem dX12_meet_65 : decode cX12_meet 65 = .ok (.imul, 1) := by decide +kernel
theorem dX12_meet_66 : decode cX12_meet 66 = .ok (.ifCond .gt 5, 3) := by decide +kernel
theorem dX12_meet_69 : decode cX12_meet 69 = .ok (.iconst 1, 1) := by decide +kernel
theorem dX12_meet_70 : decode cX12_meet 70 = .ok (.ireturn, 1) := by decide +kernel
theorem dX12_meet_71 : decode cX12_meet 71 = .ok (.iload 5, 2) := by decide +kernel
theorem dX12_meet_73 : decode cX12_meet 73 = .ok (.ifCond .ne 13, 3) := by decide +kernel
theorem dX12_meet_76 : decode cX12_meet 76 = .ok (.aload_n 0, 1) := by decide +kernel
theorem dX12_meet_77 : decode cX12_meet 77 = .ok (.iload_n 1, 1) := by decide +kernel
theorem dX12_meet_78 : decode cX12_meet 78 = .ok (.iload_n 2, 1) := by decide +kernel
theorem dX12_meet_79 : decode cX12_meet 79 = .ok (.iload_n 3, 1) := by decide +kernel
theorem dX12_meet_80 : decode cX12_meet 80 = .ok (.invokevirtual 751, 3) := by decide +kernel
theorem dX12_meet_83 : decode cX12_meet 83 = .ok (.ifCond .ne 51, 3) := by decide +kernel
theorem dX12_meet_86 : decode cX12_meet 86 = .ok (.iload 6, 2) := by decide +kernel
theorem dX12_meet_88 : decode cX12_meet 88 = .ok (.ifCond .ne 14, 3) := by decide +kernel
theorem dX12_meet_91 : decode cX12_meet 91 = .ok (.aload_n 0, 1) := by decide +kernel
theorem dX12_meet_92 : decode cX12_meet 92 = .ok (.iload_n 1, 1) := by decide +kernel
theorem dX12_meet_93 : decode cX12_meet 93 = .ok (.iload_n 2, 1) := by decide +kernel
theorem dX12_meet_94 : decode cX12_meet 94 = .ok (.iload 4, 2) := by decide +kernel
theorem dX12_meet_96 : decode cX12_meet 96 = .ok (.invokevirtual 751, 3) := by decide +kernel
theorem dX12_meet_99 : decode cX12_meet 99 = .ok (.ifCond .ne 35, 3) := by decide +kernel
theorem dX12_meet_102 : decode cX12_meet 102 = .ok (.iload 7, 2) := by decide +kernel
theorem dX12_meet_104 : decode cX12_meet 104 = .ok (.ifCond .ne 14, 3) := by decide +kernel
theorem dX12_meet_107 : decode cX12_meet 107 = .ok (.aload_n 0, 1) := by decide +kernel
theorem dX12_meet_108 : decode cX12_meet 108 = .ok (.iload_n 3, 1) := by decide +kernel
theorem dX12_meet_109 : decode cX12_meet 109 = .ok (.iload 4, 2) := by decide +kernel
theorem dX12_meet_111 : decode cX12_meet 111 = .ok (.iload_n 1, 1) := by decide +kernel
theorem dX12_meet_112 : decode cX12_meet 112 = .ok (.invokevirtual 751, 3) := by decide +kernel
theorem dX12_meet_115 : decode cX12_meet 115 = .ok (.ifCond .ne 19, 3) := by decide +kernel
theorem dX12_meet_118 : decode cX12_meet 118 = .ok (.iload 8, 2) := by decide +kernel
theorem dX12_meet_120 : decode cX12_meet 120 = .ok (.ifCond .ne 18, 3) := by decide +kernel
theorem dX12_meet_123 : decode cX12_meet 123 = .ok (.aload_n 0, 1) := by decide +kernel
theorem dX12_meet_124 : decode cX12_meet 124 = .ok (.iload_n 3, 1) := by decide +kernel
theorem dX12_meet_125 : decode cX12_meet 125 = .ok (.iload 4, 2) := by decide +kernel
theorem dX12_meet_127 : decode cX12_meet 127 = .ok (.iload_n 2, 1) := by decide +kernel
theorem dX12_meet_128 : decode cX12_meet 128 = .ok (.invokevirtual 751, 3) := by decide +kernel
theorem dX12_meet_131 : decode cX12_meet 131 = .ok (.ifCond .eq 7, 3) := by decide +kernel
theorem dX12_meet_134 : decode cX12_meet 134 = .ok (.iconst 1, 1) := by decide +kernel
theorem dX12_meet_135 : decode cX12_meet 135 = .ok (.goto 4, 3) := by decide +kernel
theorem dX12_meet_138 : decode cX12_meet 138 = .ok (.iconst 0, 1) := by decide +kernel
theorem dX12_meet_139 : decode cX12_meet 139 = .ok (.ireturn, 1) := by decide +kernel
theorem dX12_crossed_0 : decode cX12_crossed 0 = .ok (.aload_n 0, 1) := by decide +kernel
theorem dX12_crossed_1 : decode cX12_crossed 1 = .ok (.getfield 186, 3) := by decide +kernel
theorem dX12_crossed_4 : decode cX12_crossed 4 = .ok (.iload_n 1, 1) := by decide +kernel
theorem dX12_crossed_5 : decode cX12_crossed 5 = .ok (.iaload, 1) := by decide +kernel
theorem dX12_crossed_6 : decode cX12_crossed 6 = .ok (.istore_n 3, 1) := by decide +kernel
theorem dX12_crossed_7 : decode cX12_crossed 7 = .ok (.iconst 0, 1) := by decide +kernel
theorem dX12_crossed_8 : decode cX12_crossed 8 = .ok (.istore 4, 2) := by decide +kernel
theorem dX12_crossed_10 : decode cX12_crossed 10 = .ok (.iload 4, 2) := by decide +kernel
theorem dX12_crossed_12 : decode cX12_crossed 12 = .ok (.iload_n 3, 1) := by decide +kernel
theorem dX12_crossed_13 : decode cX12_crossed 13 = .ok (.if_icmp .ge 101, 3) := by decide +kernel
theorem dX12_crossed_16 : decode cX12_crossed 16 = .ok (.iload 4, 2) := by decide +kernel
theorem dX12_crossed_18 : decode cX12_crossed 18 = .ok (.iconst 1, 1) := by decide +kernel
theorem dX12_crossed_19 : decode cX12_crossed 19 = .ok (.iadd, 1) := by decide +kernel
theorem dX12_crossed_20 : decode cX12_crossed 20 = .ok (.istore 5, 2) := by decide +kernel
theorem dX12_crossed_22 : decode cX12_crossed 22 = .ok (.iload 5, 2) := by decide +kernel
theorem dX12_crossed_24 : decode cX12_crossed 24 = .ok (.iload_n 3, 1) := by decide +kernel
theorem dX12_crossed_25 : decode cX12_crossed 25 = .ok (.if_icmp .ge 83, 3) := by decide +kernel
theorem dX12_crossed_28 : decode cX12_crossed 28 = .ok (.iload 5, 2) := by decide +kernel
theorem dX12_crossed_30 : decode cX12_crossed 30 = .ok (.iload 4, 2) := by decide +kernel
theorem dX12_crossed_32 : decode cX12_crossed 32 = .ok (.iconst 1, 1) := by decide +kernel
theorem dX12_crossed_33 : decode cX12_crossed 33 = .ok (.iadd, 1) := by decide +kernel
theorem dX12_crossed_34 : decode cX12_crossed 34 = .ok (.if_icmp .eq 68, 3) := by decide +kernel
theorem dX12_crossed_37 : decode cX12_crossed 37 = .ok (.iload 4, 2) := by decide +kernel
theorem dX12_crossed_39 : decode cX12_crossed 39 = .ok (.ifCond .ne 14, 3) := by decide +kernel
theorem dX12_crossed_42 : decode cX12_crossed 42 = .ok (.iload 5, 2) := by decide +kernel
theorem dX12_crossed_44 : decode cX12_crossed 44 = .ok (.iload_n 3, 1) := by decide +kernel
theorem dX12_crossed_45 : decode cX12_crossed 45 = .ok (.iconst 1, 1) := by decide +kernel
theorem dX12_crossed_46 : decode cX12_crossed 46 = .ok (.isub, 1) := by decide +kernel
theorem dX12_crossed_47 : decode cX12_crossed 47 = .ok (.if_icmp .ne 6, 3) := by decide +kernel
theorem dX12_crossed_50 : decode cX12_crossed 50 = .ok (.goto 52, 3) := by decide +kernel
theorem dX12_crossed_53 : decode cX12_crossed 53 = .ok (.aload_n 0, 1) := by decide +kernel
theorem dX12_crossed_54 : decode cX12_crossed 54 = .ok (.bipush 24, 2) := by decide +kernel
theorem dX12_crossed_56 : decode cX12_crossed 56 = .ok (.iload_n 1, 1) := by decide +kernel
theorem dX12_crossed_57 : decode cX12_crossed 57 = .ok (.imul, 1) := by decide +kernel
theorem dX12_crossed_58 : decode cX12_crossed 58 = .ok (.iload 4, 2) := by decide +kernel
theorem dX12_crossed_60 : decode cX12_crossed 60 = .ok (.iadd, 1) := by decide +kernel
theorem dX12_crossed_61 : decode cX12_crossed 61 = .ok (.aload_n 0, 1) := by decide +kernel
theorem dX12_crossed_62 : decode cX12_crossed 62 = .ok (.iload_n 1, 1) := by decide +kernel
theorem dX12_crossed_63 : decode cX12_crossed 63 = .ok (.iload 4, 2) := by decide +kernel
theorem dX12_crossed_65 : decode cX12_crossed 65 = .ok (.invokevirtual 731, 3) := by decide +kernel
theorem dX12_crossed_68 : decode cX12_crossed 68 = .ok (.bipush 24, 2) := by decide +kernel
theorem dX12_crossed_70 : decode cX12_crossed 70 = .ok (.iload_n 1, 1) := by decide +kernel
theorem dX12_crossed_71 : decode cX12_crossed 71 = .ok (.imul, 1) := by decide +kernel
theorem dX12_crossed_72 : decode cX12_crossed 72 = .ok (.iload 5, 2) := by decide +kernel
theorem dX12_crossed_74 : decode cX12_crossed 74 = .ok (.iadd, 1) := by decide +kernel
theorem dX12_crossed_75 : decode cX12_crossed 75 = .ok (.aload_n 0, 1) := by decide +kernel
theorem dX12_crossed_76 : decode cX12_crossed 76 = .ok (.iload_n 1, 1) := by decide +kernel
theorem dX12_crossed_77 : decode cX12_crossed 77 = .ok (.iload 5, 2) := by decide +kernel
theorem dX12_crossed_79 : decode cX12_crossed 79 = .ok (.invokevirtual 731, 3) := by decide +kernel
theorem dX12_crossed_82 : decode cX12_crossed 82 = .ok (.invokevirtual 754, 3) := by decide +kernel
theorem dX12_crossed_85 : decode cX12_crossed 85 = .ok (.ifCond .eq 17, 3) := by decide +kernel
theorem dX12_crossed_88 : decode cX12_crossed 88 = .ok (.iload_n 2, 1) := by decide +kernel
theorem dX12_crossed_89 : decode cX12_crossed 89 = .ok (.ifCond .eq 9, 3) := by decide +kernel
theorem dX12_crossed_92 : decode cX12_crossed 92 = .ok (.iload 4, 2) := by decide +kernel
theorem dX12_crossed_94 : decode cX12_crossed 94 = .ok (.i2l, 1) := by decide +kernel
theorem dX12_crossed_95 : decode cX12_crossed 95 = .ok (.goto 6, 3) := by decide +kernel
theorem dX12_crossed_98 : decode cX12_crossed 98 = .ok (.iload 5, 2) := by decide +kernel
theorem dX12_crossed_100 : decode cX12_crossed 100 = .ok (.i2l, 1) := by decide +kernel
theorem dX12_crossed_101 : decode cX12_crossed 101 = .ok (.lreturn, 1) := by decide +kernel
theorem dX12_crossed_102 : decode cX12_crossed 102 = .ok (.iinc 5 1, 3) := by decide +kernel
theorem dX12_crossed_105 : decode cX12_crossed 105 = .ok (.goto (-83), 3) := by decide +kernel
theorem dX12_crossed_108 : decode cX12_crossed 108 = .ok (.iinc 4 1, 3) := by decide +kernel
theorem dX12_crossed_111 : decode cX12_crossed 111 = .ok (.goto (-101), 3) := by decide +kernel
theorem dX12_crossed_114 : decode cX12_crossed 114 = .ok (.ldc2_w 621, 3) := by decide +kernel
theorem dX12_crossed_117 : decode cX12_crossed 117 = .ok (.lreturn, 1) := by decide +kernel
theorem dX12_insideOf_0 : decode cX12_insideOf 0 = .ok (.iconst 0, 1) := by decide +kernel
theorem dX12_insideOf_1 : decode cX12_insideOf 1 = .ok (.istore 6, 2) := by decide +kernel
theorem dX12_insideOf_3 : decode cX12_insideOf 3 = .ok (.iconst 0, 1) := by decide +kernel
theorem dX12_insideOf_4 : decode cX12_insideOf 4 = .ok (.istore 7, 2) := by decide +kernel
theorem dX12_insideOf_6 : decode cX12_insideOf 6 = .ok (.iload 7, 2) := by decide +kernel
theorem dX12_insideOf_8 : decode cX12_insideOf 8 = .ok (.aload_n 0, 1) := by decide +kernel
theorem dX12_insideOf_9 : decode cX12_insideOf 9 = .ok (.getfield 186, 3) := by decide +kernel
theorem dX12_insideOf_12 : decode cX12_insideOf 12 = .ok (.iload_n 1, 1) := by decide +kernel
theorem dX12_insideOf_13 : decode cX12_insideOf 13 = .ok (.iaload, 1) := by decide +kernel
theorem dX12_insideOf_14 : decode cX12_insideOf 14 = .ok (.if_icmp .ge 212, 3) := by decide +kernel
theorem dX12_insideOf_17 : decode cX12_insideOf 17 = .ok (.aload_n 0, 1) := by decide +kernel
theorem dX12_insideOf_18 : decode cX12_insideOf 18 = .ok (.getfield 189, 3) := by decide +kernel
theorem dX12_insideOf_21 : decode cX12_insideOf 21 = .ok (.bipush 24, 2) := by decide +kernel
theorem dX12_insideOf_23 : decode cX12_insideOf 23 = .ok (.iload_n 1, 1) := by decide +kernel
theorem dX12_insideOf_24 : decode cX12_insideOf 24 = .ok (.imul, 1) := by decide +kernel
theorem dX12_insideOf_25 : decode cX12_insideOf 25 = .ok (.iload 7, 2) := by decide +kernel
theorem dX12_insideOf_27 : decode cX12_insideOf 27 = .ok (.iadd, 1) := by decide +kernel
theorem dX12_insideOf_28 : decode cX12_insideOf 28 = .ok (.laload, 1) := by decide +kernel
theorem dX12_insideOf_29 : decode cX12_insideOf 29 = .ok (.lstore 8, 2) := by decide +kernel
theorem dX12_insideOf_31 : decode cX12_insideOf 31 = .ok (.aload_n 0, 1) := by decide +kernel
theorem dX12_insideOf_32 : decode cX12_insideOf 32 = .ok (.getfield 192, 3) := by decide +kernel
theorem dX12_insideOf_35 : decode cX12_insideOf 35 = .ok (.bipush 24, 2) := by decide +kernel
theorem dX12_insideOf_37 : decode cX12_insideOf 37 = .ok (.iload_n 1, 1) := by decide +kernel
theorem dX12_insideOf_38 : decode cX12_insideOf 38 = .ok (.imul, 1) := by decide +kernel
theorem dX12_insideOf_39 : decode cX12_insideOf 39 = .ok (.iload 7, 2) := by decide +kernel
theorem dX12_insideOf_41 : decode cX12_insideOf 41 = .ok (.iadd, 1) := by decide +kernel
theorem dX12_insideOf_42 : decode cX12_insideOf 42 = .ok (.laload, 1) := by decide +kernel
theorem dX12_insideOf_43 : decode cX12_insideOf 43 = .ok (.lstore 10, 2) := by decide +kernel
theorem dX12_insideOf_45 : decode cX12_insideOf 45 = .ok (.aload_n 0, 1) := by decide +kernel
theorem dX12_insideOf_46 : decode cX12_insideOf 46 = .ok (.getfield 189, 3) := by decide +kernel
theorem dX12_insideOf_49 : decode cX12_insideOf 49 = .ok (.aload_n 0, 1) := by decide +kernel
theorem dX12_insideOf_50 : decode cX12_insideOf 50 = .ok (.iload_n 1, 1) := by decide +kernel
theorem dX12_insideOf_51 : decode cX12_insideOf 51 = .ok (.iload 7, 2) := by decide +kernel
theorem dX12_insideOf_53 : decode cX12_insideOf 53 = .ok (.invokevirtual 731, 3) := by decide +kernel
theorem dX12_insideOf_56 : decode cX12_insideOf 56 = .ok (.laload, 1) := by decide +kernel
theorem dX12_insideOf_57 : decode cX12_insideOf 57 = .ok (.lstore 12, 2) := by decide +kernel
theorem dX12_insideOf_59 : decode cX12_insideOf 59 = .ok (.aload_n 0, 1) := by decide +kernel
theorem dX12_insideOf_60 : decode cX12_insideOf 60 = .ok (.getfield 192, 3) := by decide +kernel
theorem dX12_insideOf_63 : decode cX12_insideOf 63 = .ok (.aload_n 0, 1) := by decide +kernel
theorem dX12_insideOf_64 : decode cX12_insideOf 64 = .ok (.iload_n 1, 1) := by decide +kernel
theorem dX12_insideOf_65 : decode cX12_insideOf 65 = .ok (.iload 7, 2) := by decide +kernel
theorem dX12_insideOf_67 : decode cX12_insideOf 67 = .ok (.invokevirtual 731, 3) := by decide +kernel
theorem dX12_insideOf_70 : decode cX12_insideOf 70 = .ok (.laload, 1) := by decide +kernel
theorem dX12_insideOf_71 : decode cX12_insideOf 71 = .ok (.lstore 14, 2) := by decide +kernel
theorem dX12_insideOf_73 : decode cX12_insideOf 73 = .ok (.lload 12, 2) := by decide +kernel
theorem dX12_insideOf_75 : decode cX12_insideOf 75 = .ok (.lload 8, 2) := by decide +kernel
theorem dX12_insideOf_77 : decode cX12_insideOf 77 = .ok (.lsub, 1) := by decide +kernel
theorem dX12_insideOf_78 : decode cX12_insideOf 78 = .ok (.lload 4, 2) := by decide +kernel
theorem dX12_insideOf_80 : decode cX12_insideOf 80 = .ok (.lload 10, 2) := by decide +kernel
theorem dX12_insideOf_82 : decode cX12_insideOf 82 = .ok (.lsub, 1) := by decide +kernel
theorem dX12_insideOf_83 : decode cX12_insideOf 83 = .ok (.lmul, 1) := by decide +kernel
theorem dX12_insideOf_84 : decode cX12_insideOf 84 = .ok (.lload 14, 2) := by decide +kernel
theorem dX12_insideOf_86 : decode cX12_insideOf 86 = .ok (.lload 10, 2) := by decide +kernel
theorem dX12_insideOf_88 : decode cX12_insideOf 88 = .ok (.lsub, 1) := by decide +kernel
theorem dX12_insideOf_89 : decode cX12_insideOf 89 = .ok (.lload_n 2, 1) := by decide +kernel
theorem dX12_insideOf_90 : decode cX12_insideOf 90 = .ok (.lload 8, 2) := by decide +kernel
theorem dX12_insideOf_92 : decode cX12_insideOf 92 = .ok (.lsub, 1) := by decide +kernel
theorem dX12_insideOf_93 : decode cX12_insideOf 93 = .ok (.lmul, 1) := by decide +kernel
theorem dX12_insideOf_94 : decode cX12_insideOf 94 = .ok (.lsub, 1) := by decide +kernel
theorem dX12_insideOf_95 : decode cX12_insideOf 95 = .ok (.lstore 16, 2) := by decide +kernel
theorem dX12_insideOf_97 : decode cX12_insideOf 97 = .ok (.lload 8, 2) := by decide +kernel
theorem dX12_insideOf_99 : decode cX12_insideOf 99 = .ok (.lload 12, 2) := by decide +kernel
theorem dX12_insideOf_101 : decode cX12_insideOf 101 = .ok (.invokestatic 314, 3) := by decide +kernel
theorem dX12_insideOf_104 : decode cX12_insideOf 104 = .ok (.lload_n 2, 1) := by decide +kernel
theorem dX12_insideOf_105 : decode cX12_insideOf 105 = .ok (.lcmp, 1) := by decide +kernel
theorem dX12_insideOf_106 : decode cX12_insideOf 106 = .ok (.ifCond .gt 45, 3) := by decide +kernel
theorem dX12_insideOf_109 : decode cX12_insideOf 109 = .ok (.lload_n 2, 1) := by decide +kernel
theorem dX12_insideOf_110 : decode cX12_insideOf 110 = .ok (.lload 8, 2) := by decide +kernel
theorem dX12_insideOf_112 : decode cX12_insideOf 112 = .ok (.lload 12, 2) := by decide +kernel
theorem dX12_insideOf_114 : decode cX12_insideOf 114 = .ok (.invokestatic 317, 3) := by decide +kernel
theorem dX12_insideOf_117 : decode cX12_insideOf 117 = .ok (.lcmp, 1) := by decide +kernel
theorem dX12_insideOf_118 : decode cX12_insideOf 118 = .ok (.ifCond .gt 33, 3) := by decide +kernel
theorem dX12_insideOf_121 : decode cX12_insideOf 121 = .ok (.lload 10, 2) := by decide +kernel
theorem dX12_insideOf_123 : decode cX12_insideOf 123 = .ok (.lload 14, 2) := by decide +kernel
theorem dX12_insideOf_125 : decode cX12_insideOf 125 = .ok (.invokestatic 314, 3) := by decide +kernel
theorem dX12_insideOf_128 : decode cX12_insideOf 128 = .ok (.lload 4, 2) := by decide +kernel
theorem dX12_insideOf_130 : decode cX12_insideOf 130 = .ok (.lcmp, 1) := by decide +kernel
theorem dX12_insideOf_131 : decode cX12_insideOf 131 = .ok (.ifCond .gt 20, 3) := by decide +kernel
theorem dX12_insideOf_134 : decode cX12_insideOf 134 = .ok (.lload 4, 2) := by decide +kernel
theorem dX12_insideOf_136 : decode cX12_insideOf 136 = .ok (.lload 10, 2) := by decide +kernel
theorem dX12_insideOf_138 : decode cX12_insideOf 138 = .ok (.lload 14, 2) := by decide +kernel
theorem dX12_insideOf_140 : decode cX12_insideOf 140 = .ok (.invokestatic 317, 3) := by decide +kernel
theorem dX12_insideOf_143 : decode cX12_insideOf 143 = .ok (.lcmp, 1) := by decide +kernel
theorem dX12_insideOf_144 : decode cX12_insideOf 144 = .ok (.ifCond .gt 7, 3) := by decide +kernel
theorem dX12_insideOf_147 : decode cX12_insideOf 147 = .ok (.iconst 1, 1) := by decide +kernel
theorem dX12_insideOf_148 : decode cX12_insideOf 148 = .ok (.goto 4, 3) := by decide +kernel
theorem dX12_insideOf_151 : decode cX12_insideOf 151 = .ok (.iconst 0, 1) := by decide +kernel
theorem dX12_insideOf_152 : decode cX12_insideOf 152 = .ok (.istore 18, 2) := by decide +kernel
theorem dX12_insideOf_154 : decode cX12_insideOf 154 = .ok (.lload 16, 2) := by decide +kernel
theorem dX12_insideOf_156 : decode cX12_insideOf 156 = .ok (.lconst 0, 1) := by decide +kernel
theorem dX12_insideOf_157 : decode cX12_insideOf 157 = .ok (.lcmp, 1) := by decide +kernel
theorem dX12_insideOf_158 : decode cX12_insideOf 158 = .ok (.ifCond .ne 10, 3) := by decide +kernel
theorem dX12_insideOf_161 : decode cX12_insideOf 161 = .ok (.iload 18, 2) := by decide +kernel
theorem dX12_insideOf_163 : decode cX12_insideOf 163 = .ok (.ifCond .eq 5, 3) := by decide +kernel
theorem dX12_insideOf_166 : decode cX12_insideOf 166 = .ok (.iconst 2, 1) := by decide +kernel
theorem dX12_insideOf_167 : decode cX12_insideOf 167 = .ok (.ireturn, 1) := by decide +kernel
theorem dX12_insideOf_168 : decode cX12_insideOf 168 = .ok (.lload 10, 2) := by decide +kernel
theorem dX12_insideOf_170 : decode cX12_insideOf 170 = .ok (.lload 4, 2) := by decide +kernel
theorem dX12_insideOf_172 : decode cX12_insideOf 172 = .ok (.lcmp, 1) := by decide +kernel
theorem dX12_insideOf_173 : decode cX12_insideOf 173 = .ok (.ifCond .gt 21, 3) := by decide +kernel
theorem dX12_insideOf_176 : decode cX12_insideOf 176 = .ok (.lload 14, 2) := by decide +kernel
theorem dX12_insideOf_178 : decode cX12_insideOf 178 = .ok (.lload 4, 2) := by decide +kernel
theorem dX12_insideOf_180 : decode cX12_insideOf 180 = .ok (.lcmp, 1) := by decide +kernel
theorem dX12_insideOf_181 : decode cX12_insideOf 181 = .ok (.ifCond .le 13, 3) := by decide +kernel
theorem dX12_insideOf_184 : decode cX12_insideOf 184 = .ok (.lload 16, 2) := by decide +kernel
theorem dX12_insideOf_186 : decode cX12_insideOf 186 = .ok (.lconst 0, 1) := by decide +kernel
theorem dX12_insideOf_187 : decode cX12_insideOf 187 = .ok (.lcmp, 1) := by decide +kernel
theorem dX12_insideOf_188 : decode cX12_insideOf 188 = .ok (.ifCond .le 6, 3) := by decide +kernel
theorem dX12_insideOf_191 : decode cX12_insideOf 191 = .ok (.iinc 6 1, 3) := by decide +kernel
theorem dX12_insideOf_194 : decode cX12_insideOf 194 = .ok (.lload 10, 2) := by decide +kernel
theorem dX12_insideOf_196 : decode cX12_insideOf 196 = .ok (.lload 4, 2) := by decide +kernel
theorem dX12_insideOf_198 : decode cX12_insideOf 198 = .ok (.lcmp, 1) := by decide +kernel
theorem dX12_insideOf_199 : decode cX12_insideOf 199 = .ok (.ifCond .le 21, 3) := by decide +kernel
theorem dX12_insideOf_202 : decode cX12_insideOf 202 = .ok (.lload 14, 2) := by decide +kernel
theorem dX12_insideOf_204 : decode cX12_insideOf 204 = .ok (.lload 4, 2) := by decide +kernel
theorem dX12_insideOf_206 : decode cX12_insideOf 206 = .ok (.lcmp, 1) := by decide +kernel
theorem dX12_insideOf_207 : decode cX12_insideOf 207 = .ok (.ifCond .gt 13, 3) := by decide +kernel
theorem dX12_insideOf_210 : decode cX12_insideOf 210 = .ok (.lload 16, 2) := by decide +kernel
theorem dX12_insideOf_212 : decode cX12_insideOf 212 = .ok (.lconst 0, 1) := by decide +kernel
theorem dX12_insideOf_213 : decode cX12_insideOf 213 = .ok (.lcmp, 1) := by decide +kernel
theorem dX12_insideOf_214 : decode cX12_insideOf 214 = .ok (.ifCond .ge 6, 3) := by decide +kernel
theorem dX12_insideOf_217 : decode cX12_insideOf 217 = .ok (.iinc 6 (-1), 3) := by decide +kernel
theorem dX12_insideOf_220 : decode cX12_insideOf 220 = .ok (.iinc 7 1, 3) := by decide +kernel
theorem dX12_insideOf_223 : decode cX12_insideOf 223 = .ok (.goto (-217), 3) := by decide +kernel
theorem dX12_insideOf_226 : decode cX12_insideOf 226 = .ok (.iload 6, 2) := by decide +kernel
theorem dX12_insideOf_228 : decode cX12_insideOf 228 = .ok (.ifCond .eq 7, 3) := by decide +kernel
theorem dX12_insideOf_231 : decode cX12_insideOf 231 = .ok (.iconst 1, 1) := by decide +kernel
theorem dX12_insideOf_232 : decode cX12_insideOf 232 = .ok (.goto 4, 3) := by decide +kernel
theorem dX12_insideOf_235 : decode cX12_insideOf 235 = .ok (.iconst 0, 1) := by decide +kernel
theorem dX12_insideOf_236 : decode cX12_insideOf 236 = .ok (.ireturn, 1) := by decide +kernel
theorem dX12_inside_0 : decode cX12_inside 0 = .ok (.iload_n 1, 1) := by decide +kernel
theorem dX12_inside_1 : decode cX12_inside 1 = .ok (.i2l, 1) := by decide +kernel
theorem dX12_inside_2 : decode cX12_inside 2 = .ok (.lconst 0, 1) := by decide +kernel
theorem dX12_inside_3 : decode cX12_inside 3 = .ok (.ldc2_w 729, 3) := by decide +kernel
theorem dX12_inside_6 : decode cX12_inside 6 = .ok (.invokestatic 262, 3) := by decide +kernel
theorem dX12_inside_9 : decode cX12_inside 9 = .ok (.ifCond .eq 35, 3) := by decide +kernel
theorem dX12_inside_12 : decode cX12_inside 12 = .ok (.iload_n 2, 1) := by decide +kernel
theorem dX12_inside_13 : decode cX12_inside 13 = .ok (.i2l, 1) := by decide +kernel
theorem dX12_inside_14 : decode cX12_inside 14 = .ok (.ldc2_w 601, 3) := by decide +kernel
theorem dX12_inside_17 : decode cX12_inside 17 = .ok (.ldc2_w 603, 3) := by decide +kernel
theorem dX12_inside_20 : decode cX12_inside 20 = .ok (.invokestatic 262, 3) := by decide +kernel
theorem dX12_inside_23 : decode cX12_inside 23 = .ok (.ifCond .eq 21, 3) := by decide +kernel
theorem dX12_inside_26 : decode cX12_inside 26 = .ok (.iload_n 3, 1) := by decide +kernel
theorem dX12_inside_27 : decode cX12_inside 27 = .ok (.i2l, 1) := by decide +kernel
theorem dX12_inside_28 : decode cX12_inside 28 = .ok (.ldc2_w 601, 3) := by decide +kernel
theorem dX12_inside_31 : decode cX12_inside 31 = .ok (.ldc2_w 603, 3) := by decide +kernel
theorem dX12_inside_34 : decode cX12_inside 34 = .ok (.invokestatic 262, 3) := by decide +kernel
theorem dX12_inside_37 : decode cX12_inside 37 = .ok (.ifCond .eq 7, 3) := by decide +kernel
theorem dX12_inside_40 : decode cX12_inside 40 = .ok (.iconst 1, 1) := by decide +kernel
theorem dX12_inside_41 : decode cX12_inside 41 = .ok (.goto 4, 3) := by decide +kernel
theorem dX12_inside_44 : decode cX12_inside 44 = .ok (.iconst 0, 1) := by decide +kernel
theorem dX12_inside_45 : decode cX12_inside 45 = .ok (.istore 4, 2) := by decide +kernel
theorem dX12_inside_47 : decode cX12_inside 47 = .ok (.aload_n 0, 1) := by decide +kernel
theorem dX12_inside_48 : decode cX12_inside 48 = .ok (.iload 4, 2) := by decide +kernel
theorem dX12_inside_50 : decode cX12_inside 50 = .ok (.ifCond .ne 7, 3) := by decide +kernel
theorem dX12_inside_53 : decode cX12_inside 53 = .ok (.iconst 1, 1) := by decide +kernel
theorem dX12_inside_54 : decode cX12_inside 54 = .ok (.goto 18, 3) := by decide +kernel
theorem dX12_inside_57 : decode cX12_inside 57 = .ok (.aload_n 0, 1) := by decide +kernel
theorem dX12_inside_58 : decode cX12_inside 58 = .ok (.getfield 186, 3) := by decide +kernel
theorem dX12_inside_61 : decode cX12_inside 61 = .ok (.iload_n 1, 1) := by decide +kernel
theorem dX12_inside_62 : decode cX12_inside 62 = .ok (.iaload, 1) := by decide +kernel
theorem dX12_inside_63 : decode cX12_inside 63 = .ok (.iconst 3, 1) := by decide +kernel
theorem dX12_inside_64 : decode cX12_inside 64 = .ok (.if_icmp .ge 7, 3) := by decide +kernel
theorem dX12_inside_67 : decode cX12_inside 67 = .ok (.iconst 2, 1) := by decide +kernel
theorem dX12_inside_68 : decode cX12_inside 68 = .ok (.goto 4, 3) := by decide +kernel
theorem dX12_inside_71 : decode cX12_inside 71 = .ok (.iconst 0, 1) := by decide +kernel
theorem dX12_inside_72 : decode cX12_inside 72 = .ok (.putfield 243, 3) := by decide +kernel
theorem dX12_inside_75 : decode cX12_inside 75 = .ok (.aload_n 0, 1) := by decide +kernel
theorem dX12_inside_76 : decode cX12_inside 76 = .ok (.getfield 243, 3) := by decide +kernel
theorem dX12_inside_79 : decode cX12_inside 79 = .ok (.ifCond .le 7, 3) := by decide +kernel
theorem dX12_inside_82 : decode cX12_inside 82 = .ok (.iconst 0, 1) := by decide +kernel
theorem dX12_inside_83 : decode cX12_inside 83 = .ok (.goto 12, 3) := by decide +kernel
theorem dX12_inside_86 : decode cX12_inside 86 = .ok (.aload_n 0, 1) := by decide +kernel
theorem dX12_inside_87 : decode cX12_inside 87 = .ok (.iload_n 1, 1) := by decide +kernel
theorem dX12_inside_88 : decode cX12_inside 88 = .ok (.iload_n 2, 1) := by decide +kernel
theorem dX12_inside_89 : decode cX12_inside 89 = .ok (.i2l, 1) := by decide +kernel
theorem dX12_inside_90 : decode cX12_inside 90 = .ok (.iload_n 3, 1) := by decide +kernel
theorem dX12_inside_91 : decode cX12_inside 91 = .ok (.i2l, 1) := by decide +kernel
theorem dX12_inside_92 : decode cX12_inside 92 = .ok (.invokevirtual 758, 3) := by decide +kernel
theorem dX12_inside_95 : decode cX12_inside 95 = .ok (.ireturn, 1) := by decide +kernel
theorem dX12_touch_0 : decode cX12_touch 0 = .ok (.iconst 0, 1) := by decide +kernel
theorem dX12_touch_1 : decode cX12_touch 1 = .ok (.istore_n 3, 1) := by decide +kernel
theorem dX12_touch_2 : decode cX12_touch 2 = .ok (.iload_n 3, 1) := by decide +kernel
theorem dX12_touch_3 : decode cX12_touch 3 = .ok (.aload_n 0, 1) := by decide +kernel
theorem dX12_touch_4 : decode cX12_touch 4 = .ok (.getfield 186, 3) := by decide +kernel
theorem dX12_touch_7 : decode cX12_touch 7 = .ok (.iload_n 1, 1) := by decide +kernel
theorem dX12_touch_8 : decode cX12_touch 8 = .ok (.iaload, 1) := by decide +kernel
theorem dX12_touch_9 : decode cX12_touch 9 = .ok (.if_icmp .ge 96, 3) := by decide +kernel
theorem dX12_touch_12 : decode cX12_touch 12 = .ok (.aload_n 0, 1) := by decide +kernel
theorem dX12_touch_13 : decode cX12_touch 13 = .ok (.iload_n 2, 1) := by decide +kernel
theorem dX12_touch_14 : decode cX12_touch 14 = .ok (.aload_n 0, 1) := by decide +kernel
theorem dX12_touch_15 : decode cX12_touch 15 = .ok (.getfield 189, 3) := by decide +kernel
theorem dX12_touch_18 : decode cX12_touch 18 = .ok (.bipush 24, 2) := by decide +kernel
theorem dX12_touch_20 : decode cX12_touch 20 = .ok (.iload_n 1, 1) := by decide +kernel
theorem dX12_touch_21 : decode cX12_touch 21 = .ok (.imul, 1) := by decide +kernel
theorem dX12_touch_22 : decode cX12_touch 22 = .ok (.iload_n 3, 1) := by decide +kernel
theorem dX12_touch_23 : decode cX12_touch 23 = .ok (.iadd, 1) := by decide +kernel
theorem dX12_touch_24 : decode cX12_touch 24 = .ok (.laload, 1) := by decide +kernel
theorem dX12_touch_25 : decode cX12_touch 25 = .ok (.aload_n 0, 1) := by decide +kernel
theorem dX12_touch_26 : decode cX12_touch 26 = .ok (.getfield 192, 3) := by decide +kernel
theorem dX12_touch_29 : decode cX12_touch 29 = .ok (.bipush 24, 2) := by decide +kernel
theorem dX12_touch_31 : decode cX12_touch 31 = .ok (.iload_n 1, 1) := by decide +kernel
theorem dX12_touch_32 : decode cX12_touch 32 = .ok (.imul, 1) := by decide +kernel
theorem dX12_touch_33 : decode cX12_touch 33 = .ok (.iload_n 3, 1) := by decide +kernel
theorem dX12_touch_34 : decode cX12_touch 34 = .ok (.iadd, 1) := by decide +kernel
theorem dX12_touch_35 : decode cX12_touch 35 = .ok (.laload, 1) := by decide +kernel
theorem dX12_touch_36 : decode cX12_touch 36 = .ok (.invokevirtual 758, 3) := by decide +kernel
theorem dX12_touch_39 : decode cX12_touch 39 = .ok (.ifCond .le 5, 3) := by decide +kernel
theorem dX12_touch_42 : decode cX12_touch 42 = .ok (.iconst 1, 1) := by decide +kernel
theorem dX12_touch_43 : decode cX12_touch 43 = .ok (.ireturn, 1) := by decide +kernel
theorem dX12_touch_44 : decode cX12_touch 44 = .ok (.iconst 0, 1) := by decide +kernel
theorem dX12_touch_45 : decode cX12_touch 45 = .ok (.istore 4, 2) := by decide +kernel
theorem dX12_touch_47 : decode cX12_touch 47 = .ok (.iload 4, 2) := by decide +kernel
theorem dX12_touch_49 : decode cX12_touch 49 = .ok (.aload_n 0, 1) := by decide +kernel
theorem dX12_touch_50 : decode cX12_touch 50 = .ok (.getfield 186, 3) := by decide +kernel
theorem dX12_touch_53 : decode cX12_touch 53 = .ok (.iload_n 2, 1) := by decide +kernel
theorem dX12_touch_54 : decode cX12_touch 54 = .ok (.iaload, 1) := by decide +kernel
theorem dX12_touch_55 : decode cX12_touch 55 = .ok (.if_icmp .ge 44, 3) := by decide +kernel
theorem dX12_touch_58 : decode cX12_touch 58 = .ok (.aload_n 0, 1) := by decide +kernel
theorem dX12_touch_59 : decode cX12_touch 59 = .ok (.bipush 24, 2) := by decide +kernel
theorem dX12_touch_61 : decode cX12_touch 61 = .ok (.iload_n 1, 1) := by decide +kernel
theorem dX12_touch_62 : decode cX12_touch 62 = .ok (.imul, 1) := by decide +kernel
theorem dX12_touch_63 : decode cX12_touch 63 = .ok (.iload_n 3, 1) := by decide +kernel
theorem dX12_touch_64 : decode cX12_touch 64 = .ok (.iadd, 1) := by decide +kernel
theorem dX12_touch_65 : decode cX12_touch 65 = .ok (.aload_n 0, 1) := by decide +kernel
theorem dX12_touch_66 : decode cX12_touch 66 = .ok (.iload_n 1, 1) := by decide +kernel
theorem dX12_touch_67 : decode cX12_touch 67 = .ok (.iload_n 3, 1) := by decide +kernel
theorem dX12_touch_68 : decode cX12_touch 68 = .ok (.invokevirtual 731, 3) := by decide +kernel
theorem dX12_touch_71 : decode cX12_touch 71 = .ok (.bipush 24, 2) := by decide +kernel
theorem dX12_touch_73 : decode cX12_touch 73 = .ok (.iload_n 2, 1) := by decide +kernel
theorem dX12_touch_74 : decode cX12_touch 74 = .ok (.imul, 1) := by decide +kernel
theorem dX12_touch_75 : decode cX12_touch 75 = .ok (.iload 4, 2) := by decide +kernel
theorem dX12_touch_77 : decode cX12_touch 77 = .ok (.iadd, 1) := by decide +kernel
theorem dX12_touch_78 : decode cX12_touch 78 = .ok (.aload_n 0, 1) := by decide +kernel
theorem dX12_touch_79 : decode cX12_touch 79 = .ok (.iload_n 2, 1) := by decide +kernel
theorem dX12_touch_80 : decode cX12_touch 80 = .ok (.iload 4, 2) := by decide +kernel
theorem dX12_touch_82 : decode cX12_touch 82 = .ok (.invokevirtual 731, 3) := by decide +kernel
theorem dX12_touch_85 : decode cX12_touch 85 = .ok (.invokevirtual 754, 3) := by decide +kernel
theorem dX12_touch_88 : decode cX12_touch 88 = .ok (.ifCond .eq 5, 3) := by decide +kernel
theorem dX12_touch_91 : decode cX12_touch 91 = .ok (.iconst 1, 1) := by decide +kernel
theorem dX12_touch_92 : decode cX12_touch 92 = .ok (.ireturn, 1) := by decide +kernel
theorem dX12_touch_93 : decode cX12_touch 93 = .ok (.iinc 4 1, 3) := by decide +kernel
theorem dX12_touch_96 : decode cX12_touch 96 = .ok (.goto (-49), 3) := by decide +kernel
theorem dX12_touch_99 : decode cX12_touch 99 = .ok (.iinc 3 1, 3) := by decide +kernel
theorem dX12_touch_102 : decode cX12_touch 102 = .ok (.goto (-100), 3) := by decide +kernel
theorem dX12_touch_105 : decode cX12_touch 105 = .ok (.iconst 0, 1) := by decide +kernel
theorem dX12_touch_106 : decode cX12_touch 106 = .ok (.ireturn, 1) := by decide +kernel
theorem dX12_distances_0 : decode cX12_distances 0 = .ok (.iconst 0, 1) := by decide +kernel
theorem dX12_distances_1 : decode cX12_distances 1 = .ok (.istore_n 3, 1) := by decide +kernel
theorem dX12_distances_2 : decode cX12_distances 2 = .ok (.iload_n 3, 1) := by decide +kernel
theorem dX12_distances_3 : decode cX12_distances 3 = .ok (.aload_n 0, 1) := by decide +kernel
theorem dX12_distances_4 : decode cX12_distances 4 = .ok (.getfield 186, 3) := by decide +kernel
theorem dX12_distances_7 : decode cX12_distances 7 = .ok (.iload_n 1, 1) := by decide +kernel
theorem dX12_distances_8 : decode cX12_distances 8 = .ok (.iaload, 1) := by decide +kernel
theorem dX12_distances_9 : decode cX12_distances 9 = .ok (.if_icmp .ge 278, 3) := by decide +kernel
theorem dX12_distances_12 : decode cX12_distances 12 = .ok (.aload_n 0, 1) := by decide +kernel
theorem dX12_distances_13 : decode cX12_distances 13 = .ok (.getfield 189, 3) := by decide +kernel
theorem dX12_distances_16 : decode cX12_distances 16 = .ok (.bipush 24, 2) := by decide +kernel
theorem dX12_distances_18 : decode cX12_distances 18 = .ok (.iload_n 1, 1) := by decide +kernel
theorem dX12_distances_19 : decode cX12_distances 19 = .ok (.imul, 1) := by decide +kernel
theorem dX12_distances_20 : decode cX12_distances 20 = .ok (.iload_n 3, 1) := by decide +kernel
theorem dX12_distances_21 : decode cX12_distances 21 = .ok (.iadd, 1) := by decide +kernel
theorem dX12_distances_22 : decode cX12_distances 22 = .ok (.laload, 1) := by decide +kernel
theorem dX12_distances_23 : decode cX12_distances 23 = .ok (.lstore 4, 2) := by decide +kernel
theorem dX12_distances_25 : decode cX12_distances 25 = .ok (.aload_n 0, 1) := by decide +kernel
theorem dX12_distances_26 : decode cX12_distances 26 = .ok (.getfield 192, 3) := by decide +kernel
theorem dX12_distances_29 : decode cX12_distances 29 = .ok (.bipush 24, 2) := by decide +kernel
theorem dX12_distances_31 : decode cX12_distances 31 = .ok (.iload_n 1, 1) := by decide +kernel
theorem dX12_distances_32 : decode cX12_distances 32 = .ok (.imul, 1) := by decide +kernel
theorem dX12_distances_33 : decode cX12_distances 33 = .ok (.iload_n 3, 1) := by decide +kernel
theorem dX12_distances_34 : decode cX12_distances 34 = .ok (.iadd, 1) := by decide +kernel
theorem dX12_distances_35 : decode cX12_distances 35 = .ok (.laload, 1) := by decide +kernel
theorem dX12_distances_36 : decode cX12_distances 36 = .ok (.lstore 6, 2) := by decide +kernel
theorem dX12_distances_38 : decode cX12_distances 38 = .ok (.iconst 0, 1) := by decide +kernel
theorem dX12_distances_39 : decode cX12_distances 39 = .ok (.istore 8, 2) := by decide +kernel
theorem dX12_distances_41 : decode cX12_distances 41 = .ok (.iload 8, 2) := by decide +kernel
theorem dX12_distances_43 : decode cX12_distances 43 = .ok (.aload_n 0, 1) := by decide +kernel
theorem dX12_distances_44 : decode cX12_distances 44 = .ok (.getfield 186, 3) := by decide +kernel
theorem dX12_distances_47 : decode cX12_distances 47 = .ok (.iload_n 2, 1) := by decide +kernel
theorem dX12_distances_48 : decode cX12_distances 48 = .ok (.iaload, 1) := by decide +kernel
theorem dX12_distances_49 : decode cX12_distances 49 = .ok (.if_icmp .ge 232, 3) := by decide +kernel
theorem dX12_distances_52 : decode cX12_distances 52 = .ok (.aload_n 0, 1) := by decide +kernel
theorem dX12_distances_53 : decode cX12_distances 53 = .ok (.getfield 189, 3) := by decide +kernel
theorem dX12_distances_56 : decode cX12_distances 56 = .ok (.bipush 24, 2) := by decide +kernel
theorem dX12_distances_58 : decode cX12_distances 58 = .ok (.iload_n 2, 1) := by decide +kernel
theorem dX12_distances_59 : decode cX12_distances 59 = .ok (.imul, 1) := by decide +kernel
theorem dX12_distances_60 : decode cX12_distances 60 = .ok (.iload 8, 2) := by decide +kernel
theorem dX12_distances_62 : decode cX12_distances 62 = .ok (.iadd, 1) := by decide +kernel
theorem dX12_distances_63 : decode cX12_distances 63 = .ok (.laload, 1) := by decide +kernel
theorem dX12_distances_64 : decode cX12_distances 64 = .ok (.lstore 9, 2) := by decide +kernel
theorem dX12_distances_66 : decode cX12_distances 66 = .ok (.aload_n 0, 1) := by decide +kernel
theorem dX12_distances_67 : decode cX12_distances 67 = .ok (.getfield 192, 3) := by decide +kernel
theorem dX12_distances_70 : decode cX12_distances 70 = .ok (.bipush 24, 2) := by decide +kernel
theorem dX12_distances_72 : decode cX12_distances 72 = .ok (.iload_n 2, 1) := by decide +kernel
theorem dX12_distances_73 : decode cX12_distances 73 = .ok (.imul, 1) := by decide +kernel
theorem dX12_distances_74 : decode cX12_distances 74 = .ok (.iload 8, 2) := by decide +kernel
theorem dX12_distances_76 : decode cX12_distances 76 = .ok (.iadd, 1) := by decide +kernel
theorem dX12_distances_77 : decode cX12_distances 77 = .ok (.laload, 1) := by decide +kernel
theorem dX12_distances_78 : decode cX12_distances 78 = .ok (.lstore 11, 2) := by decide +kernel
theorem dX12_distances_80 : decode cX12_distances 80 = .ok (.aload_n 0, 1) := by decide +kernel
theorem dX12_distances_81 : decode cX12_distances 81 = .ok (.getfield 189, 3) := by decide +kernel
theorem dX12_distances_84 : decode cX12_distances 84 = .ok (.aload_n 0, 1) := by decide +kernel
theorem dX12_distances_85 : decode cX12_distances 85 = .ok (.iload_n 2, 1) := by decide +kernel
theorem dX12_distances_86 : decode cX12_distances 86 = .ok (.iload 8, 2) := by decide +kernel
theorem dX12_distances_88 : decode cX12_distances 88 = .ok (.invokevirtual 731, 3) := by decide +kernel
theorem dX12_distances_91 : decode cX12_distances 91 = .ok (.laload, 1) := by decide +kernel
theorem dX12_distances_92 : decode cX12_distances 92 = .ok (.lload 9, 2) := by decide +kernel
theorem dX12_distances_94 : decode cX12_distances 94 = .ok (.lsub, 1) := by decide +kernel
theorem dX12_distances_95 : decode cX12_distances 95 = .ok (.lstore 13, 2) := by decide +kernel
theorem dX12_distances_97 : decode cX12_distances 97 = .ok (.aload_n 0, 1) := by decide +kernel
theorem dX12_distances_98 : decode cX12_distances 98 = .ok (.getfield 192, 3) := by decide +kernel
theorem dX12_distances_101 : decode cX12_distances 101 = .ok (.aload_n 0, 1) := by decide +kernel
theorem dX12_distances_102 : decode cX12_distances 102 = .ok (.iload_n 2, 1) := by decide +kernel
theorem dX12_distances_103 : decode cX12_distances 103 = .ok (.iload 8, 2) := by decide +kernel
theorem dX12_distances_105 : decode cX12_distances 105 = .ok (.invokevirtual 731, 3) := by decide +kernel
theorem dX12_distances_108 : decode cX12_distances 108 = .ok (.laload, 1) := by decide +kernel
theorem dX12_distances_109 : decode cX12_distances 109 = .ok (.lload 11, 2) := by decide +kernel
theorem dX12_distances_111 : decode cX12_distances 111 = .ok (.lsub, 1) := by decide +kernel
theorem dX12_distances_112 : decode cX12_distances 112 = .ok (.lstore 15, 2) := by decide +kernel
theorem dX12_distances_114 : decode cX12_distances 114 = .ok (.lload 13, 2) := by decide +kernel
theorem dX12_distances_116 : decode cX12_distances 116 = .ok (.lload 13, 2) := by decide +kernel
theorem dX12_distances_118 : decode cX12_distances 118 = .ok (.lmul, 1) := by decide +kernel
theorem dX12_distances_119 : decode cX12_distances 119 = .ok (.lload 15, 2) := by decide +kernel
theorem dX12_distances_121 : decode cX12_distances 121 = .ok (.lload 15, 2) := by decide +kernel
theorem dX12_distances_123 : decode cX12_distances 123 = .ok (.lmul, 1) := by decide +kernel
theorem dX12_distances_124 : decode cX12_distances 124 = .ok (.ladd, 1) := by decide +kernel
theorem dX12_distances_125 : decode cX12_distances 125 = .ok (.lstore 17, 2) := by decide +kernel
theorem dX12_distances_127 : decode cX12_distances 127 = .ok (.lload 4, 2) := by decide +kernel
theorem dX12_distances_129 : decode cX12_distances 129 = .ok (.lload 9, 2) := by decide +kernel
theorem dX12_distances_131 : decode cX12_distances 131 = .ok (.lsub, 1) := by decide +kernel
theorem dX12_distances_132 : decode cX12_distances 132 = .ok (.lload 13, 2) := by decide +kernel
theorem dX12_distances_134 : decode cX12_distances 134 = .ok (.lmul, 1) := by decide +kernel
theorem dX12_distances_135 : decode cX12_distances 135 = .ok (.lload 6, 2) := by decide +kernel
theorem dX12_distances_137 : decode cX12_distances 137 = .ok (.lload 11, 2) := by decide +kernel
theorem dX12_distances_139 : decode cX12_distances 139 = .ok (.lsub, 1) := by decide +kernel
theorem dX12_distances_140 : decode cX12_distances 140 = .ok (.lload 15, 2) := by decide +kernel
theorem dX12_distances_142 : decode cX12_distances 142 = .ok (.lmul, 1) := by decide +kernel
theorem dX12_distances_143 : decode cX12_distances 143 = .ok (.ladd, 1) := by decide +kernel
theorem dX12_distances_144 : decode cX12_distances 144 = .ok (.lstore 19, 2) := by decide +kernel
theorem dX12_distances_146 : decode cX12_distances 146 = .ok (.lload 4, 2) := by decide +kernel
theorem dX12_distances_148 : decode cX12_distances 148 = .ok (.lload 9, 2) := by decide +kernel
theorem dX12_distances_150 : decode cX12_distances 150 = .ok (.lsub, 1) := by decide +kernel
theorem dX12_distances_151 : decode cX12_distances 151 = .ok (.lload 15, 2) := by decide +kernel
theorem dX12_distances_153 : decode cX12_distances 153 = .ok (.lmul, 1) := by decide +kernel
theorem dX12_distances_154 : decode cX12_distances 154 = .ok (.lload 6, 2) := by decide +kernel
theorem dX12_distances_156 : decode cX12_distances 156 = .ok (.lload 11, 2) := by decide +kernel
theorem dX12_distances_158 : decode cX12_distances 158 = .ok (.lsub, 1) := by decide +kernel
