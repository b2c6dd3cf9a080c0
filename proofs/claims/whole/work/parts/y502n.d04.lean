theorem dX12_divide_15 : decode cX12_divide 15 = .ok (.ifCond .ne 25, 3) := by decide +kernel
theorem dX12_divide_18 : decode cX12_divide 18 = .ok (.aload_n 0, 1) := by decide +kernel
theorem dX12_divide_19 : decode cX12_divide 19 = .ok (.getfield 13, 3) := by decide +kernel
theorem dX12_divide_22 : decode cX12_divide 22 = .ok (.iload_n 3, 1) := by decide +kernel
theorem dX12_divide_23 : decode cX12_divide 23 = .ok (.laload, 1) := by decide +kernel
theorem dX12_divide_24 : decode cX12_divide 24 = .ok (.lconst 0, 1) := by decide +kernel
theorem dX12_divide_25 : decode cX12_divide 25 = .ok (.lcmp, 1) := by decide +kernel
theorem dX12_divide_26 : decode cX12_divide 26 = .ok (.ifCond .gt 18, 3) := by decide +kernel
theorem dX12_divide_29 : decode cX12_divide 29 = .ok (.aload_n 0, 1) := by decide +kernel
theorem dX12_divide_30 : decode cX12_divide 30 = .ok (.getfield 17, 3) := by decide +kernel
theorem dX12_divide_33 : decode cX12_divide 33 = .ok (.iload_n 3, 1) := by decide +kernel
theorem dX12_divide_34 : decode cX12_divide 34 = .ok (.laload, 1) := by decide +kernel
theorem dX12_divide_35 : decode cX12_divide 35 = .ok (.lconst 0, 1) := by decide +kernel
theorem dX12_divide_36 : decode cX12_divide 36 = .ok (.lcmp, 1) := by decide +kernel
theorem dX12_divide_37 : decode cX12_divide 37 = .ok (.ifCond .lt 7, 3) := by decide +kernel
theorem dX12_divide_40 : decode cX12_divide 40 = .ok (.iconst 1, 1) := by decide +kernel
theorem dX12_divide_41 : decode cX12_divide 41 = .ok (.goto 4, 3) := by decide +kernel
theorem dX12_divide_44 : decode cX12_divide 44 = .ok (.iconst 0, 1) := by decide +kernel
theorem dX12_divide_45 : decode cX12_divide 45 = .ok (.istore 4, 2) := by decide +kernel
theorem dX12_divide_47 : decode cX12_divide 47 = .ok (.iload 4, 2) := by decide +kernel
theorem dX12_divide_49 : decode cX12_divide 49 = .ok (.ifCond .eq 12, 3) := by decide +kernel
theorem dX12_divide_52 : decode cX12_divide 52 = .ok (.aload_n 0, 1) := by decide +kernel
theorem dX12_divide_53 : decode cX12_divide 53 = .ok (.iload_n 1, 1) := by decide +kernel
theorem dX12_divide_54 : decode cX12_divide 54 = .ok (.lconst 0, 1) := by decide +kernel
theorem dX12_divide_55 : decode cX12_divide 55 = .ok (.lconst 0, 1) := by decide +kernel
theorem dX12_divide_56 : decode cX12_divide 56 = .ok (.iconst 1, 1) := by decide +kernel
theorem dX12_divide_57 : decode cX12_divide 57 = .ok (.invokevirtual 310, 3) := by decide +kernel
theorem dX12_divide_60 : decode cX12_divide 60 = .ok (.return_, 1) := by decide +kernel
theorem dX12_divide_61 : decode cX12_divide 61 = .ok (.ldc2_w 320, 3) := by decide +kernel
theorem dX12_divide_64 : decode cX12_divide 64 = .ok (.aload_n 0, 1) := by decide +kernel
theorem dX12_divide_65 : decode cX12_divide 65 = .ok (.getfield 13, 3) := by decide +kernel
theorem dX12_divide_68 : decode cX12_divide 68 = .ok (.iload_n 2, 1) := by decide +kernel
theorem dX12_divide_69 : decode cX12_divide 69 = .ok (.laload, 1) := by decide +kernel
theorem dX12_divide_70 : decode cX12_divide 70 = .ok (.lmul, 1) := by decide +kernel
theorem dX12_divide_71 : decode cX12_divide 71 = .ok (.lstore 5, 2) := by decide +kernel
theorem dX12_divide_73 : decode cX12_divide 73 = .ok (.ldc2_w 320, 3) := by decide +kernel
theorem dX12_divide_76 : decode cX12_divide 76 = .ok (.aload_n 0, 1) := by decide +kernel
theorem dX12_divide_77 : decode cX12_divide 77 = .ok (.getfield 17, 3) := by decide +kernel
theorem dX12_divide_80 : decode cX12_divide 80 = .ok (.iload_n 2, 1) := by decide +kernel
theorem dX12_divide_81 : decode cX12_divide 81 = .ok (.laload, 1) := by decide +kernel
theorem dX12_divide_82 : decode cX12_divide 82 = .ok (.lmul, 1) := by decide +kernel
theorem dX12_divide_83 : decode cX12_divide 83 = .ok (.lstore 7, 2) := by decide +kernel
theorem dX12_divide_85 : decode cX12_divide 85 = .ok (.lload 5, 2) := by decide +kernel
theorem dX12_divide_87 : decode cX12_divide 87 = .ok (.aload_n 0, 1) := by decide +kernel
theorem dX12_divide_88 : decode cX12_divide 88 = .ok (.getfield 13, 3) := by decide +kernel
theorem dX12_divide_91 : decode cX12_divide 91 = .ok (.iload_n 3, 1) := by decide +kernel
theorem dX12_divide_92 : decode cX12_divide 92 = .ok (.laload, 1) := by decide +kernel
theorem dX12_divide_93 : decode cX12_divide 93 = .ok (.invokestatic 247, 3) := by decide +kernel
theorem dX12_divide_96 : decode cX12_divide 96 = .ok (.lload 5, 2) := by decide +kernel
theorem dX12_divide_98 : decode cX12_divide 98 = .ok (.aload_n 0, 1) := by decide +kernel
theorem dX12_divide_99 : decode cX12_divide 99 = .ok (.getfield 17, 3) := by decide +kernel
theorem dX12_divide_102 : decode cX12_divide 102 = .ok (.iload_n 3, 1) := by decide +kernel
theorem dX12_divide_103 : decode cX12_divide 103 = .ok (.laload, 1) := by decide +kernel
theorem dX12_divide_104 : decode cX12_divide 104 = .ok (.invokestatic 247, 3) := by decide +kernel
theorem dX12_divide_107 : decode cX12_divide 107 = .ok (.invokestatic 314, 3) := by decide +kernel
theorem dX12_divide_110 : decode cX12_divide 110 = .ok (.lload 7, 2) := by decide +kernel
theorem dX12_divide_112 : decode cX12_divide 112 = .ok (.aload_n 0, 1) := by decide +kernel
theorem dX12_divide_113 : decode cX12_divide 113 = .ok (.getfield 13, 3) := by decide +kernel
theorem dX12_divide_116 : decode cX12_divide 116 = .ok (.iload_n 3, 1) := by decide +kernel
theorem dX12_divide_117 : decode cX12_divide 117 = .ok (.laload, 1) := by decide +kernel
theorem dX12_divide_118 : decode cX12_divide 118 = .ok (.invokestatic 247, 3) := by decide +kernel
theorem dX12_divide_121 : decode cX12_divide 121 = .ok (.lload 7, 2) := by decide +kernel
theorem dX12_divide_123 : decode cX12_divide 123 = .ok (.aload_n 0, 1) := by decide +kernel
theorem dX12_divide_124 : decode cX12_divide 124 = .ok (.getfield 17, 3) := by decide +kernel
theorem dX12_divide_127 : decode cX12_divide 127 = .ok (.iload_n 3, 1) := by decide +kernel
theorem dX12_divide_128 : decode cX12_divide 128 = .ok (.laload, 1) := by decide +kernel
theorem dX12_divide_129 : decode cX12_divide 129 = .ok (.invokestatic 247, 3) := by decide +kernel
theorem dX12_divide_132 : decode cX12_divide 132 = .ok (.invokestatic 314, 3) := by decide +kernel
theorem dX12_divide_135 : decode cX12_divide 135 = .ok (.invokestatic 314, 3) := by decide +kernel
theorem dX12_divide_138 : decode cX12_divide 138 = .ok (.lstore 9, 2) := by decide +kernel
theorem dX12_divide_140 : decode cX12_divide 140 = .ok (.lload 5, 2) := by decide +kernel
theorem dX12_divide_142 : decode cX12_divide 142 = .ok (.aload_n 0, 1) := by decide +kernel
theorem dX12_divide_143 : decode cX12_divide 143 = .ok (.getfield 13, 3) := by decide +kernel
theorem dX12_divide_146 : decode cX12_divide 146 = .ok (.iload_n 3, 1) := by decide +kernel
theorem dX12_divide_147 : decode cX12_divide 147 = .ok (.laload, 1) := by decide +kernel
theorem dX12_divide_148 : decode cX12_divide 148 = .ok (.invokestatic 322, 3) := by decide +kernel
theorem dX12_divide_151 : decode cX12_divide 151 = .ok (.lload 5, 2) := by decide +kernel
theorem dX12_divide_153 : decode cX12_divide 153 = .ok (.aload_n 0, 1) := by decide +kernel
theorem dX12_divide_154 : decode cX12_divide 154 = .ok (.getfield 17, 3) := by decide +kernel
theorem dX12_divide_157 : decode cX12_divide 157 = .ok (.iload_n 3, 1) := by decide +kernel
theorem dX12_divide_158 : decode cX12_divide 158 = .ok (.laload, 1) := by decide +kernel
theorem dX12_divide_159 : decode cX12_divide 159 = .ok (.invokestatic 322, 3) := by decide +kernel
theorem dX12_divide_162 : decode cX12_divide 162 = .ok (.invokestatic 317, 3) := by decide +kernel
theorem dX12_divide_165 : decode cX12_divide 165 = .ok (.lload 7, 2) := by decide +kernel
theorem dX12_divide_167 : decode cX12_divide 167 = .ok (.aload_n 0, 1) := by decide +kernel
theorem dX12_divide_168 : decode cX12_divide 168 = .ok (.getfield 13, 3) := by decide +kernel
theorem dX12_divide_171 : decode cX12_divide 171 = .ok (.iload_n 3, 1) := by decide +kernel
theorem dX12_divide_172 : decode cX12_divide 172 = .ok (.laload, 1) := by decide +kernel
theorem dX12_divide_173 : decode cX12_divide 173 = .ok (.invokestatic 322, 3) := by decide +kernel
theorem dX12_divide_176 : decode cX12_divide 176 = .ok (.lload 7, 2) := by decide +kernel
theorem dX12_divide_178 : decode cX12_divide 178 = .ok (.aload_n 0, 1) := by decide +kernel
theorem dX12_divide_179 : decode cX12_divide 179 = .ok (.getfield 17, 3) := by decide +kernel
theorem dX12_divide_182 : decode cX12_divide 182 = .ok (.iload_n 3, 1) := by decide +kernel
theorem dX12_divide_183 : decode cX12_divide 183 = .ok (.laload, 1) := by decide +kernel
theorem dX12_divide_184 : decode cX12_divide 184 = .ok (.invokestatic 322, 3) := by decide +kernel
theorem dX12_divide_187 : decode cX12_divide 187 = .ok (.invokestatic 317, 3) := by decide +kernel
theorem dX12_divide_190 : decode cX12_divide 190 = .ok (.invokestatic 317, 3) := by decide +kernel
theorem dX12_divide_193 : decode cX12_divide 193 = .ok (.lstore 11, 2) := by decide +kernel
theorem dX12_divide_195 : decode cX12_divide 195 = .ok (.aload_n 0, 1) := by decide +kernel
theorem dX12_divide_196 : decode cX12_divide 196 = .ok (.iload_n 1, 1) := by decide +kernel
theorem dX12_divide_197 : decode cX12_divide 197 = .ok (.lload 9, 2) := by decide +kernel
theorem dX12_divide_199 : decode cX12_divide 199 = .ok (.lload 11, 2) := by decide +kernel
theorem dX12_divide_201 : decode cX12_divide 201 = .ok (.iconst 0, 1) := by decide +kernel
theorem dX12_divide_202 : decode cX12_divide 202 = .ok (.invokevirtual 310, 3) := by decide +kernel
theorem dX12_divide_205 : decode cX12_divide 205 = .ok (.return_, 1) := by decide +kernel
theorem dX12_root_0 : decode cX12_root 0 = .ok (.lconst 0, 1) := by decide +kernel
theorem dX12_root_1 : decode cX12_root 1 = .ok (.lstore_n 2, 1) := by decide +kernel
theorem dX12_root_2 : decode cX12_root 2 = .ok (.ldc2_w 308, 3) := by decide +kernel
theorem dX12_root_5 : decode cX12_root 5 = .ok (.lstore 4, 2) := by decide +kernel
theorem dX12_root_7 : decode cX12_root 7 = .ok (.lload 4, 2) := by decide +kernel
theorem dX12_root_9 : decode cX12_root 9 = .ok (.lconst 0, 1) := by decide +kernel
theorem dX12_root_10 : decode cX12_root 10 = .ok (.lcmp, 1) := by decide +kernel
theorem dX12_root_11 : decode cX12_root 11 = .ok (.ifCond .le 33, 3) := by decide +kernel
theorem dX12_root_14 : decode cX12_root 14 = .ok (.lload_n 2, 1) := by decide +kernel
theorem dX12_root_15 : decode cX12_root 15 = .ok (.lload 4, 2) := by decide +kernel
theorem dX12_root_17 : decode cX12_root 17 = .ok (.ladd, 1) := by decide +kernel
theorem dX12_root_18 : decode cX12_root 18 = .ok (.lload_n 2, 1) := by decide +kernel
theorem dX12_root_19 : decode cX12_root 19 = .ok (.lload 4, 2) := by decide +kernel
theorem dX12_root_21 : decode cX12_root 21 = .ok (.ladd, 1) := by decide +kernel
theorem dX12_root_22 : decode cX12_root 22 = .ok (.lmul, 1) := by decide +kernel
theorem dX12_root_23 : decode cX12_root 23 = .ok (.lload_n 0, 1) := by decide +kernel
theorem dX12_root_24 : decode cX12_root 24 = .ok (.lcmp, 1) := by decide +kernel
theorem dX12_root_25 : decode cX12_root 25 = .ok (.ifCond .gt 8, 3) := by decide +kernel
theorem dX12_root_28 : decode cX12_root 28 = .ok (.lload_n 2, 1) := by decide +kernel
theorem dX12_root_29 : decode cX12_root 29 = .ok (.lload 4, 2) := by decide +kernel
theorem dX12_root_31 : decode cX12_root 31 = .ok (.ladd, 1) := by decide +kernel
theorem dX12_root_32 : decode cX12_root 32 = .ok (.lstore_n 2, 1) := by decide +kernel
theorem dX12_root_33 : decode cX12_root 33 = .ok (.lload 4, 2) := by decide +kernel
theorem dX12_root_35 : decode cX12_root 35 = .ok (.ldc2_w 325, 3) := by decide +kernel
theorem dX12_root_38 : decode cX12_root 38 = .ok (.ldiv, 1) := by decide +kernel
theorem dX12_root_39 : decode cX12_root 39 = .ok (.lstore 4, 2) := by decide +kernel
theorem dX12_root_41 : decode cX12_root 41 = .ok (.goto (-34), 3) := by decide +kernel
theorem dX12_root_44 : decode cX12_root 44 = .ok (.lload_n 2, 1) := by decide +kernel
theorem dX12_root_45 : decode cX12_root 45 = .ok (.lreturn, 1) := by decide +kernel
theorem dX12_rootOf_0 : decode cX12_rootOf 0 = .ok (.aload_n 0, 1) := by decide +kernel
theorem dX12_rootOf_1 : decode cX12_rootOf 1 = .ok (.getfield 20, 3) := by decide +kernel
theorem dX12_rootOf_4 : decode cX12_rootOf 4 = .ok (.iload_n 2, 1) := by decide +kernel
theorem dX12_rootOf_5 : decode cX12_rootOf 5 = .ok (.baload, 1) := by decide +kernel
theorem dX12_rootOf_6 : decode cX12_rootOf 6 = .ok (.ifCond .eq 12, 3) := by decide +kernel
theorem dX12_rootOf_9 : decode cX12_rootOf 9 = .ok (.aload_n 0, 1) := by decide +kernel
theorem dX12_rootOf_10 : decode cX12_rootOf 10 = .ok (.iload_n 1, 1) := by decide +kernel
theorem dX12_rootOf_11 : decode cX12_rootOf 11 = .ok (.lconst 0, 1) := by decide +kernel
theorem dX12_rootOf_12 : decode cX12_rootOf 12 = .ok (.lconst 0, 1) := by decide +kernel
theorem dX12_rootOf_13 : decode cX12_rootOf 13 = .ok (.iconst 1, 1) := by decide +kernel
theorem dX12_rootOf_14 : decode cX12_rootOf 14 = .ok (.invokevirtual 310, 3) := by decide +kernel
theorem dX12_rootOf_17 : decode cX12_rootOf 17 = .ok (.return_, 1) := by decide +kernel
theorem dX12_rootOf_18 : decode cX12_rootOf 18 = .ok (.ldc2_w 320, 3) := by decide +kernel
theorem dX12_rootOf_21 : decode cX12_rootOf 21 = .ok (.aload_n 0, 1) := by decide +kernel
theorem dX12_rootOf_22 : decode cX12_rootOf 22 = .ok (.getfield 13, 3) := by decide +kernel
theorem dX12_rootOf_25 : decode cX12_rootOf 25 = .ok (.iload_n 2, 1) := by decide +kernel
theorem dX12_rootOf_26 : decode cX12_rootOf 26 = .ok (.laload, 1) := by decide +kernel
theorem dX12_rootOf_27 : decode cX12_rootOf 27 = .ok (.lmul, 1) := by decide +kernel
theorem dX12_rootOf_28 : decode cX12_rootOf 28 = .ok (.invokestatic 327, 3) := by decide +kernel
theorem dX12_rootOf_31 : decode cX12_rootOf 31 = .ok (.lstore_n 3, 1) := by decide +kernel
theorem dX12_rootOf_32 : decode cX12_rootOf 32 = .ok (.ldc2_w 320, 3) := by decide +kernel
theorem dX12_rootOf_35 : decode cX12_rootOf 35 = .ok (.aload_n 0, 1) := by decide +kernel
theorem dX12_rootOf_36 : decode cX12_rootOf 36 = .ok (.getfield 17, 3) := by decide +kernel
theorem dX12_rootOf_39 : decode cX12_rootOf 39 = .ok (.iload_n 2, 1) := by decide +kernel
theorem dX12_rootOf_40 : decode cX12_rootOf 40 = .ok (.laload, 1) := by decide +kernel
theorem dX12_rootOf_41 : decode cX12_rootOf 41 = .ok (.lmul, 1) := by decide +kernel
theorem dX12_rootOf_42 : decode cX12_rootOf 42 = .ok (.invokestatic 327, 3) := by decide +kernel
theorem dX12_rootOf_45 : decode cX12_rootOf 45 = .ok (.lstore 5, 2) := by decide +kernel
theorem dX12_rootOf_47 : decode cX12_rootOf 47 = .ok (.lload 5, 2) := by decide +kernel
theorem dX12_rootOf_49 : decode cX12_rootOf 49 = .ok (.lload 5, 2) := by decide +kernel
theorem dX12_rootOf_51 : decode cX12_rootOf 51 = .ok (.lmul, 1) := by decide +kernel
theorem dX12_rootOf_52 : decode cX12_rootOf 52 = .ok (.ldc2_w 320, 3) := by decide +kernel
theorem dX12_rootOf_55 : decode cX12_rootOf 55 = .ok (.aload_n 0, 1) := by decide +kernel
theorem dX12_rootOf_56 : decode cX12_rootOf 56 = .ok (.getfield 17, 3) := by decide +kernel
theorem dX12_rootOf_59 : decode cX12_rootOf 59 = .ok (.iload_n 2, 1) := by decide +kernel
theorem dX12_rootOf_60 : decode cX12_rootOf 60 = .ok (.laload, 1) := by decide +kernel
theorem dX12_rootOf_61 : decode cX12_rootOf 61 = .ok (.lmul, 1) := by decide +kernel
theorem dX12_rootOf_62 : decode cX12_rootOf 62 = .ok (.lcmp, 1) := by decide +kernel
theorem dX12_rootOf_63 : decode cX12_rootOf 63 = .ok (.ifCond .ge 9, 3) := by decide +kernel
theorem dX12_rootOf_66 : decode cX12_rootOf 66 = .ok (.lload 5, 2) := by decide +kernel
theorem dX12_rootOf_68 : decode cX12_rootOf 68 = .ok (.lconst 1, 1) := by decide +kernel
theorem dX12_rootOf_69 : decode cX12_rootOf 69 = .ok (.ladd, 1) := by decide +kernel
theorem dX12_rootOf_70 : decode cX12_rootOf 70 = .ok (.lstore 5, 2) := by decide +kernel
theorem dX12_rootOf_72 : decode cX12_rootOf 72 = .ok (.aload_n 0, 1) := by decide +kernel
theorem dX12_rootOf_73 : decode cX12_rootOf 73 = .ok (.iload_n 1, 1) := by decide +kernel
theorem dX12_rootOf_74 : decode cX12_rootOf 74 = .ok (.lload_n 3, 1) := by decide +kernel
theorem dX12_rootOf_75 : decode cX12_rootOf 75 = .ok (.lload 5, 2) := by decide +kernel
theorem dX12_rootOf_77 : decode cX12_rootOf 77 = .ok (.iconst 0, 1) := by decide +kernel
theorem dX12_rootOf_78 : decode cX12_rootOf 78 = .ok (.invokevirtual 310, 3) := by decide +kernel
theorem dX12_rootOf_81 : decode cX12_rootOf 81 = .ok (.return_, 1) := by decide +kernel
theorem dX12_fraction_0 : decode cX12_fraction 0 = .ok (.aload_n 0, 1) := by decide +kernel
theorem dX12_fraction_1 : decode cX12_fraction 1 = .ok (.iload_n 1, 1) := by decide +kernel
theorem dX12_fraction_2 : decode cX12_fraction 2 = .ok (.ldc2_w 320, 3) := by decide +kernel
theorem dX12_fraction_5 : decode cX12_fraction 5 = .ok (.lload_n 2, 1) := by decide +kernel
theorem dX12_fraction_6 : decode cX12_fraction 6 = .ok (.lmul, 1) := by decide +kernel
theorem dX12_fraction_7 : decode cX12_fraction 7 = .ok (.lload 4, 2) := by decide +kernel
theorem dX12_fraction_9 : decode cX12_fraction 9 = .ok (.invokestatic 247, 3) := by decide +kernel
theorem dX12_fraction_12 : decode cX12_fraction 12 = .ok (.ldc2_w 320, 3) := by decide +kernel
theorem dX12_fraction_15 : decode cX12_fraction 15 = .ok (.lload_n 2, 1) := by decide +kernel
theorem dX12_fraction_16 : decode cX12_fraction 16 = .ok (.lmul, 1) := by decide +kernel
theorem dX12_fraction_17 : decode cX12_fraction 17 = .ok (.lload 4, 2) := by decide +kernel
theorem dX12_fraction_19 : decode cX12_fraction 19 = .ok (.invokestatic 322, 3) := by decide +kernel
theorem dX12_fraction_22 : decode cX12_fraction 22 = .ok (.iconst 0, 1) := by decide +kernel
theorem dX12_fraction_23 : decode cX12_fraction 23 = .ok (.invokevirtual 310, 3) := by decide +kernel
theorem dX12_fraction_26 : decode cX12_fraction 26 = .ok (.return_, 1) := by decide +kernel
theorem dX12_whole_0 : decode cX12_whole 0 = .ok (.aload_n 0, 1) := by decide +kernel
theorem dX12_whole_1 : decode cX12_whole 1 = .ok (.iload_n 1, 1) := by decide +kernel
theorem dX12_whole_2 : decode cX12_whole 2 = .ok (.lload_n 2, 1) := by decide +kernel
theorem dX12_whole_3 : decode cX12_whole 3 = .ok (.lconst 0, 1) := by decide +kernel
theorem dX12_whole_4 : decode cX12_whole 4 = .ok (.lcmp, 1) := by decide +kernel
theorem dX12_whole_5 : decode cX12_whole 5 = .ok (.ifCond .ge 15, 3) := by decide +kernel
theorem dX12_whole_8 : decode cX12_whole 8 = .ok (.lload_n 2, 1) := by decide +kernel
theorem dX12_whole_9 : decode cX12_whole 9 = .ok (.aload_n 0, 1) := by decide +kernel
theorem dX12_whole_10 : decode cX12_whole 10 = .ok (.getfield 17, 3) := by decide +kernel
theorem dX12_whole_13 : decode cX12_whole 13 = .ok (.iload 4, 2) := by decide +kernel
theorem dX12_whole_15 : decode cX12_whole 15 = .ok (.laload, 1) := by decide +kernel
theorem dX12_whole_16 : decode cX12_whole 16 = .ok (.lmul, 1) := by decide +kernel
theorem dX12_whole_17 : decode cX12_whole 17 = .ok (.goto 12, 3) := by decide +kernel
theorem dX12_whole_20 : decode cX12_whole 20 = .ok (.lload_n 2, 1) := by decide +kernel
theorem dX12_whole_21 : decode cX12_whole 21 = .ok (.aload_n 0, 1) := by decide +kernel
theorem dX12_whole_22 : decode cX12_whole 22 = .ok (.getfield 13, 3) := by decide +kernel
theorem dX12_whole_25 : decode cX12_whole 25 = .ok (.iload 4, 2) := by decide +kernel
theorem dX12_whole_27 : decode cX12_whole 27 = .ok (.laload, 1) := by decide +kernel
theorem dX12_whole_28 : decode cX12_whole 28 = .ok (.lmul, 1) := by decide +kernel
theorem dX12_whole_29 : decode cX12_whole 29 = .ok (.lload_n 2, 1) := by decide +kernel
theorem dX12_whole_30 : decode cX12_whole 30 = .ok (.lconst 0, 1) := by decide +kernel
theorem dX12_whole_31 : decode cX12_whole 31 = .ok (.lcmp, 1) := by decide +kernel
theorem dX12_whole_32 : decode cX12_whole 32 = .ok (.ifCond .ge 15, 3) := by decide +kernel
theorem dX12_whole_35 : decode cX12_whole 35 = .ok (.lload_n 2, 1) := by decide +kernel
theorem dX12_whole_36 : decode cX12_whole 36 = .ok (.aload_n 0, 1) := by decide +kernel
theorem dX12_whole_37 : decode cX12_whole 37 = .ok (.getfield 13, 3) := by decide +kernel
theorem dX12_whole_40 : decode cX12_whole 40 = .ok (.iload 4, 2) := by decide +kernel
theorem dX12_whole_42 : decode cX12_whole 42 = .ok (.laload, 1) := by decide +kernel
theorem dX12_whole_43 : decode cX12_whole 43 = .ok (.lmul, 1) := by decide +kernel
theorem dX12_whole_44 : decode cX12_whole 44 = .ok (.goto 12, 3) := by decide +kernel
theorem dX12_whole_47 : decode cX12_whole 47 = .ok (.lload_n 2, 1) := by decide +kernel
theorem dX12_whole_48 : decode cX12_whole 48 = .ok (.aload_n 0, 1) := by decide +kernel
theorem dX12_whole_49 : decode cX12_whole 49 = .ok (.getfield 17, 3) := by decide +kernel
theorem dX12_whole_52 : decode cX12_whole 52 = .ok (.iload 4, 2) := by decide +kernel
theorem dX12_whole_54 : decode cX12_whole 54 = .ok (.laload, 1) := by decide +kernel
theorem dX12_whole_55 : decode cX12_whole 55 = .ok (.lmul, 1) := by decide +kernel
theorem dX12_whole_56 : decode cX12_whole 56 = .ok (.aload_n 0, 1) := by decide +kernel
theorem dX12_whole_57 : decode cX12_whole 57 = .ok (.getfield 20, 3) := by decide +kernel
theorem dX12_whole_60 : decode cX12_whole 60 = .ok (.iload 4, 2) := by decide +kernel
theorem dX12_whole_62 : decode cX12_whole 62 = .ok (.baload, 1) := by decide +kernel
theorem dX12_whole_63 : decode cX12_whole 63 = .ok (.invokevirtual 310, 3) := by decide +kernel
theorem dX12_whole_66 : decode cX12_whole 66 = .ok (.return_, 1) := by decide +kernel
theorem dX12_half_0 : decode cX12_half 0 = .ok (.aload_n 0, 1) := by decide +kernel
theorem dX12_half_1 : decode cX12_half 1 = .ok (.iload_n 1, 1) := by decide +kernel
theorem dX12_half_2 : decode cX12_half 2 = .ok (.aload_n 0, 1) := by decide +kernel
theorem dX12_half_3 : decode cX12_half 3 = .ok (.getfield 13, 3) := by decide +kernel
theorem dX12_half_6 : decode cX12_half 6 = .ok (.iload_n 2, 1) := by decide +kernel
theorem dX12_half_7 : decode cX12_half 7 = .ok (.laload, 1) := by decide +kernel
theorem dX12_half_8 : decode cX12_half 8 = .ok (.ldc2_w 325, 3) := by decide +kernel
theorem dX12_half_11 : decode cX12_half 11 = .ok (.invokestatic 247, 3) := by decide +kernel
theorem dX12_half_14 : decode cX12_half 14 = .ok (.aload_n 0, 1) := by decide +kernel
theorem dX12_half_15 : decode cX12_half 15 = .ok (.getfield 17, 3) := by decide +kernel
theorem dX12_half_18 : decode cX12_half 18 = .ok (.iload_n 2, 1) := by decide +kernel
theorem dX12_half_19 : decode cX12_half 19 = .ok (.laload, 1) := by decide +kernel
theorem dX12_half_20 : decode cX12_half 20 = .ok (.ldc2_w 325, 3) := by decide +kernel
theorem dX12_half_23 : decode cX12_half 23 = .ok (.invokestatic 322, 3) := by decide +kernel
theorem dX12_half_26 : decode cX12_half 26 = .ok (.aload_n 0, 1) := by decide +kernel
theorem dX12_half_27 : decode cX12_half 27 = .ok (.getfield 20, 3) := by decide +kernel
theorem dX12_half_30 : decode cX12_half 30 = .ok (.iload_n 2, 1) := by decide +kernel
theorem dX12_half_31 : decode cX12_half 31 = .ok (.baload, 1) := by decide +kernel
theorem dX12_half_32 : decode cX12_half 32 = .ok (.invokevirtual 310, 3) := by decide +kernel
theorem dX12_half_35 : decode cX12_half 35 = .ok (.return_, 1) := by decide +kernel
theorem dX12_look_0 : decode cX12_look 0 = .ok (.iload_n 1, 1) := by decide +kernel
theorem dX12_look_1 : decode cX12_look 1 = .ok (.aload_n 0, 1) := by decide +kernel
theorem dX12_look_2 : decode cX12_look 2 = .ok (.getfield 272, 3) := by decide +kernel
theorem dX12_look_5 : decode cX12_look 5 = .ok (.if_icmp .ge 12, 3) := by decide +kernel
theorem dX12_look_8 : decode cX12_look 8 = .ok (.aload_n 0, 1) := by decide +kernel
theorem dX12_look_9 : decode cX12_look 9 = .ok (.getfield 7, 3) := by decide +kernel
theorem dX12_look_12 : decode cX12_look 12 = .ok (.iload_n 1, 1) := by decide +kernel
theorem dX12_look_13 : decode cX12_look 13 = .ok (.iaload, 1) := by decide +kernel
theorem dX12_look_14 : decode cX12_look 14 = .ok (.goto 4, 3) := by decide +kernel
theorem dX12_look_17 : decode cX12_look 17 = .ok (.iconst (-1), 1) := by decide +kernel
theorem dX12_look_18 : decode cX12_look 18 = .ok (.ireturn, 1) := by decide +kernel
theorem dX12_isDigit_0 : decode cX12_isDigit 0 = .ok (.iload_n 0, 1) := by decide +kernel
theorem dX12_isDigit_1 : decode cX12_isDigit 1 = .ok (.bipush 48, 2) := by decide +kernel
theorem dX12_isDigit_3 : decode cX12_isDigit 3 = .ok (.if_icmp .lt 13, 3) := by decide +kernel
theorem dX12_isDigit_6 : decode cX12_isDigit 6 = .ok (.iload_n 0, 1) := by decide +kernel
theorem dX12_isDigit_7 : decode cX12_isDigit 7 = .ok (.bipush 57, 2) := by decide +kernel
theorem dX12_isDigit_9 : decode cX12_isDigit 9 = .ok (.if_icmp .gt 7, 3) := by decide +kernel
theorem dX12_isDigit_12 : decode cX12_isDigit 12 = .ok (.iconst 1, 1) := by decide +kernel
theorem dX12_isDigit_13 : decode cX12_isDigit 13 = .ok (.goto 4, 3) := by decide +kernel
theorem dX12_isDigit_16 : decode cX12_isDigit 16 = .ok (.iconst 0, 1) := by decide +kernel
theorem dX12_isDigit_17 : decode cX12_isDigit 17 = .ok (.ireturn, 1) := by decide +kernel
theorem dX12_isLetter_0 : decode cX12_isLetter 0 = .ok (.iload_n 0, 1) := by decide +kernel
theorem dX12_isLetter_1 : decode cX12_isLetter 1 = .ok (.bipush 97, 2) := by decide +kernel
theorem dX12_isLetter_3 : decode cX12_isLetter 3 = .ok (.if_icmp .lt 9, 3) := by decide +kernel
theorem dX12_isLetter_6 : decode cX12_isLetter 6 = .ok (.iload_n 0, 1) := by decide +kernel
theorem dX12_isLetter_7 : decode cX12_isLetter 7 = .ok (.bipush 122, 2) := by decide +kernel
theorem dX12_isLetter_9 : decode cX12_isLetter 9 = .ok (.if_icmp .le 15, 3) := by decide +kernel
theorem dX12_isLetter_12 : decode cX12_isLetter 12 = .ok (.iload_n 0, 1) := by decide +kernel
theorem dX12_isLetter_13 : decode cX12_isLetter 13 = .ok (.bipush 65, 2) := by decide +kernel
theorem dX12_isLetter_15 : decode cX12_isLetter 15 = .ok (.if_icmp .lt 13, 3) := by decide +kernel
theorem dX12_isLetter_18 : decode cX12_isLetter 18 = .ok (.iload_n 0, 1) := by decide +kernel
theorem dX12_isLetter_19 : decode cX12_isLetter 19 = .ok (.bipush 90, 2) := by decide +kernel
theorem dX12_isLetter_21 : decode cX12_isLetter 21 = .ok (.if_icmp .gt 7, 3) := by decide +kernel
theorem dX12_isLetter_24 : decode cX12_isLetter 24 = .ok (.iconst 1, 1) := by decide +kernel
theorem dX12_isLetter_25 : decode cX12_isLetter 25 = .ok (.goto 4, 3) := by decide +kernel
theorem dX12_isLetter_28 : decode cX12_isLetter 28 = .ok (.iconst 0, 1) := by decide +kernel
theorem dX12_isLetter_29 : decode cX12_isLetter 29 = .ok (.ireturn, 1) := by decide +kernel
theorem dX12_scan_0 : decode cX12_scan 0 = .ok (.aload_n 0, 1) := by decide +kernel
theorem dX12_scan_1 : decode cX12_scan 1 = .ok (.aload_n 0, 1) := by decide +kernel
theorem dX12_scan_2 : decode cX12_scan 2 = .ok (.getfield 330, 3) := by decide +kernel
theorem dX12_scan_5 : decode cX12_scan 5 = .ok (.invokevirtual 333, 3) := by decide +kernel
theorem dX12_scan_8 : decode cX12_scan 8 = .ok (.bipush 9, 2) := by decide +kernel
theorem dX12_scan_10 : decode cX12_scan 10 = .ok (.if_icmp .eq 42, 3) := by decide +kernel
theorem dX12_scan_13 : decode cX12_scan 13 = .ok (.aload_n 0, 1) := by decide +kernel
theorem dX12_scan_14 : decode cX12_scan 14 = .ok (.aload_n 0, 1) := by decide +kernel
theorem dX12_scan_15 : decode cX12_scan 15 = .ok (.getfield 330, 3) := by decide +kernel
theorem dX12_scan_18 : decode cX12_scan 18 = .ok (.invokevirtual 333, 3) := by decide +kernel
theorem dX12_scan_21 : decode cX12_scan 21 = .ok (.bipush 10, 2) := by decide +kernel
theorem dX12_scan_23 : decode cX12_scan 23 = .ok (.if_icmp .eq 29, 3) := by decide +kernel
theorem dX12_scan_26 : decode cX12_scan 26 = .ok (.aload_n 0, 1) := by decide +kernel
theorem dX12_scan_27 : decode cX12_scan 27 = .ok (.aload_n 0, 1) := by decide +kernel
theorem dX12_scan_28 : decode cX12_scan 28 = .ok (.getfield 330, 3) := by decide +kernel
theorem dX12_scan_31 : decode cX12_scan 31 = .ok (.invokevirtual 333, 3) := by decide +kernel
theorem dX12_scan_34 : decode cX12_scan 34 = .ok (.bipush 13, 2) := by decide +kernel
theorem dX12_scan_36 : decode cX12_scan 36 = .ok (.if_icmp .eq 16, 3) := by decide +kernel
theorem dX12_scan_39 : decode cX12_scan 39 = .ok (.aload_n 0, 1) := by decide +kernel
theorem dX12_scan_40 : decode cX12_scan 40 = .ok (.aload_n 0, 1) := by decide +kernel
theorem dX12_scan_41 : decode cX12_scan 41 = .ok (.getfield 330, 3) := by decide +kernel
theorem dX12_scan_44 : decode cX12_scan 44 = .ok (.invokevirtual 333, 3) := by decide +kernel
theorem dX12_scan_47 : decode cX12_scan 47 = .ok (.bipush 32, 2) := by decide +kernel
theorem dX12_scan_49 : decode cX12_scan 49 = .ok (.if_icmp .ne 16, 3) := by decide +kernel
theorem dX12_scan_52 : decode cX12_scan 52 = .ok (.aload_n 0, 1) := by decide +kernel
theorem dX12_scan_53 : decode cX12_scan 53 = .ok (.dup, 1) := by decide +kernel
theorem dX12_scan_54 : decode cX12_scan 54 = .ok (.getfield 330, 3) := by decide +kernel
theorem dX12_scan_57 : decode cX12_scan 57 = .ok (.iconst 1, 1) := by decide +kernel
theorem dX12_scan_58 : decode cX12_scan 58 = .ok (.iadd, 1) := by decide +kernel
theorem dX12_scan_59 : decode cX12_scan 59 = .ok (.putfield 330, 3) := by decide +kernel
theorem dX12_scan_62 : decode cX12_scan 62 = .ok (.goto (-62), 3) := by decide +kernel
theorem dX12_scan_65 : decode cX12_scan 65 = .ok (.aload_n 0, 1) := by decide +kernel
theorem dX12_scan_66 : decode cX12_scan 66 = .ok (.aload_n 0, 1) := by decide +kernel
theorem dX12_scan_67 : decode cX12_scan 67 = .ok (.getfield 330, 3) := by decide +kernel
theorem dX12_scan_70 : decode cX12_scan 70 = .ok (.putfield 337, 3) := by decide +kernel
theorem dX12_scan_73 : decode cX12_scan 73 = .ok (.aload_n 0, 1) := by decide +kernel
theorem dX12_scan_74 : decode cX12_scan 74 = .ok (.aload_n 0, 1) := by decide +kernel
theorem dX12_scan_75 : decode cX12_scan 75 = .ok (.getfield 330, 3) := by decide +kernel
theorem dX12_scan_78 : decode cX12_scan 78 = .ok (.invokevirtual 333, 3) := by decide +kernel
theorem dX12_scan_81 : decode cX12_scan 81 = .ok (.istore_n 1, 1) := by decide +kernel
theorem dX12_scan_82 : decode cX12_scan 82 = .ok (.iload_n 1, 1) := by decide +kernel
theorem dX12_scan_83 : decode cX12_scan 83 = .ok (.ifCond .ge 11, 3) := by decide +kernel
theorem dX12_scan_86 : decode cX12_scan 86 = .ok (.aload_n 0, 1) := by decide +kernel
theorem dX12_scan_87 : decode cX12_scan 87 = .ok (.iconst 0, 1) := by decide +kernel
theorem dX12_scan_88 : decode cX12_scan 88 = .ok (.putfield 340, 3) := by decide +kernel
theorem dX12_scan_91 : decode cX12_scan 91 = .ok (.goto 142, 3) := by decide +kernel
theorem dX12_scan_94 : decode cX12_scan 94 = .ok (.iload_n 1, 1) := by decide +kernel
theorem dX12_scan_95 : decode cX12_scan 95 = .ok (.invokestatic 343, 3) := by decide +kernel
theorem dX12_scan_98 : decode cX12_scan 98 = .ok (.ifCond .eq 52, 3) := by decide +kernel
theorem dX12_scan_101 : decode cX12_scan 101 = .ok (.aload_n 0, 1) := by decide +kernel
theorem dX12_scan_102 : decode cX12_scan 102 = .ok (.getfield 330, 3) := by decide +kernel
theorem dX12_scan_105 : decode cX12_scan 105 = .ok (.aload_n 0, 1) := by decide +kernel
theorem dX12_scan_106 : decode cX12_scan 106 = .ok (.getfield 337, 3) := by decide +kernel
theorem dX12_scan_109 : decode cX12_scan 109 = .ok (.isub, 1) := by decide +kernel
theorem dX12_scan_110 : decode cX12_scan 110 = .ok (.bipush 8, 2) := by decide +kernel
theorem dX12_scan_112 : decode cX12_scan 112 = .ok (.if_icmp .ge 30, 3) := by decide +kernel
theorem dX12_scan_115 : decode cX12_scan 115 = .ok (.aload_n 0, 1) := by decide +kernel
theorem dX12_scan_116 : decode cX12_scan 116 = .ok (.aload_n 0, 1) := by decide +kernel
theorem dX12_scan_117 : decode cX12_scan 117 = .ok (.getfield 330, 3) := by decide +kernel
theorem dX12_scan_120 : decode cX12_scan 120 = .ok (.invokevirtual 333, 3) := by decide +kernel
theorem dX12_scan_123 : decode cX12_scan 123 = .ok (.invokestatic 343, 3) := by decide +kernel
theorem dX12_scan_126 : decode cX12_scan 126 = .ok (.ifCond .eq 16, 3) := by decide +kernel
theorem dX12_scan_129 : decode cX12_scan 129 = .ok (.aload_n 0, 1) := by decide +kernel
theorem dX12_scan_130 : decode cX12_scan 130 = .ok (.dup, 1) := by decide +kernel
theorem dX12_scan_131 : decode cX12_scan 131 = .ok (.getfield 330, 3) := by decide +kernel
theorem dX12_scan_134 : decode cX12_scan 134 = .ok (.iconst 1, 1) := by decide +kernel
theorem dX12_scan_135 : decode cX12_scan 135 = .ok (.iadd, 1) := by decide +kernel
theorem dX12_scan_136 : decode cX12_scan 136 = .ok (.putfield 330, 3) := by decide +kernel
theorem dX12_scan_139 : decode cX12_scan 139 = .ok (.goto (-38), 3) := by decide +kernel
theorem dX12_scan_142 : decode cX12_scan 142 = .ok (.aload_n 0, 1) := by decide +kernel
theorem dX12_scan_143 : decode cX12_scan 143 = .ok (.iconst 1, 1) := by decide +kernel
theorem dX12_scan_144 : decode cX12_scan 144 = .ok (.putfield 340, 3) := by decide +kernel
theorem dX12_scan_147 : decode cX12_scan 147 = .ok (.goto 86, 3) := by decide +kernel
theorem dX12_scan_150 : decode cX12_scan 150 = .ok (.iload_n 1, 1) := by decide +kernel
theorem dX12_scan_151 : decode cX12_scan 151 = .ok (.invokestatic 347, 3) := by decide +kernel
theorem dX12_scan_154 : decode cX12_scan 154 = .ok (.ifCond .ne 25, 3) := by decide +kernel
theorem dX12_scan_157 : decode cX12_scan 157 = .ok (.iload_n 1, 1) := by decide +kernel
theorem dX12_scan_158 : decode cX12_scan 158 = .ok (.bipush 45, 2) := by decide +kernel
theorem dX12_scan_160 : decode cX12_scan 160 = .ok (.if_icmp .ne 26, 3) := by decide +kernel
theorem dX12_scan_163 : decode cX12_scan 163 = .ok (.aload_n 0, 1) := by decide +kernel
theorem dX12_scan_164 : decode cX12_scan 164 = .ok (.aload_n 0, 1) := by decide +kernel
theorem dX12_scan_165 : decode cX12_scan 165 = .ok (.getfield 330, 3) := by decide +kernel
theorem dX12_scan_168 : decode cX12_scan 168 = .ok (.iconst 1, 1) := by decide +kernel
theorem dX12_scan_169 : decode cX12_scan 169 = .ok (.iadd, 1) := by decide +kernel
theorem dX12_scan_170 : decode cX12_scan 170 = .ok (.invokevirtual 333, 3) := by decide +kernel
theorem dX12_scan_173 : decode cX12_scan 173 = .ok (.invokestatic 347, 3) := by decide +kernel
theorem dX12_scan_176 : decode cX12_scan 176 = .ok (.ifCond .eq 10, 3) := by decide +kernel
theorem dX12_scan_179 : decode cX12_scan 179 = .ok (.aload_n 0, 1) := by decide +kernel
theorem dX12_scan_180 : decode cX12_scan 180 = .ok (.invokevirtual 350, 3) := by decide +kernel
theorem dX12_scan_183 : decode cX12_scan 183 = .ok (.goto 50, 3) := by decide +kernel
theorem dX12_scan_186 : decode cX12_scan 186 = .ok (.iload_n 1, 1) := by decide +kernel
theorem dX12_scan_187 : decode cX12_scan 187 = .ok (.bipush 43, 2) := by decide +kernel
theorem dX12_scan_189 : decode cX12_scan 189 = .ok (.if_icmp .eq 21, 3) := by decide +kernel
theorem dX12_scan_192 : decode cX12_scan 192 = .ok (.iload_n 1, 1) := by decide +kernel
theorem dX12_scan_193 : decode cX12_scan 193 = .ok (.bipush 45, 2) := by decide +kernel
theorem dX12_scan_195 : decode cX12_scan 195 = .ok (.if_icmp .eq 15, 3) := by decide +kernel
theorem dX12_scan_198 : decode cX12_scan 198 = .ok (.iload_n 1, 1) := by decide +kernel
theorem dX12_scan_199 : decode cX12_scan 199 = .ok (.bipush 63, 2) := by decide +kernel
theorem dX12_scan_201 : decode cX12_scan 201 = .ok (.if_icmp .eq 9, 3) := by decide +kernel
theorem dX12_scan_204 : decode cX12_scan 204 = .ok (.iload_n 1, 1) := by decide +kernel
theorem dX12_scan_205 : decode cX12_scan 205 = .ok (.bipush 59, 2) := by decide +kernel
theorem dX12_scan_207 : decode cX12_scan 207 = .ok (.if_icmp .ne 21, 3) := by decide +kernel
theorem dX12_scan_210 : decode cX12_scan 210 = .ok (.aload_n 0, 1) := by decide +kernel
theorem dX12_scan_211 : decode cX12_scan 211 = .ok (.iload_n 1, 1) := by decide +kernel
theorem dX12_scan_212 : decode cX12_scan 212 = .ok (.putfield 340, 3) := by decide +kernel
theorem dX12_scan_215 : decode cX12_scan 215 = .ok (.aload_n 0, 1) := by decide +kernel
theorem dX12_scan_216 : decode cX12_scan 216 = .ok (.dup, 1) := by decide +kernel
theorem dX12_scan_217 : decode cX12_scan 217 = .ok (.getfield 330, 3) := by decide +kernel
theorem dX12_scan_220 : decode cX12_scan 220 = .ok (.iconst 1, 1) := by decide +kernel
theorem dX12_scan_221 : decode cX12_scan 221 = .ok (.iadd, 1) := by decide +kernel
theorem dX12_scan_222 : decode cX12_scan 222 = .ok (.putfield 330, 3) := by decide +kernel
theorem dX12_scan_225 : decode cX12_scan 225 = .ok (.goto 8, 3) := by decide +kernel
theorem dX12_scan_228 : decode cX12_scan 228 = .ok (.aload_n 0, 1) := by decide +kernel
theorem dX12_scan_229 : decode cX12_scan 229 = .ok (.iconst 3, 1) := by decide +kernel
theorem dX12_scan_230 : decode cX12_scan 230 = .ok (.putfield 340, 3) := by decide +kernel
theorem dX12_scan_233 : decode cX12_scan 233 = .ok (.return_, 1) := by decide +kernel
theorem dX12_number_0 : decode cX12_number 0 = .ok (.aload_n 0, 1) := by decide +kernel
theorem dX12_number_1 : decode cX12_number 1 = .ok (.iconst 2, 1) := by decide +kernel
theorem dX12_number_2 : decode cX12_number 2 = .ok (.putfield 340, 3) := by decide +kernel
theorem dX12_number_5 : decode cX12_number 5 = .ok (.aload_n 0, 1) := by decide +kernel
theorem dX12_number_6 : decode cX12_number 6 = .ok (.aload_n 0, 1) := by decide +kernel
theorem dX12_number_7 : decode cX12_number 7 = .ok (.getfield 330, 3) := by decide +kernel
theorem dX12_number_10 : decode cX12_number 10 = .ok (.invokevirtual 333, 3) := by decide +kernel
theorem dX12_number_13 : decode cX12_number 13 = .ok (.bipush 45, 2) := by decide +kernel
theorem dX12_number_15 : decode cX12_number 15 = .ok (.if_icmp .ne 7, 3) := by decide +kernel
theorem dX12_number_18 : decode cX12_number 18 = .ok (.iconst 1, 1) := by decide +kernel
theorem dX12_number_19 : decode cX12_number 19 = .ok (.goto 4, 3) := by decide +kernel
theorem dX12_number_22 : decode cX12_number 22 = .ok (.iconst 0, 1) := by decide +kernel
theorem dX12_number_23 : decode cX12_number 23 = .ok (.istore_n 1, 1) := by decide +kernel
theorem dX12_number_24 : decode cX12_number 24 = .ok (.iload_n 1, 1) := by decide +kernel
theorem dX12_number_25 : decode cX12_number 25 = .ok (.ifCond .eq 13, 3) := by decide +kernel
theorem dX12_number_28 : decode cX12_number 28 = .ok (.aload_n 0, 1) := by decide +kernel
theorem dX12_number_29 : decode cX12_number 29 = .ok (.dup, 1) := by decide +kernel
theorem dX12_number_30 : decode cX12_number 30 = .ok (.getfield 330, 3) := by decide +kernel
theorem dX12_number_33 : decode cX12_number 33 = .ok (.iconst 1, 1) := by decide +kernel
theorem dX12_number_34 : decode cX12_number 34 = .ok (.iadd, 1) := by decide +kernel
theorem dX12_number_35 : decode cX12_number 35 = .ok (.putfield 330, 3) := by decide +kernel
theorem dX12_number_38 : decode cX12_number 38 = .ok (.iconst 0, 1) := by decide +kernel
theorem dX12_number_39 : decode cX12_number 39 = .ok (.istore_n 2, 1) := by decide +kernel
theorem dX12_number_40 : decode cX12_number 40 = .ok (.iconst 0, 1) := by decide +kernel
theorem dX12_number_41 : decode cX12_number 41 = .ok (.istore_n 3, 1) := by decide +kernel
theorem dX12_number_42 : decode cX12_number 42 = .ok (.iload_n 3, 1) := by decide +kernel
theorem dX12_number_43 : decode cX12_number 43 = .ok (.iconst 4, 1) := by decide +kernel
theorem dX12_number_44 : decode cX12_number 44 = .ok (.if_icmp .ge 50, 3) := by decide +kernel
theorem dX12_number_47 : decode cX12_number 47 = .ok (.aload_n 0, 1) := by decide +kernel
theorem dX12_number_48 : decode cX12_number 48 = .ok (.aload_n 0, 1) := by decide +kernel
theorem dX12_number_49 : decode cX12_number 49 = .ok (.getfield 330, 3) := by decide +kernel
theorem dX12_number_52 : decode cX12_number 52 = .ok (.invokevirtual 333, 3) := by decide +kernel
theorem dX12_number_55 : decode cX12_number 55 = .ok (.invokestatic 347, 3) := by decide +kernel
theorem dX12_number_58 : decode cX12_number 58 = .ok (.ifCond .eq 36, 3) := by decide +kernel
theorem dX12_number_61 : decode cX12_number 61 = .ok (.bipush 10, 2) := by decide +kernel
theorem dX12_number_63 : decode cX12_number 63 = .ok (.iload_n 2, 1) := by decide +kernel
theorem dX12_number_64 : decode cX12_number 64 = .ok (.imul, 1) := by decide +kernel
theorem dX12_number_65 : decode cX12_number 65 = .ok (.aload_n 0, 1) := by decide +kernel
theorem dX12_number_66 : decode cX12_number 66 = .ok (.aload_n 0, 1) := by decide +kernel
theorem dX12_number_67 : decode cX12_number 67 = .ok (.getfield 330, 3) := by decide +kernel
theorem dX12_number_70 : decode cX12_number 70 = .ok (.invokevirtual 333, 3) := by decide +kernel
theorem dX12_number_73 : decode cX12_number 73 = .ok (.iadd, 1) := by decide +kernel
theorem dX12_number_74 : decode cX12_number 74 = .ok (.bipush 48, 2) := by decide +kernel
theorem dX12_number_76 : decode cX12_number 76 = .ok (.isub, 1) := by decide +kernel
theorem dX12_number_77 : decode cX12_number 77 = .ok (.istore_n 2, 1) := by decide +kernel
theorem dX12_number_78 : decode cX12_number 78 = .ok (.aload_n 0, 1) := by decide +kernel
theorem dX12_number_79 : decode cX12_number 79 = .ok (.dup, 1) := by decide +kernel
theorem dX12_number_80 : decode cX12_number 80 = .ok (.getfield 330, 3) := by decide +kernel
theorem dX12_number_83 : decode cX12_number 83 = .ok (.iconst 1, 1) := by decide +kernel
theorem dX12_number_84 : decode cX12_number 84 = .ok (.iadd, 1) := by decide +kernel
theorem dX12_number_85 : decode cX12_number 85 = .ok (.putfield 330, 3) := by decide +kernel
theorem dX12_number_88 : decode cX12_number 88 = .ok (.iinc 3 1, 3) := by decide +kernel
theorem dX12_number_91 : decode cX12_number 91 = .ok (.goto (-49), 3) := by decide +kernel
theorem dX12_number_94 : decode cX12_number 94 = .ok (.iconst 1, 1) := by decide +kernel
theorem dX12_number_95 : decode cX12_number 95 = .ok (.istore_n 3, 1) := by decide +kernel
theorem dX12_number_96 : decode cX12_number 96 = .ok (.aload_n 0, 1) := by decide +kernel
theorem dX12_number_97 : decode cX12_number 97 = .ok (.aload_n 0, 1) := by decide +kernel
theorem dX12_number_98 : decode cX12_number 98 = .ok (.getfield 330, 3) := by decide +kernel
theorem dX12_number_101 : decode cX12_number 101 = .ok (.invokevirtual 333, 3) := by decide +kernel
theorem dX12_number_104 : decode cX12_number 104 = .ok (.bipush 47, 2) := by decide +kernel
theorem dX12_number_106 : decode cX12_number 106 = .ok (.if_icmp .ne 97, 3) := by decide +kernel
theorem dX12_number_109 : decode cX12_number 109 = .ok (.aload_n 0, 1) := by decide +kernel
theorem dX12_number_110 : decode cX12_number 110 = .ok (.aload_n 0, 1) := by decide +kernel
theorem dX12_number_111 : decode cX12_number 111 = .ok (.getfield 330, 3) := by decide +kernel
theorem dX12_number_114 : decode cX12_number 114 = .ok (.iconst 1, 1) := by decide +kernel
theorem dX12_number_115 : decode cX12_number 115 = .ok (.iadd, 1) := by decide +kernel
theorem dX12_number_116 : decode cX12_number 116 = .ok (.invokevirtual 333, 3) := by decide +kernel
theorem dX12_number_119 : decode cX12_number 119 = .ok (.invokestatic 347, 3) := by decide +kernel
theorem dX12_number_122 : decode cX12_number 122 = .ok (.ifCond .eq 81, 3) := by decide +kernel
theorem dX12_number_125 : decode cX12_number 125 = .ok (.aload_n 0, 1) := by decide +kernel
theorem dX12_number_126 : decode cX12_number 126 = .ok (.dup, 1) := by decide +kernel
theorem dX12_number_127 : decode cX12_number 127 = .ok (.getfield 330, 3) := by decide +kernel
theorem dX12_number_130 : decode cX12_number 130 = .ok (.iconst 1, 1) := by decide +kernel
theorem dX12_number_131 : decode cX12_number 131 = .ok (.iadd, 1) := by decide +kernel
theorem dX12_number_132 : decode cX12_number 132 = .ok (.putfield 330, 3) := by decide +kernel
theorem dX12_number_135 : decode cX12_number 135 = .ok (.iconst 0, 1) := by decide +kernel
theorem dX12_number_136 : decode cX12_number 136 = .ok (.istore_n 3, 1) := by decide +kernel
theorem dX12_number_137 : decode cX12_number 137 = .ok (.iconst 0, 1) := by decide +kernel
theorem dX12_number_138 : decode cX12_number 138 = .ok (.istore 4, 2) := by decide +kernel
theorem dX12_number_140 : decode cX12_number 140 = .ok (.iload 4, 2) := by decide +kernel
theorem dX12_number_142 : decode cX12_number 142 = .ok (.iconst 4, 1) := by decide +kernel
theorem dX12_number_143 : decode cX12_number 143 = .ok (.if_icmp .ge 50, 3) := by decide +kernel
theorem dX12_number_146 : decode cX12_number 146 = .ok (.aload_n 0, 1) := by decide +kernel
theorem dX12_number_147 : decode cX12_number 147 = .ok (.aload_n 0, 1) := by decide +kernel
theorem dX12_number_148 : decode cX12_number 148 = .ok (.getfield 330, 3) := by decide +kernel
theorem dX12_number_151 : decode cX12_number 151 = .ok (.invokevirtual 333, 3) := by decide +kernel
theorem dX12_number_154 : decode cX12_number 154 = .ok (.invokestatic 347, 3) := by decide +kernel
theorem dX12_number_157 : decode cX12_number 157 = .ok (.ifCond .eq 36, 3) := by decide +kernel
theorem dX12_number_160 : decode cX12_number 160 = .ok (.bipush 10, 2) := by decide +kernel
theorem dX12_number_162 : decode cX12_number 162 = .ok (.iload_n 3, 1) := by decide +kernel
theorem dX12_number_163 : decode cX12_number 163 = .ok (.imul, 1) := by decide +kernel
theorem dX12_number_164 : decode cX12_number 164 = .ok (.aload_n 0, 1) := by decide +kernel
theorem dX12_number_165 : decode cX12_number 165 = .ok (.aload_n 0, 1) := by decide +kernel
theorem dX12_number_166 : decode cX12_number 166 = .ok (.getfield 330, 3) := by decide +kernel
theorem dX12_number_169 : decode cX12_number 169 = .ok (.invokevirtual 333, 3) := by decide +kernel
theorem dX12_number_172 : decode cX12_number 172 = .ok (.iadd, 1) := by decide +kernel
theorem dX12_number_173 : decode cX12_number 173 = .ok (.bipush 48, 2) := by decide +kernel
theorem dX12_number_175 : decode cX12_number 175 = .ok (.isub, 1) := by decide +kernel
theorem dX12_number_176 : decode cX12_number 176 = .ok (.istore_n 3, 1) := by decide +kernel
theorem dX12_number_177 : decode cX12_number 177 = .ok (.aload_n 0, 1) := by decide +kernel
theorem dX12_number_178 : decode cX12_number 178 = .ok (.dup, 1) := by decide +kernel
theorem dX12_number_179 : decode cX12_number 179 = .ok (.getfield 330, 3) := by decide +kernel
theorem dX12_number_182 : decode cX12_number 182 = .ok (.iconst 1, 1) := by decide +kernel
theorem dX12_number_183 : decode cX12_number 183 = .ok (.iadd, 1) := by decide +kernel
theorem dX12_number_184 : decode cX12_number 184 = .ok (.putfield 330, 3) := by decide +kernel
theorem dX12_number_187 : decode cX12_number 187 = .ok (.iinc 4 1, 3) := by decide +kernel
theorem dX12_number_190 : decode cX12_number 190 = .ok (.goto (-50), 3) := by decide +kernel
theorem dX12_number_193 : decode cX12_number 193 = .ok (.iload_n 3, 1) := by decide +kernel
theorem dX12_number_194 : decode cX12_number 194 = .ok (.ifCond .ne 9, 3) := by decide +kernel
theorem dX12_number_197 : decode cX12_number 197 = .ok (.aload_n 0, 1) := by decide +kernel
theorem dX12_number_198 : decode cX12_number 198 = .ok (.iconst 3, 1) := by decide +kernel
theorem dX12_number_199 : decode cX12_number 199 = .ok (.putfield 340, 3) := by decide +kernel
theorem dX12_number_202 : decode cX12_number 202 = .ok (.return_, 1) := by decide +kernel
theorem dX12_number_203 : decode cX12_number 203 = .ok (.iload_n 2, 1) := by decide +kernel
theorem dX12_number_204 : decode cX12_number 204 = .ok (.i2l, 1) := by decide +kernel
theorem dX12_number_205 : decode cX12_number 205 = .ok (.iload_n 3, 1) := by decide +kernel
theorem dX12_number_206 : decode cX12_number 206 = .ok (.i2l, 1) := by decide +kernel
theorem dX12_number_207 : decode cX12_number 207 = .ok (.invokestatic 294, 3) := by decide +kernel
theorem dX12_number_210 : decode cX12_number 210 = .ok (.lstore 4, 2) := by decide +kernel
theorem dX12_number_212 : decode cX12_number 212 = .ok (.aload_n 0, 1) := by decide +kernel
theorem dX12_number_213 : decode cX12_number 213 = .ok (.iload_n 2, 1) := by decide +kernel
theorem dX12_number_214 : decode cX12_number 214 = .ok (.ifCond .ne 7, 3) := by decide +kernel
theorem dX12_number_217 : decode cX12_number 217 = .ok (.lconst 0, 1) := by decide +kernel
theorem dX12_number_218 : decode cX12_number 218 = .ok (.goto 17, 3) := by decide +kernel
theorem dX12_number_221 : decode cX12_number 221 = .ok (.iload_n 1, 1) := by decide +kernel
theorem dX12_number_222 : decode cX12_number 222 = .ok (.ifCond .eq 8, 3) := by decide +kernel
theorem dX12_number_225 : decode cX12_number 225 = .ok (.iload_n 2, 1) := by decide +kernel
theorem dX12_number_226 : decode cX12_number 226 = .ok (.ineg, 1) := by decide +kernel
theorem dX12_number_227 : decode cX12_number 227 = .ok (.goto 4, 3) := by decide +kernel
theorem dX12_number_230 : decode cX12_number 230 = .ok (.iload_n 2, 1) := by decide +kernel
theorem dX12_number_231 : decode cX12_number 231 = .ok (.i2l, 1) := by decide +kernel
theorem dX12_number_232 : decode cX12_number 232 = .ok (.lload 4, 2) := by decide +kernel
theorem dX12_number_234 : decode cX12_number 234 = .ok (.ldiv, 1) := by decide +kernel
theorem dX12_number_235 : decode cX12_number 235 = .ok (.putfield 353, 3) := by decide +kernel
theorem dX12_number_238 : decode cX12_number 238 = .ok (.aload_n 0, 1) := by decide +kernel
theorem dX12_number_239 : decode cX12_number 239 = .ok (.iload_n 2, 1) := by decide +kernel
theorem dX12_number_240 : decode cX12_number 240 = .ok (.ifCond .ne 7, 3) := by decide +kernel
theorem dX12_number_243 : decode cX12_number 243 = .ok (.lconst 1, 1) := by decide +kernel
theorem dX12_number_244 : decode cX12_number 244 = .ok (.goto 8, 3) := by decide +kernel
theorem dX12_number_247 : decode cX12_number 247 = .ok (.iload_n 3, 1) := by decide +kernel
theorem dX12_number_248 : decode cX12_number 248 = .ok (.i2l, 1) := by decide +kernel
theorem dX12_number_249 : decode cX12_number 249 = .ok (.lload 4, 2) := by decide +kernel
theorem dX12_number_251 : decode cX12_number 251 = .ok (.ldiv, 1) := by decide +kernel
theorem dX12_number_252 : decode cX12_number 252 = .ok (.putfield 356, 3) := by decide +kernel
theorem dX12_number_255 : decode cX12_number 255 = .ok (.return_, 1) := by decide +kernel
theorem dX12_isWord_0 : decode cX12_isWord 0 = .ok (.aload_n 0, 1) := by decide +kernel
theorem dX12_isWord_1 : decode cX12_isWord 1 = .ok (.getfield 340, 3) := by decide +kernel
theorem dX12_isWord_4 : decode cX12_isWord 4 = .ok (.iconst 1, 1) := by decide +kernel
theorem dX12_isWord_5 : decode cX12_isWord 5 = .ok (.if_icmp .ne 23, 3) := by decide +kernel
theorem dX12_isWord_8 : decode cX12_isWord 8 = .ok (.aload_n 0, 1) := by decide +kernel
theorem dX12_isWord_9 : decode cX12_isWord 9 = .ok (.getfield 330, 3) := by decide +kernel
theorem dX12_isWord_12 : decode cX12_isWord 12 = .ok (.aload_n 0, 1) := by decide +kernel
theorem dX12_isWord_13 : decode cX12_isWord 13 = .ok (.getfield 337, 3) := by decide +kernel
theorem dX12_isWord_16 : decode cX12_isWord 16 = .ok (.isub, 1) := by decide +kernel
theorem dX12_isWord_17 : decode cX12_isWord 17 = .ok (.aload_n 1, 1) := by decide +kernel
theorem dX12_isWord_18 : decode cX12_isWord 18 = .ok (.invokevirtual 359, 3) := by decide +kernel
theorem dX12_isWord_21 : decode cX12_isWord 21 = .ok (.if_icmp .ne 7, 3) := by decide +kernel
theorem dX12_isWord_24 : decode cX12_isWord 24 = .ok (.iconst 1, 1) := by decide +kernel
theorem dX12_isWord_25 : decode cX12_isWord 25 = .ok (.goto 4, 3) := by decide +kernel
theorem dX12_isWord_28 : decode cX12_isWord 28 = .ok (.iconst 0, 1) := by decide +kernel
theorem dX12_isWord_29 : decode cX12_isWord 29 = .ok (.istore_n 2, 1) := by decide +kernel
theorem dX12_isWord_30 : decode cX12_isWord 30 = .ok (.iconst 0, 1) := by decide +kernel
theorem dX12_isWord_31 : decode cX12_isWord 31 = .ok (.istore_n 3, 1) := by decide +kernel
theorem dX12_isWord_32 : decode cX12_isWord 32 = .ok (.iload_n 3, 1) := by decide +kernel
theorem dX12_isWord_33 : decode cX12_isWord 33 = .ok (.aload_n 1, 1) := by decide +kernel
theorem dX12_isWord_34 : decode cX12_isWord 34 = .ok (.invokevirtual 359, 3) := by decide +kernel
theorem dX12_isWord_37 : decode cX12_isWord 37 = .ok (.if_icmp .ge 38, 3) := by decide +kernel
theorem dX12_isWord_40 : decode cX12_isWord 40 = .ok (.iload_n 2, 1) := by decide +kernel
theorem dX12_isWord_41 : decode cX12_isWord 41 = .ok (.ifCond .eq 34, 3) := by decide +kernel
theorem dX12_isWord_44 : decode cX12_isWord 44 = .ok (.aload_n 0, 1) := by decide +kernel
theorem dX12_isWord_45 : decode cX12_isWord 45 = .ok (.getfield 7, 3) := by decide +kernel
theorem dX12_isWord_48 : decode cX12_isWord 48 = .ok (.aload_n 0, 1) := by decide +kernel
theorem dX12_isWord_49 : decode cX12_isWord 49 = .ok (.getfield 337, 3) := by decide +kernel
theorem dX12_isWord_52 : decode cX12_isWord 52 = .ok (.iload_n 3, 1) := by decide +kernel
theorem dX12_isWord_53 : decode cX12_isWord 53 = .ok (.iadd, 1) := by decide +kernel
theorem dX12_isWord_54 : decode cX12_isWord 54 = .ok (.iaload, 1) := by decide +kernel
theorem dX12_isWord_55 : decode cX12_isWord 55 = .ok (.aload_n 1, 1) := by decide +kernel
theorem dX12_isWord_56 : decode cX12_isWord 56 = .ok (.iload_n 3, 1) := by decide +kernel
theorem dX12_isWord_57 : decode cX12_isWord 57 = .ok (.invokevirtual 364, 3) := by decide +kernel
theorem dX12_isWord_60 : decode cX12_isWord 60 = .ok (.if_icmp .ne 7, 3) := by decide +kernel
theorem dX12_isWord_63 : decode cX12_isWord 63 = .ok (.iconst 1, 1) := by decide +kernel
theorem dX12_isWord_64 : decode cX12_isWord 64 = .ok (.goto 4, 3) := by decide +kernel
theorem dX12_isWord_67 : decode cX12_isWord 67 = .ok (.iconst 0, 1) := by decide +kernel
theorem dX12_isWord_68 : decode cX12_isWord 68 = .ok (.istore_n 2, 1) := by decide +kernel
theorem dX12_isWord_69 : decode cX12_isWord 69 = .ok (.iinc 3 1, 3) := by decide +kernel
theorem dX12_isWord_72 : decode cX12_isWord 72 = .ok (.goto (-40), 3) := by decide +kernel
theorem dX12_isWord_75 : decode cX12_isWord 75 = .ok (.iload_n 2, 1) := by decide +kernel
theorem dX12_isWord_76 : decode cX12_isWord 76 = .ok (.ireturn, 1) := by decide +kernel
theorem dX12_sameWord_0 : decode cX12_sameWord 0 = .ok (.iconst 0, 1) := by decide +kernel
theorem dX12_sameWord_1 : decode cX12_sameWord 1 = .ok (.istore 4, 2) := by decide +kernel
theorem dX12_sameWord_3 : decode cX12_sameWord 3 = .ok (.iload 4, 2) := by decide +kernel
theorem dX12_sameWord_5 : decode cX12_sameWord 5 = .ok (.iload_n 3, 1) := by decide +kernel
theorem dX12_sameWord_6 : decode cX12_sameWord 6 = .ok (.if_icmp .ge 32, 3) := by decide +kernel
theorem dX12_sameWord_9 : decode cX12_sameWord 9 = .ok (.aload_n 0, 1) := by decide +kernel
theorem dX12_sameWord_10 : decode cX12_sameWord 10 = .ok (.getfield 7, 3) := by decide +kernel
theorem dX12_sameWord_13 : decode cX12_sameWord 13 = .ok (.iload_n 1, 1) := by decide +kernel
theorem dX12_sameWord_14 : decode cX12_sameWord 14 = .ok (.iload 4, 2) := by decide +kernel
theorem dX12_sameWord_16 : decode cX12_sameWord 16 = .ok (.iadd, 1) := by decide +kernel
theorem dX12_sameWord_17 : decode cX12_sameWord 17 = .ok (.iaload, 1) := by decide +kernel
theorem dX12_sameWord_18 : decode cX12_sameWord 18 = .ok (.aload_n 0, 1) := by decide +kernel
theorem dX12_sameWord_19 : decode cX12_sameWord 19 = .ok (.getfield 7, 3) := by decide +kernel
theorem dX12_sameWord_22 : decode cX12_sameWord 22 = .ok (.iload_n 2, 1) := by decide +kernel
theorem dX12_sameWord_23 : decode cX12_sameWord 23 = .ok (.iload 4, 2) := by decide +kernel
theorem dX12_sameWord_25 : decode cX12_sameWord 25 = .ok (.iadd, 1) := by decide +kernel
theorem dX12_sameWord_26 : decode cX12_sameWord 26 = .ok (.iaload, 1) := by decide +kernel
theorem dX12_sameWord_27 : decode cX12_sameWord 27 = .ok (.if_icmp .eq 5, 3) := by decide +kernel
theorem dX12_sameWord_30 : decode cX12_sameWord 30 = .ok (.iconst 0, 1) := by decide +kernel
theorem dX12_sameWord_31 : decode cX12_sameWord 31 = .ok (.ireturn, 1) := by decide +kernel
theorem dX12_sameWord_32 : decode cX12_sameWord 32 = .ok (.iinc 4 1, 3) := by decide +kernel
theorem dX12_sameWord_35 : decode cX12_sameWord 35 = .ok (.goto (-32), 3) := by decide +kernel
theorem dX12_sameWord_38 : decode cX12_sameWord 38 = .ok (.iconst 1, 1) := by decide +kernel
theorem dX12_sameWord_39 : decode cX12_sameWord 39 = .ok (.ireturn, 1) := by decide +kernel
theorem dX12_starts_0 : decode cX12_starts 0 = .ok (.aload_n 0, 1) := by decide +kernel
theorem dX12_starts_1 : decode cX12_starts 1 = .ok (.invokevirtual 368, 3) := by decide +kernel
theorem dX12_starts_4 : decode cX12_starts 4 = .ok (.aload_n 0, 1) := by decide +kernel
theorem dX12_starts_5 : decode cX12_starts 5 = .ok (.iconst 0, 1) := by decide +kernel
theorem dX12_starts_6 : decode cX12_starts 6 = .ok (.putfield 330, 3) := by decide +kernel
theorem dX12_starts_9 : decode cX12_starts 9 = .ok (.aload_n 0, 1) := by decide +kernel
theorem dX12_starts_10 : decode cX12_starts 10 = .ok (.iconst 0, 1) := by decide +kernel
theorem dX12_starts_11 : decode cX12_starts 11 = .ok (.putfield 275, 3) := by decide +kernel
theorem dX12_starts_14 : decode cX12_starts 14 = .ok (.aload_n 0, 1) := by decide +kernel
theorem dX12_starts_15 : decode cX12_starts 15 = .ok (.invokevirtual 371, 3) := by decide +kernel
theorem dX12_starts_18 : decode cX12_starts 18 = .ok (.return_, 1) := by decide +kernel
theorem dX12_takes_0 : decode cX12_takes 0 = .ok (.aload_n 0, 1) := by decide +kernel
theorem dX12_takes_1 : decode cX12_takes 1 = .ok (.getfield 266, 3) := by decide +kernel
theorem dX12_takes_4 : decode cX12_takes 4 = .ok (.ifCond .le 5, 3) := by decide +kernel
theorem dX12_takes_7 : decode cX12_takes 7 = .ok (.iconst 0, 1) := by decide +kernel
theorem dX12_takes_8 : decode cX12_takes 8 = .ok (.ireturn, 1) := by decide +kernel
theorem dX12_takes_9 : decode cX12_takes 9 = .ok (.aload_n 0, 1) := by decide +kernel
theorem dX12_takes_10 : decode cX12_takes 10 = .ok (.getfield 340, 3) := by decide +kernel
theorem dX12_takes_13 : decode cX12_takes 13 = .ok (.iload_n 1, 1) := by decide +kernel
theorem dX12_takes_14 : decode cX12_takes 14 = .ok (.if_icmp .eq 14, 3) := by decide +kernel
theorem dX12_takes_17 : decode cX12_takes 17 = .ok (.aload_n 0, 1) := by decide +kernel
theorem dX12_takes_18 : decode cX12_takes 18 = .ok (.iconst 1, 1) := by decide +kernel
theorem dX12_takes_19 : decode cX12_takes 19 = .ok (.aload_n 0, 1) := by decide +kernel
theorem dX12_takes_20 : decode cX12_takes 20 = .ok (.getfield 337, 3) := by decide +kernel
theorem dX12_takes_23 : decode cX12_takes 23 = .ok (.invokevirtual 374, 3) := by decide +kernel
theorem dX12_takes_26 : decode cX12_takes 26 = .ok (.iconst 0, 1) := by decide +kernel
theorem dX12_takes_27 : decode cX12_takes 27 = .ok (.ireturn, 1) := by decide +kernel
theorem dX12_takes_28 : decode cX12_takes 28 = .ok (.iconst 1, 1) := by decide +kernel
theorem dX12_takes_29 : decode cX12_takes 29 = .ok (.ireturn, 1) := by decide +kernel
theorem dX12_wholeNumber_0 : decode cX12_wholeNumber 0 = .ok (.aload_n 0, 1) := by decide +kernel
theorem dX12_wholeNumber_1 : decode cX12_wholeNumber 1 = .ok (.getfield 356, 3) := by decide +kernel
theorem dX12_wholeNumber_4 : decode cX12_wholeNumber 4 = .ok (.lconst 1, 1) := by decide +kernel
theorem dX12_wholeNumber_5 : decode cX12_wholeNumber 5 = .ok (.lcmp, 1) := by decide +kernel
theorem dX12_wholeNumber_6 : decode cX12_wholeNumber 6 = .ok (.ifCond .ne 15, 3) := by decide +kernel
theorem dX12_wholeNumber_9 : decode cX12_wholeNumber 9 = .ok (.aload_n 0, 1) := by decide +kernel
theorem dX12_wholeNumber_10 : decode cX12_wholeNumber 10 = .ok (.getfield 353, 3) := by decide +kernel
theorem dX12_wholeNumber_13 : decode cX12_wholeNumber 13 = .ok (.lload_n 1, 1) := by decide +kernel
theorem dX12_wholeNumber_14 : decode cX12_wholeNumber 14 = .ok (.lload_n 3, 1) := by decide +kernel
theorem dX12_wholeNumber_15 : decode cX12_wholeNumber 15 = .ok (.invokestatic 262, 3) := by decide +kernel
theorem dX12_wholeNumber_18 : decode cX12_wholeNumber 18 = .ok (.ifCond .ne 12, 3) := by decide +kernel
theorem dX12_wholeNumber_21 : decode cX12_wholeNumber 21 = .ok (.aload_n 0, 1) := by decide +kernel
theorem dX12_wholeNumber_22 : decode cX12_wholeNumber 22 = .ok (.iconst 5, 1) := by decide +kernel
theorem dX12_wholeNumber_23 : decode cX12_wholeNumber 23 = .ok (.aload_n 0, 1) := by decide +kernel
theorem dX12_wholeNumber_24 : decode cX12_wholeNumber 24 = .ok (.getfield 337, 3) := by decide +kernel
theorem dX12_wholeNumber_27 : decode cX12_wholeNumber 27 = .ok (.invokevirtual 378, 3) := by decide +kernel
theorem dX12_wholeNumber_30 : decode cX12_wholeNumber 30 = .ok (.return_, 1) := by decide +kernel
theorem dX12_ends_0 : decode cX12_ends 0 = .ok (.aload_n 0, 1) := by decide +kernel
theorem dX12_ends_1 : decode cX12_ends 1 = .ok (.bipush 59, 2) := by decide +kernel
theorem dX12_ends_3 : decode cX12_ends 3 = .ok (.invokevirtual 381, 3) := by decide +kernel
theorem dX12_ends_6 : decode cX12_ends 6 = .ok (.ifCond .eq 7, 3) := by decide +kernel
theorem dX12_ends_9 : decode cX12_ends 9 = .ok (.aload_n 0, 1) := by decide +kernel
theorem dX12_ends_10 : decode cX12_ends 10 = .ok (.invokevirtual 371, 3) := by decide +kernel
theorem dX12_ends_13 : decode cX12_ends 13 = .ok (.return_, 1) := by decide +kernel
theorem dX12_tossFault_0 : decode cX12_tossFault 0 = .ok (.aload_n 0, 1) := by decide +kernel
theorem dX12_tossFault_1 : decode cX12_tossFault 1 = .ok (.getfield 266, 3) := by decide +kernel
theorem dX12_tossFault_4 : decode cX12_tossFault 4 = .ok (.ifCond .ne 22, 3) := by decide +kernel
theorem dX12_tossFault_7 : decode cX12_tossFault 7 = .ok (.aload_n 0, 1) := by decide +kernel
theorem dX12_tossFault_8 : decode cX12_tossFault 8 = .ok (.getfield 275, 3) := by decide +kernel
theorem dX12_tossFault_11 : decode cX12_tossFault 11 = .ok (.ifCond .le 15, 3) := by decide +kernel
theorem dX12_tossFault_14 : decode cX12_tossFault 14 = .ok (.aload_n 0, 1) := by decide +kernel
theorem dX12_tossFault_15 : decode cX12_tossFault 15 = .ok (.aload_n 0, 1) := by decide +kernel
theorem dX12_tossFault_16 : decode cX12_tossFault 16 = .ok (.getfield 275, 3) := by decide +kernel
theorem dX12_tossFault_19 : decode cX12_tossFault 19 = .ok (.aload_n 0, 1) := by decide +kernel
theorem dX12_tossFault_20 : decode cX12_tossFault 20 = .ok (.getfield 278, 3) := by decide +kernel
theorem dX12_tossFault_23 : decode cX12_tossFault 23 = .ok (.invokevirtual 374, 3) := by decide +kernel
theorem dX12_tossFault_26 : decode cX12_tossFault 26 = .ok (.aload_n 0, 1) := by decide +kernel
theorem dX12_tossFault_27 : decode cX12_tossFault 27 = .ok (.aload_n 0, 1) := by decide +kernel
theorem dX12_tossFault_28 : decode cX12_tossFault 28 = .ok (.getfield 266, 3) := by decide +kernel
theorem dX12_tossFault_31 : decode cX12_tossFault 31 = .ok (.ifCond .le 7, 3) := by decide +kernel
theorem dX12_tossFault_34 : decode cX12_tossFault 34 = .ok (.iconst 1, 1) := by decide +kernel
theorem dX12_tossFault_35 : decode cX12_tossFault 35 = .ok (.goto 4, 3) := by decide +kernel
theorem dX12_tossFault_38 : decode cX12_tossFault 38 = .ok (.iconst 0, 1) := by decide +kernel
theorem dX12_tossFault_39 : decode cX12_tossFault 39 = .ok (.putfield 243, 3) := by decide +kernel
theorem dX12_tossFault_42 : decode cX12_tossFault 42 = .ok (.return_, 1) := by decide +kernel
theorem dX12_kindOf_0 : decode cX12_kindOf 0 = .ok (.aload_n 0, 1) := by decide +kernel
theorem dX12_kindOf_1 : decode cX12_kindOf 1 = .ok (.ldc_w 384, 3) := by decide +kernel
theorem dX12_kindOf_4 : decode cX12_kindOf 4 = .ok (.invokevirtual 386, 3) := by decide +kernel
theorem dX12_kindOf_7 : decode cX12_kindOf 7 = .ok (.ifCond .eq 5, 3) := by decide +kernel
theorem dX12_kindOf_10 : decode cX12_kindOf 10 = .ok (.iconst 0, 1) := by decide +kernel
theorem dX12_kindOf_11 : decode cX12_kindOf 11 = .ok (.ireturn, 1) := by decide +kernel
theorem dX12_kindOf_12 : decode cX12_kindOf 12 = .ok (.aload_n 0, 1) := by decide +kernel
theorem dX12_kindOf_13 : decode cX12_kindOf 13 = .ok (.ldc_w 390, 3) := by decide +kernel
theorem dX12_kindOf_16 : decode cX12_kindOf 16 = .ok (.invokevirtual 386, 3) := by decide +kernel
theorem dX12_kindOf_19 : decode cX12_kindOf 19 = .ok (.ifCond .eq 5, 3) := by decide +kernel
theorem dX12_kindOf_22 : decode cX12_kindOf 22 = .ok (.iconst 1, 1) := by decide +kernel
theorem dX12_kindOf_23 : decode cX12_kindOf 23 = .ok (.ireturn, 1) := by decide +kernel
theorem dX12_kindOf_24 : decode cX12_kindOf 24 = .ok (.aload_n 0, 1) := by decide +kernel
theorem dX12_kindOf_25 : decode cX12_kindOf 25 = .ok (.ldc_w 392, 3) := by decide +kernel
theorem dX12_kindOf_28 : decode cX12_kindOf 28 = .ok (.invokevirtual 386, 3) := by decide +kernel
theorem dX12_kindOf_31 : decode cX12_kindOf 31 = .ok (.ifCond .eq 5, 3) := by decide +kernel
theorem dX12_kindOf_34 : decode cX12_kindOf 34 = .ok (.iconst 2, 1) := by decide +kernel
theorem dX12_kindOf_35 : decode cX12_kindOf 35 = .ok (.ireturn, 1) := by decide +kernel
theorem dX12_kindOf_36 : decode cX12_kindOf 36 = .ok (.aload_n 0, 1) := by decide +kernel
theorem dX12_kindOf_37 : decode cX12_kindOf 37 = .ok (.ldc_w 394, 3) := by decide +kernel
theorem dX12_kindOf_40 : decode cX12_kindOf 40 = .ok (.invokevirtual 386, 3) := by decide +kernel
theorem dX12_kindOf_43 : decode cX12_kindOf 43 = .ok (.ifCond .eq 5, 3) := by decide +kernel
theorem dX12_kindOf_46 : decode cX12_kindOf 46 = .ok (.iconst 3, 1) := by decide +kernel
theorem dX12_kindOf_47 : decode cX12_kindOf 47 = .ok (.ireturn, 1) := by decide +kernel
theorem dX12_kindOf_48 : decode cX12_kindOf 48 = .ok (.aload_n 0, 1) := by decide +kernel
theorem dX12_kindOf_49 : decode cX12_kindOf 49 = .ok (.ldc_w 396, 3) := by decide +kernel
theorem dX12_kindOf_52 : decode cX12_kindOf 52 = .ok (.invokevirtual 386, 3) := by decide +kernel
theorem dX12_kindOf_55 : decode cX12_kindOf 55 = .ok (.ifCond .eq 5, 3) := by decide +kernel
theorem dX12_kindOf_58 : decode cX12_kindOf 58 = .ok (.iconst 4, 1) := by decide +kernel
theorem dX12_kindOf_59 : decode cX12_kindOf 59 = .ok (.ireturn, 1) := by decide +kernel
theorem dX12_kindOf_60 : decode cX12_kindOf 60 = .ok (.aload_n 0, 1) := by decide +kernel
theorem dX12_kindOf_61 : decode cX12_kindOf 61 = .ok (.ldc_w 398, 3) := by decide +kernel
theorem dX12_kindOf_64 : decode cX12_kindOf 64 = .ok (.invokevirtual 386, 3) := by decide +kernel
theorem dX12_kindOf_67 : decode cX12_kindOf 67 = .ok (.ifCond .eq 7, 3) := by decide +kernel
theorem dX12_kindOf_70 : decode cX12_kindOf 70 = .ok (.iconst 5, 1) := by decide +kernel
theorem dX12_kindOf_71 : decode cX12_kindOf 71 = .ok (.goto 4, 3) := by decide +kernel
theorem dX12_kindOf_74 : decode cX12_kindOf 74 = .ok (.iconst (-1), 1) := by decide +kernel
theorem dX12_kindOf_75 : decode cX12_kindOf 75 = .ok (.ireturn, 1) := by decide +kernel
theorem dX12_nameUsed_0 : decode cX12_nameUsed 0 = .ok (.aload_n 0, 1) := by decide +kernel
theorem dX12_nameUsed_1 : decode cX12_nameUsed 1 = .ok (.iconst 1, 1) := by decide +kernel
theorem dX12_nameUsed_2 : decode cX12_nameUsed 2 = .ok (.invokevirtual 381, 3) := by decide +kernel
theorem dX12_nameUsed_5 : decode cX12_nameUsed 5 = .ok (.ifCond .ne 4, 3) := by decide +kernel
theorem dX12_nameUsed_8 : decode cX12_nameUsed 8 = .ok (.return_, 1) := by decide +kernel
theorem dX12_nameUsed_9 : decode cX12_nameUsed 9 = .ok (.aload_n 0, 1) := by decide +kernel
theorem dX12_nameUsed_10 : decode cX12_nameUsed 10 = .ok (.getfield 108, 3) := by decide +kernel
theorem dX12_nameUsed_13 : decode cX12_nameUsed 13 = .ok (.aload_n 0, 1) := by decide +kernel
theorem dX12_nameUsed_14 : decode cX12_nameUsed 14 = .ok (.getfield 400, 3) := by decide +kernel
theorem dX12_nameUsed_17 : decode cX12_nameUsed 17 = .ok (.aload_n 0, 1) := by decide +kernel
theorem dX12_nameUsed_18 : decode cX12_nameUsed 18 = .ok (.getfield 337, 3) := by decide +kernel
theorem dX12_nameUsed_21 : decode cX12_nameUsed 21 = .ok (.iastore, 1) := by decide +kernel
theorem dX12_nameUsed_22 : decode cX12_nameUsed 22 = .ok (.aload_n 0, 1) := by decide +kernel
theorem dX12_nameUsed_23 : decode cX12_nameUsed 23 = .ok (.getfield 111, 3) := by decide +kernel
theorem dX12_nameUsed_26 : decode cX12_nameUsed 26 = .ok (.aload_n 0, 1) := by decide +kernel
theorem dX12_nameUsed_27 : decode cX12_nameUsed 27 = .ok (.getfield 400, 3) := by decide +kernel
theorem dX12_nameUsed_30 : decode cX12_nameUsed 30 = .ok (.aload_n 0, 1) := by decide +kernel
theorem dX12_nameUsed_31 : decode cX12_nameUsed 31 = .ok (.getfield 330, 3) := by decide +kernel
theorem dX12_nameUsed_34 : decode cX12_nameUsed 34 = .ok (.aload_n 0, 1) := by decide +kernel
theorem dX12_nameUsed_35 : decode cX12_nameUsed 35 = .ok (.getfield 337, 3) := by decide +kernel
theorem dX12_nameUsed_38 : decode cX12_nameUsed 38 = .ok (.isub, 1) := by decide +kernel
theorem dX12_nameUsed_39 : decode cX12_nameUsed 39 = .ok (.iastore, 1) := by decide +kernel
theorem dX12_nameUsed_40 : decode cX12_nameUsed 40 = .ok (.aload_n 0, 1) := by decide +kernel
theorem dX12_nameUsed_41 : decode cX12_nameUsed 41 = .ok (.dup, 1) := by decide +kernel
theorem dX12_nameUsed_42 : decode cX12_nameUsed 42 = .ok (.getfield 400, 3) := by decide +kernel
theorem dX12_nameUsed_45 : decode cX12_nameUsed 45 = .ok (.iconst 1, 1) := by decide +kernel
theorem dX12_nameUsed_46 : decode cX12_nameUsed 46 = .ok (.iadd, 1) := by decide +kernel
theorem dX12_nameUsed_47 : decode cX12_nameUsed 47 = .ok (.putfield 400, 3) := by decide +kernel
theorem dX12_nameUsed_50 : decode cX12_nameUsed 50 = .ok (.aload_n 0, 1) := by decide +kernel
theorem dX12_nameUsed_51 : decode cX12_nameUsed 51 = .ok (.getfield 403, 3) := by decide +kernel
theorem dX12_nameUsed_54 : decode cX12_nameUsed 54 = .ok (.bipush 40, 2) := by decide +kernel
theorem dX12_nameUsed_56 : decode cX12_nameUsed 56 = .ok (.if_icmp .gt 46, 3) := by decide +kernel
theorem dX12_nameUsed_59 : decode cX12_nameUsed 59 = .ok (.aload_n 0, 1) := by decide +kernel
theorem dX12_nameUsed_60 : decode cX12_nameUsed 60 = .ok (.getfield 84, 3) := by decide +kernel
theorem dX12_nameUsed_63 : decode cX12_nameUsed 63 = .ok (.iconst 4, 1) := by decide +kernel
theorem dX12_nameUsed_64 : decode cX12_nameUsed 64 = .ok (.aload_n 0, 1) := by decide +kernel
theorem dX12_nameUsed_65 : decode cX12_nameUsed 65 = .ok (.getfield 403, 3) := by decide +kernel
theorem dX12_nameUsed_68 : decode cX12_nameUsed 68 = .ok (.iconst 1, 1) := by decide +kernel
theorem dX12_nameUsed_69 : decode cX12_nameUsed 69 = .ok (.isub, 1) := by decide +kernel
theorem dX12_nameUsed_70 : decode cX12_nameUsed 70 = .ok (.imul, 1) := by decide +kernel
theorem dX12_nameUsed_71 : decode cX12_nameUsed 71 = .ok (.iload_n 1, 1) := by decide +kernel
theorem dX12_nameUsed_72 : decode cX12_nameUsed 72 = .ok (.iadd, 1) := by decide +kernel
theorem dX12_nameUsed_73 : decode cX12_nameUsed 73 = .ok (.aload_n 0, 1) := by decide +kernel
theorem dX12_nameUsed_74 : decode cX12_nameUsed 74 = .ok (.getfield 337, 3) := by decide +kernel
theorem dX12_nameUsed_77 : decode cX12_nameUsed 77 = .ok (.iastore, 1) := by decide +kernel
theorem dX12_nameUsed_78 : decode cX12_nameUsed 78 = .ok (.aload_n 0, 1) := by decide +kernel
theorem dX12_nameUsed_79 : decode cX12_nameUsed 79 = .ok (.getfield 87, 3) := by decide +kernel
theorem dX12_nameUsed_82 : decode cX12_nameUsed 82 = .ok (.iconst 4, 1) := by decide +kernel
theorem dX12_nameUsed_83 : decode cX12_nameUsed 83 = .ok (.aload_n 0, 1) := by decide +kernel
theorem dX12_nameUsed_84 : decode cX12_nameUsed 84 = .ok (.getfield 403, 3) := by decide +kernel
theorem dX12_nameUsed_87 : decode cX12_nameUsed 87 = .ok (.iconst 1, 1) := by decide +kernel
theorem dX12_nameUsed_88 : decode cX12_nameUsed 88 = .ok (.isub, 1) := by decide +kernel
theorem dX12_nameUsed_89 : decode cX12_nameUsed 89 = .ok (.imul, 1) := by decide +kernel
theorem dX12_nameUsed_90 : decode cX12_nameUsed 90 = .ok (.iload_n 1, 1) := by decide +kernel
theorem dX12_nameUsed_91 : decode cX12_nameUsed 91 = .ok (.iadd, 1) := by decide +kernel
theorem dX12_nameUsed_92 : decode cX12_nameUsed 92 = .ok (.aload_n 0, 1) := by decide +kernel
theorem dX12_nameUsed_93 : decode cX12_nameUsed 93 = .ok (.getfield 330, 3) := by decide +kernel
theorem dX12_nameUsed_96 : decode cX12_nameUsed 96 = .ok (.aload_n 0, 1) := by decide +kernel
theorem dX12_nameUsed_97 : decode cX12_nameUsed 97 = .ok (.getfield 337, 3) := by decide +kernel
theorem dX12_nameUsed_100 : decode cX12_nameUsed 100 = .ok (.isub, 1) := by decide +kernel
theorem dX12_nameUsed_101 : decode cX12_nameUsed 101 = .ok (.iastore, 1) := by decide +kernel
theorem dX12_nameUsed_102 : decode cX12_nameUsed 102 = .ok (.aload_n 0, 1) := by decide +kernel
theorem dX12_nameUsed_103 : decode cX12_nameUsed 103 = .ok (.invokevirtual 371, 3) := by decide +kernel
theorem dX12_nameUsed_106 : decode cX12_nameUsed 106 = .ok (.return_, 1) := by decide +kernel
theorem dX12_numberUsed_0 : decode cX12_numberUsed 0 = .ok (.aload_n 0, 1) := by decide +kernel
theorem dX12_numberUsed_1 : decode cX12_numberUsed 1 = .ok (.iconst 2, 1) := by decide +kernel
theorem dX12_numberUsed_2 : decode cX12_numberUsed 2 = .ok (.invokevirtual 381, 3) := by decide +kernel
theorem dX12_numberUsed_5 : decode cX12_numberUsed 5 = .ok (.ifCond .ne 4, 3) := by decide +kernel
theorem dX12_numberUsed_8 : decode cX12_numberUsed 8 = .ok (.return_, 1) := by decide +kernel
theorem dX12_numberUsed_9 : decode cX12_numberUsed 9 = .ok (.aload_n 0, 1) := by decide +kernel
theorem dX12_numberUsed_10 : decode cX12_numberUsed 10 = .ok (.getfield 353, 3) := by decide +kernel
theorem dX12_numberUsed_13 : decode cX12_numberUsed 13 = .ok (.invokestatic 251, 3) := by decide +kernel
theorem dX12_numberUsed_16 : decode cX12_numberUsed 16 = .ok (.ldc2_w 406, 3) := by decide +kernel
theorem dX12_numberUsed_19 : decode cX12_numberUsed 19 = .ok (.aload_n 0, 1) := by decide +kernel
theorem dX12_numberUsed_20 : decode cX12_numberUsed 20 = .ok (.getfield 356, 3) := by decide +kernel
theorem dX12_numberUsed_23 : decode cX12_numberUsed 23 = .ok (.lmul, 1) := by decide +kernel
theorem dX12_numberUsed_24 : decode cX12_numberUsed 24 = .ok (.lcmp, 1) := by decide +kernel
theorem dX12_numberUsed_25 : decode cX12_numberUsed 25 = .ok (.ifCond .gt 20, 3) := by decide +kernel
theorem dX12_numberUsed_28 : decode cX12_numberUsed 28 = .ok (.iload_n 2, 1) := by decide +kernel
theorem dX12_numberUsed_29 : decode cX12_numberUsed 29 = .ok (.ifCond .eq 12, 3) := by decide +kernel
theorem dX12_numberUsed_32 : decode cX12_numberUsed 32 = .ok (.aload_n 0, 1) := by decide +kernel
theorem dX12_numberUsed_33 : decode cX12_numberUsed 33 = .ok (.getfield 353, 3) := by decide +kernel
theorem dX12_numberUsed_36 : decode cX12_numberUsed 36 = .ok (.lconst 0, 1) := by decide +kernel
theorem dX12_numberUsed_37 : decode cX12_numberUsed 37 = .ok (.lcmp, 1) := by decide +kernel
theorem dX12_numberUsed_38 : decode cX12_numberUsed 38 = .ok (.ifCond .le 7, 3) := by decide +kernel
theorem dX12_numberUsed_41 : decode cX12_numberUsed 41 = .ok (.iconst 1, 1) := by decide +kernel
theorem dX12_numberUsed_42 : decode cX12_numberUsed 42 = .ok (.goto 4, 3) := by decide +kernel
theorem dX12_numberUsed_45 : decode cX12_numberUsed 45 = .ok (.iconst 0, 1) := by decide +kernel
theorem dX12_numberUsed_46 : decode cX12_numberUsed 46 = .ok (.istore_n 3, 1) := by decide +kernel
theorem dX12_numberUsed_47 : decode cX12_numberUsed 47 = .ok (.iload_n 3, 1) := by decide +kernel
theorem dX12_numberUsed_48 : decode cX12_numberUsed 48 = .ok (.ifCond .ne 12, 3) := by decide +kernel
theorem dX12_numberUsed_51 : decode cX12_numberUsed 51 = .ok (.aload_n 0, 1) := by decide +kernel
theorem dX12_numberUsed_52 : decode cX12_numberUsed 52 = .ok (.iconst 5, 1) := by decide +kernel
theorem dX12_numberUsed_53 : decode cX12_numberUsed 53 = .ok (.aload_n 0, 1) := by decide +kernel
theorem dX12_numberUsed_54 : decode cX12_numberUsed 54 = .ok (.getfield 337, 3) := by decide +kernel
theorem dX12_numberUsed_57 : decode cX12_numberUsed 57 = .ok (.invokevirtual 378, 3) := by decide +kernel
theorem dX12_numberUsed_60 : decode cX12_numberUsed 60 = .ok (.aload_n 0, 1) := by decide +kernel
theorem dX12_numberUsed_61 : decode cX12_numberUsed 61 = .ok (.getfield 403, 3) := by decide +kernel
theorem dX12_numberUsed_64 : decode cX12_numberUsed 64 = .ok (.bipush 40, 2) := by decide +kernel
theorem dX12_numberUsed_66 : decode cX12_numberUsed 66 = .ok (.if_icmp .gt 47, 3) := by decide +kernel
theorem dX12_numberUsed_69 : decode cX12_numberUsed 69 = .ok (.aload_n 0, 1) := by decide +kernel
theorem dX12_numberUsed_70 : decode cX12_numberUsed 70 = .ok (.getfield 90, 3) := by decide +kernel
theorem dX12_numberUsed_73 : decode cX12_numberUsed 73 = .ok (.iconst 4, 1) := by decide +kernel
theorem dX12_numberUsed_74 : decode cX12_numberUsed 74 = .ok (.aload_n 0, 1) := by decide +kernel
theorem dX12_numberUsed_75 : decode cX12_numberUsed 75 = .ok (.getfield 403, 3) := by decide +kernel
theorem dX12_numberUsed_78 : decode cX12_numberUsed 78 = .ok (.iconst 1, 1) := by decide +kernel
theorem dX12_numberUsed_79 : decode cX12_numberUsed 79 = .ok (.isub, 1) := by decide +kernel
theorem dX12_numberUsed_80 : decode cX12_numberUsed 80 = .ok (.imul, 1) := by decide +kernel
theorem dX12_numberUsed_81 : decode cX12_numberUsed 81 = .ok (.iconst 2, 1) := by decide +kernel
theorem dX12_numberUsed_82 : decode cX12_numberUsed 82 = .ok (.iload_n 1, 1) := by decide +kernel
theorem dX12_numberUsed_83 : decode cX12_numberUsed 83 = .ok (.imul, 1) := by decide +kernel
theorem dX12_numberUsed_84 : decode cX12_numberUsed 84 = .ok (.iadd, 1) := by decide +kernel
theorem dX12_numberUsed_85 : decode cX12_numberUsed 85 = .ok (.aload_n 0, 1) := by decide +kernel
theorem dX12_numberUsed_86 : decode cX12_numberUsed 86 = .ok (.getfield 353, 3) := by decide +kernel
theorem dX12_numberUsed_89 : decode cX12_numberUsed 89 = .ok (.lastore, 1) := by decide +kernel
theorem dX12_numberUsed_90 : decode cX12_numberUsed 90 = .ok (.aload_n 0, 1) := by decide +kernel
theorem dX12_numberUsed_91 : decode cX12_numberUsed 91 = .ok (.getfield 90, 3) := by decide +kernel
theorem dX12_numberUsed_94 : decode cX12_numberUsed 94 = .ok (.iconst 4, 1) := by decide +kernel
theorem dX12_numberUsed_95 : decode cX12_numberUsed 95 = .ok (.aload_n 0, 1) := by decide +kernel
theorem dX12_numberUsed_96 : decode cX12_numberUsed 96 = .ok (.getfield 403, 3) := by decide +kernel
theorem dX12_numberUsed_99 : decode cX12_numberUsed 99 = .ok (.iconst 1, 1) := by decide +kernel
theorem dX12_numberUsed_100 : decode cX12_numberUsed 100 = .ok (.isub, 1) := by decide +kernel
theorem dX12_numberUsed_101 : decode cX12_numberUsed 101 = .ok (.imul, 1) := by decide +kernel
theorem dX12_numberUsed_102 : decode cX12_numberUsed 102 = .ok (.iconst 2, 1) := by decide +kernel
theorem dX12_numberUsed_103 : decode cX12_numberUsed 103 = .ok (.iload_n 1, 1) := by decide +kernel
theorem dX12_numberUsed_104 : decode cX12_numberUsed 104 = .ok (.imul, 1) := by decide +kernel
theorem dX12_numberUsed_105 : decode cX12_numberUsed 105 = .ok (.iadd, 1) := by decide +kernel
theorem dX12_numberUsed_106 : decode cX12_numberUsed 106 = .ok (.iconst 1, 1) := by decide +kernel
theorem dX12_numberUsed_107 : decode cX12_numberUsed 107 = .ok (.iadd, 1) := by decide +kernel
theorem dX12_numberUsed_108 : decode cX12_numberUsed 108 = .ok (.aload_n 0, 1) := by decide +kernel
theorem dX12_numberUsed_109 : decode cX12_numberUsed 109 = .ok (.getfield 356, 3) := by decide +kernel
theorem dX12_numberUsed_112 : decode cX12_numberUsed 112 = .ok (.lastore, 1) := by decide +kernel
theorem dX12_numberUsed_113 : decode cX12_numberUsed 113 = .ok (.aload_n 0, 1) := by decide +kernel
theorem dX12_numberUsed_114 : decode cX12_numberUsed 114 = .ok (.invokevirtual 371, 3) := by decide +kernel
theorem dX12_numberUsed_117 : decode cX12_numberUsed 117 = .ok (.return_, 1) := by decide +kernel
theorem dX12_wholeUsed_0 : decode cX12_wholeUsed 0 = .ok (.aload_n 0, 1) := by decide +kernel
theorem dX12_wholeUsed_1 : decode cX12_wholeUsed 1 = .ok (.iconst 2, 1) := by decide +kernel
theorem dX12_wholeUsed_2 : decode cX12_wholeUsed 2 = .ok (.invokevirtual 381, 3) := by decide +kernel
theorem dX12_wholeUsed_5 : decode cX12_wholeUsed 5 = .ok (.ifCond .ne 4, 3) := by decide +kernel
theorem dX12_wholeUsed_8 : decode cX12_wholeUsed 8 = .ok (.return_, 1) := by decide +kernel
theorem dX12_wholeUsed_9 : decode cX12_wholeUsed 9 = .ok (.aload_n 0, 1) := by decide +kernel
theorem dX12_wholeUsed_10 : decode cX12_wholeUsed 10 = .ok (.iload_n 2, 1) := by decide +kernel
theorem dX12_wholeUsed_11 : decode cX12_wholeUsed 11 = .ok (.i2l, 1) := by decide +kernel
theorem dX12_wholeUsed_12 : decode cX12_wholeUsed 12 = .ok (.iload_n 3, 1) := by decide +kernel
theorem dX12_wholeUsed_13 : decode cX12_wholeUsed 13 = .ok (.i2l, 1) := by decide +kernel
theorem dX12_wholeUsed_14 : decode cX12_wholeUsed 14 = .ok (.invokevirtual 408, 3) := by decide +kernel
theorem dX12_wholeUsed_17 : decode cX12_wholeUsed 17 = .ok (.aload_n 0, 1) := by decide +kernel
theorem dX12_wholeUsed_18 : decode cX12_wholeUsed 18 = .ok (.getfield 403, 3) := by decide +kernel
theorem dX12_wholeUsed_21 : decode cX12_wholeUsed 21 = .ok (.bipush 40, 2) := by decide +kernel
theorem dX12_wholeUsed_23 : decode cX12_wholeUsed 23 = .ok (.if_icmp .gt 23, 3) := by decide +kernel
theorem dX12_wholeUsed_26 : decode cX12_wholeUsed 26 = .ok (.aload_n 0, 1) := by decide +kernel
theorem dX12_wholeUsed_27 : decode cX12_wholeUsed 27 = .ok (.getfield 93, 3) := by decide +kernel
theorem dX12_wholeUsed_30 : decode cX12_wholeUsed 30 = .ok (.iconst 3, 1) := by decide +kernel
theorem dX12_wholeUsed_31 : decode cX12_wholeUsed 31 = .ok (.aload_n 0, 1) := by decide +kernel
theorem dX12_wholeUsed_32 : decode cX12_wholeUsed 32 = .ok (.getfield 403, 3) := by decide +kernel
theorem dX12_wholeUsed_35 : decode cX12_wholeUsed 35 = .ok (.iconst 1, 1) := by decide +kernel
theorem dX12_wholeUsed_36 : decode cX12_wholeUsed 36 = .ok (.isub, 1) := by decide +kernel
theorem dX12_wholeUsed_37 : decode cX12_wholeUsed 37 = .ok (.imul, 1) := by decide +kernel
theorem dX12_wholeUsed_38 : decode cX12_wholeUsed 38 = .ok (.iload_n 1, 1) := by decide +kernel
theorem dX12_wholeUsed_39 : decode cX12_wholeUsed 39 = .ok (.iadd, 1) := by decide +kernel
theorem dX12_wholeUsed_40 : decode cX12_wholeUsed 40 = .ok (.aload_n 0, 1) := by decide +kernel
theorem dX12_wholeUsed_41 : decode cX12_wholeUsed 41 = .ok (.getfield 353, 3) := by decide +kernel
theorem dX12_wholeUsed_44 : decode cX12_wholeUsed 44 = .ok (.l2i, 1) := by decide +kernel
theorem dX12_wholeUsed_45 : decode cX12_wholeUsed 45 = .ok (.iastore, 1) := by decide +kernel
theorem dX12_wholeUsed_46 : decode cX12_wholeUsed 46 = .ok (.aload_n 0, 1) := by decide +kernel
theorem dX12_wholeUsed_47 : decode cX12_wholeUsed 47 = .ok (.invokevirtual 371, 3) := by decide +kernel
theorem dX12_wholeUsed_50 : decode cX12_wholeUsed 50 = .ok (.return_, 1) := by decide +kernel
theorem dX12_signUsed_0 : decode cX12_signUsed 0 = .ok (.aload_n 0, 1) := by decide +kernel
theorem dX12_signUsed_1 : decode cX12_signUsed 1 = .ok (.getfield 266, 3) := by decide +kernel
theorem dX12_signUsed_4 : decode cX12_signUsed 4 = .ok (.ifCond .le 4, 3) := by decide +kernel
theorem dX12_signUsed_7 : decode cX12_signUsed 7 = .ok (.return_, 1) := by decide +kernel
theorem dX12_signUsed_8 : decode cX12_signUsed 8 = .ok (.aload_n 0, 1) := by decide +kernel
theorem dX12_signUsed_9 : decode cX12_signUsed 9 = .ok (.getfield 340, 3) := by decide +kernel
theorem dX12_signUsed_12 : decode cX12_signUsed 12 = .ok (.bipush 43, 2) := by decide +kernel
theorem dX12_signUsed_14 : decode cX12_signUsed 14 = .ok (.if_icmp .eq 31, 3) := by decide +kernel
theorem dX12_signUsed_17 : decode cX12_signUsed 17 = .ok (.aload_n 0, 1) := by decide +kernel
theorem dX12_signUsed_18 : decode cX12_signUsed 18 = .ok (.getfield 340, 3) := by decide +kernel
theorem dX12_signUsed_21 : decode cX12_signUsed 21 = .ok (.bipush 45, 2) := by decide +kernel
theorem dX12_signUsed_23 : decode cX12_signUsed 23 = .ok (.if_icmp .eq 22, 3) := by decide +kernel
theorem dX12_signUsed_26 : decode cX12_signUsed 26 = .ok (.aload_n 0, 1) := by decide +kernel
theorem dX12_signUsed_27 : decode cX12_signUsed 27 = .ok (.getfield 340, 3) := by decide +kernel
theorem dX12_signUsed_30 : decode cX12_signUsed 30 = .ok (.bipush 63, 2) := by decide +kernel
theorem dX12_signUsed_32 : decode cX12_signUsed 32 = .ok (.if_icmp .eq 13, 3) := by decide +kernel
theorem dX12_signUsed_35 : decode cX12_signUsed 35 = .ok (.aload_n 0, 1) := by decide +kernel
theorem dX12_signUsed_36 : decode cX12_signUsed 36 = .ok (.iconst 1, 1) := by decide +kernel
theorem dX12_signUsed_37 : decode cX12_signUsed 37 = .ok (.aload_n 0, 1) := by decide +kernel
theorem dX12_signUsed_38 : decode cX12_signUsed 38 = .ok (.getfield 337, 3) := by decide +kernel
theorem dX12_signUsed_41 : decode cX12_signUsed 41 = .ok (.invokevirtual 374, 3) := by decide +kernel
theorem dX12_signUsed_44 : decode cX12_signUsed 44 = .ok (.return_, 1) := by decide +kernel
theorem dX12_signUsed_45 : decode cX12_signUsed 45 = .ok (.aload_n 0, 1) := by decide +kernel
theorem dX12_signUsed_46 : decode cX12_signUsed 46 = .ok (.getfield 340, 3) := by decide +kernel
theorem dX12_signUsed_49 : decode cX12_signUsed 49 = .ok (.bipush 43, 2) := by decide +kernel
theorem dX12_signUsed_51 : decode cX12_signUsed 51 = .ok (.if_icmp .ne 7, 3) := by decide +kernel
theorem dX12_signUsed_54 : decode cX12_signUsed 54 = .ok (.iconst 0, 1) := by decide +kernel
theorem dX12_signUsed_55 : decode cX12_signUsed 55 = .ok (.goto 4, 3) := by decide +kernel
theorem dX12_signUsed_58 : decode cX12_signUsed 58 = .ok (.iconst 1, 1) := by decide +kernel
theorem dX12_signUsed_59 : decode cX12_signUsed 59 = .ok (.istore_n 1, 1) := by decide +kernel
theorem dX12_signUsed_60 : decode cX12_signUsed 60 = .ok (.aload_n 0, 1) := by decide +kernel
theorem dX12_signUsed_61 : decode cX12_signUsed 61 = .ok (.getfield 340, 3) := by decide +kernel
theorem dX12_signUsed_64 : decode cX12_signUsed 64 = .ok (.bipush 63, 2) := by decide +kernel
theorem dX12_signUsed_66 : decode cX12_signUsed 66 = .ok (.if_icmp .ne 48, 3) := by decide +kernel
theorem dX12_signUsed_69 : decode cX12_signUsed 69 = .ok (.aload_n 0, 1) := by decide +kernel
theorem dX12_signUsed_70 : decode cX12_signUsed 70 = .ok (.getfield 411, 3) := by decide +kernel
theorem dX12_signUsed_73 : decode cX12_signUsed 73 = .ok (.bipush 8, 2) := by decide +kernel
theorem dX12_signUsed_75 : decode cX12_signUsed 75 = .ok (.if_icmp .ne 13, 3) := by decide +kernel
theorem dX12_signUsed_78 : decode cX12_signUsed 78 = .ok (.aload_n 0, 1) := by decide +kernel
theorem dX12_signUsed_79 : decode cX12_signUsed 79 = .ok (.bipush 6, 2) := by decide +kernel
theorem dX12_signUsed_81 : decode cX12_signUsed 81 = .ok (.aload_n 0, 1) := by decide +kernel
theorem dX12_signUsed_82 : decode cX12_signUsed 82 = .ok (.getfield 337, 3) := by decide +kernel
theorem dX12_signUsed_85 : decode cX12_signUsed 85 = .ok (.invokevirtual 378, 3) := by decide +kernel
theorem dX12_signUsed_88 : decode cX12_signUsed 88 = .ok (.iconst 2, 1) := by decide +kernel
theorem dX12_signUsed_89 : decode cX12_signUsed 89 = .ok (.aload_n 0, 1) := by decide +kernel
theorem dX12_signUsed_90 : decode cX12_signUsed 90 = .ok (.getfield 411, 3) := by decide +kernel
theorem dX12_signUsed_93 : decode cX12_signUsed 93 = .ok (.iadd, 1) := by decide +kernel
theorem dX12_signUsed_94 : decode cX12_signUsed 94 = .ok (.istore_n 1, 1) := by decide +kernel
theorem dX12_signUsed_95 : decode cX12_signUsed 95 = .ok (.aload_n 0, 1) := by decide +kernel
theorem dX12_signUsed_96 : decode cX12_signUsed 96 = .ok (.getfield 411, 3) := by decide +kernel
theorem dX12_signUsed_99 : decode cX12_signUsed 99 = .ok (.bipush 8, 2) := by decide +kernel
theorem dX12_signUsed_101 : decode cX12_signUsed 101 = .ok (.if_icmp .ge 13, 3) := by decide +kernel
theorem dX12_signUsed_104 : decode cX12_signUsed 104 = .ok (.aload_n 0, 1) := by decide +kernel
theorem dX12_signUsed_105 : decode cX12_signUsed 105 = .ok (.dup, 1) := by decide +kernel
theorem dX12_signUsed_106 : decode cX12_signUsed 106 = .ok (.getfield 411, 3) := by decide +kernel
theorem dX12_signUsed_109 : decode cX12_signUsed 109 = .ok (.iconst 1, 1) := by decide +kernel
theorem dX12_signUsed_110 : decode cX12_signUsed 110 = .ok (.iadd, 1) := by decide +kernel
theorem dX12_signUsed_111 : decode cX12_signUsed 111 = .ok (.putfield 411, 3) := by decide +kernel
theorem dX12_signUsed_114 : decode cX12_signUsed 114 = .ok (.aload_n 0, 1) := by decide +kernel
theorem dX12_signUsed_115 : decode cX12_signUsed 115 = .ok (.getfield 403, 3) := by decide +kernel
theorem dX12_signUsed_118 : decode cX12_signUsed 118 = .ok (.bipush 40, 2) := by decide +kernel
theorem dX12_signUsed_120 : decode cX12_signUsed 120 = .ok (.if_icmp .gt 15, 3) := by decide +kernel
theorem dX12_signUsed_123 : decode cX12_signUsed 123 = .ok (.aload_n 0, 1) := by decide +kernel
theorem dX12_signUsed_124 : decode cX12_signUsed 124 = .ok (.getfield 96, 3) := by decide +kernel
theorem dX12_signUsed_127 : decode cX12_signUsed 127 = .ok (.aload_n 0, 1) := by decide +kernel
theorem dX12_signUsed_128 : decode cX12_signUsed 128 = .ok (.getfield 403, 3) := by decide +kernel
theorem dX12_signUsed_131 : decode cX12_signUsed 131 = .ok (.iconst 1, 1) := by decide +kernel
theorem dX12_signUsed_132 : decode cX12_signUsed 132 = .ok (.isub, 1) := by decide +kernel
theorem dX12_signUsed_133 : decode cX12_signUsed 133 = .ok (.iload_n 1, 1) := by decide +kernel
theorem dX12_signUsed_134 : decode cX12_signUsed 134 = .ok (.iastore, 1) := by decide +kernel
theorem dX12_signUsed_135 : decode cX12_signUsed 135 = .ok (.aload_n 0, 1) := by decide +kernel
theorem dX12_signUsed_136 : decode cX12_signUsed 136 = .ok (.invokevirtual 371, 3) := by decide +kernel
theorem dX12_signUsed_139 : decode cX12_signUsed 139 = .ok (.return_, 1) := by decide +kernel
theorem dX12_statement_0 : decode cX12_statement 0 = .ok (.aload_n 0, 1) := by decide +kernel
theorem dX12_statement_1 : decode cX12_statement 1 = .ok (.invokevirtual 414, 3) := by decide +kernel
theorem dX12_statement_4 : decode cX12_statement 4 = .ok (.istore_n 1, 1) := by decide +kernel
theorem dX12_statement_5 : decode cX12_statement 5 = .ok (.iload_n 1, 1) := by decide +kernel
theorem dX12_statement_6 : decode cX12_statement 6 = .ok (.ifCond .ge 13, 3) := by decide +kernel
theorem dX12_statement_9 : decode cX12_statement 9 = .ok (.aload_n 0, 1) := by decide +kernel
theorem dX12_statement_10 : decode cX12_statement 10 = .ok (.iconst 1, 1) := by decide +kernel
theorem dX12_statement_11 : decode cX12_statement 11 = .ok (.aload_n 0, 1) := by decide +kernel
theorem dX12_statement_12 : decode cX12_statement 12 = .ok (.getfield 337, 3) := by decide +kernel
theorem dX12_statement_15 : decode cX12_statement 15 = .ok (.invokevirtual 374, 3) := by decide +kernel
theorem dX12_statement_18 : decode cX12_statement 18 = .ok (.return_, 1) := by decide +kernel
theorem dX12_statement_19 : decode cX12_statement 19 = .ok (.aload_n 0, 1) := by decide +kernel
theorem dX12_statement_20 : decode cX12_statement 20 = .ok (.invokevirtual 371, 3) := by decide +kernel
theorem dX12_statement_23 : decode cX12_statement 23 = .ok (.aload_n 0, 1) := by decide +kernel
theorem dX12_statement_24 : decode cX12_statement 24 = .ok (.iconst 1, 1) := by decide +kernel
theorem dX12_statement_25 : decode cX12_statement 25 = .ok (.invokevirtual 381, 3) := by decide +kernel
theorem dX12_statement_28 : decode cX12_statement 28 = .ok (.ifCond .ne 4, 3) := by decide +kernel
theorem dX12_statement_31 : decode cX12_statement 31 = .ok (.return_, 1) := by decide +kernel
theorem dX12_statement_32 : decode cX12_statement 32 = .ok (.iconst 0, 1) := by decide +kernel
theorem dX12_statement_33 : decode cX12_statement 33 = .ok (.istore_n 2, 1) := by decide +kernel
theorem dX12_statement_34 : decode cX12_statement 34 = .ok (.iload_n 2, 1) := by decide +kernel
theorem dX12_statement_35 : decode cX12_statement 35 = .ok (.aload_n 0, 1) := by decide +kernel
theorem dX12_statement_36 : decode cX12_statement 36 = .ok (.getfield 403, 3) := by decide +kernel
theorem dX12_statement_39 : decode cX12_statement 39 = .ok (.if_icmp .ge 62, 3) := by decide +kernel
theorem dX12_statement_42 : decode cX12_statement 42 = .ok (.aload_n 0, 1) := by decide +kernel
theorem dX12_statement_43 : decode cX12_statement 43 = .ok (.getfield 78, 3) := by decide +kernel
theorem dX12_statement_46 : decode cX12_statement 46 = .ok (.iload_n 2, 1) := by decide +kernel
theorem dX12_statement_47 : decode cX12_statement 47 = .ok (.iaload, 1) := by decide +kernel
theorem dX12_statement_48 : decode cX12_statement 48 = .ok (.aload_n 0, 1) := by decide +kernel
theorem dX12_statement_49 : decode cX12_statement 49 = .ok (.getfield 330, 3) := by decide +kernel
theorem dX12_statement_52 : decode cX12_statement 52 = .ok (.aload_n 0, 1) := by decide +kernel
theorem dX12_statement_53 : decode cX12_statement 53 = .ok (.getfield 337, 3) := by decide +kernel
theorem dX12_statement_56 : decode cX12_statement 56 = .ok (.isub, 1) := by decide +kernel
theorem dX12_statement_57 : decode cX12_statement 57 = .ok (.if_icmp .ne 38, 3) := by decide +kernel
theorem dX12_statement_60 : decode cX12_statement 60 = .ok (.aload_n 0, 1) := by decide +kernel
theorem dX12_statement_61 : decode cX12_statement 61 = .ok (.aload_n 0, 1) := by decide +kernel
theorem dX12_statement_62 : decode cX12_statement 62 = .ok (.getfield 75, 3) := by decide +kernel
theorem dX12_statement_65 : decode cX12_statement 65 = .ok (.iload_n 2, 1) := by decide +kernel
theorem dX12_statement_66 : decode cX12_statement 66 = .ok (.iaload, 1) := by decide +kernel
theorem dX12_statement_67 : decode cX12_statement 67 = .ok (.aload_n 0, 1) := by decide +kernel
theorem dX12_statement_68 : decode cX12_statement 68 = .ok (.getfield 337, 3) := by decide +kernel
theorem dX12_statement_71 : decode cX12_statement 71 = .ok (.aload_n 0, 1) := by decide +kernel
theorem dX12_statement_72 : decode cX12_statement 72 = .ok (.getfield 330, 3) := by decide +kernel
theorem dX12_statement_75 : decode cX12_statement 75 = .ok (.aload_n 0, 1) := by decide +kernel
theorem dX12_statement_76 : decode cX12_statement 76 = .ok (.getfield 337, 3) := by decide +kernel
theorem dX12_statement_79 : decode cX12_statement 79 = .ok (.isub, 1) := by decide +kernel
theorem dX12_statement_80 : decode cX12_statement 80 = .ok (.invokevirtual 417, 3) := by decide +kernel
theorem dX12_statement_83 : decode cX12_statement 83 = .ok (.ifCond .eq 12, 3) := by decide +kernel
theorem dX12_statement_86 : decode cX12_statement 86 = .ok (.aload_n 0, 1) := by decide +kernel
theorem dX12_statement_87 : decode cX12_statement 87 = .ok (.iconst 2, 1) := by decide +kernel
theorem dX12_statement_88 : decode cX12_statement 88 = .ok (.aload_n 0, 1) := by decide +kernel
theorem dX12_statement_89 : decode cX12_statement 89 = .ok (.getfield 337, 3) := by decide +kernel
theorem dX12_statement_92 : decode cX12_statement 92 = .ok (.invokevirtual 378, 3) := by decide +kernel
theorem dX12_statement_95 : decode cX12_statement 95 = .ok (.iinc 2 1, 3) := by decide +kernel
theorem dX12_statement_98 : decode cX12_statement 98 = .ok (.goto (-64), 3) := by decide +kernel
theorem dX12_statement_101 : decode cX12_statement 101 = .ok (.aload_n 0, 1) := by decide +kernel
theorem dX12_statement_102 : decode cX12_statement 102 = .ok (.getfield 403, 3) := by decide +kernel
theorem dX12_statement_105 : decode cX12_statement 105 = .ok (.bipush 40, 2) := by decide +kernel
theorem dX12_statement_107 : decode cX12_statement 107 = .ok (.if_icmp .lt 13, 3) := by decide +kernel
theorem dX12_statement_110 : decode cX12_statement 110 = .ok (.aload_n 0, 1) := by decide +kernel
theorem dX12_statement_111 : decode cX12_statement 111 = .ok (.bipush 6, 2) := by decide +kernel
theorem dX12_statement_113 : decode cX12_statement 113 = .ok (.aload_n 0, 1) := by decide +kernel
theorem dX12_statement_114 : decode cX12_statement 114 = .ok (.getfield 337, 3) := by decide +kernel
theorem dX12_statement_117 : decode cX12_statement 117 = .ok (.invokevirtual 378, 3) := by decide +kernel
theorem dX12_statement_120 : decode cX12_statement 120 = .ok (.aload_n 0, 1) := by decide +kernel
theorem dX12_statement_121 : decode cX12_statement 121 = .ok (.getfield 75, 3) := by decide +kernel
theorem dX12_statement_124 : decode cX12_statement 124 = .ok (.aload_n 0, 1) := by decide +kernel
theorem dX12_statement_125 : decode cX12_statement 125 = .ok (.getfield 403, 3) := by decide +kernel
theorem dX12_statement_128 : decode cX12_statement 128 = .ok (.aload_n 0, 1) := by decide +kernel
theorem dX12_statement_129 : decode cX12_statement 129 = .ok (.getfield 337, 3) := by decide +kernel
theorem dX12_statement_132 : decode cX12_statement 132 = .ok (.iastore, 1) := by decide +kernel
theorem dX12_statement_133 : decode cX12_statement 133 = .ok (.aload_n 0, 1) := by decide +kernel
theorem dX12_statement_134 : decode cX12_statement 134 = .ok (.getfield 78, 3) := by decide +kernel
theorem dX12_statement_137 : decode cX12_statement 137 = .ok (.aload_n 0, 1) := by decide +kernel
theorem dX12_statement_138 : decode cX12_statement 138 = .ok (.getfield 403, 3) := by decide +kernel
theorem dX12_statement_141 : decode cX12_statement 141 = .ok (.aload_n 0, 1) := by decide +kernel
theorem dX12_statement_142 : decode cX12_statement 142 = .ok (.getfield 330, 3) := by decide +kernel
theorem dX12_statement_145 : decode cX12_statement 145 = .ok (.aload_n 0, 1) := by decide +kernel
theorem dX12_statement_146 : decode cX12_statement 146 = .ok (.getfield 337, 3) := by decide +kernel
theorem dX12_statement_149 : decode cX12_statement 149 = .ok (.isub, 1) := by decide +kernel
theorem dX12_statement_150 : decode cX12_statement 150 = .ok (.iastore, 1) := by decide +kernel
theorem dX12_statement_151 : decode cX12_statement 151 = .ok (.aload_n 0, 1) := by decide +kernel
theorem dX12_statement_152 : decode cX12_statement 152 = .ok (.dup, 1) := by decide +kernel
theorem dX12_statement_153 : decode cX12_statement 153 = .ok (.getfield 403, 3) := by decide +kernel
theorem dX12_statement_156 : decode cX12_statement 156 = .ok (.iconst 1, 1) := by decide +kernel
theorem dX12_statement_157 : decode cX12_statement 157 = .ok (.iadd, 1) := by decide +kernel
theorem dX12_statement_158 : decode cX12_statement 158 = .ok (.putfield 403, 3) := by decide +kernel
theorem dX12_statement_161 : decode cX12_statement 161 = .ok (.aload_n 0, 1) := by decide +kernel
theorem dX12_statement_162 : decode cX12_statement 162 = .ok (.getfield 403, 3) := by decide +kernel
theorem dX12_statement_165 : decode cX12_statement 165 = .ok (.bipush 40, 2) := by decide +kernel
theorem dX12_statement_167 : decode cX12_statement 167 = .ok (.if_icmp .gt 56, 3) := by decide +kernel
theorem dX12_statement_170 : decode cX12_statement 170 = .ok (.aload_n 0, 1) := by decide +kernel
theorem dX12_statement_171 : decode cX12_statement 171 = .ok (.getfield 81, 3) := by decide +kernel
theorem dX12_statement_174 : decode cX12_statement 174 = .ok (.aload_n 0, 1) := by decide +kernel
theorem dX12_statement_175 : decode cX12_statement 175 = .ok (.getfield 403, 3) := by decide +kernel
theorem dX12_statement_178 : decode cX12_statement 178 = .ok (.iconst 1, 1) := by decide +kernel
theorem dX12_statement_179 : decode cX12_statement 179 = .ok (.isub, 1) := by decide +kernel
theorem dX12_statement_180 : decode cX12_statement 180 = .ok (.iload_n 1, 1) := by decide +kernel
theorem dX12_statement_181 : decode cX12_statement 181 = .ok (.iastore, 1) := by decide +kernel
theorem dX12_statement_182 : decode cX12_statement 182 = .ok (.iconst 0, 1) := by decide +kernel
theorem dX12_statement_183 : decode cX12_statement 183 = .ok (.istore_n 2, 1) := by decide +kernel
theorem dX12_statement_184 : decode cX12_statement 184 = .ok (.iload_n 2, 1) := by decide +kernel
theorem dX12_statement_185 : decode cX12_statement 185 = .ok (.iconst 4, 1) := by decide +kernel
theorem dX12_statement_186 : decode cX12_statement 186 = .ok (.if_icmp .ge 25, 3) := by decide +kernel
theorem dX12_statement_189 : decode cX12_statement 189 = .ok (.aload_n 0, 1) := by decide +kernel
theorem dX12_statement_190 : decode cX12_statement 190 = .ok (.getfield 87, 3) := by decide +kernel
theorem dX12_statement_193 : decode cX12_statement 193 = .ok (.iconst 4, 1) := by decide +kernel
theorem dX12_statement_194 : decode cX12_statement 194 = .ok (.aload_n 0, 1) := by decide +kernel
theorem dX12_statement_195 : decode cX12_statement 195 = .ok (.getfield 403, 3) := by decide +kernel
theorem dX12_statement_198 : decode cX12_statement 198 = .ok (.iconst 1, 1) := by decide +kernel
theorem dX12_statement_199 : decode cX12_statement 199 = .ok (.isub, 1) := by decide +kernel
theorem dX12_statement_200 : decode cX12_statement 200 = .ok (.imul, 1) := by decide +kernel
theorem dX12_statement_201 : decode cX12_statement 201 = .ok (.iload_n 2, 1) := by decide +kernel
theorem dX12_statement_202 : decode cX12_statement 202 = .ok (.iadd, 1) := by decide +kernel
theorem dX12_statement_203 : decode cX12_statement 203 = .ok (.iconst 0, 1) := by decide +kernel
theorem dX12_statement_204 : decode cX12_statement 204 = .ok (.iastore, 1) := by decide +kernel
theorem dX12_statement_205 : decode cX12_statement 205 = .ok (.iinc 2 1, 3) := by decide +kernel
theorem dX12_statement_208 : decode cX12_statement 208 = .ok (.goto (-24), 3) := by decide +kernel
theorem dX12_statement_211 : decode cX12_statement 211 = .ok (.aload_n 0, 1) := by decide +kernel
theorem dX12_statement_212 : decode cX12_statement 212 = .ok (.getfield 96, 3) := by decide +kernel
theorem dX12_statement_215 : decode cX12_statement 215 = .ok (.aload_n 0, 1) := by decide +kernel
theorem dX12_statement_216 : decode cX12_statement 216 = .ok (.getfield 403, 3) := by decide +kernel
theorem dX12_statement_219 : decode cX12_statement 219 = .ok (.iconst 1, 1) := by decide +kernel
theorem dX12_statement_220 : decode cX12_statement 220 = .ok (.isub, 1) := by decide +kernel
theorem dX12_statement_221 : decode cX12_statement 221 = .ok (.iconst 0, 1) := by decide +kernel
theorem dX12_statement_222 : decode cX12_statement 222 = .ok (.iastore, 1) := by decide +kernel
theorem dX12_statement_223 : decode cX12_statement 223 = .ok (.aload_n 0, 1) := by decide +kernel
theorem dX12_statement_224 : decode cX12_statement 224 = .ok (.invokevirtual 371, 3) := by decide +kernel
theorem dX12_statement_227 : decode cX12_statement 227 = .ok (.aload_n 0, 1) := by decide +kernel
theorem dX12_statement_228 : decode cX12_statement 228 = .ok (.iload_n 1, 1) := by decide +kernel
theorem dX12_statement_229 : decode cX12_statement 229 = .ok (.invokevirtual 421, 3) := by decide +kernel
theorem dX12_statement_232 : decode cX12_statement 232 = .ok (.aload_n 0, 1) := by decide +kernel
theorem dX12_statement_233 : decode cX12_statement 233 = .ok (.invokevirtual 424, 3) := by decide +kernel
theorem dX12_statement_236 : decode cX12_statement 236 = .ok (.return_, 1) := by decide +kernel
theorem dX12_parts_0 : decode cX12_parts 0 = .ok (.iload_n 1, 1) := by decide +kernel
theorem dX12_parts_1 : decode cX12_parts 1 = .ok (.ifCond .eq 8, 3) := by decide +kernel
theorem dX12_parts_4 : decode cX12_parts 4 = .ok (.aload_n 0, 1) := by decide +kernel
theorem dX12_parts_5 : decode cX12_parts 5 = .ok (.iconst 0, 1) := by decide +kernel
theorem dX12_parts_6 : decode cX12_parts 6 = .ok (.invokevirtual 427, 3) := by decide +kernel
theorem dX12_parts_9 : decode cX12_parts 9 = .ok (.iload_n 1, 1) := by decide +kernel
theorem dX12_parts_10 : decode cX12_parts 10 = .ok (.iconst 2, 1) := by decide +kernel
theorem dX12_parts_11 : decode cX12_parts 11 = .ok (.if_icmp .eq 13, 3) := by decide +kernel
theorem dX12_parts_14 : decode cX12_parts 14 = .ok (.iload_n 1, 1) := by decide +kernel
theorem dX12_parts_15 : decode cX12_parts 15 = .ok (.iconst 4, 1) := by decide +kernel
theorem dX12_parts_16 : decode cX12_parts 16 = .ok (.if_icmp .eq 8, 3) := by decide +kernel
theorem dX12_parts_19 : decode cX12_parts 19 = .ok (.iload_n 1, 1) := by decide +kernel
theorem dX12_parts_20 : decode cX12_parts 20 = .ok (.iconst 5, 1) := by decide +kernel
theorem dX12_parts_21 : decode cX12_parts 21 = .ok (.if_icmp .ne 8, 3) := by decide +kernel
theorem dX12_parts_24 : decode cX12_parts 24 = .ok (.aload_n 0, 1) := by decide +kernel
theorem dX12_parts_25 : decode cX12_parts 25 = .ok (.iconst 1, 1) := by decide +kernel
theorem dX12_parts_26 : decode cX12_parts 26 = .ok (.invokevirtual 427, 3) := by decide +kernel
theorem dX12_parts_29 : decode cX12_parts 29 = .ok (.iload_n 1, 1) := by decide +kernel
theorem dX12_parts_30 : decode cX12_parts 30 = .ok (.tableswitch 117 0 4 #[34, 47, 79, 96, 34], 34) := by decide +kernel
theorem dX12_parts_64 : decode cX12_parts 64 = .ok (.aload_n 0, 1) := by decide +kernel
theorem dX12_parts_65 : decode cX12_parts 65 = .ok (.iconst 0, 1) := by decide +kernel
theorem dX12_parts_66 : decode cX12_parts 66 = .ok (.iconst 0, 1) := by decide +kernel
theorem dX12_parts_67 : decode cX12_parts 67 = .ok (.invokevirtual 430, 3) := by decide +kernel
theorem dX12_parts_70 : decode cX12_parts 70 = .ok (.aload_n 0, 1) := by decide +kernel
theorem dX12_parts_71 : decode cX12_parts 71 = .ok (.iconst 1, 1) := by decide +kernel
theorem dX12_parts_72 : decode cX12_parts 72 = .ok (.iconst 0, 1) := by decide +kernel
theorem dX12_parts_73 : decode cX12_parts 73 = .ok (.invokevirtual 430, 3) := by decide +kernel
theorem dX12_parts_76 : decode cX12_parts 76 = .ok (.return_, 1) := by decide +kernel
theorem dX12_parts_77 : decode cX12_parts 77 = .ok (.aload_n 0, 1) := by decide +kernel
theorem dX12_parts_78 : decode cX12_parts 78 = .ok (.iconst 0, 1) := by decide +kernel
theorem dX12_parts_79 : decode cX12_parts 79 = .ok (.iconst 1, 1) := by decide +kernel
theorem dX12_parts_80 : decode cX12_parts 80 = .ok (.invokevirtual 430, 3) := by decide +kernel
theorem dX12_parts_83 : decode cX12_parts 83 = .ok (.aload_n 0, 1) := by decide +kernel
theorem dX12_parts_84 : decode cX12_parts 84 = .ok (.iconst 0, 1) := by decide +kernel
theorem dX12_parts_85 : decode cX12_parts 85 = .ok (.iconst 0, 1) := by decide +kernel
theorem dX12_parts_86 : decode cX12_parts 86 = .ok (.iconst 3, 1) := by decide +kernel
theorem dX12_parts_87 : decode cX12_parts 87 = .ok (.invokevirtual 434, 3) := by decide +kernel
theorem dX12_parts_90 : decode cX12_parts 90 = .ok (.aload_n 0, 1) := by decide +kernel
theorem dX12_parts_91 : decode cX12_parts 91 = .ok (.iconst 1, 1) := by decide +kernel
theorem dX12_parts_92 : decode cX12_parts 92 = .ok (.bipush (-8), 2) := by decide +kernel
theorem dX12_parts_94 : decode cX12_parts 94 = .ok (.bipush 8, 2) := by decide +kernel
theorem dX12_parts_96 : decode cX12_parts 96 = .ok (.invokevirtual 434, 3) := by decide +kernel
theorem dX12_parts_99 : decode cX12_parts 99 = .ok (.aload_n 0, 1) := by decide +kernel
theorem dX12_parts_100 : decode cX12_parts 100 = .ok (.iconst 2, 1) := by decide +kernel
theorem dX12_parts_101 : decode cX12_parts 101 = .ok (.iconst 0, 1) := by decide +kernel
theorem dX12_parts_102 : decode cX12_parts 102 = .ok (.sipush 1023, 3) := by decide +kernel
theorem dX12_parts_105 : decode cX12_parts 105 = .ok (.invokevirtual 434, 3) := by decide +kernel
theorem dX12_parts_108 : decode cX12_parts 108 = .ok (.return_, 1) := by decide +kernel
theorem dX12_parts_109 : decode cX12_parts 109 = .ok (.aload_n 0, 1) := by decide +kernel
theorem dX12_parts_110 : decode cX12_parts 110 = .ok (.iconst 0, 1) := by decide +kernel
theorem dX12_parts_111 : decode cX12_parts 111 = .ok (.iconst 1, 1) := by decide +kernel
theorem dX12_parts_112 : decode cX12_parts 112 = .ok (.invokevirtual 430, 3) := by decide +kernel
theorem dX12_parts_115 : decode cX12_parts 115 = .ok (.aload_n 0, 1) := by decide +kernel
theorem dX12_parts_116 : decode cX12_parts 116 = .ok (.iconst 1, 1) := by decide +kernel
theorem dX12_parts_117 : decode cX12_parts 117 = .ok (.iconst 1, 1) := by decide +kernel
theorem dX12_parts_118 : decode cX12_parts 118 = .ok (.invokevirtual 430, 3) := by decide +kernel
theorem dX12_parts_121 : decode cX12_parts 121 = .ok (.aload_n 0, 1) := by decide +kernel
theorem dX12_parts_122 : decode cX12_parts 122 = .ok (.invokevirtual 438, 3) := by decide +kernel
theorem dX12_parts_125 : decode cX12_parts 125 = .ok (.return_, 1) := by decide +kernel
theorem dX12_parts_126 : decode cX12_parts 126 = .ok (.aload_n 0, 1) := by decide +kernel
theorem dX12_parts_127 : decode cX12_parts 127 = .ok (.iconst 0, 1) := by decide +kernel
theorem dX12_parts_128 : decode cX12_parts 128 = .ok (.iconst 1, 1) := by decide +kernel
theorem dX12_parts_129 : decode cX12_parts 129 = .ok (.invokevirtual 430, 3) := by decide +kernel
theorem dX12_parts_132 : decode cX12_parts 132 = .ok (.aload_n 0, 1) := by decide +kernel
theorem dX12_parts_133 : decode cX12_parts 133 = .ok (.iconst 2, 1) := by decide +kernel
theorem dX12_parts_134 : decode cX12_parts 134 = .ok (.invokevirtual 427, 3) := by decide +kernel
theorem dX12_parts_137 : decode cX12_parts 137 = .ok (.aload_n 0, 1) := by decide +kernel
theorem dX12_parts_138 : decode cX12_parts 138 = .ok (.iconst 3, 1) := by decide +kernel
theorem dX12_parts_139 : decode cX12_parts 139 = .ok (.invokevirtual 427, 3) := by decide +kernel
theorem dX12_parts_142 : decode cX12_parts 142 = .ok (.aload_n 0, 1) := by decide +kernel
theorem dX12_parts_143 : decode cX12_parts 143 = .ok (.invokevirtual 438, 3) := by decide +kernel
theorem dX12_parts_146 : decode cX12_parts 146 = .ok (.return_, 1) := by decide +kernel
theorem dX12_parts_147 : decode cX12_parts 147 = .ok (.aload_n 0, 1) := by decide +kernel
theorem dX12_parts_148 : decode cX12_parts 148 = .ok (.iconst 2, 1) := by decide +kernel
theorem dX12_parts_149 : decode cX12_parts 149 = .ok (.invokevirtual 427, 3) := by decide +kernel
theorem dX12_parts_152 : decode cX12_parts 152 = .ok (.aload_n 0, 1) := by decide +kernel
theorem dX12_parts_153 : decode cX12_parts 153 = .ok (.iconst 3, 1) := by decide +kernel
theorem dX12_parts_154 : decode cX12_parts 154 = .ok (.invokevirtual 427, 3) := by decide +kernel
theorem dX12_parts_157 : decode cX12_parts 157 = .ok (.return_, 1) := by decide +kernel
theorem dX12_toldAs_0 : decode cX12_toldAs 0 = .ok (.iconst 0, 1) := by decide +kernel
theorem dX12_toldAs_1 : decode cX12_toldAs 1 = .ok (.istore_n 3, 1) := by decide +kernel
theorem dX12_toldAs_2 : decode cX12_toldAs 2 = .ok (.iload_n 3, 1) := by decide +kernel
theorem dX12_toldAs_3 : decode cX12_toldAs 3 = .ok (.aload_n 0, 1) := by decide +kernel
theorem dX12_toldAs_4 : decode cX12_toldAs 4 = .ok (.getfield 403, 3) := by decide +kernel
theorem dX12_toldAs_7 : decode cX12_toldAs 7 = .ok (.if_icmp .ge 36, 3) := by decide +kernel
theorem dX12_toldAs_10 : decode cX12_toldAs 10 = .ok (.aload_n 0, 1) := by decide +kernel
theorem dX12_toldAs_11 : decode cX12_toldAs 11 = .ok (.getfield 78, 3) := by decide +kernel
theorem dX12_toldAs_14 : decode cX12_toldAs 14 = .ok (.iload_n 3, 1) := by decide +kernel
theorem dX12_toldAs_15 : decode cX12_toldAs 15 = .ok (.iaload, 1) := by decide +kernel
theorem dX12_toldAs_16 : decode cX12_toldAs 16 = .ok (.iload_n 2, 1) := by decide +kernel
theorem dX12_toldAs_17 : decode cX12_toldAs 17 = .ok (.if_icmp .ne 20, 3) := by decide +kernel
theorem dX12_toldAs_20 : decode cX12_toldAs 20 = .ok (.aload_n 0, 1) := by decide +kernel
theorem dX12_toldAs_21 : decode cX12_toldAs 21 = .ok (.aload_n 0, 1) := by decide +kernel
theorem dX12_toldAs_22 : decode cX12_toldAs 22 = .ok (.getfield 75, 3) := by decide +kernel
theorem dX12_toldAs_25 : decode cX12_toldAs 25 = .ok (.iload_n 3, 1) := by decide +kernel
theorem dX12_toldAs_26 : decode cX12_toldAs 26 = .ok (.iaload, 1) := by decide +kernel
theorem dX12_toldAs_27 : decode cX12_toldAs 27 = .ok (.iload_n 1, 1) := by decide +kernel
theorem dX12_toldAs_28 : decode cX12_toldAs 28 = .ok (.iload_n 2, 1) := by decide +kernel
theorem dX12_toldAs_29 : decode cX12_toldAs 29 = .ok (.invokevirtual 417, 3) := by decide +kernel
theorem dX12_toldAs_32 : decode cX12_toldAs 32 = .ok (.ifCond .eq 5, 3) := by decide +kernel
theorem dX12_toldAs_35 : decode cX12_toldAs 35 = .ok (.iload_n 3, 1) := by decide +kernel
theorem dX12_toldAs_36 : decode cX12_toldAs 36 = .ok (.ireturn, 1) := by decide +kernel
theorem dX12_toldAs_37 : decode cX12_toldAs 37 = .ok (.iinc 3 1, 3) := by decide +kernel
theorem dX12_toldAs_40 : decode cX12_toldAs 40 = .ok (.goto (-38), 3) := by decide +kernel
theorem dX12_toldAs_43 : decode cX12_toldAs 43 = .ok (.iconst (-1), 1) := by decide +kernel
theorem dX12_toldAs_44 : decode cX12_toldAs 44 = .ok (.ireturn, 1) := by decide +kernel
theorem dX12_findNames_0 : decode cX12_findNames 0 = .ok (.iconst 0, 1) := by decide +kernel
theorem dX12_findNames_1 : decode cX12_findNames 1 = .ok (.istore_n 1, 1) := by decide +kernel
theorem dX12_findNames_2 : decode cX12_findNames 2 = .ok (.iload_n 1, 1) := by decide +kernel
theorem dX12_findNames_3 : decode cX12_findNames 3 = .ok (.aload_n 0, 1) := by decide +kernel
theorem dX12_findNames_4 : decode cX12_findNames 4 = .ok (.getfield 400, 3) := by decide +kernel
theorem dX12_findNames_7 : decode cX12_findNames 7 = .ok (.if_icmp .ge 39, 3) := by decide +kernel
theorem dX12_findNames_10 : decode cX12_findNames 10 = .ok (.aload_n 0, 1) := by decide +kernel
theorem dX12_findNames_11 : decode cX12_findNames 11 = .ok (.aload_n 0, 1) := by decide +kernel
theorem dX12_findNames_12 : decode cX12_findNames 12 = .ok (.getfield 108, 3) := by decide +kernel
theorem dX12_findNames_15 : decode cX12_findNames 15 = .ok (.iload_n 1, 1) := by decide +kernel
theorem dX12_findNames_16 : decode cX12_findNames 16 = .ok (.iaload, 1) := by decide +kernel
theorem dX12_findNames_17 : decode cX12_findNames 17 = .ok (.aload_n 0, 1) := by decide +kernel
theorem dX12_findNames_18 : decode cX12_findNames 18 = .ok (.getfield 111, 3) := by decide +kernel
theorem dX12_findNames_21 : decode cX12_findNames 21 = .ok (.iload_n 1, 1) := by decide +kernel
theorem dX12_findNames_22 : decode cX12_findNames 22 = .ok (.iaload, 1) := by decide +kernel
theorem dX12_findNames_23 : decode cX12_findNames 23 = .ok (.invokevirtual 441, 3) := by decide +kernel
theorem dX12_findNames_26 : decode cX12_findNames 26 = .ok (.ifCond .ge 14, 3) := by decide +kernel
theorem dX12_findNames_29 : decode cX12_findNames 29 = .ok (.aload_n 0, 1) := by decide +kernel
theorem dX12_findNames_30 : decode cX12_findNames 30 = .ok (.iconst 3, 1) := by decide +kernel
theorem dX12_findNames_31 : decode cX12_findNames 31 = .ok (.aload_n 0, 1) := by decide +kernel
theorem dX12_findNames_32 : decode cX12_findNames 32 = .ok (.getfield 108, 3) := by decide +kernel
theorem dX12_findNames_35 : decode cX12_findNames 35 = .ok (.iload_n 1, 1) := by decide +kernel
theorem dX12_findNames_36 : decode cX12_findNames 36 = .ok (.iaload, 1) := by decide +kernel
theorem dX12_findNames_37 : decode cX12_findNames 37 = .ok (.invokevirtual 378, 3) := by decide +kernel
theorem dX12_findNames_40 : decode cX12_findNames 40 = .ok (.iinc 1 1, 3) := by decide +kernel
theorem dX12_findNames_43 : decode cX12_findNames 43 = .ok (.goto (-41), 3) := by decide +kernel
theorem dX12_findNames_46 : decode cX12_findNames 46 = .ok (.return_, 1) := by decide +kernel
theorem dX12_findOrder_0 : decode cX12_findOrder 0 = .ok (.iconst 0, 1) := by decide +kernel
theorem dX12_findOrder_1 : decode cX12_findOrder 1 = .ok (.istore_n 1, 1) := by decide +kernel
theorem dX12_findOrder_2 : decode cX12_findOrder 2 = .ok (.iload_n 1, 1) := by decide +kernel
theorem dX12_findOrder_3 : decode cX12_findOrder 3 = .ok (.aload_n 0, 1) := by decide +kernel
theorem dX12_findOrder_4 : decode cX12_findOrder 4 = .ok (.getfield 403, 3) := by decide +kernel
theorem dX12_findOrder_7 : decode cX12_findOrder 7 = .ok (.if_icmp .ge 16, 3) := by decide +kernel
theorem dX12_findOrder_10 : decode cX12_findOrder 10 = .ok (.aload_n 0, 1) := by decide +kernel
theorem dX12_findOrder_11 : decode cX12_findOrder 11 = .ok (.getfield 105, 3) := by decide +kernel
theorem dX12_findOrder_14 : decode cX12_findOrder 14 = .ok (.iload_n 1, 1) := by decide +kernel
theorem dX12_findOrder_15 : decode cX12_findOrder 15 = .ok (.iconst 0, 1) := by decide +kernel
theorem dX12_findOrder_16 : decode cX12_findOrder 16 = .ok (.bastore, 1) := by decide +kernel
theorem dX12_findOrder_17 : decode cX12_findOrder 17 = .ok (.iinc 1 1, 3) := by decide +kernel
theorem dX12_findOrder_20 : decode cX12_findOrder 20 = .ok (.goto (-18), 3) := by decide +kernel
theorem dX12_findOrder_23 : decode cX12_findOrder 23 = .ok (.iconst 0, 1) := by decide +kernel
theorem dX12_findOrder_24 : decode cX12_findOrder 24 = .ok (.istore_n 1, 1) := by decide +kernel
theorem dX12_findOrder_25 : decode cX12_findOrder 25 = .ok (.iconst 1, 1) := by decide +kernel
theorem dX12_findOrder_26 : decode cX12_findOrder 26 = .ok (.istore_n 2, 1) := by decide +kernel
theorem dX12_findOrder_27 : decode cX12_findOrder 27 = .ok (.iload_n 2, 1) := by decide +kernel
theorem dX12_findOrder_28 : decode cX12_findOrder 28 = .ok (.ifCond .eq 126, 3) := by decide +kernel
theorem dX12_findOrder_31 : decode cX12_findOrder 31 = .ok (.iconst 0, 1) := by decide +kernel
theorem dX12_findOrder_32 : decode cX12_findOrder 32 = .ok (.istore_n 2, 1) := by decide +kernel
theorem dX12_findOrder_33 : decode cX12_findOrder 33 = .ok (.iconst 0, 1) := by decide +kernel
theorem dX12_findOrder_34 : decode cX12_findOrder 34 = .ok (.istore_n 3, 1) := by decide +kernel
theorem dX12_findOrder_35 : decode cX12_findOrder 35 = .ok (.iload_n 3, 1) := by decide +kernel
theorem dX12_findOrder_36 : decode cX12_findOrder 36 = .ok (.aload_n 0, 1) := by decide +kernel
theorem dX12_findOrder_37 : decode cX12_findOrder 37 = .ok (.getfield 403, 3) := by decide +kernel
theorem dX12_findOrder_40 : decode cX12_findOrder 40 = .ok (.if_icmp .ge 111, 3) := by decide +kernel
theorem dX12_findOrder_43 : decode cX12_findOrder 43 = .ok (.aload_n 0, 1) := by decide +kernel
theorem dX12_findOrder_44 : decode cX12_findOrder 44 = .ok (.getfield 105, 3) := by decide +kernel
theorem dX12_findOrder_47 : decode cX12_findOrder 47 = .ok (.iload_n 3, 1) := by decide +kernel
theorem dX12_findOrder_48 : decode cX12_findOrder 48 = .ok (.baload, 1) := by decide +kernel
theorem dX12_findOrder_49 : decode cX12_findOrder 49 = .ok (.ifCond .eq 6, 3) := by decide +kernel
theorem dX12_findOrder_52 : decode cX12_findOrder 52 = .ok (.goto 93, 3) := by decide +kernel
theorem dX12_findOrder_55 : decode cX12_findOrder 55 = .ok (.iconst 1, 1) := by decide +kernel
theorem dX12_findOrder_56 : decode cX12_findOrder 56 = .ok (.istore 4, 2) := by decide +kernel
theorem dX12_findOrder_58 : decode cX12_findOrder 58 = .ok (.iconst 0, 1) := by decide +kernel
theorem dX12_findOrder_59 : decode cX12_findOrder 59 = .ok (.istore 5, 2) := by decide +kernel
theorem dX12_findOrder_61 : decode cX12_findOrder 61 = .ok (.iload 5, 2) := by decide +kernel
theorem dX12_findOrder_63 : decode cX12_findOrder 63 = .ok (.iconst 4, 1) := by decide +kernel
theorem dX12_findOrder_64 : decode cX12_findOrder 64 = .ok (.if_icmp .ge 54, 3) := by decide +kernel
theorem dX12_findOrder_67 : decode cX12_findOrder 67 = .ok (.iload 4, 2) := by decide +kernel
theorem dX12_findOrder_69 : decode cX12_findOrder 69 = .ok (.ifCond .eq 40, 3) := by decide +kernel
theorem dX12_findOrder_72 : decode cX12_findOrder 72 = .ok (.aload_n 0, 1) := by decide +kernel
theorem dX12_findOrder_73 : decode cX12_findOrder 73 = .ok (.getfield 99, 3) := by decide +kernel
theorem dX12_findOrder_76 : decode cX12_findOrder 76 = .ok (.iconst 4, 1) := by decide +kernel
theorem dX12_findOrder_77 : decode cX12_findOrder 77 = .ok (.iload_n 3, 1) := by decide +kernel
theorem dX12_findOrder_78 : decode cX12_findOrder 78 = .ok (.imul, 1) := by decide +kernel
theorem dX12_findOrder_79 : decode cX12_findOrder 79 = .ok (.iload 5, 2) := by decide +kernel
theorem dX12_findOrder_81 : decode cX12_findOrder 81 = .ok (.iadd, 1) := by decide +kernel
theorem dX12_findOrder_82 : decode cX12_findOrder 82 = .ok (.iaload, 1) := by decide +kernel
theorem dX12_findOrder_83 : decode cX12_findOrder 83 = .ok (.ifCond .lt 22, 3) := by decide +kernel
theorem dX12_findOrder_86 : decode cX12_findOrder 86 = .ok (.aload_n 0, 1) := by decide +kernel
theorem dX12_findOrder_87 : decode cX12_findOrder 87 = .ok (.getfield 105, 3) := by decide +kernel
theorem dX12_findOrder_90 : decode cX12_findOrder 90 = .ok (.aload_n 0, 1) := by decide +kernel
theorem dX12_findOrder_91 : decode cX12_findOrder 91 = .ok (.getfield 99, 3) := by decide +kernel
theorem dX12_findOrder_94 : decode cX12_findOrder 94 = .ok (.iconst 4, 1) := by decide +kernel
theorem dX12_findOrder_95 : decode cX12_findOrder 95 = .ok (.iload_n 3, 1) := by decide +kernel
theorem dX12_findOrder_96 : decode cX12_findOrder 96 = .ok (.imul, 1) := by decide +kernel
theorem dX12_findOrder_97 : decode cX12_findOrder 97 = .ok (.iload 5, 2) := by decide +kernel
theorem dX12_findOrder_99 : decode cX12_findOrder 99 = .ok (.iadd, 1) := by decide +kernel
theorem dX12_findOrder_100 : decode cX12_findOrder 100 = .ok (.iaload, 1) := by decide +kernel
theorem dX12_findOrder_101 : decode cX12_findOrder 101 = .ok (.baload, 1) := by decide +kernel
theorem dX12_findOrder_102 : decode cX12_findOrder 102 = .ok (.ifCond .eq 7, 3) := by decide +kernel
theorem dX12_findOrder_105 : decode cX12_findOrder 105 = .ok (.iconst 1, 1) := by decide +kernel
theorem dX12_findOrder_106 : decode cX12_findOrder 106 = .ok (.goto 4, 3) := by decide +kernel
theorem dX12_findOrder_109 : decode cX12_findOrder 109 = .ok (.iconst 0, 1) := by decide +kernel
theorem dX12_findOrder_110 : decode cX12_findOrder 110 = .ok (.istore 4, 2) := by decide +kernel
theorem dX12_findOrder_112 : decode cX12_findOrder 112 = .ok (.iinc 5 1, 3) := by decide +kernel
theorem dX12_findOrder_115 : decode cX12_findOrder 115 = .ok (.goto (-54), 3) := by decide +kernel
theorem dX12_findOrder_118 : decode cX12_findOrder 118 = .ok (.iload 4, 2) := by decide +kernel
theorem dX12_findOrder_120 : decode cX12_findOrder 120 = .ok (.ifCond .ne 6, 3) := by decide +kernel
theorem dX12_findOrder_123 : decode cX12_findOrder 123 = .ok (.goto 22, 3) := by decide +kernel
theorem dX12_findOrder_126 : decode cX12_findOrder 126 = .ok (.aload_n 0, 1) := by decide +kernel
theorem dX12_findOrder_127 : decode cX12_findOrder 127 = .ok (.getfield 105, 3) := by decide +kernel
theorem dX12_findOrder_130 : decode cX12_findOrder 130 = .ok (.iload_n 3, 1) := by decide +kernel
theorem dX12_findOrder_131 : decode cX12_findOrder 131 = .ok (.iconst 1, 1) := by decide +kernel
theorem dX12_findOrder_132 : decode cX12_findOrder 132 = .ok (.bastore, 1) := by decide +kernel
theorem dX12_findOrder_133 : decode cX12_findOrder 133 = .ok (.aload_n 0, 1) := by decide +kernel
theorem dX12_findOrder_134 : decode cX12_findOrder 134 = .ok (.getfield 102, 3) := by decide +kernel
theorem dX12_findOrder_137 : decode cX12_findOrder 137 = .ok (.iload_n 1, 1) := by decide +kernel
theorem dX12_findOrder_138 : decode cX12_findOrder 138 = .ok (.iload_n 3, 1) := by decide +kernel
theorem dX12_findOrder_139 : decode cX12_findOrder 139 = .ok (.iastore, 1) := by decide +kernel
theorem dX12_findOrder_140 : decode cX12_findOrder 140 = .ok (.iinc 1 1, 3) := by decide +kernel
theorem dX12_findOrder_143 : decode cX12_findOrder 143 = .ok (.iconst 1, 1) := by decide +kernel
theorem dX12_findOrder_144 : decode cX12_findOrder 144 = .ok (.istore_n 2, 1) := by decide +kernel
theorem dX12_findOrder_145 : decode cX12_findOrder 145 = .ok (.iinc 3 1, 3) := by decide +kernel
theorem dX12_findOrder_148 : decode cX12_findOrder 148 = .ok (.goto (-113), 3) := by decide +kernel
theorem dX12_findOrder_151 : decode cX12_findOrder 151 = .ok (.goto (-124), 3) := by decide +kernel
theorem dX12_findOrder_154 : decode cX12_findOrder 154 = .ok (.iconst 0, 1) := by decide +kernel
theorem dX12_findOrder_155 : decode cX12_findOrder 155 = .ok (.istore_n 3, 1) := by decide +kernel
theorem dX12_findOrder_156 : decode cX12_findOrder 156 = .ok (.iload_n 3, 1) := by decide +kernel
theorem dX12_findOrder_157 : decode cX12_findOrder 157 = .ok (.aload_n 0, 1) := by decide +kernel
theorem dX12_findOrder_158 : decode cX12_findOrder 158 = .ok (.getfield 403, 3) := by decide +kernel
theorem dX12_findOrder_161 : decode cX12_findOrder 161 = .ok (.if_icmp .ge 29, 3) := by decide +kernel
theorem dX12_findOrder_164 : decode cX12_findOrder 164 = .ok (.aload_n 0, 1) := by decide +kernel
theorem dX12_findOrder_165 : decode cX12_findOrder 165 = .ok (.getfield 105, 3) := by decide +kernel
theorem dX12_findOrder_168 : decode cX12_findOrder 168 = .ok (.iload_n 3, 1) := by decide +kernel
theorem dX12_findOrder_169 : decode cX12_findOrder 169 = .ok (.baload, 1) := by decide +kernel
theorem dX12_findOrder_170 : decode cX12_findOrder 170 = .ok (.ifCond .ne 14, 3) := by decide +kernel
theorem dX12_findOrder_173 : decode cX12_findOrder 173 = .ok (.aload_n 0, 1) := by decide +kernel
theorem dX12_findOrder_174 : decode cX12_findOrder 174 = .ok (.iconst 4, 1) := by decide +kernel
theorem dX12_findOrder_175 : decode cX12_findOrder 175 = .ok (.aload_n 0, 1) := by decide +kernel
theorem dX12_findOrder_176 : decode cX12_findOrder 176 = .ok (.getfield 75, 3) := by decide +kernel
theorem dX12_findOrder_179 : decode cX12_findOrder 179 = .ok (.iload_n 3, 1) := by decide +kernel
theorem dX12_findOrder_180 : decode cX12_findOrder 180 = .ok (.iaload, 1) := by decide +kernel
theorem dX12_findOrder_181 : decode cX12_findOrder 181 = .ok (.invokevirtual 374, 3) := by decide +kernel
theorem dX12_findOrder_184 : decode cX12_findOrder 184 = .ok (.iinc 3 1, 3) := by decide +kernel
theorem dX12_findOrder_187 : decode cX12_findOrder 187 = .ok (.goto (-31), 3) := by decide +kernel
theorem dX12_findOrder_190 : decode cX12_findOrder 190 = .ok (.return_, 1) := by decide +kernel
theorem dX12_linkage_0 : decode cX12_linkage 0 = .ok (.aload_n 0, 1) := by decide +kernel
theorem dX12_linkage_1 : decode cX12_linkage 1 = .ok (.invokevirtual 445, 3) := by decide +kernel
theorem dX12_linkage_4 : decode cX12_linkage 4 = .ok (.aload_n 0, 1) := by decide +kernel
theorem dX12_linkage_5 : decode cX12_linkage 5 = .ok (.iconst 0, 1) := by decide +kernel
theorem dX12_linkage_6 : decode cX12_linkage 6 = .ok (.putfield 403, 3) := by decide +kernel
theorem dX12_linkage_9 : decode cX12_linkage 9 = .ok (.aload_n 0, 1) := by decide +kernel
theorem dX12_linkage_10 : decode cX12_linkage 10 = .ok (.iconst 0, 1) := by decide +kernel
theorem dX12_linkage_11 : decode cX12_linkage 11 = .ok (.putfield 400, 3) := by decide +kernel
theorem dX12_linkage_14 : decode cX12_linkage 14 = .ok (.aload_n 0, 1) := by decide +kernel
theorem dX12_linkage_15 : decode cX12_linkage 15 = .ok (.iconst 0, 1) := by decide +kernel
theorem dX12_linkage_16 : decode cX12_linkage 16 = .ok (.putfield 411, 3) := by decide +kernel
theorem dX12_linkage_19 : decode cX12_linkage 19 = .ok (.aload_n 0, 1) := by decide +kernel
theorem dX12_linkage_20 : decode cX12_linkage 20 = .ok (.getfield 266, 3) := by decide +kernel
theorem dX12_linkage_23 : decode cX12_linkage 23 = .ok (.ifCond .ne 17, 3) := by decide +kernel
theorem dX12_linkage_26 : decode cX12_linkage 26 = .ok (.aload_n 0, 1) := by decide +kernel
theorem dX12_linkage_27 : decode cX12_linkage 27 = .ok (.getfield 340, 3) := by decide +kernel
theorem dX12_linkage_30 : decode cX12_linkage 30 = .ok (.ifCond .eq 10, 3) := by decide +kernel
theorem dX12_linkage_33 : decode cX12_linkage 33 = .ok (.aload_n 0, 1) := by decide +kernel
theorem dX12_linkage_34 : decode cX12_linkage 34 = .ok (.invokevirtual 448, 3) := by decide +kernel
theorem dX12_linkage_37 : decode cX12_linkage 37 = .ok (.goto (-18), 3) := by decide +kernel
theorem dX12_linkage_40 : decode cX12_linkage 40 = .ok (.aload_n 0, 1) := by decide +kernel
theorem dX12_linkage_41 : decode cX12_linkage 41 = .ok (.getfield 266, 3) := by decide +kernel
theorem dX12_linkage_44 : decode cX12_linkage 44 = .ok (.ifCond .ne 7, 3) := by decide +kernel
theorem dX12_linkage_47 : decode cX12_linkage 47 = .ok (.aload_n 0, 1) := by decide +kernel
theorem dX12_linkage_48 : decode cX12_linkage 48 = .ok (.invokevirtual 451, 3) := by decide +kernel
theorem dX12_linkage_51 : decode cX12_linkage 51 = .ok (.aload_n 0, 1) := by decide +kernel
theorem dX12_linkage_52 : decode cX12_linkage 52 = .ok (.getfield 266, 3) := by decide +kernel
theorem dX12_linkage_55 : decode cX12_linkage 55 = .ok (.ifCond .ne 67, 3) := by decide +kernel
theorem dX12_linkage_58 : decode cX12_linkage 58 = .ok (.aload_n 0, 1) := by decide +kernel
theorem dX12_linkage_59 : decode cX12_linkage 59 = .ok (.getfield 275, 3) := by decide +kernel
theorem dX12_linkage_62 : decode cX12_linkage 62 = .ok (.ifCond .ne 60, 3) := by decide +kernel
theorem dX12_linkage_65 : decode cX12_linkage 65 = .ok (.iconst 0, 1) := by decide +kernel
theorem dX12_linkage_66 : decode cX12_linkage 66 = .ok (.istore_n 1, 1) := by decide +kernel
theorem dX12_linkage_67 : decode cX12_linkage 67 = .ok (.iload_n 1, 1) := by decide +kernel
theorem dX12_linkage_68 : decode cX12_linkage 68 = .ok (.iconst 4, 1) := by decide +kernel
theorem dX12_linkage_69 : decode cX12_linkage 69 = .ok (.aload_n 0, 1) := by decide +kernel
theorem dX12_linkage_70 : decode cX12_linkage 70 = .ok (.getfield 403, 3) := by decide +kernel
theorem dX12_linkage_73 : decode cX12_linkage 73 = .ok (.imul, 1) := by decide +kernel
theorem dX12_linkage_74 : decode cX12_linkage 74 = .ok (.if_icmp .ge 44, 3) := by decide +kernel
theorem dX12_linkage_77 : decode cX12_linkage 77 = .ok (.aload_n 0, 1) := by decide +kernel
theorem dX12_linkage_78 : decode cX12_linkage 78 = .ok (.getfield 99, 3) := by decide +kernel
theorem dX12_linkage_81 : decode cX12_linkage 81 = .ok (.iload_n 1, 1) := by decide +kernel
theorem dX12_linkage_82 : decode cX12_linkage 82 = .ok (.aload_n 0, 1) := by decide +kernel
theorem dX12_linkage_83 : decode cX12_linkage 83 = .ok (.getfield 87, 3) := by decide +kernel
theorem dX12_linkage_86 : decode cX12_linkage 86 = .ok (.iload_n 1, 1) := by decide +kernel
theorem dX12_linkage_87 : decode cX12_linkage 87 = .ok (.iaload, 1) := by decide +kernel
theorem dX12_linkage_88 : decode cX12_linkage 88 = .ok (.ifCond .ne 7, 3) := by decide +kernel
theorem dX12_linkage_91 : decode cX12_linkage 91 = .ok (.iconst (-1), 1) := by decide +kernel
theorem dX12_linkage_92 : decode cX12_linkage 92 = .ok (.goto 19, 3) := by decide +kernel
theorem dX12_linkage_95 : decode cX12_linkage 95 = .ok (.aload_n 0, 1) := by decide +kernel
theorem dX12_linkage_96 : decode cX12_linkage 96 = .ok (.aload_n 0, 1) := by decide +kernel
theorem dX12_linkage_97 : decode cX12_linkage 97 = .ok (.getfield 84, 3) := by decide +kernel
theorem dX12_linkage_100 : decode cX12_linkage 100 = .ok (.iload_n 1, 1) := by decide +kernel
theorem dX12_linkage_101 : decode cX12_linkage 101 = .ok (.iaload, 1) := by decide +kernel
theorem dX12_linkage_102 : decode cX12_linkage 102 = .ok (.aload_n 0, 1) := by decide +kernel
theorem dX12_linkage_103 : decode cX12_linkage 103 = .ok (.getfield 87, 3) := by decide +kernel
theorem dX12_linkage_106 : decode cX12_linkage 106 = .ok (.iload_n 1, 1) := by decide +kernel
theorem dX12_linkage_107 : decode cX12_linkage 107 = .ok (.iaload, 1) := by decide +kernel
theorem dX12_linkage_108 : decode cX12_linkage 108 = .ok (.invokevirtual 441, 3) := by decide +kernel
theorem dX12_linkage_111 : decode cX12_linkage 111 = .ok (.iastore, 1) := by decide +kernel
theorem dX12_linkage_112 : decode cX12_linkage 112 = .ok (.iinc 1 1, 3) := by decide +kernel
theorem dX12_linkage_115 : decode cX12_linkage 115 = .ok (.goto (-48), 3) := by decide +kernel
theorem dX12_linkage_118 : decode cX12_linkage 118 = .ok (.aload_n 0, 1) := by decide +kernel
theorem dX12_linkage_119 : decode cX12_linkage 119 = .ok (.invokevirtual 454, 3) := by decide +kernel
theorem dX12_linkage_122 : decode cX12_linkage 122 = .ok (.aload_n 0, 1) := by decide +kernel
theorem dX12_linkage_123 : decode cX12_linkage 123 = .ok (.invokevirtual 457, 3) := by decide +kernel
theorem dX12_linkage_126 : decode cX12_linkage 126 = .ok (.aload_n 0, 1) := by decide +kernel
theorem dX12_linkage_127 : decode cX12_linkage 127 = .ok (.getfield 243, 3) := by decide +kernel
theorem dX12_linkage_130 : decode cX12_linkage 130 = .ok (.ifCond .le 5, 3) := by decide +kernel
theorem dX12_linkage_133 : decode cX12_linkage 133 = .ok (.iconst 0, 1) := by decide +kernel
theorem dX12_linkage_134 : decode cX12_linkage 134 = .ok (.ireturn, 1) := by decide +kernel
theorem dX12_linkage_135 : decode cX12_linkage 135 = .ok (.aload_n 0, 1) := by decide +kernel
theorem dX12_linkage_136 : decode cX12_linkage 136 = .ok (.aload_n 0, 1) := by decide +kernel
theorem dX12_linkage_137 : decode cX12_linkage 137 = .ok (.getfield 403, 3) := by decide +kernel
theorem dX12_linkage_140 : decode cX12_linkage 140 = .ok (.putfield 460, 3) := by decide +kernel
theorem dX12_linkage_143 : decode cX12_linkage 143 = .ok (.aload_n 0, 1) := by decide +kernel
theorem dX12_linkage_144 : decode cX12_linkage 144 = .ok (.aload_n 0, 1) := by decide +kernel
theorem dX12_linkage_145 : decode cX12_linkage 145 = .ok (.getfield 411, 3) := by decide +kernel
theorem dX12_linkage_148 : decode cX12_linkage 148 = .ok (.putfield 463, 3) := by decide +kernel
theorem dX12_linkage_151 : decode cX12_linkage 151 = .ok (.iconst 0, 1) := by decide +kernel
theorem dX12_linkage_152 : decode cX12_linkage 152 = .ok (.istore_n 1, 1) := by decide +kernel
theorem dX12_linkage_153 : decode cX12_linkage 153 = .ok (.iload_n 1, 1) := by decide +kernel
theorem dX12_linkage_154 : decode cX12_linkage 154 = .ok (.aload_n 0, 1) := by decide +kernel
theorem dX12_linkage_155 : decode cX12_linkage 155 = .ok (.getfield 460, 3) := by decide +kernel
theorem dX12_linkage_158 : decode cX12_linkage 158 = .ok (.if_icmp .ge 228, 3) := by decide +kernel
theorem dX12_linkage_161 : decode cX12_linkage 161 = .ok (.aload_n 0, 1) := by decide +kernel
theorem dX12_linkage_162 : decode cX12_linkage 162 = .ok (.getfield 24, 3) := by decide +kernel
theorem dX12_linkage_165 : decode cX12_linkage 165 = .ok (.iload_n 1, 1) := by decide +kernel
theorem dX12_linkage_166 : decode cX12_linkage 166 = .ok (.aload_n 0, 1) := by decide +kernel
theorem dX12_linkage_167 : decode cX12_linkage 167 = .ok (.getfield 81, 3) := by decide +kernel
theorem dX12_linkage_170 : decode cX12_linkage 170 = .ok (.iload_n 1, 1) := by decide +kernel
theorem dX12_linkage_171 : decode cX12_linkage 171 = .ok (.iaload, 1) := by decide +kernel
theorem dX12_linkage_172 : decode cX12_linkage 172 = .ok (.iastore, 1) := by decide +kernel
theorem dX12_linkage_173 : decode cX12_linkage 173 = .ok (.aload_n 0, 1) := by decide +kernel
theorem dX12_linkage_174 : decode cX12_linkage 174 = .ok (.getfield 30, 3) := by decide +kernel
theorem dX12_linkage_177 : decode cX12_linkage 177 = .ok (.iload_n 1, 1) := by decide +kernel
theorem dX12_linkage_178 : decode cX12_linkage 178 = .ok (.aload_n 0, 1) := by decide +kernel
theorem dX12_linkage_179 : decode cX12_linkage 179 = .ok (.getfield 90, 3) := by decide +kernel
theorem dX12_linkage_182 : decode cX12_linkage 182 = .ok (.iconst 4, 1) := by decide +kernel
theorem dX12_linkage_183 : decode cX12_linkage 183 = .ok (.iload_n 1, 1) := by decide +kernel
theorem dX12_linkage_184 : decode cX12_linkage 184 = .ok (.imul, 1) := by decide +kernel
theorem dX12_linkage_185 : decode cX12_linkage 185 = .ok (.laload, 1) := by decide +kernel
theorem dX12_linkage_186 : decode cX12_linkage 186 = .ok (.lastore, 1) := by decide +kernel
theorem dX12_linkage_187 : decode cX12_linkage 187 = .ok (.aload_n 0, 1) := by decide +kernel
theorem dX12_linkage_188 : decode cX12_linkage 188 = .ok (.getfield 33, 3) := by decide +kernel
theorem dX12_linkage_191 : decode cX12_linkage 191 = .ok (.iload_n 1, 1) := by decide +kernel
theorem dX12_linkage_192 : decode cX12_linkage 192 = .ok (.aload_n 0, 1) := by decide +kernel
theorem dX12_linkage_193 : decode cX12_linkage 193 = .ok (.getfield 90, 3) := by decide +kernel
theorem dX12_linkage_196 : decode cX12_linkage 196 = .ok (.iconst 4, 1) := by decide +kernel
theorem dX12_linkage_197 : decode cX12_linkage 197 = .ok (.iload_n 1, 1) := by decide +kernel
theorem dX12_linkage_198 : decode cX12_linkage 198 = .ok (.imul, 1) := by decide +kernel
theorem dX12_linkage_199 : decode cX12_linkage 199 = .ok (.iconst 1, 1) := by decide +kernel
theorem dX12_linkage_200 : decode cX12_linkage 200 = .ok (.iadd, 1) := by decide +kernel
theorem dX12_linkage_201 : decode cX12_linkage 201 = .ok (.laload, 1) := by decide +kernel
theorem dX12_linkage_202 : decode cX12_linkage 202 = .ok (.lastore, 1) := by decide +kernel
theorem dX12_linkage_203 : decode cX12_linkage 203 = .ok (.aload_n 0, 1) := by decide +kernel
theorem dX12_linkage_204 : decode cX12_linkage 204 = .ok (.getfield 36, 3) := by decide +kernel
theorem dX12_linkage_207 : decode cX12_linkage 207 = .ok (.iload_n 1, 1) := by decide +kernel
theorem dX12_linkage_208 : decode cX12_linkage 208 = .ok (.aload_n 0, 1) := by decide +kernel
theorem dX12_linkage_209 : decode cX12_linkage 209 = .ok (.getfield 90, 3) := by decide +kernel
theorem dX12_linkage_212 : decode cX12_linkage 212 = .ok (.iconst 4, 1) := by decide +kernel
theorem dX12_linkage_213 : decode cX12_linkage 213 = .ok (.iload_n 1, 1) := by decide +kernel
theorem dX12_linkage_214 : decode cX12_linkage 214 = .ok (.imul, 1) := by decide +kernel
theorem dX12_linkage_215 : decode cX12_linkage 215 = .ok (.iconst 2, 1) := by decide +kernel
theorem dX12_linkage_216 : decode cX12_linkage 216 = .ok (.iadd, 1) := by decide +kernel
theorem dX12_linkage_217 : decode cX12_linkage 217 = .ok (.laload, 1) := by decide +kernel
theorem dX12_linkage_218 : decode cX12_linkage 218 = .ok (.lastore, 1) := by decide +kernel
theorem dX12_linkage_219 : decode cX12_linkage 219 = .ok (.aload_n 0, 1) := by decide +kernel
theorem dX12_linkage_220 : decode cX12_linkage 220 = .ok (.getfield 39, 3) := by decide +kernel
theorem dX12_linkage_223 : decode cX12_linkage 223 = .ok (.iload_n 1, 1) := by decide +kernel
theorem dX12_linkage_224 : decode cX12_linkage 224 = .ok (.aload_n 0, 1) := by decide +kernel
theorem dX12_linkage_225 : decode cX12_linkage 225 = .ok (.getfield 90, 3) := by decide +kernel
theorem dX12_linkage_228 : decode cX12_linkage 228 = .ok (.iconst 4, 1) := by decide +kernel
theorem dX12_linkage_229 : decode cX12_linkage 229 = .ok (.iload_n 1, 1) := by decide +kernel
theorem dX12_linkage_230 : decode cX12_linkage 230 = .ok (.imul, 1) := by decide +kernel
theorem dX12_linkage_231 : decode cX12_linkage 231 = .ok (.iconst 3, 1) := by decide +kernel
theorem dX12_linkage_232 : decode cX12_linkage 232 = .ok (.iadd, 1) := by decide +kernel
theorem dX12_linkage_233 : decode cX12_linkage 233 = .ok (.laload, 1) := by decide +kernel
theorem dX12_linkage_234 : decode cX12_linkage 234 = .ok (.lastore, 1) := by decide +kernel
theorem dX12_linkage_235 : decode cX12_linkage 235 = .ok (.aload_n 0, 1) := by decide +kernel
theorem dX12_linkage_236 : decode cX12_linkage 236 = .ok (.getfield 42, 3) := by decide +kernel
theorem dX12_linkage_239 : decode cX12_linkage 239 = .ok (.iload_n 1, 1) := by decide +kernel
theorem dX12_linkage_240 : decode cX12_linkage 240 = .ok (.aload_n 0, 1) := by decide +kernel
theorem dX12_linkage_241 : decode cX12_linkage 241 = .ok (.getfield 93, 3) := by decide +kernel
theorem dX12_linkage_244 : decode cX12_linkage 244 = .ok (.iconst 3, 1) := by decide +kernel
theorem dX12_linkage_245 : decode cX12_linkage 245 = .ok (.iload_n 1, 1) := by decide +kernel
theorem dX12_linkage_246 : decode cX12_linkage 246 = .ok (.imul, 1) := by decide +kernel
theorem dX12_linkage_247 : decode cX12_linkage 247 = .ok (.iaload, 1) := by decide +kernel
theorem dX12_linkage_248 : decode cX12_linkage 248 = .ok (.iastore, 1) := by decide +kernel
theorem dX12_linkage_249 : decode cX12_linkage 249 = .ok (.aload_n 0, 1) := by decide +kernel
theorem dX12_linkage_250 : decode cX12_linkage 250 = .ok (.getfield 45, 3) := by decide +kernel
theorem dX12_linkage_253 : decode cX12_linkage 253 = .ok (.iload_n 1, 1) := by decide +kernel
theorem dX12_linkage_254 : decode cX12_linkage 254 = .ok (.aload_n 0, 1) := by decide +kernel
theorem dX12_linkage_255 : decode cX12_linkage 255 = .ok (.getfield 93, 3) := by decide +kernel
theorem dX12_linkage_258 : decode cX12_linkage 258 = .ok (.iconst 3, 1) := by decide +kernel
theorem dX12_linkage_259 : decode cX12_linkage 259 = .ok (.iload_n 1, 1) := by decide +kernel
theorem dX12_linkage_260 : decode cX12_linkage 260 = .ok (.imul, 1) := by decide +kernel
theorem dX12_linkage_261 : decode cX12_linkage 261 = .ok (.iconst 1, 1) := by decide +kernel
theorem dX12_linkage_262 : decode cX12_linkage 262 = .ok (.iadd, 1) := by decide +kernel
theorem dX12_linkage_263 : decode cX12_linkage 263 = .ok (.iaload, 1) := by decide +kernel
theorem dX12_linkage_264 : decode cX12_linkage 264 = .ok (.iastore, 1) := by decide +kernel
theorem dX12_linkage_265 : decode cX12_linkage 265 = .ok (.aload_n 0, 1) := by decide +kernel
theorem dX12_linkage_266 : decode cX12_linkage 266 = .ok (.getfield 48, 3) := by decide +kernel
theorem dX12_linkage_269 : decode cX12_linkage 269 = .ok (.iload_n 1, 1) := by decide +kernel
theorem dX12_linkage_270 : decode cX12_linkage 270 = .ok (.aload_n 0, 1) := by decide +kernel
theorem dX12_linkage_271 : decode cX12_linkage 271 = .ok (.getfield 93, 3) := by decide +kernel
theorem dX12_linkage_274 : decode cX12_linkage 274 = .ok (.iconst 3, 1) := by decide +kernel
theorem dX12_linkage_275 : decode cX12_linkage 275 = .ok (.iload_n 1, 1) := by decide +kernel
theorem dX12_linkage_276 : decode cX12_linkage 276 = .ok (.imul, 1) := by decide +kernel
theorem dX12_linkage_277 : decode cX12_linkage 277 = .ok (.iconst 2, 1) := by decide +kernel
theorem dX12_linkage_278 : decode cX12_linkage 278 = .ok (.iadd, 1) := by decide +kernel
theorem dX12_linkage_279 : decode cX12_linkage 279 = .ok (.iaload, 1) := by decide +kernel
theorem dX12_linkage_280 : decode cX12_linkage 280 = .ok (.iastore, 1) := by decide +kernel
theorem dX12_linkage_281 : decode cX12_linkage 281 = .ok (.aload_n 0, 1) := by decide +kernel
theorem dX12_linkage_282 : decode cX12_linkage 282 = .ok (.getfield 51, 3) := by decide +kernel
theorem dX12_linkage_285 : decode cX12_linkage 285 = .ok (.iload_n 1, 1) := by decide +kernel
theorem dX12_linkage_286 : decode cX12_linkage 286 = .ok (.aload_n 0, 1) := by decide +kernel
theorem dX12_linkage_287 : decode cX12_linkage 287 = .ok (.getfield 96, 3) := by decide +kernel
theorem dX12_linkage_290 : decode cX12_linkage 290 = .ok (.iload_n 1, 1) := by decide +kernel
theorem dX12_linkage_291 : decode cX12_linkage 291 = .ok (.iaload, 1) := by decide +kernel
theorem dX12_linkage_292 : decode cX12_linkage 292 = .ok (.iastore, 1) := by decide +kernel
theorem dX12_linkage_293 : decode cX12_linkage 293 = .ok (.aload_n 0, 1) := by decide +kernel
theorem dX12_linkage_294 : decode cX12_linkage 294 = .ok (.getfield 60, 3) := by decide +kernel
theorem dX12_linkage_297 : decode cX12_linkage 297 = .ok (.iload_n 1, 1) := by decide +kernel
theorem dX12_linkage_298 : decode cX12_linkage 298 = .ok (.aload_n 0, 1) := by decide +kernel
theorem dX12_linkage_299 : decode cX12_linkage 299 = .ok (.getfield 102, 3) := by decide +kernel
theorem dX12_linkage_302 : decode cX12_linkage 302 = .ok (.iload_n 1, 1) := by decide +kernel
theorem dX12_linkage_303 : decode cX12_linkage 303 = .ok (.iaload, 1) := by decide +kernel
theorem dX12_linkage_304 : decode cX12_linkage 304 = .ok (.iastore, 1) := by decide +kernel
theorem dX12_linkage_305 : decode cX12_linkage 305 = .ok (.aload_n 0, 1) := by decide +kernel
theorem dX12_linkage_306 : decode cX12_linkage 306 = .ok (.getfield 54, 3) := by decide +kernel
theorem dX12_linkage_309 : decode cX12_linkage 309 = .ok (.iload_n 1, 1) := by decide +kernel
theorem dX12_linkage_310 : decode cX12_linkage 310 = .ok (.aload_n 0, 1) := by decide +kernel
theorem dX12_linkage_311 : decode cX12_linkage 311 = .ok (.getfield 78, 3) := by decide +kernel
theorem dX12_linkage_314 : decode cX12_linkage 314 = .ok (.iload_n 1, 1) := by decide +kernel
theorem dX12_linkage_315 : decode cX12_linkage 315 = .ok (.iaload, 1) := by decide +kernel
theorem dX12_linkage_316 : decode cX12_linkage 316 = .ok (.iastore, 1) := by decide +kernel
theorem dX12_linkage_317 : decode cX12_linkage 317 = .ok (.iconst 0, 1) := by decide +kernel
theorem dX12_linkage_318 : decode cX12_linkage 318 = .ok (.istore_n 2, 1) := by decide +kernel
theorem dX12_linkage_319 : decode cX12_linkage 319 = .ok (.iload_n 2, 1) := by decide +kernel
theorem dX12_linkage_320 : decode cX12_linkage 320 = .ok (.aload_n 0, 1) := by decide +kernel
theorem dX12_linkage_321 : decode cX12_linkage 321 = .ok (.getfield 78, 3) := by decide +kernel
theorem dX12_linkage_324 : decode cX12_linkage 324 = .ok (.iload_n 1, 1) := by decide +kernel
theorem dX12_linkage_325 : decode cX12_linkage 325 = .ok (.iaload, 1) := by decide +kernel
theorem dX12_linkage_326 : decode cX12_linkage 326 = .ok (.if_icmp .ge 33, 3) := by decide +kernel
theorem dX12_linkage_329 : decode cX12_linkage 329 = .ok (.aload_n 0, 1) := by decide +kernel
theorem dX12_linkage_330 : decode cX12_linkage 330 = .ok (.getfield 57, 3) := by decide +kernel
theorem dX12_linkage_333 : decode cX12_linkage 333 = .ok (.bipush 8, 2) := by decide +kernel
theorem dX12_linkage_335 : decode cX12_linkage 335 = .ok (.iload_n 1, 1) := by decide +kernel
theorem dX12_linkage_336 : decode cX12_linkage 336 = .ok (.imul, 1) := by decide +kernel
theorem dX12_linkage_337 : decode cX12_linkage 337 = .ok (.iload_n 2, 1) := by decide +kernel
theorem dX12_linkage_338 : decode cX12_linkage 338 = .ok (.iadd, 1) := by decide +kernel
theorem dX12_linkage_339 : decode cX12_linkage 339 = .ok (.aload_n 0, 1) := by decide +kernel
theorem dX12_linkage_340 : decode cX12_linkage 340 = .ok (.getfield 7, 3) := by decide +kernel
theorem dX12_linkage_343 : decode cX12_linkage 343 = .ok (.aload_n 0, 1) := by decide +kernel
theorem dX12_linkage_344 : decode cX12_linkage 344 = .ok (.getfield 75, 3) := by decide +kernel
theorem dX12_linkage_347 : decode cX12_linkage 347 = .ok (.iload_n 1, 1) := by decide +kernel
theorem dX12_linkage_348 : decode cX12_linkage 348 = .ok (.iaload, 1) := by decide +kernel
theorem dX12_linkage_349 : decode cX12_linkage 349 = .ok (.iload_n 2, 1) := by decide +kernel
theorem dX12_linkage_350 : decode cX12_linkage 350 = .ok (.iadd, 1) := by decide +kernel
theorem dX12_linkage_351 : decode cX12_linkage 351 = .ok (.iaload, 1) := by decide +kernel
theorem dX12_linkage_352 : decode cX12_linkage 352 = .ok (.iastore, 1) := by decide +kernel
theorem dX12_linkage_353 : decode cX12_linkage 353 = .ok (.iinc 2 1, 3) := by decide +kernel
theorem dX12_linkage_356 : decode cX12_linkage 356 = .ok (.goto (-37), 3) := by decide +kernel
theorem dX12_linkage_359 : decode cX12_linkage 359 = .ok (.aload_n 0, 1) := by decide +kernel
theorem dX12_linkage_360 : decode cX12_linkage 360 = .ok (.getfield 66, 3) := by decide +kernel
theorem dX12_linkage_363 : decode cX12_linkage 363 = .ok (.iload_n 1, 1) := by decide +kernel
theorem dX12_linkage_364 : decode cX12_linkage 364 = .ok (.iconst 0, 1) := by decide +kernel
theorem dX12_linkage_365 : decode cX12_linkage 365 = .ok (.iastore, 1) := by decide +kernel
theorem dX12_linkage_366 : decode cX12_linkage 366 = .ok (.aload_n 0, 1) := by decide +kernel
theorem dX12_linkage_367 : decode cX12_linkage 367 = .ok (.getfield 69, 3) := by decide +kernel
theorem dX12_linkage_370 : decode cX12_linkage 370 = .ok (.iload_n 1, 1) := by decide +kernel
theorem dX12_linkage_371 : decode cX12_linkage 371 = .ok (.iconst 0, 1) := by decide +kernel
theorem dX12_linkage_372 : decode cX12_linkage 372 = .ok (.iastore, 1) := by decide +kernel
theorem dX12_linkage_373 : decode cX12_linkage 373 = .ok (.aload_n 0, 1) := by decide +kernel
theorem dX12_linkage_374 : decode cX12_linkage 374 = .ok (.getfield 72, 3) := by decide +kernel
theorem dX12_linkage_377 : decode cX12_linkage 377 = .ok (.iload_n 1, 1) := by decide +kernel
theorem dX12_linkage_378 : decode cX12_linkage 378 = .ok (.iconst 0, 1) := by decide +kernel
theorem dX12_linkage_379 : decode cX12_linkage 379 = .ok (.iastore, 1) := by decide +kernel
theorem dX12_linkage_380 : decode cX12_linkage 380 = .ok (.iinc 1 1, 3) := by decide +kernel
theorem dX12_linkage_383 : decode cX12_linkage 383 = .ok (.goto (-230), 3) := by decide +kernel
theorem dX12_linkage_386 : decode cX12_linkage 386 = .ok (.iconst 0, 1) := by decide +kernel
theorem dX12_linkage_387 : decode cX12_linkage 387 = .ok (.istore_n 1, 1) := by decide +kernel
theorem dX12_linkage_388 : decode cX12_linkage 388 = .ok (.iload_n 1, 1) := by decide +kernel
theorem dX12_linkage_389 : decode cX12_linkage 389 = .ok (.iconst 4, 1) := by decide +kernel
theorem dX12_linkage_390 : decode cX12_linkage 390 = .ok (.aload_n 0, 1) := by decide +kernel
theorem dX12_linkage_391 : decode cX12_linkage 391 = .ok (.getfield 460, 3) := by decide +kernel
theorem dX12_linkage_394 : decode cX12_linkage 394 = .ok (.imul, 1) := by decide +kernel
theorem dX12_linkage_395 : decode cX12_linkage 395 = .ok (.if_icmp .ge 21, 3) := by decide +kernel
theorem dX12_linkage_398 : decode cX12_linkage 398 = .ok (.aload_n 0, 1) := by decide +kernel
theorem dX12_linkage_399 : decode cX12_linkage 399 = .ok (.getfield 27, 3) := by decide +kernel
theorem dX12_linkage_402 : decode cX12_linkage 402 = .ok (.iload_n 1, 1) := by decide +kernel
theorem dX12_linkage_403 : decode cX12_linkage 403 = .ok (.aload_n 0, 1) := by decide +kernel
theorem dX12_linkage_404 : decode cX12_linkage 404 = .ok (.getfield 99, 3) := by decide +kernel
theorem dX12_linkage_407 : decode cX12_linkage 407 = .ok (.iload_n 1, 1) := by decide +kernel
theorem dX12_linkage_408 : decode cX12_linkage 408 = .ok (.iaload, 1) := by decide +kernel
theorem dX12_linkage_409 : decode cX12_linkage 409 = .ok (.iastore, 1) := by decide +kernel
theorem dX12_linkage_410 : decode cX12_linkage 410 = .ok (.iinc 1 1, 3) := by decide +kernel
theorem dX12_linkage_413 : decode cX12_linkage 413 = .ok (.goto (-25), 3) := by decide +kernel
theorem dX12_linkage_416 : decode cX12_linkage 416 = .ok (.iconst 0, 1) := by decide +kernel
theorem dX12_linkage_417 : decode cX12_linkage 417 = .ok (.istore_n 1, 1) := by decide +kernel
theorem dX12_linkage_418 : decode cX12_linkage 418 = .ok (.iload_n 1, 1) := by decide +kernel
theorem dX12_linkage_419 : decode cX12_linkage 419 = .ok (.iconst 4, 1) := by decide +kernel
theorem dX12_linkage_420 : decode cX12_linkage 420 = .ok (.if_icmp .ge 16, 3) := by decide +kernel
theorem dX12_linkage_423 : decode cX12_linkage 423 = .ok (.aload_n 0, 1) := by decide +kernel
theorem dX12_linkage_424 : decode cX12_linkage 424 = .ok (.getfield 63, 3) := by decide +kernel
theorem dX12_linkage_427 : decode cX12_linkage 427 = .ok (.iload_n 1, 1) := by decide +kernel
theorem dX12_linkage_428 : decode cX12_linkage 428 = .ok (.iconst 0, 1) := by decide +kernel
theorem dX12_linkage_429 : decode cX12_linkage 429 = .ok (.iastore, 1) := by decide +kernel
theorem dX12_linkage_430 : decode cX12_linkage 430 = .ok (.iinc 1 1, 3) := by decide +kernel
theorem dX12_linkage_433 : decode cX12_linkage 433 = .ok (.goto (-15), 3) := by decide +kernel
theorem dX12_linkage_436 : decode cX12_linkage 436 = .ok (.aload_n 0, 1) := by decide +kernel
theorem dX12_linkage_437 : decode cX12_linkage 437 = .ok (.getfield 460, 3) := by decide +kernel
theorem dX12_linkage_440 : decode cX12_linkage 440 = .ok (.ireturn, 1) := by decide +kernel
theorem dX12_point_0 : decode cX12_point 0 = .ok (.aload_n 0, 1) := by decide +kernel
theorem dX12_point_1 : decode cX12_point 1 = .ok (.iconst 0, 1) := by decide +kernel
theorem dX12_point_2 : decode cX12_point 2 = .ok (.putfield 243, 3) := by decide +kernel
theorem dX12_point_5 : decode cX12_point 5 = .ok (.iconst 0, 1) := by decide +kernel
theorem dX12_point_6 : decode cX12_point 6 = .ok (.istore_n 1, 1) := by decide +kernel
theorem dX12_point_7 : decode cX12_point 7 = .ok (.iload_n 1, 1) := by decide +kernel
theorem dX12_point_8 : decode cX12_point 8 = .ok (.aload_n 0, 1) := by decide +kernel
theorem dX12_point_9 : decode cX12_point 9 = .ok (.getfield 460, 3) := by decide +kernel
theorem dX12_point_12 : decode cX12_point 12 = .ok (.if_icmp .ge 80, 3) := by decide +kernel
theorem dX12_point_15 : decode cX12_point 15 = .ok (.aload_n 0, 1) := by decide +kernel
theorem dX12_point_16 : decode cX12_point 16 = .ok (.getfield 54, 3) := by decide +kernel
theorem dX12_point_19 : decode cX12_point 19 = .ok (.iload_n 1, 1) := by decide +kernel
theorem dX12_point_20 : decode cX12_point 20 = .ok (.iaload, 1) := by decide +kernel
theorem dX12_point_21 : decode cX12_point 21 = .ok (.aload_n 0, 1) := by decide +kernel
theorem dX12_point_22 : decode cX12_point 22 = .ok (.getfield 255, 3) := by decide +kernel
theorem dX12_point_25 : decode cX12_point 25 = .ok (.if_icmp .ne 7, 3) := by decide +kernel
theorem dX12_point_28 : decode cX12_point 28 = .ok (.iconst 1, 1) := by decide +kernel
theorem dX12_point_29 : decode cX12_point 29 = .ok (.goto 4, 3) := by decide +kernel
theorem dX12_point_32 : decode cX12_point 32 = .ok (.iconst 0, 1) := by decide +kernel
theorem dX12_point_33 : decode cX12_point 33 = .ok (.istore_n 2, 1) := by decide +kernel
theorem dX12_point_34 : decode cX12_point 34 = .ok (.iconst 0, 1) := by decide +kernel
theorem dX12_point_35 : decode cX12_point 35 = .ok (.istore_n 3, 1) := by decide +kernel
theorem dX12_point_36 : decode cX12_point 36 = .ok (.iload_n 3, 1) := by decide +kernel
theorem dX12_point_37 : decode cX12_point 37 = .ok (.aload_n 0, 1) := by decide +kernel
theorem dX12_point_38 : decode cX12_point 38 = .ok (.getfield 255, 3) := by decide +kernel
theorem dX12_point_41 : decode cX12_point 41 = .ok (.if_icmp .ge 39, 3) := by decide +kernel
theorem dX12_point_44 : decode cX12_point 44 = .ok (.iload_n 2, 1) := by decide +kernel
theorem dX12_point_45 : decode cX12_point 45 = .ok (.ifCond .eq 35, 3) := by decide +kernel
theorem dX12_point_48 : decode cX12_point 48 = .ok (.aload_n 0, 1) := by decide +kernel
theorem dX12_point_49 : decode cX12_point 49 = .ok (.getfield 57, 3) := by decide +kernel
theorem dX12_point_52 : decode cX12_point 52 = .ok (.bipush 8, 2) := by decide +kernel
theorem dX12_point_54 : decode cX12_point 54 = .ok (.iload_n 1, 1) := by decide +kernel
theorem dX12_point_55 : decode cX12_point 55 = .ok (.imul, 1) := by decide +kernel
theorem dX12_point_56 : decode cX12_point 56 = .ok (.iload_n 3, 1) := by decide +kernel
theorem dX12_point_57 : decode cX12_point 57 = .ok (.iadd, 1) := by decide +kernel
theorem dX12_point_58 : decode cX12_point 58 = .ok (.iaload, 1) := by decide +kernel
theorem dX12_point_59 : decode cX12_point 59 = .ok (.aload_n 0, 1) := by decide +kernel
theorem dX12_point_60 : decode cX12_point 60 = .ok (.getfield 7, 3) := by decide +kernel
theorem dX12_point_63 : decode cX12_point 63 = .ok (.iload_n 3, 1) := by decide +kernel
theorem dX12_point_64 : decode cX12_point 64 = .ok (.iaload, 1) := by decide +kernel
theorem dX12_point_65 : decode cX12_point 65 = .ok (.if_icmp .ne 7, 3) := by decide +kernel
theorem dX12_point_68 : decode cX12_point 68 = .ok (.iconst 1, 1) := by decide +kernel
theorem dX12_point_69 : decode cX12_point 69 = .ok (.goto 4, 3) := by decide +kernel
theorem dX12_point_72 : decode cX12_point 72 = .ok (.iconst 0, 1) := by decide +kernel
theorem dX12_point_73 : decode cX12_point 73 = .ok (.istore_n 2, 1) := by decide +kernel
theorem dX12_point_74 : decode cX12_point 74 = .ok (.iinc 3 1, 3) := by decide +kernel
theorem dX12_point_77 : decode cX12_point 77 = .ok (.goto (-41), 3) := by decide +kernel
theorem dX12_point_80 : decode cX12_point 80 = .ok (.iload_n 2, 1) := by decide +kernel
theorem dX12_point_81 : decode cX12_point 81 = .ok (.ifCond .eq 5, 3) := by decide +kernel
theorem dX12_point_84 : decode cX12_point 84 = .ok (.iload_n 1, 1) := by decide +kernel
theorem dX12_point_85 : decode cX12_point 85 = .ok (.ireturn, 1) := by decide +kernel
theorem dX12_point_86 : decode cX12_point 86 = .ok (.iinc 1 1, 3) := by decide +kernel
theorem dX12_point_89 : decode cX12_point 89 = .ok (.goto (-82), 3) := by decide +kernel
theorem dX12_point_92 : decode cX12_point 92 = .ok (.iconst (-1), 1) := by decide +kernel
theorem dX12_point_93 : decode cX12_point 93 = .ok (.ireturn, 1) := by decide +kernel
theorem dX12_input_0 : decode cX12_input 0 = .ok (.aload_n 0, 1) := by decide +kernel
theorem dX12_input_1 : decode cX12_input 1 = .ok (.iload_n 1, 1) := by decide +kernel
theorem dX12_input_2 : decode cX12_input 2 = .ok (.i2l, 1) := by decide +kernel
theorem dX12_input_3 : decode cX12_input 3 = .ok (.lconst 0, 1) := by decide +kernel
theorem dX12_input_4 : decode cX12_input 4 = .ok (.ldc2_w 466, 3) := by decide +kernel
theorem dX12_input_7 : decode cX12_input 7 = .ok (.invokestatic 262, 3) := by decide +kernel
theorem dX12_input_10 : decode cX12_input 10 = .ok (.ifCond .eq 19, 3) := by decide +kernel
theorem dX12_input_13 : decode cX12_input 13 = .ok (.iload_n 2, 1) := by decide +kernel
theorem dX12_input_14 : decode cX12_input 14 = .ok (.i2l, 1) := by decide +kernel
theorem dX12_input_15 : decode cX12_input 15 = .ok (.lconst 0, 1) := by decide +kernel
theorem dX12_input_16 : decode cX12_input 16 = .ok (.ldc2_w 468, 3) := by decide +kernel
theorem dX12_input_19 : decode cX12_input 19 = .ok (.invokestatic 262, 3) := by decide +kernel
theorem dX12_input_22 : decode cX12_input 22 = .ok (.ifCond .eq 7, 3) := by decide +kernel
theorem dX12_input_25 : decode cX12_input 25 = .ok (.iconst 0, 1) := by decide +kernel
theorem dX12_input_26 : decode cX12_input 26 = .ok (.goto 4, 3) := by decide +kernel
theorem dX12_input_29 : decode cX12_input 29 = .ok (.iconst 1, 1) := by decide +kernel
theorem dX12_input_30 : decode cX12_input 30 = .ok (.putfield 243, 3) := by decide +kernel
theorem dX12_input_33 : decode cX12_input 33 = .ok (.aload_n 0, 1) := by decide +kernel
theorem dX12_input_34 : decode cX12_input 34 = .ok (.getfield 243, 3) := by decide +kernel
theorem dX12_input_37 : decode cX12_input 37 = .ok (.ifCond .ne 10, 3) := by decide +kernel
theorem dX12_input_40 : decode cX12_input 40 = .ok (.aload_n 0, 1) := by decide +kernel
theorem dX12_input_41 : decode cX12_input 41 = .ok (.getfield 63, 3) := by decide +kernel
theorem dX12_input_44 : decode cX12_input 44 = .ok (.iload_n 1, 1) := by decide +kernel
theorem dX12_input_45 : decode cX12_input 45 = .ok (.iload_n 2, 1) := by decide +kernel
theorem dX12_input_46 : decode cX12_input 46 = .ok (.iastore, 1) := by decide +kernel
theorem dX12_input_47 : decode cX12_input 47 = .ok (.return_, 1) := by decide +kernel
theorem dX12_direction_0 : decode cX12_direction 0 = .ok (.iload_n 2, 1) := by decide +kernel
theorem dX12_direction_1 : decode cX12_direction 1 = .ok (.sipush 256, 3) := by decide +kernel
theorem dX12_direction_4 : decode cX12_direction 4 = .ok (.irem, 1) := by decide +kernel
theorem dX12_direction_5 : decode cX12_direction 5 = .ok (.i2l, 1) := by decide +kernel
theorem dX12_direction_6 : decode cX12_direction 6 = .ok (.lstore_n 3, 1) := by decide +kernel
theorem dX12_direction_7 : decode cX12_direction 7 = .ok (.ldc2_w 320, 3) := by decide +kernel
theorem dX12_direction_10 : decode cX12_direction 10 = .ok (.lload_n 3, 1) := by decide +kernel
theorem dX12_direction_11 : decode cX12_direction 11 = .ok (.lload_n 3, 1) := by decide +kernel
theorem dX12_direction_12 : decode cX12_direction 12 = .ok (.lmul, 1) := by decide +kernel
theorem dX12_direction_13 : decode cX12_direction 13 = .ok (.ladd, 1) := by decide +kernel
theorem dX12_direction_14 : decode cX12_direction 14 = .ok (.lstore 5, 2) := by decide +kernel
theorem dX12_direction_16 : decode cX12_direction 16 = .ok (.aload_n 0, 1) := by decide +kernel
theorem dX12_direction_17 : decode cX12_direction 17 = .ok (.iload_n 1, 1) := by decide +kernel
theorem dX12_direction_18 : decode cX12_direction 18 = .ok (.ldc2_w 320, 3) := by decide +kernel
theorem dX12_direction_21 : decode cX12_direction 21 = .ok (.lload_n 3, 1) := by decide +kernel
theorem dX12_direction_22 : decode cX12_direction 22 = .ok (.lload_n 3, 1) := by decide +kernel
theorem dX12_direction_23 : decode cX12_direction 23 = .ok (.lmul, 1) := by decide +kernel
theorem dX12_direction_24 : decode cX12_direction 24 = .ok (.lsub, 1) := by decide +kernel
theorem dX12_direction_25 : decode cX12_direction 25 = .ok (.lload 5, 2) := by decide +kernel
theorem dX12_direction_27 : decode cX12_direction 27 = .ok (.invokevirtual 470, 3) := by decide +kernel
theorem dX12_direction_30 : decode cX12_direction 30 = .ok (.aload_n 0, 1) := by decide +kernel
theorem dX12_direction_31 : decode cX12_direction 31 = .ok (.iload_n 1, 1) := by decide +kernel
theorem dX12_direction_32 : decode cX12_direction 32 = .ok (.iconst 1, 1) := by decide +kernel
theorem dX12_direction_33 : decode cX12_direction 33 = .ok (.iadd, 1) := by decide +kernel
theorem dX12_direction_34 : decode cX12_direction 34 = .ok (.ldc2_w 474, 3) := by decide +kernel
theorem dX12_direction_37 : decode cX12_direction 37 = .ok (.lload_n 3, 1) := by decide +kernel
theorem dX12_direction_38 : decode cX12_direction 38 = .ok (.lmul, 1) := by decide +kernel
theorem dX12_direction_39 : decode cX12_direction 39 = .ok (.lload 5, 2) := by decide +kernel
theorem dX12_direction_41 : decode cX12_direction 41 = .ok (.invokevirtual 470, 3) := by decide +kernel
theorem dX12_direction_44 : decode cX12_direction 44 = .ok (.iconst 0, 1) := by decide +kernel
theorem dX12_direction_45 : decode cX12_direction 45 = .ok (.istore 7, 2) := by decide +kernel
theorem dX12_direction_47 : decode cX12_direction 47 = .ok (.iload 7, 2) := by decide +kernel
theorem dX12_direction_49 : decode cX12_direction 49 = .ok (.iload_n 2, 1) := by decide +kernel
theorem dX12_direction_50 : decode cX12_direction 50 = .ok (.sipush 256, 3) := by decide +kernel
theorem dX12_direction_53 : decode cX12_direction 53 = .ok (.idiv, 1) := by decide +kernel
theorem dX12_direction_54 : decode cX12_direction 54 = .ok (.if_icmp .ge 35, 3) := by decide +kernel
theorem dX12_direction_57 : decode cX12_direction 57 = .ok (.aload_n 0, 1) := by decide +kernel
theorem dX12_direction_58 : decode cX12_direction 58 = .ok (.sipush 220, 3) := by decide +kernel
theorem dX12_direction_61 : decode cX12_direction 61 = .ok (.iload_n 1, 1) := by decide +kernel
theorem dX12_direction_62 : decode cX12_direction 62 = .ok (.iconst 1, 1) := by decide +kernel
theorem dX12_direction_63 : decode cX12_direction 63 = .ok (.iadd, 1) := by decide +kernel
theorem dX12_direction_64 : decode cX12_direction 64 = .ok (.invokevirtual 476, 3) := by decide +kernel
theorem dX12_direction_67 : decode cX12_direction 67 = .ok (.aload_n 0, 1) := by decide +kernel
theorem dX12_direction_68 : decode cX12_direction 68 = .ok (.iload_n 1, 1) := by decide +kernel
theorem dX12_direction_69 : decode cX12_direction 69 = .ok (.iconst 1, 1) := by decide +kernel
theorem dX12_direction_70 : decode cX12_direction 70 = .ok (.iadd, 1) := by decide +kernel
theorem dX12_direction_71 : decode cX12_direction 71 = .ok (.iload_n 1, 1) := by decide +kernel
theorem dX12_direction_72 : decode cX12_direction 72 = .ok (.invokevirtual 479, 3) := by decide +kernel
theorem dX12_direction_75 : decode cX12_direction 75 = .ok (.aload_n 0, 1) := by decide +kernel
theorem dX12_direction_76 : decode cX12_direction 76 = .ok (.iload_n 1, 1) := by decide +kernel
theorem dX12_direction_77 : decode cX12_direction 77 = .ok (.sipush 220, 3) := by decide +kernel
theorem dX12_direction_80 : decode cX12_direction 80 = .ok (.invokevirtual 479, 3) := by decide +kernel
theorem dX12_direction_83 : decode cX12_direction 83 = .ok (.iinc 7 1, 3) := by decide +kernel
theorem dX12_direction_86 : decode cX12_direction 86 = .ok (.goto (-39), 3) := by decide +kernel
theorem dX12_direction_89 : decode cX12_direction 89 = .ok (.return_, 1) := by decide +kernel
theorem dX12_turnPair_0 : decode cX12_turnPair 0 = .ok (.aload_n 0, 1) := by decide +kernel
theorem dX12_turnPair_1 : decode cX12_turnPair 1 = .ok (.sipush 221, 3) := by decide +kernel
theorem dX12_turnPair_4 : decode cX12_turnPair 4 = .ok (.iload_n 2, 1) := by decide +kernel
theorem dX12_turnPair_5 : decode cX12_turnPair 5 = .ok (.iload_n 3, 1) := by decide +kernel
theorem dX12_turnPair_6 : decode cX12_turnPair 6 = .ok (.invokevirtual 482, 3) := by decide +kernel
theorem dX12_turnPair_9 : decode cX12_turnPair 9 = .ok (.aload_n 0, 1) := by decide +kernel
theorem dX12_turnPair_10 : decode cX12_turnPair 10 = .ok (.sipush 222, 3) := by decide +kernel
theorem dX12_turnPair_13 : decode cX12_turnPair 13 = .ok (.iload_n 2, 1) := by decide +kernel
theorem dX12_turnPair_14 : decode cX12_turnPair 14 = .ok (.iconst 1, 1) := by decide +kernel
theorem dX12_turnPair_15 : decode cX12_turnPair 15 = .ok (.iadd, 1) := by decide +kernel
theorem dX12_turnPair_16 : decode cX12_turnPair 16 = .ok (.iload_n 3, 1) := by decide +kernel
theorem dX12_turnPair_17 : decode cX12_turnPair 17 = .ok (.iconst 1, 1) := by decide +kernel
theorem dX12_turnPair_18 : decode cX12_turnPair 18 = .ok (.iadd, 1) := by decide +kernel
theorem dX12_turnPair_19 : decode cX12_turnPair 19 = .ok (.invokevirtual 482, 3) := by decide +kernel
theorem dX12_turnPair_22 : decode cX12_turnPair 22 = .ok (.aload_n 0, 1) := by decide +kernel
theorem dX12_turnPair_23 : decode cX12_turnPair 23 = .ok (.sipush 223, 3) := by decide +kernel
theorem dX12_turnPair_26 : decode cX12_turnPair 26 = .ok (.iload_n 2, 1) := by decide +kernel
theorem dX12_turnPair_27 : decode cX12_turnPair 27 = .ok (.iload_n 3, 1) := by decide +kernel
theorem dX12_turnPair_28 : decode cX12_turnPair 28 = .ok (.iconst 1, 1) := by decide +kernel
theorem dX12_turnPair_29 : decode cX12_turnPair 29 = .ok (.iadd, 1) := by decide +kernel
theorem dX12_turnPair_30 : decode cX12_turnPair 30 = .ok (.invokevirtual 482, 3) := by decide +kernel
theorem dX12_turnPair_33 : decode cX12_turnPair 33 = .ok (.aload_n 0, 1) := by decide +kernel
theorem dX12_turnPair_34 : decode cX12_turnPair 34 = .ok (.sipush 224, 3) := by decide +kernel
theorem dX12_turnPair_37 : decode cX12_turnPair 37 = .ok (.iload_n 2, 1) := by decide +kernel
theorem dX12_turnPair_38 : decode cX12_turnPair 38 = .ok (.iconst 1, 1) := by decide +kernel
theorem dX12_turnPair_39 : decode cX12_turnPair 39 = .ok (.iadd, 1) := by decide +kernel
theorem dX12_turnPair_40 : decode cX12_turnPair 40 = .ok (.iload_n 3, 1) := by decide +kernel
theorem dX12_turnPair_41 : decode cX12_turnPair 41 = .ok (.invokevirtual 482, 3) := by decide +kernel
theorem dX12_turnPair_44 : decode cX12_turnPair 44 = .ok (.aload_n 0, 1) := by decide +kernel
theorem dX12_turnPair_45 : decode cX12_turnPair 45 = .ok (.iload_n 1, 1) := by decide +kernel
theorem dX12_turnPair_46 : decode cX12_turnPair 46 = .ok (.sipush 221, 3) := by decide +kernel
theorem dX12_turnPair_49 : decode cX12_turnPair 49 = .ok (.sipush 222, 3) := by decide +kernel
theorem dX12_turnPair_52 : decode cX12_turnPair 52 = .ok (.invokevirtual 485, 3) := by decide +kernel
theorem dX12_turnPair_55 : decode cX12_turnPair 55 = .ok (.aload_n 0, 1) := by decide +kernel
theorem dX12_turnPair_56 : decode cX12_turnPair 56 = .ok (.iload_n 1, 1) := by decide +kernel
theorem dX12_turnPair_57 : decode cX12_turnPair 57 = .ok (.iconst 1, 1) := by decide +kernel
theorem dX12_turnPair_58 : decode cX12_turnPair 58 = .ok (.iadd, 1) := by decide +kernel
theorem dX12_turnPair_59 : decode cX12_turnPair 59 = .ok (.sipush 223, 3) := by decide +kernel
theorem dX12_turnPair_62 : decode cX12_turnPair 62 = .ok (.sipush 224, 3) := by decide +kernel
theorem dX12_turnPair_65 : decode cX12_turnPair 65 = .ok (.invokevirtual 488, 3) := by decide +kernel
theorem dX12_turnPair_68 : decode cX12_turnPair 68 = .ok (.return_, 1) := by decide +kernel
theorem dX12_wayOf_0 : decode cX12_wayOf 0 = .ok (.aload_n 0, 1) := by decide +kernel
theorem dX12_wayOf_1 : decode cX12_wayOf 1 = .ok (.getfield 45, 3) := by decide +kernel
theorem dX12_wayOf_4 : decode cX12_wayOf 4 = .ok (.iload_n 2, 1) := by decide +kernel
theorem dX12_wayOf_5 : decode cX12_wayOf 5 = .ok (.iaload, 1) := by decide +kernel
theorem dX12_wayOf_6 : decode cX12_wayOf 6 = .ok (.istore_n 3, 1) := by decide +kernel
theorem dX12_wayOf_7 : decode cX12_wayOf 7 = .ok (.iload_n 3, 1) := by decide +kernel
theorem dX12_wayOf_8 : decode cX12_wayOf 8 = .ok (.ifCond .ne 28, 3) := by decide +kernel
theorem dX12_wayOf_11 : decode cX12_wayOf 11 = .ok (.aload_n 0, 1) := by decide +kernel
theorem dX12_wayOf_12 : decode cX12_wayOf 12 = .ok (.iload_n 1, 1) := by decide +kernel
theorem dX12_wayOf_13 : decode cX12_wayOf 13 = .ok (.ldc2_w 320, 3) := by decide +kernel
theorem dX12_wayOf_16 : decode cX12_wayOf 16 = .ok (.ldc2_w 320, 3) := by decide +kernel
theorem dX12_wayOf_19 : decode cX12_wayOf 19 = .ok (.iconst 0, 1) := by decide +kernel
theorem dX12_wayOf_20 : decode cX12_wayOf 20 = .ok (.invokevirtual 310, 3) := by decide +kernel
theorem dX12_wayOf_23 : decode cX12_wayOf 23 = .ok (.aload_n 0, 1) := by decide +kernel
theorem dX12_wayOf_24 : decode cX12_wayOf 24 = .ok (.iload_n 1, 1) := by decide +kernel
theorem dX12_wayOf_25 : decode cX12_wayOf 25 = .ok (.iconst 1, 1) := by decide +kernel
theorem dX12_wayOf_26 : decode cX12_wayOf 26 = .ok (.iadd, 1) := by decide +kernel
theorem dX12_wayOf_27 : decode cX12_wayOf 27 = .ok (.lconst 0, 1) := by decide +kernel
theorem dX12_wayOf_28 : decode cX12_wayOf 28 = .ok (.lconst 0, 1) := by decide +kernel
theorem dX12_wayOf_29 : decode cX12_wayOf 29 = .ok (.iconst 0, 1) := by decide +kernel
theorem dX12_wayOf_30 : decode cX12_wayOf 30 = .ok (.invokevirtual 310, 3) := by decide +kernel
theorem dX12_wayOf_33 : decode cX12_wayOf 33 = .ok (.goto 86, 3) := by decide +kernel
theorem dX12_wayOf_36 : decode cX12_wayOf 36 = .ok (.aload_n 0, 1) := by decide +kernel
theorem dX12_wayOf_37 : decode cX12_wayOf 37 = .ok (.sipush 210, 3) := by decide +kernel
theorem dX12_wayOf_40 : decode cX12_wayOf 40 = .ok (.aload_n 0, 1) := by decide +kernel
theorem dX12_wayOf_41 : decode cX12_wayOf 41 = .ok (.getfield 63, 3) := by decide +kernel
theorem dX12_wayOf_44 : decode cX12_wayOf 44 = .ok (.aload_n 0, 1) := by decide +kernel
theorem dX12_wayOf_45 : decode cX12_wayOf 45 = .ok (.getfield 42, 3) := by decide +kernel
theorem dX12_wayOf_48 : decode cX12_wayOf 48 = .ok (.iload_n 2, 1) := by decide +kernel
theorem dX12_wayOf_49 : decode cX12_wayOf 49 = .ok (.iaload, 1) := by decide +kernel
theorem dX12_wayOf_50 : decode cX12_wayOf 50 = .ok (.iaload, 1) := by decide +kernel
theorem dX12_wayOf_51 : decode cX12_wayOf 51 = .ok (.invokevirtual 491, 3) := by decide +kernel
theorem dX12_wayOf_54 : decode cX12_wayOf 54 = .ok (.iload_n 3, 1) := by decide +kernel
theorem dX12_wayOf_55 : decode cX12_wayOf 55 = .ok (.ifCond .ge 13, 3) := by decide +kernel
theorem dX12_wayOf_58 : decode cX12_wayOf 58 = .ok (.aload_n 0, 1) := by decide +kernel
theorem dX12_wayOf_59 : decode cX12_wayOf 59 = .ok (.sipush 211, 3) := by decide +kernel
theorem dX12_wayOf_62 : decode cX12_wayOf 62 = .ok (.sipush 211, 3) := by decide +kernel
theorem dX12_wayOf_65 : decode cX12_wayOf 65 = .ok (.invokevirtual 476, 3) := by decide +kernel
theorem dX12_wayOf_68 : decode cX12_wayOf 68 = .ok (.aload_n 0, 1) := by decide +kernel
theorem dX12_wayOf_69 : decode cX12_wayOf 69 = .ok (.iload_n 1, 1) := by decide +kernel
theorem dX12_wayOf_70 : decode cX12_wayOf 70 = .ok (.sipush 210, 3) := by decide +kernel
theorem dX12_wayOf_73 : decode cX12_wayOf 73 = .ok (.invokevirtual 479, 3) := by decide +kernel
theorem dX12_wayOf_76 : decode cX12_wayOf 76 = .ok (.aload_n 0, 1) := by decide +kernel
theorem dX12_wayOf_77 : decode cX12_wayOf 77 = .ok (.iload_n 1, 1) := by decide +kernel
theorem dX12_wayOf_78 : decode cX12_wayOf 78 = .ok (.iconst 1, 1) := by decide +kernel
theorem dX12_wayOf_79 : decode cX12_wayOf 79 = .ok (.iadd, 1) := by decide +kernel
theorem dX12_wayOf_80 : decode cX12_wayOf 80 = .ok (.sipush 211, 3) := by decide +kernel
theorem dX12_wayOf_83 : decode cX12_wayOf 83 = .ok (.invokevirtual 479, 3) := by decide +kernel
theorem dX12_wayOf_86 : decode cX12_wayOf 86 = .ok (.iconst 1, 1) := by decide +kernel
theorem dX12_wayOf_87 : decode cX12_wayOf 87 = .ok (.istore 4, 2) := by decide +kernel
theorem dX12_wayOf_89 : decode cX12_wayOf 89 = .ok (.iload 4, 2) := by decide +kernel
theorem dX12_wayOf_91 : decode cX12_wayOf 91 = .ok (.iload_n 3, 1) := by decide +kernel
theorem dX12_wayOf_92 : decode cX12_wayOf 92 = .ok (.ifCond .ge 8, 3) := by decide +kernel
theorem dX12_wayOf_95 : decode cX12_wayOf 95 = .ok (.iload_n 3, 1) := by decide +kernel
theorem dX12_wayOf_96 : decode cX12_wayOf 96 = .ok (.ineg, 1) := by decide +kernel
theorem dX12_wayOf_97 : decode cX12_wayOf 97 = .ok (.goto 4, 3) := by decide +kernel
theorem dX12_wayOf_100 : decode cX12_wayOf 100 = .ok (.iload_n 3, 1) := by decide +kernel
theorem dX12_wayOf_101 : decode cX12_wayOf 101 = .ok (.if_icmp .ge 18, 3) := by decide +kernel
theorem dX12_wayOf_104 : decode cX12_wayOf 104 = .ok (.aload_n 0, 1) := by decide +kernel
theorem dX12_wayOf_105 : decode cX12_wayOf 105 = .ok (.iload_n 1, 1) := by decide +kernel
theorem dX12_wayOf_106 : decode cX12_wayOf 106 = .ok (.iload_n 1, 1) := by decide +kernel
theorem dX12_wayOf_107 : decode cX12_wayOf 107 = .ok (.sipush 210, 3) := by decide +kernel
theorem dX12_wayOf_110 : decode cX12_wayOf 110 = .ok (.invokevirtual 494, 3) := by decide +kernel
theorem dX12_wayOf_113 : decode cX12_wayOf 113 = .ok (.iinc 4 1, 3) := by decide +kernel
theorem dX12_wayOf_116 : decode cX12_wayOf 116 = .ok (.goto (-27), 3) := by decide +kernel
theorem dX12_wayOf_119 : decode cX12_wayOf 119 = .ok (.aload_n 0, 1) := by decide +kernel
theorem dX12_wayOf_120 : decode cX12_wayOf 120 = .ok (.sipush 212, 3) := by decide +kernel
theorem dX12_wayOf_123 : decode cX12_wayOf 123 = .ok (.aload_n 0, 1) := by decide +kernel
theorem dX12_wayOf_124 : decode cX12_wayOf 124 = .ok (.getfield 48, 3) := by decide +kernel
theorem dX12_wayOf_127 : decode cX12_wayOf 127 = .ok (.iload_n 2, 1) := by decide +kernel
theorem dX12_wayOf_128 : decode cX12_wayOf 128 = .ok (.iaload, 1) := by decide +kernel
theorem dX12_wayOf_129 : decode cX12_wayOf 129 = .ok (.invokevirtual 491, 3) := by decide +kernel
theorem dX12_wayOf_132 : decode cX12_wayOf 132 = .ok (.aload_n 0, 1) := by decide +kernel
theorem dX12_wayOf_133 : decode cX12_wayOf 133 = .ok (.iload_n 1, 1) := by decide +kernel
theorem dX12_wayOf_134 : decode cX12_wayOf 134 = .ok (.iload_n 1, 1) := by decide +kernel
theorem dX12_wayOf_135 : decode cX12_wayOf 135 = .ok (.sipush 212, 3) := by decide +kernel
theorem dX12_wayOf_138 : decode cX12_wayOf 138 = .ok (.invokevirtual 494, 3) := by decide +kernel
theorem dX12_wayOf_141 : decode cX12_wayOf 141 = .ok (.return_, 1) := by decide +kernel
theorem dX12_between_0 : decode cX12_between 0 = .ok (.aload_n 0, 1) := by decide +kernel
theorem dX12_between_1 : decode cX12_between 1 = .ok (.iload_n 1, 1) := by decide +kernel
theorem dX12_between_2 : decode cX12_between 2 = .ok (.iconst 2, 1) := by decide +kernel
theorem dX12_between_3 : decode cX12_between 3 = .ok (.iload_n 2, 1) := by decide +kernel
theorem dX12_between_4 : decode cX12_between 4 = .ok (.imul, 1) := by decide +kernel
theorem dX12_between_5 : decode cX12_between 5 = .ok (.iconst 2, 1) := by decide +kernel
theorem dX12_between_6 : decode cX12_between 6 = .ok (.iload_n 3, 1) := by decide +kernel
theorem dX12_between_7 : decode cX12_between 7 = .ok (.imul, 1) := by decide +kernel
theorem dX12_between_8 : decode cX12_between 8 = .ok (.invokevirtual 485, 3) := by decide +kernel
theorem dX12_between_11 : decode cX12_between 11 = .ok (.aload_n 0, 1) := by decide +kernel
theorem dX12_between_12 : decode cX12_between 12 = .ok (.iload_n 1, 1) := by decide +kernel
theorem dX12_between_13 : decode cX12_between 13 = .ok (.iconst 1, 1) := by decide +kernel
theorem dX12_between_14 : decode cX12_between 14 = .ok (.iadd, 1) := by decide +kernel
theorem dX12_between_15 : decode cX12_between 15 = .ok (.iconst 2, 1) := by decide +kernel
theorem dX12_between_16 : decode cX12_between 16 = .ok (.iload_n 2, 1) := by decide +kernel
theorem dX12_between_17 : decode cX12_between 17 = .ok (.imul, 1) := by decide +kernel
theorem dX12_between_18 : decode cX12_between 18 = .ok (.iconst 1, 1) := by decide +kernel
theorem dX12_between_19 : decode cX12_between 19 = .ok (.iadd, 1) := by decide +kernel
theorem dX12_between_20 : decode cX12_between 20 = .ok (.iconst 2, 1) := by decide +kernel
theorem dX12_between_21 : decode cX12_between 21 = .ok (.iload_n 3, 1) := by decide +kernel
theorem dX12_between_22 : decode cX12_between 22 = .ok (.imul, 1) := by decide +kernel
theorem dX12_between_23 : decode cX12_between 23 = .ok (.iconst 1, 1) := by decide +kernel
theorem dX12_between_24 : decode cX12_between 24 = .ok (.iadd, 1) := by decide +kernel
theorem dX12_between_25 : decode cX12_between 25 = .ok (.invokevirtual 485, 3) := by decide +kernel
theorem dX12_between_28 : decode cX12_between 28 = .ok (.return_, 1) := by decide +kernel
theorem dX12_dot_0 : decode cX12_dot 0 = .ok (.aload_n 0, 1) := by decide +kernel
theorem dX12_dot_1 : decode cX12_dot 1 = .ok (.sipush 225, 3) := by decide +kernel
theorem dX12_dot_4 : decode cX12_dot 4 = .ok (.iload_n 2, 1) := by decide +kernel
theorem dX12_dot_5 : decode cX12_dot 5 = .ok (.iload_n 3, 1) := by decide +kernel
theorem dX12_dot_6 : decode cX12_dot 6 = .ok (.invokevirtual 482, 3) := by decide +kernel
theorem dX12_dot_9 : decode cX12_dot 9 = .ok (.aload_n 0, 1) := by decide +kernel
theorem dX12_dot_10 : decode cX12_dot 10 = .ok (.sipush 226, 3) := by decide +kernel
theorem dX12_dot_13 : decode cX12_dot 13 = .ok (.iload_n 2, 1) := by decide +kernel
theorem dX12_dot_14 : decode cX12_dot 14 = .ok (.iconst 1, 1) := by decide +kernel
theorem dX12_dot_15 : decode cX12_dot 15 = .ok (.iadd, 1) := by decide +kernel
theorem dX12_dot_16 : decode cX12_dot 16 = .ok (.iload_n 3, 1) := by decide +kernel
theorem dX12_dot_17 : decode cX12_dot 17 = .ok (.iconst 1, 1) := by decide +kernel
theorem dX12_dot_18 : decode cX12_dot 18 = .ok (.iadd, 1) := by decide +kernel
theorem dX12_dot_19 : decode cX12_dot 19 = .ok (.invokevirtual 482, 3) := by decide +kernel
theorem dX12_dot_22 : decode cX12_dot 22 = .ok (.aload_n 0, 1) := by decide +kernel
theorem dX12_dot_23 : decode cX12_dot 23 = .ok (.iload_n 1, 1) := by decide +kernel
theorem dX12_dot_24 : decode cX12_dot 24 = .ok (.sipush 225, 3) := by decide +kernel
theorem dX12_dot_27 : decode cX12_dot 27 = .ok (.sipush 226, 3) := by decide +kernel
theorem dX12_dot_30 : decode cX12_dot 30 = .ok (.invokevirtual 488, 3) := by decide +kernel
theorem dX12_dot_33 : decode cX12_dot 33 = .ok (.return_, 1) := by decide +kernel
theorem dX12_cross_0 : decode cX12_cross 0 = .ok (.aload_n 0, 1) := by decide +kernel
theorem dX12_cross_1 : decode cX12_cross 1 = .ok (.sipush 225, 3) := by decide +kernel
theorem dX12_cross_4 : decode cX12_cross 4 = .ok (.iload_n 2, 1) := by decide +kernel
theorem dX12_cross_5 : decode cX12_cross 5 = .ok (.iload_n 3, 1) := by decide +kernel
theorem dX12_cross_6 : decode cX12_cross 6 = .ok (.iconst 1, 1) := by decide +kernel
theorem dX12_cross_7 : decode cX12_cross 7 = .ok (.iadd, 1) := by decide +kernel
theorem dX12_cross_8 : decode cX12_cross 8 = .ok (.invokevirtual 482, 3) := by decide +kernel
theorem dX12_cross_11 : decode cX12_cross 11 = .ok (.aload_n 0, 1) := by decide +kernel
theorem dX12_cross_12 : decode cX12_cross 12 = .ok (.sipush 226, 3) := by decide +kernel
theorem dX12_cross_15 : decode cX12_cross 15 = .ok (.iload_n 2, 1) := by decide +kernel
theorem dX12_cross_16 : decode cX12_cross 16 = .ok (.iconst 1, 1) := by decide +kernel
theorem dX12_cross_17 : decode cX12_cross 17 = .ok (.iadd, 1) := by decide +kernel
theorem dX12_cross_18 : decode cX12_cross 18 = .ok (.iload_n 3, 1) := by decide +kernel
theorem dX12_cross_19 : decode cX12_cross 19 = .ok (.invokevirtual 482, 3) := by decide +kernel
theorem dX12_cross_22 : decode cX12_cross 22 = .ok (.aload_n 0, 1) := by decide +kernel
theorem dX12_cross_23 : decode cX12_cross 23 = .ok (.iload_n 1, 1) := by decide +kernel
theorem dX12_cross_24 : decode cX12_cross 24 = .ok (.sipush 225, 3) := by decide +kernel
theorem dX12_cross_27 : decode cX12_cross 27 = .ok (.sipush 226, 3) := by decide +kernel
theorem dX12_cross_30 : decode cX12_cross 30 = .ok (.invokevirtual 485, 3) := by decide +kernel
theorem dX12_cross_33 : decode cX12_cross 33 = .ok (.return_, 1) := by decide +kernel
theorem dX12_squares_0 : decode cX12_squares 0 = .ok (.aload_n 0, 1) := by decide +kernel
theorem dX12_squares_1 : decode cX12_squares 1 = .ok (.sipush 225, 3) := by decide +kernel
theorem dX12_squares_4 : decode cX12_squares 4 = .ok (.iload_n 2, 1) := by decide +kernel
theorem dX12_squares_5 : decode cX12_squares 5 = .ok (.invokevirtual 497, 3) := by decide +kernel
theorem dX12_squares_8 : decode cX12_squares 8 = .ok (.aload_n 0, 1) := by decide +kernel
theorem dX12_squares_9 : decode cX12_squares 9 = .ok (.sipush 226, 3) := by decide +kernel
theorem dX12_squares_12 : decode cX12_squares 12 = .ok (.iload_n 2, 1) := by decide +kernel
theorem dX12_squares_13 : decode cX12_squares 13 = .ok (.iconst 1, 1) := by decide +kernel
theorem dX12_squares_14 : decode cX12_squares 14 = .ok (.iadd, 1) := by decide +kernel
theorem dX12_squares_15 : decode cX12_squares 15 = .ok (.invokevirtual 497, 3) := by decide +kernel
theorem dX12_squares_18 : decode cX12_squares 18 = .ok (.aload_n 0, 1) := by decide +kernel
theorem dX12_squares_19 : decode cX12_squares 19 = .ok (.iload_n 1, 1) := by decide +kernel
theorem dX12_squares_20 : decode cX12_squares 20 = .ok (.sipush 225, 3) := by decide +kernel
theorem dX12_squares_23 : decode cX12_squares 23 = .ok (.sipush 226, 3) := by decide +kernel
theorem dX12_squares_26 : decode cX12_squares 26 = .ok (.invokevirtual 488, 3) := by decide +kernel
theorem dX12_squares_29 : decode cX12_squares 29 = .ok (.return_, 1) := by decide +kernel
theorem dX12_squared_0 : decode cX12_squared 0 = .ok (.aload_n 0, 1) := by decide +kernel
theorem dX12_squared_1 : decode cX12_squared 1 = .ok (.iload_n 1, 1) := by decide +kernel
theorem dX12_squared_2 : decode cX12_squared 2 = .ok (.lload_n 2, 1) := by decide +kernel
theorem dX12_squared_3 : decode cX12_squared 3 = .ok (.lload_n 2, 1) := by decide +kernel
theorem dX12_squared_4 : decode cX12_squared 4 = .ok (.lmul, 1) := by decide +kernel
theorem dX12_squared_5 : decode cX12_squared 5 = .ok (.lload 4, 2) := by decide +kernel
theorem dX12_squared_7 : decode cX12_squared 7 = .ok (.lload 4, 2) := by decide +kernel
theorem dX12_squared_9 : decode cX12_squared 9 = .ok (.lmul, 1) := by decide +kernel
theorem dX12_squared_10 : decode cX12_squared 10 = .ok (.invokevirtual 470, 3) := by decide +kernel
theorem dX12_squared_13 : decode cX12_squared 13 = .ok (.return_, 1) := by decide +kernel
theorem dX12_askRoot_0 : decode cX12_askRoot 0 = .ok (.aload_n 0, 1) := by decide +kernel
theorem dX12_askRoot_1 : decode cX12_askRoot 1 = .ok (.getfield 20, 3) := by decide +kernel
theorem dX12_askRoot_4 : decode cX12_askRoot 4 = .ok (.iload_n 1, 1) := by decide +kernel
theorem dX12_askRoot_5 : decode cX12_askRoot 5 = .ok (.baload, 1) := by decide +kernel
theorem dX12_askRoot_6 : decode cX12_askRoot 6 = .ok (.ifCond .eq 4, 3) := by decide +kernel
theorem dX12_askRoot_9 : decode cX12_askRoot 9 = .ok (.return_, 1) := by decide +kernel
theorem dX12_askRoot_10 : decode cX12_askRoot 10 = .ok (.aload_n 0, 1) := by decide +kernel
theorem dX12_askRoot_11 : decode cX12_askRoot 11 = .ok (.getfield 17, 3) := by decide +kernel
theorem dX12_askRoot_14 : decode cX12_askRoot 14 = .ok (.iload_n 1, 1) := by decide +kernel
theorem dX12_askRoot_15 : decode cX12_askRoot 15 = .ok (.laload, 1) := by decide +kernel
theorem dX12_askRoot_16 : decode cX12_askRoot 16 = .ok (.lconst 0, 1) := by decide +kernel
theorem dX12_askRoot_17 : decode cX12_askRoot 17 = .ok (.lcmp, 1) := by decide +kernel
theorem dX12_askRoot_18 : decode cX12_askRoot 18 = .ok (.ifCond .ge 11, 3) := by decide +kernel
theorem dX12_askRoot_21 : decode cX12_askRoot 21 = .ok (.aload_n 0, 1) := by decide +kernel
theorem dX12_askRoot_22 : decode cX12_askRoot 22 = .ok (.iconst 1, 1) := by decide +kernel
theorem dX12_askRoot_23 : decode cX12_askRoot 23 = .ok (.putfield 500, 3) := by decide +kernel
theorem dX12_askRoot_26 : decode cX12_askRoot 26 = .ok (.goto 26, 3) := by decide +kernel
theorem dX12_askRoot_29 : decode cX12_askRoot 29 = .ok (.aload_n 0, 1) := by decide +kernel
theorem dX12_askRoot_30 : decode cX12_askRoot 30 = .ok (.getfield 13, 3) := by decide +kernel
theorem dX12_askRoot_33 : decode cX12_askRoot 33 = .ok (.iload_n 1, 1) := by decide +kernel
theorem dX12_askRoot_34 : decode cX12_askRoot 34 = .ok (.laload, 1) := by decide +kernel
theorem dX12_askRoot_35 : decode cX12_askRoot 35 = .ok (.lconst 0, 1) := by decide +kernel
theorem dX12_askRoot_36 : decode cX12_askRoot 36 = .ok (.lcmp, 1) := by decide +kernel
theorem dX12_askRoot_37 : decode cX12_askRoot 37 = .ok (.ifCond .ge 15, 3) := by decide +kernel
theorem dX12_askRoot_40 : decode cX12_askRoot 40 = .ok (.aload_n 0, 1) := by decide +kernel
theorem dX12_askRoot_41 : decode cX12_askRoot 41 = .ok (.iconst 1, 1) := by decide +kernel
theorem dX12_askRoot_42 : decode cX12_askRoot 42 = .ok (.putfield 503, 3) := by decide +kernel
theorem dX12_askRoot_45 : decode cX12_askRoot 45 = .ok (.aload_n 0, 1) := by decide +kernel
theorem dX12_askRoot_46 : decode cX12_askRoot 46 = .ok (.getfield 13, 3) := by decide +kernel
theorem dX12_askRoot_49 : decode cX12_askRoot 49 = .ok (.iload_n 1, 1) := by decide +kernel
theorem dX12_askRoot_50 : decode cX12_askRoot 50 = .ok (.lconst 0, 1) := by decide +kernel
theorem dX12_askRoot_51 : decode cX12_askRoot 51 = .ok (.lastore, 1) := by decide +kernel
theorem dX12_askRoot_52 : decode cX12_askRoot 52 = .ok (.return_, 1) := by decide +kernel
theorem dX12_isMinus_0 : decode cX12_isMinus 0 = .ok (.aload_n 0, 1) := by decide +kernel
theorem dX12_isMinus_1 : decode cX12_isMinus 1 = .ok (.getfield 51, 3) := by decide +kernel
theorem dX12_isMinus_4 : decode cX12_isMinus 4 = .ok (.iload_n 2, 1) := by decide +kernel
theorem dX12_isMinus_5 : decode cX12_isMinus 5 = .ok (.iaload, 1) := by decide +kernel
theorem dX12_isMinus_6 : decode cX12_isMinus 6 = .ok (.iconst 1, 1) := by decide +kernel
theorem dX12_isMinus_7 : decode cX12_isMinus 7 = .ok (.if_icmp .eq 29, 3) := by decide +kernel
theorem dX12_isMinus_10 : decode cX12_isMinus 10 = .ok (.aload_n 0, 1) := by decide +kernel
theorem dX12_isMinus_11 : decode cX12_isMinus 11 = .ok (.getfield 51, 3) := by decide +kernel
theorem dX12_isMinus_14 : decode cX12_isMinus 14 = .ok (.iload_n 2, 1) := by decide +kernel
theorem dX12_isMinus_15 : decode cX12_isMinus 15 = .ok (.iaload, 1) := by decide +kernel
theorem dX12_isMinus_16 : decode cX12_isMinus 16 = .ok (.iconst 1, 1) := by decide +kernel
theorem dX12_isMinus_17 : decode cX12_isMinus 17 = .ok (.if_icmp .le 23, 3) := by decide +kernel
theorem dX12_isMinus_20 : decode cX12_isMinus 20 = .ok (.iload_n 1, 1) := by decide +kernel
theorem dX12_isMinus_21 : decode cX12_isMinus 21 = .ok (.aload_n 0, 1) := by decide +kernel
theorem dX12_isMinus_22 : decode cX12_isMinus 22 = .ok (.getfield 51, 3) := by decide +kernel
theorem dX12_isMinus_25 : decode cX12_isMinus 25 = .ok (.iload_n 2, 1) := by decide +kernel
theorem dX12_isMinus_26 : decode cX12_isMinus 26 = .ok (.iaload, 1) := by decide +kernel
theorem dX12_isMinus_27 : decode cX12_isMinus 27 = .ok (.iconst 2, 1) := by decide +kernel
theorem dX12_isMinus_28 : decode cX12_isMinus 28 = .ok (.isub, 1) := by decide +kernel
theorem dX12_isMinus_29 : decode cX12_isMinus 29 = .ok (.ishr, 1) := by decide +kernel
theorem dX12_isMinus_30 : decode cX12_isMinus 30 = .ok (.iconst 1, 1) := by decide +kernel
theorem dX12_isMinus_31 : decode cX12_isMinus 31 = .ok (.iand, 1) := by decide +kernel
theorem dX12_isMinus_32 : decode cX12_isMinus 32 = .ok (.iconst 1, 1) := by decide +kernel
theorem dX12_isMinus_33 : decode cX12_isMinus 33 = .ok (.if_icmp .ne 7, 3) := by decide +kernel
theorem dX12_isMinus_36 : decode cX12_isMinus 36 = .ok (.iconst 1, 1) := by decide +kernel
theorem dX12_isMinus_37 : decode cX12_isMinus 37 = .ok (.goto 4, 3) := by decide +kernel
theorem dX12_isMinus_40 : decode cX12_isMinus 40 = .ok (.iconst 0, 1) := by decide +kernel
theorem dX12_isMinus_41 : decode cX12_isMinus 41 = .ok (.ireturn, 1) := by decide +kernel
theorem dX12_placeOf_0 : decode cX12_placeOf 0 = .ok (.iconst 2, 1) := by decide +kernel
theorem dX12_placeOf_1 : decode cX12_placeOf 1 = .ok (.iload_n 2, 1) := by decide +kernel
theorem dX12_placeOf_2 : decode cX12_placeOf 2 = .ok (.imul, 1) := by decide +kernel
theorem dX12_placeOf_3 : decode cX12_placeOf 3 = .ok (.istore_n 3, 1) := by decide +kernel
theorem dX12_placeOf_4 : decode cX12_placeOf 4 = .ok (.aload_n 0, 1) := by decide +kernel
theorem dX12_placeOf_5 : decode cX12_placeOf 5 = .ok (.getfield 27, 3) := by decide +kernel
theorem dX12_placeOf_8 : decode cX12_placeOf 8 = .ok (.iconst 4, 1) := by decide +kernel
theorem dX12_placeOf_9 : decode cX12_placeOf 9 = .ok (.iload_n 2, 1) := by decide +kernel
theorem dX12_placeOf_10 : decode cX12_placeOf 10 = .ok (.imul, 1) := by decide +kernel
theorem dX12_placeOf_11 : decode cX12_placeOf 11 = .ok (.iaload, 1) := by decide +kernel
theorem dX12_placeOf_12 : decode cX12_placeOf 12 = .ok (.istore 4, 2) := by decide +kernel
theorem dX12_placeOf_14 : decode cX12_placeOf 14 = .ok (.aload_n 0, 1) := by decide +kernel
theorem dX12_placeOf_15 : decode cX12_placeOf 15 = .ok (.getfield 27, 3) := by decide +kernel
theorem dX12_placeOf_18 : decode cX12_placeOf 18 = .ok (.iconst 4, 1) := by decide +kernel
theorem dX12_placeOf_19 : decode cX12_placeOf 19 = .ok (.iload_n 2, 1) := by decide +kernel
theorem dX12_placeOf_20 : decode cX12_placeOf 20 = .ok (.imul, 1) := by decide +kernel
theorem dX12_placeOf_21 : decode cX12_placeOf 21 = .ok (.iconst 1, 1) := by decide +kernel
theorem dX12_placeOf_22 : decode cX12_placeOf 22 = .ok (.iadd, 1) := by decide +kernel
theorem dX12_placeOf_23 : decode cX12_placeOf 23 = .ok (.iaload, 1) := by decide +kernel
theorem dX12_placeOf_24 : decode cX12_placeOf 24 = .ok (.istore 5, 2) := by decide +kernel
theorem dX12_placeOf_26 : decode cX12_placeOf 26 = .ok (.aload_n 0, 1) := by decide +kernel
theorem dX12_placeOf_27 : decode cX12_placeOf 27 = .ok (.getfield 27, 3) := by decide +kernel
theorem dX12_placeOf_30 : decode cX12_placeOf 30 = .ok (.iconst 4, 1) := by decide +kernel
theorem dX12_placeOf_31 : decode cX12_placeOf 31 = .ok (.iload_n 2, 1) := by decide +kernel
theorem dX12_placeOf_32 : decode cX12_placeOf 32 = .ok (.imul, 1) := by decide +kernel
theorem dX12_placeOf_33 : decode cX12_placeOf 33 = .ok (.iconst 2, 1) := by decide +kernel
theorem dX12_placeOf_34 : decode cX12_placeOf 34 = .ok (.iadd, 1) := by decide +kernel
theorem dX12_placeOf_35 : decode cX12_placeOf 35 = .ok (.iaload, 1) := by decide +kernel
theorem dX12_placeOf_36 : decode cX12_placeOf 36 = .ok (.istore 6, 2) := by decide +kernel
theorem dX12_placeOf_38 : decode cX12_placeOf 38 = .ok (.aload_n 0, 1) := by decide +kernel
theorem dX12_placeOf_39 : decode cX12_placeOf 39 = .ok (.getfield 27, 3) := by decide +kernel
theorem dX12_placeOf_42 : decode cX12_placeOf 42 = .ok (.iconst 4, 1) := by decide +kernel
theorem dX12_placeOf_43 : decode cX12_placeOf 43 = .ok (.iload_n 2, 1) := by decide +kernel
theorem dX12_placeOf_44 : decode cX12_placeOf 44 = .ok (.imul, 1) := by decide +kernel
theorem dX12_placeOf_45 : decode cX12_placeOf 45 = .ok (.iconst 3, 1) := by decide +kernel
theorem dX12_placeOf_46 : decode cX12_placeOf 46 = .ok (.iadd, 1) := by decide +kernel
theorem dX12_placeOf_47 : decode cX12_placeOf 47 = .ok (.iaload, 1) := by decide +kernel
theorem dX12_placeOf_48 : decode cX12_placeOf 48 = .ok (.istore 7, 2) := by decide +kernel
theorem dX12_placeOf_50 : decode cX12_placeOf 50 = .ok (.aload_n 0, 1) := by decide +kernel
theorem dX12_placeOf_51 : decode cX12_placeOf 51 = .ok (.getfield 24, 3) := by decide +kernel
theorem dX12_placeOf_54 : decode cX12_placeOf 54 = .ok (.iload_n 2, 1) := by decide +kernel
theorem dX12_placeOf_55 : decode cX12_placeOf 55 = .ok (.iaload, 1) := by decide +kernel
theorem dX12_placeOf_56 : decode cX12_placeOf 56 = .ok (.tableswitch 201 0 4 #[36, 73, 155, 166, 179], 36) := by decide +kernel
theorem dX12_placeOf_92 : decode cX12_placeOf 92 = .ok (.aload_n 0, 1) := by decide +kernel
theorem dX12_placeOf_93 : decode cX12_placeOf 93 = .ok (.iload_n 3, 1) := by decide +kernel
theorem dX12_placeOf_94 : decode cX12_placeOf 94 = .ok (.aload_n 0, 1) := by decide +kernel
theorem dX12_placeOf_95 : decode cX12_placeOf 95 = .ok (.getfield 30, 3) := by decide +kernel
theorem dX12_placeOf_98 : decode cX12_placeOf 98 = .ok (.iload_n 2, 1) := by decide +kernel
theorem dX12_placeOf_99 : decode cX12_placeOf 99 = .ok (.laload, 1) := by decide +kernel
theorem dX12_placeOf_100 : decode cX12_placeOf 100 = .ok (.aload_n 0, 1) := by decide +kernel
theorem dX12_placeOf_101 : decode cX12_placeOf 101 = .ok (.getfield 33, 3) := by decide +kernel
theorem dX12_placeOf_104 : decode cX12_placeOf 104 = .ok (.iload_n 2, 1) := by decide +kernel
theorem dX12_placeOf_105 : decode cX12_placeOf 105 = .ok (.laload, 1) := by decide +kernel
theorem dX12_placeOf_106 : decode cX12_placeOf 106 = .ok (.invokevirtual 470, 3) := by decide +kernel
theorem dX12_placeOf_109 : decode cX12_placeOf 109 = .ok (.aload_n 0, 1) := by decide +kernel
theorem dX12_placeOf_110 : decode cX12_placeOf 110 = .ok (.iload_n 3, 1) := by decide +kernel
theorem dX12_placeOf_111 : decode cX12_placeOf 111 = .ok (.iconst 1, 1) := by decide +kernel
theorem dX12_placeOf_112 : decode cX12_placeOf 112 = .ok (.iadd, 1) := by decide +kernel
theorem dX12_placeOf_113 : decode cX12_placeOf 113 = .ok (.aload_n 0, 1) := by decide +kernel
theorem dX12_placeOf_114 : decode cX12_placeOf 114 = .ok (.getfield 36, 3) := by decide +kernel
theorem dX12_placeOf_117 : decode cX12_placeOf 117 = .ok (.iload_n 2, 1) := by decide +kernel
theorem dX12_placeOf_118 : decode cX12_placeOf 118 = .ok (.laload, 1) := by decide +kernel
theorem dX12_placeOf_119 : decode cX12_placeOf 119 = .ok (.aload_n 0, 1) := by decide +kernel
theorem dX12_placeOf_120 : decode cX12_placeOf 120 = .ok (.getfield 39, 3) := by decide +kernel
theorem dX12_placeOf_123 : decode cX12_placeOf 123 = .ok (.iload_n 2, 1) := by decide +kernel
theorem dX12_placeOf_124 : decode cX12_placeOf 124 = .ok (.laload, 1) := by decide +kernel
theorem dX12_placeOf_125 : decode cX12_placeOf 125 = .ok (.invokevirtual 470, 3) := by decide +kernel
theorem dX12_placeOf_128 : decode cX12_placeOf 128 = .ok (.return_, 1) := by decide +kernel
theorem dX12_placeOf_129 : decode cX12_placeOf 129 = .ok (.aload_n 0, 1) := by decide +kernel
theorem dX12_placeOf_130 : decode cX12_placeOf 130 = .ok (.sipush 160, 3) := by decide +kernel
theorem dX12_placeOf_133 : decode cX12_placeOf 133 = .ok (.iload_n 2, 1) := by decide +kernel
theorem dX12_placeOf_134 : decode cX12_placeOf 134 = .ok (.invokevirtual 506, 3) := by decide +kernel
theorem dX12_placeOf_137 : decode cX12_placeOf 137 = .ok (.aload_n 0, 1) := by decide +kernel
theorem dX12_placeOf_138 : decode cX12_placeOf 138 = .ok (.sipush 162, 3) := by decide +kernel
theorem dX12_placeOf_141 : decode cX12_placeOf 141 = .ok (.aload_n 0, 1) := by decide +kernel
theorem dX12_placeOf_142 : decode cX12_placeOf 142 = .ok (.getfield 30, 3) := by decide +kernel
theorem dX12_placeOf_145 : decode cX12_placeOf 145 = .ok (.iload_n 2, 1) := by decide +kernel
theorem dX12_placeOf_146 : decode cX12_placeOf 146 = .ok (.laload, 1) := by decide +kernel
theorem dX12_placeOf_147 : decode cX12_placeOf 147 = .ok (.aload_n 0, 1) := by decide +kernel
theorem dX12_placeOf_148 : decode cX12_placeOf 148 = .ok (.getfield 33, 3) := by decide +kernel
theorem dX12_placeOf_151 : decode cX12_placeOf 151 = .ok (.iload_n 2, 1) := by decide +kernel
theorem dX12_placeOf_152 : decode cX12_placeOf 152 = .ok (.laload, 1) := by decide +kernel
theorem dX12_placeOf_153 : decode cX12_placeOf 153 = .ok (.invokevirtual 470, 3) := by decide +kernel
theorem dX12_placeOf_156 : decode cX12_placeOf 156 = .ok (.aload_n 0, 1) := by decide +kernel
theorem dX12_placeOf_157 : decode cX12_placeOf 157 = .ok (.sipush 160, 3) := by decide +kernel
theorem dX12_placeOf_160 : decode cX12_placeOf 160 = .ok (.sipush 162, 3) := by decide +kernel
theorem dX12_placeOf_163 : decode cX12_placeOf 163 = .ok (.sipush 160, 3) := by decide +kernel
theorem dX12_placeOf_166 : decode cX12_placeOf 166 = .ok (.invokevirtual 482, 3) := by decide +kernel
theorem dX12_placeOf_169 : decode cX12_placeOf 169 = .ok (.aload_n 0, 1) := by decide +kernel
theorem dX12_placeOf_170 : decode cX12_placeOf 170 = .ok (.sipush 161, 3) := by decide +kernel
theorem dX12_placeOf_173 : decode cX12_placeOf 173 = .ok (.sipush 162, 3) := by decide +kernel
theorem dX12_placeOf_176 : decode cX12_placeOf 176 = .ok (.sipush 161, 3) := by decide +kernel
theorem dX12_placeOf_179 : decode cX12_placeOf 179 = .ok (.invokevirtual 482, 3) := by decide +kernel
theorem dX12_placeOf_182 : decode cX12_placeOf 182 = .ok (.aload_n 0, 1) := by decide +kernel
theorem dX12_placeOf_183 : decode cX12_placeOf 183 = .ok (.iload_n 3, 1) := by decide +kernel
theorem dX12_placeOf_184 : decode cX12_placeOf 184 = .ok (.iconst 2, 1) := by decide +kernel
theorem dX12_placeOf_185 : decode cX12_placeOf 185 = .ok (.iload 4, 2) := by decide +kernel
theorem dX12_placeOf_187 : decode cX12_placeOf 187 = .ok (.imul, 1) := by decide +kernel
theorem dX12_placeOf_188 : decode cX12_placeOf 188 = .ok (.sipush 160, 3) := by decide +kernel
theorem dX12_placeOf_191 : decode cX12_placeOf 191 = .ok (.invokevirtual 488, 3) := by decide +kernel
theorem dX12_placeOf_194 : decode cX12_placeOf 194 = .ok (.aload_n 0, 1) := by decide +kernel
theorem dX12_placeOf_195 : decode cX12_placeOf 195 = .ok (.iload_n 3, 1) := by decide +kernel
theorem dX12_placeOf_196 : decode cX12_placeOf 196 = .ok (.iconst 1, 1) := by decide +kernel
theorem dX12_placeOf_197 : decode cX12_placeOf 197 = .ok (.iadd, 1) := by decide +kernel
theorem dX12_placeOf_198 : decode cX12_placeOf 198 = .ok (.iconst 2, 1) := by decide +kernel
theorem dX12_placeOf_199 : decode cX12_placeOf 199 = .ok (.iload 4, 2) := by decide +kernel
theorem dX12_placeOf_201 : decode cX12_placeOf 201 = .ok (.imul, 1) := by decide +kernel
theorem dX12_placeOf_202 : decode cX12_placeOf 202 = .ok (.iconst 1, 1) := by decide +kernel
theorem dX12_placeOf_203 : decode cX12_placeOf 203 = .ok (.iadd, 1) := by decide +kernel
theorem dX12_placeOf_204 : decode cX12_placeOf 204 = .ok (.sipush 161, 3) := by decide +kernel
theorem dX12_placeOf_207 : decode cX12_placeOf 207 = .ok (.invokevirtual 488, 3) := by decide +kernel
theorem dX12_placeOf_210 : decode cX12_placeOf 210 = .ok (.return_, 1) := by decide +kernel
theorem dX12_placeOf_211 : decode cX12_placeOf 211 = .ok (.aload_n 0, 1) := by decide +kernel
theorem dX12_placeOf_212 : decode cX12_placeOf 212 = .ok (.iload_n 1, 1) := by decide +kernel
theorem dX12_placeOf_213 : decode cX12_placeOf 213 = .ok (.iload_n 2, 1) := by decide +kernel
theorem dX12_placeOf_214 : decode cX12_placeOf 214 = .ok (.iload 4, 2) := by decide +kernel
theorem dX12_placeOf_216 : decode cX12_placeOf 216 = .ok (.iload 5, 2) := by decide +kernel
theorem dX12_placeOf_218 : decode cX12_placeOf 218 = .ok (.invokevirtual 509, 3) := by decide +kernel
theorem dX12_placeOf_221 : decode cX12_placeOf 221 = .ok (.return_, 1) := by decide +kernel
theorem dX12_placeOf_222 : decode cX12_placeOf 222 = .ok (.aload_n 0, 1) := by decide +kernel
theorem dX12_placeOf_223 : decode cX12_placeOf 223 = .ok (.iload_n 1, 1) := by decide +kernel
theorem dX12_placeOf_224 : decode cX12_placeOf 224 = .ok (.iload_n 2, 1) := by decide +kernel
theorem dX12_placeOf_225 : decode cX12_placeOf 225 = .ok (.iload 4, 2) := by decide +kernel
theorem dX12_placeOf_227 : decode cX12_placeOf 227 = .ok (.iload 6, 2) := by decide +kernel
theorem dX12_placeOf_229 : decode cX12_placeOf 229 = .ok (.iload 7, 2) := by decide +kernel
theorem dX12_placeOf_231 : decode cX12_placeOf 231 = .ok (.invokevirtual 513, 3) := by decide +kernel
theorem dX12_placeOf_234 : decode cX12_placeOf 234 = .ok (.return_, 1) := by decide +kernel
theorem dX12_placeOf_235 : decode cX12_placeOf 235 = .ok (.aload_n 0, 1) := by decide +kernel
theorem dX12_placeOf_236 : decode cX12_placeOf 236 = .ok (.sipush 160, 3) := by decide +kernel
theorem dX12_placeOf_239 : decode cX12_placeOf 239 = .ok (.iload 5, 2) := by decide +kernel
theorem dX12_placeOf_241 : decode cX12_placeOf 241 = .ok (.iload 4, 2) := by decide +kernel
theorem dX12_placeOf_243 : decode cX12_placeOf 243 = .ok (.invokevirtual 517, 3) := by decide +kernel
theorem dX12_placeOf_246 : decode cX12_placeOf 246 = .ok (.aload_n 0, 1) := by decide +kernel
theorem dX12_placeOf_247 : decode cX12_placeOf 247 = .ok (.iload_n 3, 1) := by decide +kernel
theorem dX12_placeOf_248 : decode cX12_placeOf 248 = .ok (.iconst 2, 1) := by decide +kernel
theorem dX12_placeOf_249 : decode cX12_placeOf 249 = .ok (.iload 4, 2) := by decide +kernel
theorem dX12_placeOf_251 : decode cX12_placeOf 251 = .ok (.imul, 1) := by decide +kernel
theorem dX12_placeOf_252 : decode cX12_placeOf 252 = .ok (.iload_n 2, 1) := by decide +kernel
theorem dX12_placeOf_253 : decode cX12_placeOf 253 = .ok (.invokevirtual 520, 3) := by decide +kernel
theorem dX12_placeOf_256 : decode cX12_placeOf 256 = .ok (.return_, 1) := by decide +kernel
theorem dX12_placeOf_257 : decode cX12_placeOf 257 = .ok (.aload_n 0, 1) := by decide +kernel
theorem dX12_placeOf_258 : decode cX12_placeOf 258 = .ok (.sipush 160, 3) := by decide +kernel
theorem dX12_placeOf_261 : decode cX12_placeOf 261 = .ok (.iload 5, 2) := by decide +kernel
theorem dX12_placeOf_263 : decode cX12_placeOf 263 = .ok (.iload 4, 2) := by decide +kernel
theorem dX12_placeOf_265 : decode cX12_placeOf 265 = .ok (.invokevirtual 517, 3) := by decide +kernel
theorem dX12_placeOf_268 : decode cX12_placeOf 268 = .ok (.aload_n 0, 1) := by decide +kernel
theorem dX12_placeOf_269 : decode cX12_placeOf 269 = .ok (.sipush 162, 3) := by decide +kernel
theorem dX12_placeOf_272 : decode cX12_placeOf 272 = .ok (.iload 7, 2) := by decide +kernel
theorem dX12_placeOf_274 : decode cX12_placeOf 274 = .ok (.iload 6, 2) := by decide +kernel
theorem dX12_placeOf_276 : decode cX12_placeOf 276 = .ok (.invokevirtual 517, 3) := by decide +kernel
theorem dX12_placeOf_279 : decode cX12_placeOf 279 = .ok (.aload_n 0, 1) := by decide +kernel
theorem dX12_placeOf_280 : decode cX12_placeOf 280 = .ok (.sipush 164, 3) := by decide +kernel
theorem dX12_placeOf_283 : decode cX12_placeOf 283 = .ok (.iload 6, 2) := by decide +kernel
theorem dX12_placeOf_285 : decode cX12_placeOf 285 = .ok (.iload 4, 2) := by decide +kernel
theorem dX12_placeOf_287 : decode cX12_placeOf 287 = .ok (.invokevirtual 517, 3) := by decide +kernel
theorem dX12_placeOf_290 : decode cX12_placeOf 290 = .ok (.aload_n 0, 1) := by decide +kernel
theorem dX12_placeOf_291 : decode cX12_placeOf 291 = .ok (.sipush 166, 3) := by decide +kernel
theorem dX12_placeOf_294 : decode cX12_placeOf 294 = .ok (.sipush 164, 3) := by decide +kernel
theorem dX12_placeOf_297 : decode cX12_placeOf 297 = .ok (.sipush 162, 3) := by decide +kernel
theorem dX12_placeOf_300 : decode cX12_placeOf 300 = .ok (.invokevirtual 523, 3) := by decide +kernel
theorem dX12_placeOf_303 : decode cX12_placeOf 303 = .ok (.aload_n 0, 1) := by decide +kernel
theorem dX12_placeOf_304 : decode cX12_placeOf 304 = .ok (.sipush 167, 3) := by decide +kernel
theorem dX12_placeOf_307 : decode cX12_placeOf 307 = .ok (.sipush 160, 3) := by decide +kernel
theorem dX12_placeOf_310 : decode cX12_placeOf 310 = .ok (.sipush 162, 3) := by decide +kernel
theorem dX12_placeOf_313 : decode cX12_placeOf 313 = .ok (.invokevirtual 523, 3) := by decide +kernel
theorem dX12_placeOf_316 : decode cX12_placeOf 316 = .ok (.aload_n 0, 1) := by decide +kernel
theorem dX12_placeOf_317 : decode cX12_placeOf 317 = .ok (.sipush 168, 3) := by decide +kernel
theorem dX12_placeOf_320 : decode cX12_placeOf 320 = .ok (.sipush 166, 3) := by decide +kernel
theorem dX12_placeOf_323 : decode cX12_placeOf 323 = .ok (.sipush 167, 3) := by decide +kernel
theorem dX12_placeOf_326 : decode cX12_placeOf 326 = .ok (.invokevirtual 525, 3) := by decide +kernel
theorem dX12_placeOf_329 : decode cX12_placeOf 329 = .ok (.aload_n 0, 1) := by decide +kernel
theorem dX12_placeOf_330 : decode cX12_placeOf 330 = .ok (.sipush 169, 3) := by decide +kernel
theorem dX12_placeOf_333 : decode cX12_placeOf 333 = .ok (.sipush 168, 3) := by decide +kernel
theorem dX12_placeOf_336 : decode cX12_placeOf 336 = .ok (.sipush 160, 3) := by decide +kernel
theorem dX12_placeOf_339 : decode cX12_placeOf 339 = .ok (.invokevirtual 482, 3) := by decide +kernel
theorem dX12_placeOf_342 : decode cX12_placeOf 342 = .ok (.aload_n 0, 1) := by decide +kernel
theorem dX12_placeOf_343 : decode cX12_placeOf 343 = .ok (.sipush 170, 3) := by decide +kernel
theorem dX12_placeOf_346 : decode cX12_placeOf 346 = .ok (.sipush 168, 3) := by decide +kernel
theorem dX12_placeOf_349 : decode cX12_placeOf 349 = .ok (.sipush 161, 3) := by decide +kernel
theorem dX12_placeOf_352 : decode cX12_placeOf 352 = .ok (.invokevirtual 482, 3) := by decide +kernel
theorem dX12_placeOf_355 : decode cX12_placeOf 355 = .ok (.aload_n 0, 1) := by decide +kernel
theorem dX12_placeOf_356 : decode cX12_placeOf 356 = .ok (.iload_n 3, 1) := by decide +kernel
theorem dX12_placeOf_357 : decode cX12_placeOf 357 = .ok (.iconst 2, 1) := by decide +kernel
theorem dX12_placeOf_358 : decode cX12_placeOf 358 = .ok (.iload 4, 2) := by decide +kernel
theorem dX12_placeOf_360 : decode cX12_placeOf 360 = .ok (.imul, 1) := by decide +kernel
theorem dX12_placeOf_361 : decode cX12_placeOf 361 = .ok (.sipush 169, 3) := by decide +kernel
theorem dX12_placeOf_364 : decode cX12_placeOf 364 = .ok (.invokevirtual 488, 3) := by decide +kernel
theorem dX12_placeOf_367 : decode cX12_placeOf 367 = .ok (.aload_n 0, 1) := by decide +kernel
theorem dX12_placeOf_368 : decode cX12_placeOf 368 = .ok (.iload_n 3, 1) := by decide +kernel
theorem dX12_placeOf_369 : decode cX12_placeOf 369 = .ok (.iconst 1, 1) := by decide +kernel
theorem dX12_placeOf_370 : decode cX12_placeOf 370 = .ok (.iadd, 1) := by decide +kernel
theorem dX12_placeOf_371 : decode cX12_placeOf 371 = .ok (.iconst 2, 1) := by decide +kernel
theorem dX12_placeOf_372 : decode cX12_placeOf 372 = .ok (.iload 4, 2) := by decide +kernel
theorem dX12_placeOf_374 : decode cX12_placeOf 374 = .ok (.imul, 1) := by decide +kernel
theorem dX12_placeOf_375 : decode cX12_placeOf 375 = .ok (.iconst 1, 1) := by decide +kernel
theorem dX12_placeOf_376 : decode cX12_placeOf 376 = .ok (.iadd, 1) := by decide +kernel
theorem dX12_placeOf_377 : decode cX12_placeOf 377 = .ok (.sipush 170, 3) := by decide +kernel
theorem dX12_placeOf_380 : decode cX12_placeOf 380 = .ok (.invokevirtual 488, 3) := by decide +kernel
theorem dX12_placeOf_383 : decode cX12_placeOf 383 = .ok (.return_, 1) := by decide +kernel
theorem dX12_bodyOf_0 : decode cX12_bodyOf 0 = .ok (.aload_n 0, 1) := by decide +kernel
theorem dX12_bodyOf_1 : decode cX12_bodyOf 1 = .ok (.sipush 162, 3) := by decide +kernel
theorem dX12_bodyOf_4 : decode cX12_bodyOf 4 = .ok (.aload_n 0, 1) := by decide +kernel
theorem dX12_bodyOf_5 : decode cX12_bodyOf 5 = .ok (.getfield 30, 3) := by decide +kernel
theorem dX12_bodyOf_8 : decode cX12_bodyOf 8 = .ok (.iload_n 3, 1) := by decide +kernel
theorem dX12_bodyOf_9 : decode cX12_bodyOf 9 = .ok (.laload, 1) := by decide +kernel
theorem dX12_bodyOf_10 : decode cX12_bodyOf 10 = .ok (.aload_n 0, 1) := by decide +kernel
theorem dX12_bodyOf_11 : decode cX12_bodyOf 11 = .ok (.getfield 33, 3) := by decide +kernel
theorem dX12_bodyOf_14 : decode cX12_bodyOf 14 = .ok (.iload_n 3, 1) := by decide +kernel
theorem dX12_bodyOf_15 : decode cX12_bodyOf 15 = .ok (.laload, 1) := by decide +kernel
theorem dX12_bodyOf_16 : decode cX12_bodyOf 16 = .ok (.invokevirtual 470, 3) := by decide +kernel
theorem dX12_bodyOf_19 : decode cX12_bodyOf 19 = .ok (.aload_n 0, 1) := by decide +kernel
theorem dX12_bodyOf_20 : decode cX12_bodyOf 20 = .ok (.sipush 163, 3) := by decide +kernel
theorem dX12_bodyOf_23 : decode cX12_bodyOf 23 = .ok (.aload_n 0, 1) := by decide +kernel
theorem dX12_bodyOf_24 : decode cX12_bodyOf 24 = .ok (.getfield 36, 3) := by decide +kernel
theorem dX12_bodyOf_27 : decode cX12_bodyOf 27 = .ok (.iload_n 3, 1) := by decide +kernel
theorem dX12_bodyOf_28 : decode cX12_bodyOf 28 = .ok (.laload, 1) := by decide +kernel
theorem dX12_bodyOf_29 : decode cX12_bodyOf 29 = .ok (.aload_n 0, 1) := by decide +kernel
theorem dX12_bodyOf_30 : decode cX12_bodyOf 30 = .ok (.getfield 39, 3) := by decide +kernel
theorem dX12_bodyOf_33 : decode cX12_bodyOf 33 = .ok (.iload_n 3, 1) := by decide +kernel
theorem dX12_bodyOf_34 : decode cX12_bodyOf 34 = .ok (.laload, 1) := by decide +kernel
theorem dX12_bodyOf_35 : decode cX12_bodyOf 35 = .ok (.invokevirtual 470, 3) := by decide +kernel
theorem dX12_bodyOf_38 : decode cX12_bodyOf 38 = .ok (.aload_n 0, 1) := by decide +kernel
theorem dX12_bodyOf_39 : decode cX12_bodyOf 39 = .ok (.sipush 164, 3) := by decide +kernel
theorem dX12_bodyOf_42 : decode cX12_bodyOf 42 = .ok (.sipush 162, 3) := by decide +kernel
theorem dX12_bodyOf_45 : decode cX12_bodyOf 45 = .ok (.sipush 160, 3) := by decide +kernel
theorem dX12_bodyOf_48 : decode cX12_bodyOf 48 = .ok (.invokevirtual 482, 3) := by decide +kernel
theorem dX12_bodyOf_51 : decode cX12_bodyOf 51 = .ok (.aload_n 0, 1) := by decide +kernel
theorem dX12_bodyOf_52 : decode cX12_bodyOf 52 = .ok (.sipush 165, 3) := by decide +kernel
theorem dX12_bodyOf_55 : decode cX12_bodyOf 55 = .ok (.sipush 162, 3) := by decide +kernel
theorem dX12_bodyOf_58 : decode cX12_bodyOf 58 = .ok (.sipush 161, 3) := by decide +kernel
theorem dX12_bodyOf_61 : decode cX12_bodyOf 61 = .ok (.invokevirtual 482, 3) := by decide +kernel
theorem dX12_bodyOf_64 : decode cX12_bodyOf 64 = .ok (.aload_n 0, 1) := by decide +kernel
theorem dX12_bodyOf_65 : decode cX12_bodyOf 65 = .ok (.sipush 166, 3) := by decide +kernel
theorem dX12_bodyOf_68 : decode cX12_bodyOf 68 = .ok (.sipush 161, 3) := by decide +kernel
theorem dX12_bodyOf_71 : decode cX12_bodyOf 71 = .ok (.invokevirtual 476, 3) := by decide +kernel
theorem dX12_bodyOf_74 : decode cX12_bodyOf 74 = .ok (.aload_n 0, 1) := by decide +kernel
theorem dX12_bodyOf_75 : decode cX12_bodyOf 75 = .ok (.sipush 166, 3) := by decide +kernel
theorem dX12_bodyOf_78 : decode cX12_bodyOf 78 = .ok (.sipush 163, 3) := by decide +kernel
theorem dX12_bodyOf_81 : decode cX12_bodyOf 81 = .ok (.sipush 166, 3) := by decide +kernel
theorem dX12_bodyOf_84 : decode cX12_bodyOf 84 = .ok (.invokevirtual 482, 3) := by decide +kernel
theorem dX12_bodyOf_87 : decode cX12_bodyOf 87 = .ok (.aload_n 0, 1) := by decide +kernel
theorem dX12_bodyOf_88 : decode cX12_bodyOf 88 = .ok (.sipush 167, 3) := by decide +kernel
theorem dX12_bodyOf_91 : decode cX12_bodyOf 91 = .ok (.sipush 163, 3) := by decide +kernel
theorem dX12_bodyOf_94 : decode cX12_bodyOf 94 = .ok (.sipush 160, 3) := by decide +kernel
theorem dX12_bodyOf_97 : decode cX12_bodyOf 97 = .ok (.invokevirtual 482, 3) := by decide +kernel
theorem dX12_bodyOf_100 : decode cX12_bodyOf 100 = .ok (.aload_n 0, 1) := by decide +kernel
theorem dX12_bodyOf_101 : decode cX12_bodyOf 101 = .ok (.sipush 164, 3) := by decide +kernel
theorem dX12_bodyOf_104 : decode cX12_bodyOf 104 = .ok (.iload_n 2, 1) := by decide +kernel
theorem dX12_bodyOf_105 : decode cX12_bodyOf 105 = .ok (.sipush 164, 3) := by decide +kernel
theorem dX12_bodyOf_108 : decode cX12_bodyOf 108 = .ok (.invokevirtual 488, 3) := by decide +kernel
theorem dX12_bodyOf_111 : decode cX12_bodyOf 111 = .ok (.aload_n 0, 1) := by decide +kernel
theorem dX12_bodyOf_112 : decode cX12_bodyOf 112 = .ok (.sipush 165, 3) := by decide +kernel
theorem dX12_bodyOf_115 : decode cX12_bodyOf 115 = .ok (.iload_n 2, 1) := by decide +kernel
theorem dX12_bodyOf_116 : decode cX12_bodyOf 116 = .ok (.iconst 1, 1) := by decide +kernel
theorem dX12_bodyOf_117 : decode cX12_bodyOf 117 = .ok (.iadd, 1) := by decide +kernel
theorem dX12_bodyOf_118 : decode cX12_bodyOf 118 = .ok (.sipush 165, 3) := by decide +kernel
theorem dX12_bodyOf_121 : decode cX12_bodyOf 121 = .ok (.invokevirtual 488, 3) := by decide +kernel
theorem dX12_bodyOf_124 : decode cX12_bodyOf 124 = .ok (.aload_n 0, 1) := by decide +kernel
theorem dX12_bodyOf_125 : decode cX12_bodyOf 125 = .ok (.iload_n 1, 1) := by decide +kernel
theorem dX12_bodyOf_126 : decode cX12_bodyOf 126 = .ok (.sipush 164, 3) := by decide +kernel
theorem dX12_bodyOf_129 : decode cX12_bodyOf 129 = .ok (.sipush 166, 3) := by decide +kernel
theorem dX12_bodyOf_132 : decode cX12_bodyOf 132 = .ok (.invokevirtual 488, 3) := by decide +kernel
theorem dX12_bodyOf_135 : decode cX12_bodyOf 135 = .ok (.aload_n 0, 1) := by decide +kernel
theorem dX12_bodyOf_136 : decode cX12_bodyOf 136 = .ok (.iload_n 1, 1) := by decide +kernel
theorem dX12_bodyOf_137 : decode cX12_bodyOf 137 = .ok (.iconst 1, 1) := by decide +kernel
theorem dX12_bodyOf_138 : decode cX12_bodyOf 138 = .ok (.iadd, 1) := by decide +kernel
theorem dX12_bodyOf_139 : decode cX12_bodyOf 139 = .ok (.sipush 165, 3) := by decide +kernel
theorem dX12_bodyOf_142 : decode cX12_bodyOf 142 = .ok (.sipush 167, 3) := by decide +kernel
theorem dX12_bodyOf_145 : decode cX12_bodyOf 145 = .ok (.invokevirtual 488, 3) := by decide +kernel
theorem dX12_bodyOf_148 : decode cX12_bodyOf 148 = .ok (.return_, 1) := by decide +kernel
theorem dX12_dyadPlace_0 : decode cX12_dyadPlace 0 = .ok (.iconst 2, 1) := by decide +kernel
theorem dX12_dyadPlace_1 : decode cX12_dyadPlace 1 = .ok (.iload_n 2, 1) := by decide +kernel
theorem dX12_dyadPlace_2 : decode cX12_dyadPlace 2 = .ok (.imul, 1) := by decide +kernel
theorem dX12_dyadPlace_3 : decode cX12_dyadPlace 3 = .ok (.istore 5, 2) := by decide +kernel
theorem dX12_dyadPlace_5 : decode cX12_dyadPlace 5 = .ok (.aload_n 0, 1) := by decide +kernel
theorem dX12_dyadPlace_6 : decode cX12_dyadPlace 6 = .ok (.sipush 160, 3) := by decide +kernel
theorem dX12_dyadPlace_9 : decode cX12_dyadPlace 9 = .ok (.iload 4, 2) := by decide +kernel
theorem dX12_dyadPlace_11 : decode cX12_dyadPlace 11 = .ok (.iload_n 3, 1) := by decide +kernel
theorem dX12_dyadPlace_12 : decode cX12_dyadPlace 12 = .ok (.invokevirtual 517, 3) := by decide +kernel
theorem dX12_dyadPlace_15 : decode cX12_dyadPlace 15 = .ok (.aload_n 0, 1) := by decide +kernel
theorem dX12_dyadPlace_16 : decode cX12_dyadPlace 16 = .ok (.sipush 162, 3) := by decide +kernel
theorem dX12_dyadPlace_19 : decode cX12_dyadPlace 19 = .ok (.sipush 160, 3) := by decide +kernel
theorem dX12_dyadPlace_22 : decode cX12_dyadPlace 22 = .ok (.invokevirtual 528, 3) := by decide +kernel
theorem dX12_dyadPlace_25 : decode cX12_dyadPlace 25 = .ok (.aload_n 0, 1) := by decide +kernel
theorem dX12_dyadPlace_26 : decode cX12_dyadPlace 26 = .ok (.sipush 163, 3) := by decide +kernel
theorem dX12_dyadPlace_29 : decode cX12_dyadPlace 29 = .ok (.aload_n 0, 1) := by decide +kernel
theorem dX12_dyadPlace_30 : decode cX12_dyadPlace 30 = .ok (.getfield 30, 3) := by decide +kernel
theorem dX12_dyadPlace_33 : decode cX12_dyadPlace 33 = .ok (.iload_n 2, 1) := by decide +kernel
theorem dX12_dyadPlace_34 : decode cX12_dyadPlace 34 = .ok (.laload, 1) := by decide +kernel
theorem dX12_dyadPlace_35 : decode cX12_dyadPlace 35 = .ok (.aload_n 0, 1) := by decide +kernel
theorem dX12_dyadPlace_36 : decode cX12_dyadPlace 36 = .ok (.getfield 33, 3) := by decide +kernel
theorem dX12_dyadPlace_39 : decode cX12_dyadPlace 39 = .ok (.iload_n 2, 1) := by decide +kernel
theorem dX12_dyadPlace_40 : decode cX12_dyadPlace 40 = .ok (.laload, 1) := by decide +kernel
theorem dX12_dyadPlace_41 : decode cX12_dyadPlace 41 = .ok (.invokevirtual 531, 3) := by decide +kernel
theorem dX12_dyadPlace_44 : decode cX12_dyadPlace 44 = .ok (.aload_n 0, 1) := by decide +kernel
theorem dX12_dyadPlace_45 : decode cX12_dyadPlace 45 = .ok (.sipush 164, 3) := by decide +kernel
theorem dX12_dyadPlace_48 : decode cX12_dyadPlace 48 = .ok (.aload_n 0, 1) := by decide +kernel
theorem dX12_dyadPlace_49 : decode cX12_dyadPlace 49 = .ok (.getfield 36, 3) := by decide +kernel
theorem dX12_dyadPlace_52 : decode cX12_dyadPlace 52 = .ok (.iload_n 2, 1) := by decide +kernel
theorem dX12_dyadPlace_53 : decode cX12_dyadPlace 53 = .ok (.laload, 1) := by decide +kernel
theorem dX12_dyadPlace_54 : decode cX12_dyadPlace 54 = .ok (.aload_n 0, 1) := by decide +kernel
theorem dX12_dyadPlace_55 : decode cX12_dyadPlace 55 = .ok (.getfield 39, 3) := by decide +kernel
theorem dX12_dyadPlace_58 : decode cX12_dyadPlace 58 = .ok (.iload_n 2, 1) := by decide +kernel
theorem dX12_dyadPlace_59 : decode cX12_dyadPlace 59 = .ok (.laload, 1) := by decide +kernel
theorem dX12_dyadPlace_60 : decode cX12_dyadPlace 60 = .ok (.invokevirtual 531, 3) := by decide +kernel
theorem dX12_dyadPlace_63 : decode cX12_dyadPlace 63 = .ok (.aload_n 0, 1) := by decide +kernel
theorem dX12_dyadPlace_64 : decode cX12_dyadPlace 64 = .ok (.sipush 165, 3) := by decide +kernel
theorem dX12_dyadPlace_67 : decode cX12_dyadPlace 67 = .ok (.sipush 162, 3) := by decide +kernel
theorem dX12_dyadPlace_70 : decode cX12_dyadPlace 70 = .ok (.sipush 163, 3) := by decide +kernel
theorem dX12_dyadPlace_73 : decode cX12_dyadPlace 73 = .ok (.invokevirtual 488, 3) := by decide +kernel
theorem dX12_dyadPlace_76 : decode cX12_dyadPlace 76 = .ok (.aload_n 0, 1) := by decide +kernel
theorem dX12_dyadPlace_77 : decode cX12_dyadPlace 77 = .ok (.sipush 165, 3) := by decide +kernel
theorem dX12_dyadPlace_80 : decode cX12_dyadPlace 80 = .ok (.sipush 165, 3) := by decide +kernel
theorem dX12_dyadPlace_83 : decode cX12_dyadPlace 83 = .ok (.sipush 164, 3) := by decide +kernel
theorem dX12_dyadPlace_86 : decode cX12_dyadPlace 86 = .ok (.invokevirtual 485, 3) := by decide +kernel
theorem dX12_dyadPlace_89 : decode cX12_dyadPlace 89 = .ok (.aload_n 0, 1) := by decide +kernel
theorem dX12_dyadPlace_90 : decode cX12_dyadPlace 90 = .ok (.sipush 165, 3) := by decide +kernel
theorem dX12_dyadPlace_93 : decode cX12_dyadPlace 93 = .ok (.sipush 165, 3) := by decide +kernel
theorem dX12_dyadPlace_96 : decode cX12_dyadPlace 96 = .ok (.invokevirtual 534, 3) := by decide +kernel
theorem dX12_dyadPlace_99 : decode cX12_dyadPlace 99 = .ok (.aload_n 0, 1) := by decide +kernel
theorem dX12_dyadPlace_100 : decode cX12_dyadPlace 100 = .ok (.sipush 166, 3) := by decide +kernel
theorem dX12_dyadPlace_103 : decode cX12_dyadPlace 103 = .ok (.sipush 165, 3) := by decide +kernel
theorem dX12_dyadPlace_106 : decode cX12_dyadPlace 106 = .ok (.sipush 162, 3) := by decide +kernel
theorem dX12_dyadPlace_109 : decode cX12_dyadPlace 109 = .ok (.invokevirtual 525, 3) := by decide +kernel
theorem dX12_dyadPlace_112 : decode cX12_dyadPlace 112 = .ok (.aload_n 0, 1) := by decide +kernel
theorem dX12_dyadPlace_113 : decode cX12_dyadPlace 113 = .ok (.sipush 167, 3) := by decide +kernel
theorem dX12_dyadPlace_116 : decode cX12_dyadPlace 116 = .ok (.sipush 165, 3) := by decide +kernel
theorem dX12_dyadPlace_119 : decode cX12_dyadPlace 119 = .ok (.sipush 166, 3) := by decide +kernel
theorem dX12_dyadPlace_122 : decode cX12_dyadPlace 122 = .ok (.invokevirtual 482, 3) := by decide +kernel
theorem dX12_dyadPlace_125 : decode cX12_dyadPlace 125 = .ok (.aload_n 0, 1) := by decide +kernel
theorem dX12_dyadPlace_126 : decode cX12_dyadPlace 126 = .ok (.sipush 167, 3) := by decide +kernel
theorem dX12_dyadPlace_129 : decode cX12_dyadPlace 129 = .ok (.sipush 163, 3) := by decide +kernel
theorem dX12_dyadPlace_132 : decode cX12_dyadPlace 132 = .ok (.sipush 167, 3) := by decide +kernel
theorem dX12_dyadPlace_135 : decode cX12_dyadPlace 135 = .ok (.invokevirtual 485, 3) := by decide +kernel
theorem dX12_dyadPlace_138 : decode cX12_dyadPlace 138 = .ok (.aload_n 0, 1) := by decide +kernel
theorem dX12_dyadPlace_139 : decode cX12_dyadPlace 139 = .ok (.sipush 167, 3) := by decide +kernel
theorem dX12_dyadPlace_142 : decode cX12_dyadPlace 142 = .ok (.invokevirtual 537, 3) := by decide +kernel
theorem dX12_dyadPlace_145 : decode cX12_dyadPlace 145 = .ok (.aload_n 0, 1) := by decide +kernel
theorem dX12_dyadPlace_146 : decode cX12_dyadPlace 146 = .ok (.getfield 500, 3) := by decide +kernel
theorem dX12_dyadPlace_149 : decode cX12_dyadPlace 149 = .ok (.ifCond .eq 4, 3) := by decide +kernel
theorem dX12_dyadPlace_152 : decode cX12_dyadPlace 152 = .ok (.return_, 1) := by decide +kernel
theorem dX12_dyadPlace_153 : decode cX12_dyadPlace 153 = .ok (.aload_n 0, 1) := by decide +kernel
theorem dX12_dyadPlace_154 : decode cX12_dyadPlace 154 = .ok (.sipush 168, 3) := by decide +kernel
theorem dX12_dyadPlace_157 : decode cX12_dyadPlace 157 = .ok (.sipush 167, 3) := by decide +kernel
theorem dX12_dyadPlace_160 : decode cX12_dyadPlace 160 = .ok (.sipush 162, 3) := by decide +kernel
theorem dX12_dyadPlace_163 : decode cX12_dyadPlace 163 = .ok (.invokevirtual 525, 3) := by decide +kernel
theorem dX12_dyadPlace_166 : decode cX12_dyadPlace 166 = .ok (.aload_n 0, 1) := by decide +kernel
theorem dX12_dyadPlace_167 : decode cX12_dyadPlace 167 = .ok (.sipush 168, 3) := by decide +kernel
theorem dX12_dyadPlace_170 : decode cX12_dyadPlace 170 = .ok (.sipush 168, 3) := by decide +kernel
theorem dX12_dyadPlace_173 : decode cX12_dyadPlace 173 = .ok (.invokevirtual 540, 3) := by decide +kernel
theorem dX12_dyadPlace_176 : decode cX12_dyadPlace 176 = .ok (.aload_n 0, 1) := by decide +kernel
theorem dX12_dyadPlace_177 : decode cX12_dyadPlace 177 = .ok (.sipush 169, 3) := by decide +kernel
theorem dX12_dyadPlace_180 : decode cX12_dyadPlace 180 = .ok (.sipush 161, 3) := by decide +kernel
theorem dX12_dyadPlace_183 : decode cX12_dyadPlace 183 = .ok (.invokevirtual 476, 3) := by decide +kernel
theorem dX12_dyadPlace_186 : decode cX12_dyadPlace 186 = .ok (.aload_n 0, 1) := by decide +kernel
theorem dX12_dyadPlace_187 : decode cX12_dyadPlace 187 = .ok (.sipush 169, 3) := by decide +kernel
theorem dX12_dyadPlace_190 : decode cX12_dyadPlace 190 = .ok (.sipush 168, 3) := by decide +kernel
theorem dX12_dyadPlace_193 : decode cX12_dyadPlace 193 = .ok (.sipush 169, 3) := by decide +kernel
theorem dX12_dyadPlace_196 : decode cX12_dyadPlace 196 = .ok (.invokevirtual 482, 3) := by decide +kernel
theorem dX12_dyadPlace_199 : decode cX12_dyadPlace 199 = .ok (.aload_n 0, 1) := by decide +kernel
theorem dX12_dyadPlace_200 : decode cX12_dyadPlace 200 = .ok (.sipush 170, 3) := by decide +kernel
theorem dX12_dyadPlace_203 : decode cX12_dyadPlace 203 = .ok (.sipush 168, 3) := by decide +kernel
theorem dX12_dyadPlace_206 : decode cX12_dyadPlace 206 = .ok (.sipush 160, 3) := by decide +kernel
theorem dX12_dyadPlace_209 : decode cX12_dyadPlace 209 = .ok (.invokevirtual 482, 3) := by decide +kernel
theorem dX12_dyadPlace_212 : decode cX12_dyadPlace 212 = .ok (.aload_n 0, 1) := by decide +kernel
theorem dX12_dyadPlace_213 : decode cX12_dyadPlace 213 = .ok (.sipush 171, 3) := by decide +kernel
theorem dX12_dyadPlace_216 : decode cX12_dyadPlace 216 = .ok (.sipush 166, 3) := by decide +kernel
theorem dX12_dyadPlace_219 : decode cX12_dyadPlace 219 = .ok (.sipush 160, 3) := by decide +kernel
theorem dX12_dyadPlace_222 : decode cX12_dyadPlace 222 = .ok (.invokevirtual 482, 3) := by decide +kernel
theorem dX12_dyadPlace_225 : decode cX12_dyadPlace 225 = .ok (.aload_n 0, 1) := by decide +kernel
theorem dX12_dyadPlace_226 : decode cX12_dyadPlace 226 = .ok (.sipush 172, 3) := by decide +kernel
theorem dX12_dyadPlace_229 : decode cX12_dyadPlace 229 = .ok (.sipush 166, 3) := by decide +kernel
theorem dX12_dyadPlace_232 : decode cX12_dyadPlace 232 = .ok (.sipush 161, 3) := by decide +kernel
theorem dX12_dyadPlace_235 : decode cX12_dyadPlace 235 = .ok (.invokevirtual 482, 3) := by decide +kernel
theorem dX12_dyadPlace_238 : decode cX12_dyadPlace 238 = .ok (.aload_n 0, 1) := by decide +kernel
theorem dX12_dyadPlace_239 : decode cX12_dyadPlace 239 = .ok (.sipush 171, 3) := by decide +kernel
theorem dX12_dyadPlace_242 : decode cX12_dyadPlace 242 = .ok (.iconst 2, 1) := by decide +kernel
theorem dX12_dyadPlace_243 : decode cX12_dyadPlace 243 = .ok (.iload_n 3, 1) := by decide +kernel
theorem dX12_dyadPlace_244 : decode cX12_dyadPlace 244 = .ok (.imul, 1) := by decide +kernel
theorem dX12_dyadPlace_245 : decode cX12_dyadPlace 245 = .ok (.sipush 171, 3) := by decide +kernel
theorem dX12_dyadPlace_248 : decode cX12_dyadPlace 248 = .ok (.invokevirtual 488, 3) := by decide +kernel
theorem dX12_dyadPlace_251 : decode cX12_dyadPlace 251 = .ok (.aload_n 0, 1) := by decide +kernel
theorem dX12_dyadPlace_252 : decode cX12_dyadPlace 252 = .ok (.sipush 172, 3) := by decide +kernel
theorem dX12_dyadPlace_255 : decode cX12_dyadPlace 255 = .ok (.iconst 2, 1) := by decide +kernel
theorem dX12_dyadPlace_256 : decode cX12_dyadPlace 256 = .ok (.iload_n 3, 1) := by decide +kernel
theorem dX12_dyadPlace_257 : decode cX12_dyadPlace 257 = .ok (.imul, 1) := by decide +kernel
theorem dX12_dyadPlace_258 : decode cX12_dyadPlace 258 = .ok (.iconst 1, 1) := by decide +kernel
theorem dX12_dyadPlace_259 : decode cX12_dyadPlace 259 = .ok (.iadd, 1) := by decide +kernel
theorem dX12_dyadPlace_260 : decode cX12_dyadPlace 260 = .ok (.sipush 172, 3) := by decide +kernel
theorem dX12_dyadPlace_263 : decode cX12_dyadPlace 263 = .ok (.invokevirtual 488, 3) := by decide +kernel
theorem dX12_dyadPlace_266 : decode cX12_dyadPlace 266 = .ok (.aload_n 0, 1) := by decide +kernel
theorem dX12_dyadPlace_267 : decode cX12_dyadPlace 267 = .ok (.iload_n 1, 1) := by decide +kernel
theorem dX12_dyadPlace_268 : decode cX12_dyadPlace 268 = .ok (.iload_n 2, 1) := by decide +kernel
theorem dX12_dyadPlace_269 : decode cX12_dyadPlace 269 = .ok (.invokevirtual 543, 3) := by decide +kernel
theorem dX12_dyadPlace_272 : decode cX12_dyadPlace 272 = .ok (.ifCond .eq 32, 3) := by decide +kernel
theorem dX12_dyadPlace_275 : decode cX12_dyadPlace 275 = .ok (.aload_n 0, 1) := by decide +kernel
theorem dX12_dyadPlace_276 : decode cX12_dyadPlace 276 = .ok (.iload 5, 2) := by decide +kernel
theorem dX12_dyadPlace_278 : decode cX12_dyadPlace 278 = .ok (.sipush 171, 3) := by decide +kernel
theorem dX12_dyadPlace_281 : decode cX12_dyadPlace 281 = .ok (.sipush 169, 3) := by decide +kernel
theorem dX12_dyadPlace_284 : decode cX12_dyadPlace 284 = .ok (.invokevirtual 485, 3) := by decide +kernel
theorem dX12_dyadPlace_287 : decode cX12_dyadPlace 287 = .ok (.aload_n 0, 1) := by decide +kernel
theorem dX12_dyadPlace_288 : decode cX12_dyadPlace 288 = .ok (.iload 5, 2) := by decide +kernel
theorem dX12_dyadPlace_290 : decode cX12_dyadPlace 290 = .ok (.iconst 1, 1) := by decide +kernel
theorem dX12_dyadPlace_291 : decode cX12_dyadPlace 291 = .ok (.iadd, 1) := by decide +kernel
theorem dX12_dyadPlace_292 : decode cX12_dyadPlace 292 = .ok (.sipush 172, 3) := by decide +kernel
theorem dX12_dyadPlace_295 : decode cX12_dyadPlace 295 = .ok (.sipush 170, 3) := by decide +kernel
theorem dX12_dyadPlace_298 : decode cX12_dyadPlace 298 = .ok (.invokevirtual 485, 3) := by decide +kernel
theorem dX12_dyadPlace_301 : decode cX12_dyadPlace 301 = .ok (.goto 29, 3) := by decide +kernel
theorem dX12_dyadPlace_304 : decode cX12_dyadPlace 304 = .ok (.aload_n 0, 1) := by decide +kernel
theorem dX12_dyadPlace_305 : decode cX12_dyadPlace 305 = .ok (.iload 5, 2) := by decide +kernel
theorem dX12_dyadPlace_307 : decode cX12_dyadPlace 307 = .ok (.sipush 171, 3) := by decide +kernel
theorem dX12_dyadPlace_310 : decode cX12_dyadPlace 310 = .ok (.sipush 169, 3) := by decide +kernel
theorem dX12_dyadPlace_313 : decode cX12_dyadPlace 313 = .ok (.invokevirtual 488, 3) := by decide +kernel
theorem dX12_dyadPlace_316 : decode cX12_dyadPlace 316 = .ok (.aload_n 0, 1) := by decide +kernel
theorem dX12_dyadPlace_317 : decode cX12_dyadPlace 317 = .ok (.iload 5, 2) := by decide +kernel
theorem dX12_dyadPlace_319 : decode cX12_dyadPlace 319 = .ok (.iconst 1, 1) := by decide +kernel
theorem dX12_dyadPlace_320 : decode cX12_dyadPlace 320 = .ok (.iadd, 1) := by decide +kernel
theorem dX12_dyadPlace_321 : decode cX12_dyadPlace 321 = .ok (.sipush 172, 3) := by decide +kernel
theorem dX12_dyadPlace_324 : decode cX12_dyadPlace 324 = .ok (.sipush 170, 3) := by decide +kernel
theorem dX12_dyadPlace_327 : decode cX12_dyadPlace 327 = .ok (.invokevirtual 488, 3) := by decide +kernel
theorem dX12_dyadPlace_330 : decode cX12_dyadPlace 330 = .ok (.return_, 1) := by decide +kernel
theorem dX12_slidePlace_0 : decode cX12_slidePlace 0 = .ok (.iconst 2, 1) := by decide +kernel
theorem dX12_slidePlace_1 : decode cX12_slidePlace 1 = .ok (.iload_n 2, 1) := by decide +kernel
theorem dX12_slidePlace_2 : decode cX12_slidePlace 2 = .ok (.imul, 1) := by decide +kernel
theorem dX12_slidePlace_3 : decode cX12_slidePlace 3 = .ok (.istore 6, 2) := by decide +kernel
theorem dX12_slidePlace_5 : decode cX12_slidePlace 5 = .ok (.aload_n 0, 1) := by decide +kernel
theorem dX12_slidePlace_6 : decode cX12_slidePlace 6 = .ok (.sipush 160, 3) := by decide +kernel
theorem dX12_slidePlace_9 : decode cX12_slidePlace 9 = .ok (.iload 5, 2) := by decide +kernel
theorem dX12_slidePlace_11 : decode cX12_slidePlace 11 = .ok (.iload 4, 2) := by decide +kernel
theorem dX12_slidePlace_13 : decode cX12_slidePlace 13 = .ok (.invokevirtual 517, 3) := by decide +kernel
theorem dX12_slidePlace_16 : decode cX12_slidePlace 16 = .ok (.aload_n 0, 1) := by decide +kernel
theorem dX12_slidePlace_17 : decode cX12_slidePlace 17 = .ok (.sipush 162, 3) := by decide +kernel
theorem dX12_slidePlace_20 : decode cX12_slidePlace 20 = .ok (.sipush 160, 3) := by decide +kernel
theorem dX12_slidePlace_23 : decode cX12_slidePlace 23 = .ok (.invokevirtual 528, 3) := by decide +kernel
theorem dX12_slidePlace_26 : decode cX12_slidePlace 26 = .ok (.aload_n 0, 1) := by decide +kernel
theorem dX12_slidePlace_27 : decode cX12_slidePlace 27 = .ok (.sipush 163, 3) := by decide +kernel
theorem dX12_slidePlace_30 : decode cX12_slidePlace 30 = .ok (.iload 4, 2) := by decide +kernel
theorem dX12_slidePlace_32 : decode cX12_slidePlace 32 = .ok (.iload_n 3, 1) := by decide +kernel
theorem dX12_slidePlace_33 : decode cX12_slidePlace 33 = .ok (.invokevirtual 517, 3) := by decide +kernel
theorem dX12_slidePlace_36 : decode cX12_slidePlace 36 = .ok (.aload_n 0, 1) := by decide +kernel
theorem dX12_slidePlace_37 : decode cX12_slidePlace 37 = .ok (.sipush 165, 3) := by decide +kernel
theorem dX12_slidePlace_40 : decode cX12_slidePlace 40 = .ok (.sipush 163, 3) := by decide +kernel
theorem dX12_slidePlace_43 : decode cX12_slidePlace 43 = .ok (.sipush 160, 3) := by decide +kernel
theorem dX12_slidePlace_46 : decode cX12_slidePlace 46 = .ok (.invokevirtual 547, 3) := by decide +kernel
theorem dX12_slidePlace_49 : decode cX12_slidePlace 49 = .ok (.aload_n 0, 1) := by decide +kernel
theorem dX12_slidePlace_50 : decode cX12_slidePlace 50 = .ok (.sipush 166, 3) := by decide +kernel
theorem dX12_slidePlace_53 : decode cX12_slidePlace 53 = .ok (.sipush 165, 3) := by decide +kernel
theorem dX12_slidePlace_56 : decode cX12_slidePlace 56 = .ok (.invokevirtual 476, 3) := by decide +kernel
theorem dX12_slidePlace_59 : decode cX12_slidePlace 59 = .ok (.aload_n 0, 1) := by decide +kernel
theorem dX12_slidePlace_60 : decode cX12_slidePlace 60 = .ok (.sipush 166, 3) := by decide +kernel
theorem dX12_slidePlace_63 : decode cX12_slidePlace 63 = .ok (.sipush 166, 3) := by decide +kernel
theorem dX12_slidePlace_66 : decode cX12_slidePlace 66 = .ok (.sipush 162, 3) := by decide +kernel
theorem dX12_slidePlace_69 : decode cX12_slidePlace 69 = .ok (.invokevirtual 525, 3) := by decide +kernel
theorem dX12_slidePlace_72 : decode cX12_slidePlace 72 = .ok (.aload_n 0, 1) := by decide +kernel
theorem dX12_slidePlace_73 : decode cX12_slidePlace 73 = .ok (.sipush 167, 3) := by decide +kernel
theorem dX12_slidePlace_76 : decode cX12_slidePlace 76 = .ok (.sipush 163, 3) := by decide +kernel
theorem dX12_slidePlace_79 : decode cX12_slidePlace 79 = .ok (.invokevirtual 528, 3) := by decide +kernel
theorem dX12_slidePlace_82 : decode cX12_slidePlace 82 = .ok (.aload_n 0, 1) := by decide +kernel
theorem dX12_slidePlace_83 : decode cX12_slidePlace 83 = .ok (.sipush 168, 3) := by decide +kernel
theorem dX12_slidePlace_86 : decode cX12_slidePlace 86 = .ok (.sipush 165, 3) := by decide +kernel
theorem dX12_slidePlace_89 : decode cX12_slidePlace 89 = .ok (.sipush 166, 3) := by decide +kernel
theorem dX12_slidePlace_92 : decode cX12_slidePlace 92 = .ok (.invokevirtual 482, 3) := by decide +kernel
theorem dX12_slidePlace_95 : decode cX12_slidePlace 95 = .ok (.aload_n 0, 1) := by decide +kernel
theorem dX12_slidePlace_96 : decode cX12_slidePlace 96 = .ok (.sipush 167, 3) := by decide +kernel
theorem dX12_slidePlace_99 : decode cX12_slidePlace 99 = .ok (.sipush 167, 3) := by decide +kernel
