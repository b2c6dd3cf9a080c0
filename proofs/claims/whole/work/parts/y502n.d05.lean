theorem dX12_slidePlace_102 : decode cX12_slidePlace 102 = .ok (.sipush 168, 3) := by decide +kernel
theorem dX12_slidePlace_105 : decode cX12_slidePlace 105 = .ok (.invokevirtual 488, 3) := by decide +kernel
theorem dX12_slidePlace_108 : decode cX12_slidePlace 108 = .ok (.aload_n 0, 1) := by decide +kernel
theorem dX12_slidePlace_109 : decode cX12_slidePlace 109 = .ok (.sipush 169, 3) := by decide +kernel
theorem dX12_slidePlace_112 : decode cX12_slidePlace 112 = .ok (.aload_n 0, 1) := by decide +kernel
theorem dX12_slidePlace_113 : decode cX12_slidePlace 113 = .ok (.getfield 30, 3) := by decide +kernel
theorem dX12_slidePlace_116 : decode cX12_slidePlace 116 = .ok (.iload_n 2, 1) := by decide +kernel
theorem dX12_slidePlace_117 : decode cX12_slidePlace 117 = .ok (.laload, 1) := by decide +kernel
theorem dX12_slidePlace_118 : decode cX12_slidePlace 118 = .ok (.aload_n 0, 1) := by decide +kernel
theorem dX12_slidePlace_119 : decode cX12_slidePlace 119 = .ok (.getfield 33, 3) := by decide +kernel
theorem dX12_slidePlace_122 : decode cX12_slidePlace 122 = .ok (.iload_n 2, 1) := by decide +kernel
theorem dX12_slidePlace_123 : decode cX12_slidePlace 123 = .ok (.laload, 1) := by decide +kernel
theorem dX12_slidePlace_124 : decode cX12_slidePlace 124 = .ok (.invokevirtual 531, 3) := by decide +kernel
theorem dX12_slidePlace_127 : decode cX12_slidePlace 127 = .ok (.aload_n 0, 1) := by decide +kernel
theorem dX12_slidePlace_128 : decode cX12_slidePlace 128 = .ok (.sipush 169, 3) := by decide +kernel
theorem dX12_slidePlace_131 : decode cX12_slidePlace 131 = .ok (.sipush 169, 3) := by decide +kernel
theorem dX12_slidePlace_134 : decode cX12_slidePlace 134 = .ok (.sipush 167, 3) := by decide +kernel
theorem dX12_slidePlace_137 : decode cX12_slidePlace 137 = .ok (.invokevirtual 485, 3) := by decide +kernel
theorem dX12_slidePlace_140 : decode cX12_slidePlace 140 = .ok (.aload_n 0, 1) := by decide +kernel
theorem dX12_slidePlace_141 : decode cX12_slidePlace 141 = .ok (.sipush 169, 3) := by decide +kernel
theorem dX12_slidePlace_144 : decode cX12_slidePlace 144 = .ok (.invokevirtual 537, 3) := by decide +kernel
theorem dX12_slidePlace_147 : decode cX12_slidePlace 147 = .ok (.aload_n 0, 1) := by decide +kernel
theorem dX12_slidePlace_148 : decode cX12_slidePlace 148 = .ok (.getfield 500, 3) := by decide +kernel
theorem dX12_slidePlace_151 : decode cX12_slidePlace 151 = .ok (.ifCond .eq 4, 3) := by decide +kernel
theorem dX12_slidePlace_154 : decode cX12_slidePlace 154 = .ok (.return_, 1) := by decide +kernel
theorem dX12_slidePlace_155 : decode cX12_slidePlace 155 = .ok (.aload_n 0, 1) := by decide +kernel
theorem dX12_slidePlace_156 : decode cX12_slidePlace 156 = .ok (.sipush 169, 3) := by decide +kernel
theorem dX12_slidePlace_159 : decode cX12_slidePlace 159 = .ok (.sipush 169, 3) := by decide +kernel
theorem dX12_slidePlace_162 : decode cX12_slidePlace 162 = .ok (.sipush 162, 3) := by decide +kernel
theorem dX12_slidePlace_165 : decode cX12_slidePlace 165 = .ok (.invokevirtual 525, 3) := by decide +kernel
theorem dX12_slidePlace_168 : decode cX12_slidePlace 168 = .ok (.aload_n 0, 1) := by decide +kernel
theorem dX12_slidePlace_169 : decode cX12_slidePlace 169 = .ok (.sipush 169, 3) := by decide +kernel
theorem dX12_slidePlace_172 : decode cX12_slidePlace 172 = .ok (.sipush 169, 3) := by decide +kernel
theorem dX12_slidePlace_175 : decode cX12_slidePlace 175 = .ok (.invokevirtual 540, 3) := by decide +kernel
theorem dX12_slidePlace_178 : decode cX12_slidePlace 178 = .ok (.aload_n 0, 1) := by decide +kernel
theorem dX12_slidePlace_179 : decode cX12_slidePlace 179 = .ok (.iload_n 1, 1) := by decide +kernel
theorem dX12_slidePlace_180 : decode cX12_slidePlace 180 = .ok (.iload_n 2, 1) := by decide +kernel
theorem dX12_slidePlace_181 : decode cX12_slidePlace 181 = .ok (.invokevirtual 543, 3) := by decide +kernel
theorem dX12_slidePlace_184 : decode cX12_slidePlace 184 = .ok (.ifCond .eq 19, 3) := by decide +kernel
theorem dX12_slidePlace_187 : decode cX12_slidePlace 187 = .ok (.aload_n 0, 1) := by decide +kernel
theorem dX12_slidePlace_188 : decode cX12_slidePlace 188 = .ok (.sipush 170, 3) := by decide +kernel
theorem dX12_slidePlace_191 : decode cX12_slidePlace 191 = .ok (.sipush 166, 3) := by decide +kernel
theorem dX12_slidePlace_194 : decode cX12_slidePlace 194 = .ok (.sipush 169, 3) := by decide +kernel
theorem dX12_slidePlace_197 : decode cX12_slidePlace 197 = .ok (.invokevirtual 485, 3) := by decide +kernel
theorem dX12_slidePlace_200 : decode cX12_slidePlace 200 = .ok (.goto 16, 3) := by decide +kernel
theorem dX12_slidePlace_203 : decode cX12_slidePlace 203 = .ok (.aload_n 0, 1) := by decide +kernel
theorem dX12_slidePlace_204 : decode cX12_slidePlace 204 = .ok (.sipush 170, 3) := by decide +kernel
theorem dX12_slidePlace_207 : decode cX12_slidePlace 207 = .ok (.sipush 166, 3) := by decide +kernel
theorem dX12_slidePlace_210 : decode cX12_slidePlace 210 = .ok (.sipush 169, 3) := by decide +kernel
theorem dX12_slidePlace_213 : decode cX12_slidePlace 213 = .ok (.invokevirtual 488, 3) := by decide +kernel
theorem dX12_slidePlace_216 : decode cX12_slidePlace 216 = .ok (.aload_n 0, 1) := by decide +kernel
theorem dX12_slidePlace_217 : decode cX12_slidePlace 217 = .ok (.sipush 171, 3) := by decide +kernel
theorem dX12_slidePlace_220 : decode cX12_slidePlace 220 = .ok (.sipush 170, 3) := by decide +kernel
theorem dX12_slidePlace_223 : decode cX12_slidePlace 223 = .ok (.sipush 160, 3) := by decide +kernel
theorem dX12_slidePlace_226 : decode cX12_slidePlace 226 = .ok (.invokevirtual 482, 3) := by decide +kernel
theorem dX12_slidePlace_229 : decode cX12_slidePlace 229 = .ok (.aload_n 0, 1) := by decide +kernel
theorem dX12_slidePlace_230 : decode cX12_slidePlace 230 = .ok (.sipush 172, 3) := by decide +kernel
theorem dX12_slidePlace_233 : decode cX12_slidePlace 233 = .ok (.sipush 170, 3) := by decide +kernel
theorem dX12_slidePlace_236 : decode cX12_slidePlace 236 = .ok (.sipush 161, 3) := by decide +kernel
theorem dX12_slidePlace_239 : decode cX12_slidePlace 239 = .ok (.invokevirtual 482, 3) := by decide +kernel
theorem dX12_slidePlace_242 : decode cX12_slidePlace 242 = .ok (.aload_n 0, 1) := by decide +kernel
theorem dX12_slidePlace_243 : decode cX12_slidePlace 243 = .ok (.iload 6, 2) := by decide +kernel
theorem dX12_slidePlace_245 : decode cX12_slidePlace 245 = .ok (.iconst 2, 1) := by decide +kernel
theorem dX12_slidePlace_246 : decode cX12_slidePlace 246 = .ok (.iload 4, 2) := by decide +kernel
theorem dX12_slidePlace_248 : decode cX12_slidePlace 248 = .ok (.imul, 1) := by decide +kernel
theorem dX12_slidePlace_249 : decode cX12_slidePlace 249 = .ok (.sipush 171, 3) := by decide +kernel
theorem dX12_slidePlace_252 : decode cX12_slidePlace 252 = .ok (.invokevirtual 488, 3) := by decide +kernel
theorem dX12_slidePlace_255 : decode cX12_slidePlace 255 = .ok (.aload_n 0, 1) := by decide +kernel
theorem dX12_slidePlace_256 : decode cX12_slidePlace 256 = .ok (.iload 6, 2) := by decide +kernel
theorem dX12_slidePlace_258 : decode cX12_slidePlace 258 = .ok (.iconst 1, 1) := by decide +kernel
theorem dX12_slidePlace_259 : decode cX12_slidePlace 259 = .ok (.iadd, 1) := by decide +kernel
theorem dX12_slidePlace_260 : decode cX12_slidePlace 260 = .ok (.iconst 2, 1) := by decide +kernel
theorem dX12_slidePlace_261 : decode cX12_slidePlace 261 = .ok (.iload 4, 2) := by decide +kernel
theorem dX12_slidePlace_263 : decode cX12_slidePlace 263 = .ok (.imul, 1) := by decide +kernel
theorem dX12_slidePlace_264 : decode cX12_slidePlace 264 = .ok (.iconst 1, 1) := by decide +kernel
theorem dX12_slidePlace_265 : decode cX12_slidePlace 265 = .ok (.iadd, 1) := by decide +kernel
theorem dX12_slidePlace_266 : decode cX12_slidePlace 266 = .ok (.sipush 172, 3) := by decide +kernel
theorem dX12_slidePlace_269 : decode cX12_slidePlace 269 = .ok (.invokevirtual 488, 3) := by decide +kernel
theorem dX12_slidePlace_272 : decode cX12_slidePlace 272 = .ok (.return_, 1) := by decide +kernel
theorem dX12_isOpen_0 : decode cX12_isOpen 0 = .ok (.aload_n 0, 1) := by decide +kernel
theorem dX12_isOpen_1 : decode cX12_isOpen 1 = .ok (.getfield 20, 3) := by decide +kernel
theorem dX12_isOpen_4 : decode cX12_isOpen 4 = .ok (.iconst 2, 1) := by decide +kernel
theorem dX12_isOpen_5 : decode cX12_isOpen 5 = .ok (.iload_n 1, 1) := by decide +kernel
theorem dX12_isOpen_6 : decode cX12_isOpen 6 = .ok (.imul, 1) := by decide +kernel
theorem dX12_isOpen_7 : decode cX12_isOpen 7 = .ok (.baload, 1) := by decide +kernel
theorem dX12_isOpen_8 : decode cX12_isOpen 8 = .ok (.ifCond .ne 16, 3) := by decide +kernel
theorem dX12_isOpen_11 : decode cX12_isOpen 11 = .ok (.aload_n 0, 1) := by decide +kernel
theorem dX12_isOpen_12 : decode cX12_isOpen 12 = .ok (.getfield 20, 3) := by decide +kernel
theorem dX12_isOpen_15 : decode cX12_isOpen 15 = .ok (.iconst 2, 1) := by decide +kernel
theorem dX12_isOpen_16 : decode cX12_isOpen 16 = .ok (.iload_n 1, 1) := by decide +kernel
theorem dX12_isOpen_17 : decode cX12_isOpen 17 = .ok (.imul, 1) := by decide +kernel
theorem dX12_isOpen_18 : decode cX12_isOpen 18 = .ok (.iconst 1, 1) := by decide +kernel
theorem dX12_isOpen_19 : decode cX12_isOpen 19 = .ok (.iadd, 1) := by decide +kernel
theorem dX12_isOpen_20 : decode cX12_isOpen 20 = .ok (.baload, 1) := by decide +kernel
theorem dX12_isOpen_21 : decode cX12_isOpen 21 = .ok (.ifCond .eq 7, 3) := by decide +kernel
theorem dX12_isOpen_24 : decode cX12_isOpen 24 = .ok (.iconst 1, 1) := by decide +kernel
theorem dX12_isOpen_25 : decode cX12_isOpen 25 = .ok (.goto 4, 3) := by decide +kernel
theorem dX12_isOpen_28 : decode cX12_isOpen 28 = .ok (.iconst 0, 1) := by decide +kernel
theorem dX12_isOpen_29 : decode cX12_isOpen 29 = .ok (.ireturn, 1) := by decide +kernel
theorem dX12_worked_0 : decode cX12_worked 0 = .ok (.aload_n 0, 1) := by decide +kernel
theorem dX12_worked_1 : decode cX12_worked 1 = .ok (.iconst 0, 1) := by decide +kernel
theorem dX12_worked_2 : decode cX12_worked 2 = .ok (.putfield 500, 3) := by decide +kernel
theorem dX12_worked_5 : decode cX12_worked 5 = .ok (.aload_n 0, 1) := by decide +kernel
theorem dX12_worked_6 : decode cX12_worked 6 = .ok (.iconst 0, 1) := by decide +kernel
theorem dX12_worked_7 : decode cX12_worked 7 = .ok (.putfield 503, 3) := by decide +kernel
theorem dX12_worked_10 : decode cX12_worked 10 = .ok (.iconst 0, 1) := by decide +kernel
theorem dX12_worked_11 : decode cX12_worked 11 = .ok (.istore_n 2, 1) := by decide +kernel
theorem dX12_worked_12 : decode cX12_worked 12 = .ok (.iconst 0, 1) := by decide +kernel
theorem dX12_worked_13 : decode cX12_worked 13 = .ok (.istore_n 3, 1) := by decide +kernel
theorem dX12_worked_14 : decode cX12_worked 14 = .ok (.iload_n 3, 1) := by decide +kernel
theorem dX12_worked_15 : decode cX12_worked 15 = .ok (.aload_n 0, 1) := by decide +kernel
theorem dX12_worked_16 : decode cX12_worked 16 = .ok (.getfield 460, 3) := by decide +kernel
theorem dX12_worked_19 : decode cX12_worked 19 = .ok (.if_icmp .ge 52, 3) := by decide +kernel
theorem dX12_worked_22 : decode cX12_worked 22 = .ok (.aload_n 0, 1) := by decide +kernel
theorem dX12_worked_23 : decode cX12_worked 23 = .ok (.iload_n 1, 1) := by decide +kernel
theorem dX12_worked_24 : decode cX12_worked 24 = .ok (.aload_n 0, 1) := by decide +kernel
theorem dX12_worked_25 : decode cX12_worked 25 = .ok (.getfield 60, 3) := by decide +kernel
theorem dX12_worked_28 : decode cX12_worked 28 = .ok (.iload_n 3, 1) := by decide +kernel
theorem dX12_worked_29 : decode cX12_worked 29 = .ok (.iaload, 1) := by decide +kernel
theorem dX12_worked_30 : decode cX12_worked 30 = .ok (.invokevirtual 550, 3) := by decide +kernel
theorem dX12_worked_33 : decode cX12_worked 33 = .ok (.aload_n 0, 1) := by decide +kernel
theorem dX12_worked_34 : decode cX12_worked 34 = .ok (.getfield 500, 3) := by decide +kernel
theorem dX12_worked_37 : decode cX12_worked 37 = .ok (.ifCond .eq 5, 3) := by decide +kernel
theorem dX12_worked_40 : decode cX12_worked 40 = .ok (.iconst 0, 1) := by decide +kernel
theorem dX12_worked_41 : decode cX12_worked 41 = .ok (.ireturn, 1) := by decide +kernel
theorem dX12_worked_42 : decode cX12_worked 42 = .ok (.iload_n 2, 1) := by decide +kernel
theorem dX12_worked_43 : decode cX12_worked 43 = .ok (.ifCond .ne 16, 3) := by decide +kernel
theorem dX12_worked_46 : decode cX12_worked 46 = .ok (.aload_n 0, 1) := by decide +kernel
theorem dX12_worked_47 : decode cX12_worked 47 = .ok (.aload_n 0, 1) := by decide +kernel
theorem dX12_worked_48 : decode cX12_worked 48 = .ok (.getfield 60, 3) := by decide +kernel
theorem dX12_worked_51 : decode cX12_worked 51 = .ok (.iload_n 3, 1) := by decide +kernel
theorem dX12_worked_52 : decode cX12_worked 52 = .ok (.iaload, 1) := by decide +kernel
theorem dX12_worked_53 : decode cX12_worked 53 = .ok (.invokevirtual 553, 3) := by decide +kernel
theorem dX12_worked_56 : decode cX12_worked 56 = .ok (.ifCond .eq 7, 3) := by decide +kernel
theorem dX12_worked_59 : decode cX12_worked 59 = .ok (.iconst 1, 1) := by decide +kernel
theorem dX12_worked_60 : decode cX12_worked 60 = .ok (.goto 4, 3) := by decide +kernel
theorem dX12_worked_63 : decode cX12_worked 63 = .ok (.iconst 0, 1) := by decide +kernel
theorem dX12_worked_64 : decode cX12_worked 64 = .ok (.istore_n 2, 1) := by decide +kernel
theorem dX12_worked_65 : decode cX12_worked 65 = .ok (.iinc 3 1, 3) := by decide +kernel
theorem dX12_worked_68 : decode cX12_worked 68 = .ok (.goto (-54), 3) := by decide +kernel
theorem dX12_worked_71 : decode cX12_worked 71 = .ok (.aload_n 0, 1) := by decide +kernel
theorem dX12_worked_72 : decode cX12_worked 72 = .ok (.getfield 503, 3) := by decide +kernel
theorem dX12_worked_75 : decode cX12_worked 75 = .ok (.ifCond .ne 7, 3) := by decide +kernel
theorem dX12_worked_78 : decode cX12_worked 78 = .ok (.iload_n 2, 1) := by decide +kernel
theorem dX12_worked_79 : decode cX12_worked 79 = .ok (.ifCond .eq 7, 3) := by decide +kernel
theorem dX12_worked_82 : decode cX12_worked 82 = .ok (.iconst 2, 1) := by decide +kernel
theorem dX12_worked_83 : decode cX12_worked 83 = .ok (.goto 4, 3) := by decide +kernel
theorem dX12_worked_86 : decode cX12_worked 86 = .ok (.iconst 1, 1) := by decide +kernel
theorem dX12_worked_87 : decode cX12_worked 87 = .ok (.ireturn, 1) := by decide +kernel
theorem dX12_ways_0 : decode cX12_ways 0 = .ok (.aload_n 0, 1) := by decide +kernel
theorem dX12_ways_1 : decode cX12_ways 1 = .ok (.iconst 0, 1) := by decide +kernel
theorem dX12_ways_2 : decode cX12_ways 2 = .ok (.putfield 243, 3) := by decide +kernel
theorem dX12_ways_5 : decode cX12_ways 5 = .ok (.iconst 0, 1) := by decide +kernel
theorem dX12_ways_6 : decode cX12_ways 6 = .ok (.istore_n 1, 1) := by decide +kernel
theorem dX12_ways_7 : decode cX12_ways 7 = .ok (.iconst 0, 1) := by decide +kernel
theorem dX12_ways_8 : decode cX12_ways 8 = .ok (.istore_n 2, 1) := by decide +kernel
theorem dX12_ways_9 : decode cX12_ways 9 = .ok (.iload_n 2, 1) := by decide +kernel
theorem dX12_ways_10 : decode cX12_ways 10 = .ok (.iconst 1, 1) := by decide +kernel
theorem dX12_ways_11 : decode cX12_ways 11 = .ok (.aload_n 0, 1) := by decide +kernel
theorem dX12_ways_12 : decode cX12_ways 12 = .ok (.getfield 463, 3) := by decide +kernel
theorem dX12_ways_15 : decode cX12_ways 15 = .ok (.ishl, 1) := by decide +kernel
theorem dX12_ways_16 : decode cX12_ways 16 = .ok (.if_icmp .ge 25, 3) := by decide +kernel
theorem dX12_ways_19 : decode cX12_ways 19 = .ok (.aload_n 0, 1) := by decide +kernel
theorem dX12_ways_20 : decode cX12_ways 20 = .ok (.iload_n 2, 1) := by decide +kernel
theorem dX12_ways_21 : decode cX12_ways 21 = .ok (.invokevirtual 556, 3) := by decide +kernel
theorem dX12_ways_24 : decode cX12_ways 24 = .ok (.ifCond .le 9, 3) := by decide +kernel
theorem dX12_ways_27 : decode cX12_ways 27 = .ok (.iload_n 1, 1) := by decide +kernel
theorem dX12_ways_28 : decode cX12_ways 28 = .ok (.iconst 1, 1) := by decide +kernel
theorem dX12_ways_29 : decode cX12_ways 29 = .ok (.iadd, 1) := by decide +kernel
theorem dX12_ways_30 : decode cX12_ways 30 = .ok (.goto 4, 3) := by decide +kernel
theorem dX12_ways_33 : decode cX12_ways 33 = .ok (.iload_n 1, 1) := by decide +kernel
theorem dX12_ways_34 : decode cX12_ways 34 = .ok (.istore_n 1, 1) := by decide +kernel
theorem dX12_ways_35 : decode cX12_ways 35 = .ok (.iinc 2 1, 3) := by decide +kernel
theorem dX12_ways_38 : decode cX12_ways 38 = .ok (.goto (-29), 3) := by decide +kernel
theorem dX12_ways_41 : decode cX12_ways 41 = .ok (.iload_n 1, 1) := by decide +kernel
theorem dX12_ways_42 : decode cX12_ways 42 = .ok (.ireturn, 1) := by decide +kernel
theorem dX12_way_0 : decode cX12_way 0 = .ok (.aload_n 0, 1) := by decide +kernel
theorem dX12_way_1 : decode cX12_way 1 = .ok (.iload_n 2, 1) := by decide +kernel
theorem dX12_way_2 : decode cX12_way 2 = .ok (.i2l, 1) := by decide +kernel
theorem dX12_way_3 : decode cX12_way 3 = .ok (.lconst 0, 1) := by decide +kernel
theorem dX12_way_4 : decode cX12_way 4 = .ok (.lconst 1, 1) := by decide +kernel
theorem dX12_way_5 : decode cX12_way 5 = .ok (.invokestatic 262, 3) := by decide +kernel
theorem dX12_way_8 : decode cX12_way 8 = .ok (.ifCond .eq 7, 3) := by decide +kernel
theorem dX12_way_11 : decode cX12_way 11 = .ok (.iconst 0, 1) := by decide +kernel
theorem dX12_way_12 : decode cX12_way 12 = .ok (.goto 4, 3) := by decide +kernel
theorem dX12_way_15 : decode cX12_way 15 = .ok (.iconst 1, 1) := by decide +kernel
theorem dX12_way_16 : decode cX12_way 16 = .ok (.putfield 243, 3) := by decide +kernel
theorem dX12_way_19 : decode cX12_way 19 = .ok (.aload_n 0, 1) := by decide +kernel
theorem dX12_way_20 : decode cX12_way 20 = .ok (.getfield 243, 3) := by decide +kernel
theorem dX12_way_23 : decode cX12_way 23 = .ok (.ifCond .le 5, 3) := by decide +kernel
theorem dX12_way_26 : decode cX12_way 26 = .ok (.iconst 0, 1) := by decide +kernel
theorem dX12_way_27 : decode cX12_way 27 = .ok (.ireturn, 1) := by decide +kernel
theorem dX12_way_28 : decode cX12_way 28 = .ok (.iconst 0, 1) := by decide +kernel
theorem dX12_way_29 : decode cX12_way 29 = .ok (.istore_n 3, 1) := by decide +kernel
theorem dX12_way_30 : decode cX12_way 30 = .ok (.iconst 0, 1) := by decide +kernel
theorem dX12_way_31 : decode cX12_way 31 = .ok (.istore 4, 2) := by decide +kernel
theorem dX12_way_33 : decode cX12_way 33 = .ok (.iload 4, 2) := by decide +kernel
theorem dX12_way_35 : decode cX12_way 35 = .ok (.iconst 1, 1) := by decide +kernel
theorem dX12_way_36 : decode cX12_way 36 = .ok (.aload_n 0, 1) := by decide +kernel
theorem dX12_way_37 : decode cX12_way 37 = .ok (.getfield 463, 3) := by decide +kernel
theorem dX12_way_40 : decode cX12_way 40 = .ok (.ishl, 1) := by decide +kernel
theorem dX12_way_41 : decode cX12_way 41 = .ok (.if_icmp .ge 54, 3) := by decide +kernel
theorem dX12_way_44 : decode cX12_way 44 = .ok (.aload_n 0, 1) := by decide +kernel
theorem dX12_way_45 : decode cX12_way 45 = .ok (.iload 4, 2) := by decide +kernel
theorem dX12_way_47 : decode cX12_way 47 = .ok (.invokevirtual 556, 3) := by decide +kernel
theorem dX12_way_50 : decode cX12_way 50 = .ok (.istore 5, 2) := by decide +kernel
theorem dX12_way_52 : decode cX12_way 52 = .ok (.iload 5, 2) := by decide +kernel
theorem dX12_way_54 : decode cX12_way 54 = .ok (.ifCond .ne 6, 3) := by decide +kernel
theorem dX12_way_57 : decode cX12_way 57 = .ok (.goto 32, 3) := by decide +kernel
theorem dX12_way_60 : decode cX12_way 60 = .ok (.iload_n 3, 1) := by decide +kernel
theorem dX12_way_61 : decode cX12_way 61 = .ok (.iload_n 1, 1) := by decide +kernel
theorem dX12_way_62 : decode cX12_way 62 = .ok (.if_icmp .ne 24, 3) := by decide +kernel
theorem dX12_way_65 : decode cX12_way 65 = .ok (.iload_n 2, 1) := by decide +kernel
theorem dX12_way_66 : decode cX12_way 66 = .ok (.ifCond .ne 8, 3) := by decide +kernel
theorem dX12_way_69 : decode cX12_way 69 = .ok (.iload 4, 2) := by decide +kernel
theorem dX12_way_71 : decode cX12_way 71 = .ok (.goto 14, 3) := by decide +kernel
theorem dX12_way_74 : decode cX12_way 74 = .ok (.iload 5, 2) := by decide +kernel
theorem dX12_way_76 : decode cX12_way 76 = .ok (.iconst 1, 1) := by decide +kernel
theorem dX12_way_77 : decode cX12_way 77 = .ok (.if_icmp .ne 7, 3) := by decide +kernel
theorem dX12_way_80 : decode cX12_way 80 = .ok (.iconst 1, 1) := by decide +kernel
theorem dX12_way_81 : decode cX12_way 81 = .ok (.goto 4, 3) := by decide +kernel
theorem dX12_way_84 : decode cX12_way 84 = .ok (.iconst 0, 1) := by decide +kernel
theorem dX12_way_85 : decode cX12_way 85 = .ok (.ireturn, 1) := by decide +kernel
theorem dX12_way_86 : decode cX12_way 86 = .ok (.iinc 3 1, 3) := by decide +kernel
theorem dX12_way_89 : decode cX12_way 89 = .ok (.iinc 4 1, 3) := by decide +kernel
theorem dX12_way_92 : decode cX12_way 92 = .ok (.goto (-59), 3) := by decide +kernel
theorem dX12_way_95 : decode cX12_way 95 = .ok (.aload_n 0, 1) := by decide +kernel
theorem dX12_way_96 : decode cX12_way 96 = .ok (.iconst 2, 1) := by decide +kernel
theorem dX12_way_97 : decode cX12_way 97 = .ok (.putfield 243, 3) := by decide +kernel
theorem dX12_way_100 : decode cX12_way 100 = .ok (.iconst 0, 1) := by decide +kernel
theorem dX12_way_101 : decode cX12_way 101 = .ok (.ireturn, 1) := by decide +kernel
theorem dX12_isPoint_0 : decode cX12_isPoint 0 = .ok (.iload_n 1, 1) := by decide +kernel
theorem dX12_isPoint_1 : decode cX12_isPoint 1 = .ok (.ifCond .lt 15, 3) := by decide +kernel
theorem dX12_isPoint_4 : decode cX12_isPoint 4 = .ok (.iload_n 1, 1) := by decide +kernel
theorem dX12_isPoint_5 : decode cX12_isPoint 5 = .ok (.aload_n 0, 1) := by decide +kernel
theorem dX12_isPoint_6 : decode cX12_isPoint 6 = .ok (.getfield 460, 3) := by decide +kernel
theorem dX12_isPoint_9 : decode cX12_isPoint 9 = .ok (.if_icmp .ge 7, 3) := by decide +kernel
theorem dX12_isPoint_12 : decode cX12_isPoint 12 = .ok (.iconst 1, 1) := by decide +kernel
theorem dX12_isPoint_13 : decode cX12_isPoint 13 = .ok (.goto 4, 3) := by decide +kernel
theorem dX12_isPoint_16 : decode cX12_isPoint 16 = .ok (.iconst 0, 1) := by decide +kernel
theorem dX12_isPoint_17 : decode cX12_isPoint 17 = .ok (.ireturn, 1) := by decide +kernel
theorem dX12_sideOf_0 : decode cX12_sideOf 0 = .ok (.iload_n 2, 1) := by decide +kernel
theorem dX12_sideOf_1 : decode cX12_sideOf 1 = .ok (.ifCond .ne 12, 3) := by decide +kernel
theorem dX12_sideOf_4 : decode cX12_sideOf 4 = .ok (.aload_n 0, 1) := by decide +kernel
theorem dX12_sideOf_5 : decode cX12_sideOf 5 = .ok (.getfield 13, 3) := by decide +kernel
theorem dX12_sideOf_8 : decode cX12_sideOf 8 = .ok (.iload_n 1, 1) := by decide +kernel
theorem dX12_sideOf_9 : decode cX12_sideOf 9 = .ok (.laload, 1) := by decide +kernel
theorem dX12_sideOf_10 : decode cX12_sideOf 10 = .ok (.goto 9, 3) := by decide +kernel
theorem dX12_sideOf_13 : decode cX12_sideOf 13 = .ok (.aload_n 0, 1) := by decide +kernel
theorem dX12_sideOf_14 : decode cX12_sideOf 14 = .ok (.getfield 17, 3) := by decide +kernel
theorem dX12_sideOf_17 : decode cX12_sideOf 17 = .ok (.iload_n 1, 1) := by decide +kernel
theorem dX12_sideOf_18 : decode cX12_sideOf 18 = .ok (.laload, 1) := by decide +kernel
theorem dX12_sideOf_19 : decode cX12_sideOf 19 = .ok (.lreturn, 1) := by decide +kernel
theorem dX12_at_0 : decode cX12_at 0 = .ok (.iload_n 1, 1) := by decide +kernel
theorem dX12_at_1 : decode cX12_at 1 = .ok (.i2l, 1) := by decide +kernel
theorem dX12_at_2 : decode cX12_at 2 = .ok (.lconst 0, 1) := by decide +kernel
theorem dX12_at_3 : decode cX12_at 3 = .ok (.ldc2_w 559, 3) := by decide +kernel
theorem dX12_at_6 : decode cX12_at 6 = .ok (.invokestatic 262, 3) := by decide +kernel
theorem dX12_at_9 : decode cX12_at 9 = .ok (.ifCond .eq 28, 3) := by decide +kernel
theorem dX12_at_12 : decode cX12_at 12 = .ok (.iload_n 3, 1) := by decide +kernel
theorem dX12_at_13 : decode cX12_at 13 = .ok (.i2l, 1) := by decide +kernel
theorem dX12_at_14 : decode cX12_at 14 = .ok (.lconst 0, 1) := by decide +kernel
theorem dX12_at_15 : decode cX12_at 15 = .ok (.lconst 1, 1) := by decide +kernel
theorem dX12_at_16 : decode cX12_at 16 = .ok (.invokestatic 262, 3) := by decide +kernel
theorem dX12_at_19 : decode cX12_at 19 = .ok (.ifCond .eq 18, 3) := by decide +kernel
theorem dX12_at_22 : decode cX12_at 22 = .ok (.iload 4, 2) := by decide +kernel
theorem dX12_at_24 : decode cX12_at 24 = .ok (.i2l, 1) := by decide +kernel
theorem dX12_at_25 : decode cX12_at 25 = .ok (.lconst 0, 1) := by decide +kernel
theorem dX12_at_26 : decode cX12_at 26 = .ok (.lconst 1, 1) := by decide +kernel
theorem dX12_at_27 : decode cX12_at 27 = .ok (.invokestatic 262, 3) := by decide +kernel
theorem dX12_at_30 : decode cX12_at 30 = .ok (.ifCond .eq 7, 3) := by decide +kernel
theorem dX12_at_33 : decode cX12_at 33 = .ok (.iconst 1, 1) := by decide +kernel
theorem dX12_at_34 : decode cX12_at 34 = .ok (.goto 4, 3) := by decide +kernel
theorem dX12_at_37 : decode cX12_at 37 = .ok (.iconst 0, 1) := by decide +kernel
theorem dX12_at_38 : decode cX12_at 38 = .ok (.istore 5, 2) := by decide +kernel
theorem dX12_at_40 : decode cX12_at 40 = .ok (.aload_n 0, 1) := by decide +kernel
theorem dX12_at_41 : decode cX12_at 41 = .ok (.iload 5, 2) := by decide +kernel
theorem dX12_at_43 : decode cX12_at 43 = .ok (.ifCond .ne 7, 3) := by decide +kernel
theorem dX12_at_46 : decode cX12_at 46 = .ok (.iconst 1, 1) := by decide +kernel
theorem dX12_at_47 : decode cX12_at 47 = .ok (.goto 32, 3) := by decide +kernel
theorem dX12_at_50 : decode cX12_at 50 = .ok (.aload_n 0, 1) := by decide +kernel
theorem dX12_at_51 : decode cX12_at 51 = .ok (.iload_n 2, 1) := by decide +kernel
theorem dX12_at_52 : decode cX12_at 52 = .ok (.invokevirtual 561, 3) := by decide +kernel
theorem dX12_at_55 : decode cX12_at 55 = .ok (.ifCond .eq 19, 3) := by decide +kernel
theorem dX12_at_58 : decode cX12_at 58 = .ok (.aload_n 0, 1) := by decide +kernel
theorem dX12_at_59 : decode cX12_at 59 = .ok (.iload_n 1, 1) := by decide +kernel
theorem dX12_at_60 : decode cX12_at 60 = .ok (.invokevirtual 556, 3) := by decide +kernel
theorem dX12_at_63 : decode cX12_at 63 = .ok (.ifCond .eq 11, 3) := by decide +kernel
theorem dX12_at_66 : decode cX12_at 66 = .ok (.aload_n 0, 1) := by decide +kernel
theorem dX12_at_67 : decode cX12_at 67 = .ok (.iload_n 2, 1) := by decide +kernel
theorem dX12_at_68 : decode cX12_at 68 = .ok (.invokevirtual 553, 3) := by decide +kernel
theorem dX12_at_71 : decode cX12_at 71 = .ok (.ifCond .eq 7, 3) := by decide +kernel
theorem dX12_at_74 : decode cX12_at 74 = .ok (.iconst 2, 1) := by decide +kernel
theorem dX12_at_75 : decode cX12_at 75 = .ok (.goto 4, 3) := by decide +kernel
theorem dX12_at_78 : decode cX12_at 78 = .ok (.iconst 0, 1) := by decide +kernel
theorem dX12_at_79 : decode cX12_at 79 = .ok (.putfield 243, 3) := by decide +kernel
theorem dX12_at_82 : decode cX12_at 82 = .ok (.aload_n 0, 1) := by decide +kernel
theorem dX12_at_83 : decode cX12_at 83 = .ok (.getfield 243, 3) := by decide +kernel
theorem dX12_at_86 : decode cX12_at 86 = .ok (.ifCond .le 7, 3) := by decide +kernel
theorem dX12_at_89 : decode cX12_at 89 = .ok (.lconst 0, 1) := by decide +kernel
theorem dX12_at_90 : decode cX12_at 90 = .ok (.goto 14, 3) := by decide +kernel
theorem dX12_at_93 : decode cX12_at 93 = .ok (.aload_n 0, 1) := by decide +kernel
theorem dX12_at_94 : decode cX12_at 94 = .ok (.iconst 2, 1) := by decide +kernel
theorem dX12_at_95 : decode cX12_at 95 = .ok (.iload_n 2, 1) := by decide +kernel
theorem dX12_at_96 : decode cX12_at 96 = .ok (.imul, 1) := by decide +kernel
theorem dX12_at_97 : decode cX12_at 97 = .ok (.iload_n 3, 1) := by decide +kernel
theorem dX12_at_98 : decode cX12_at 98 = .ok (.iadd, 1) := by decide +kernel
theorem dX12_at_99 : decode cX12_at 99 = .ok (.iload 4, 2) := by decide +kernel
theorem dX12_at_101 : decode cX12_at 101 = .ok (.invokevirtual 564, 3) := by decide +kernel
theorem dX12_at_104 : decode cX12_at 104 = .ok (.lreturn, 1) := by decide +kernel
theorem dX12_isWay_0 : decode cX12_isWay 0 = .ok (.iload_n 1, 1) := by decide +kernel
theorem dX12_isWay_1 : decode cX12_isWay 1 = .ok (.i2l, 1) := by decide +kernel
theorem dX12_isWay_2 : decode cX12_isWay 2 = .ok (.lconst 0, 1) := by decide +kernel
theorem dX12_isWay_3 : decode cX12_isWay 3 = .ok (.ldc2_w 559, 3) := by decide +kernel
theorem dX12_isWay_6 : decode cX12_isWay 6 = .ok (.invokestatic 262, 3) := by decide +kernel
theorem dX12_isWay_9 : decode cX12_isWay 9 = .ok (.ifCond .eq 19, 3) := by decide +kernel
theorem dX12_isWay_12 : decode cX12_isWay 12 = .ok (.iload_n 2, 1) := by decide +kernel
theorem dX12_isWay_13 : decode cX12_isWay 13 = .ok (.i2l, 1) := by decide +kernel
theorem dX12_isWay_14 : decode cX12_isWay 14 = .ok (.lconst 0, 1) := by decide +kernel
theorem dX12_isWay_15 : decode cX12_isWay 15 = .ok (.ldc2_w 466, 3) := by decide +kernel
theorem dX12_isWay_18 : decode cX12_isWay 18 = .ok (.invokestatic 262, 3) := by decide +kernel
theorem dX12_isWay_21 : decode cX12_isWay 21 = .ok (.ifCond .eq 7, 3) := by decide +kernel
theorem dX12_isWay_24 : decode cX12_isWay 24 = .ok (.iconst 1, 1) := by decide +kernel
theorem dX12_isWay_25 : decode cX12_isWay 25 = .ok (.goto 4, 3) := by decide +kernel
theorem dX12_isWay_28 : decode cX12_isWay 28 = .ok (.iconst 0, 1) := by decide +kernel
theorem dX12_isWay_29 : decode cX12_isWay 29 = .ok (.ireturn, 1) := by decide +kernel
theorem dX12_step_0 : decode cX12_step 0 = .ok (.aload_n 0, 1) := by decide +kernel
theorem dX12_step_1 : decode cX12_step 1 = .ok (.aload_n 0, 1) := by decide +kernel
theorem dX12_step_2 : decode cX12_step 2 = .ok (.iload_n 1, 1) := by decide +kernel
theorem dX12_step_3 : decode cX12_step 3 = .ok (.iload_n 2, 1) := by decide +kernel
theorem dX12_step_4 : decode cX12_step 4 = .ok (.invokevirtual 568, 3) := by decide +kernel
theorem dX12_step_7 : decode cX12_step 7 = .ok (.ifCond .eq 17, 3) := by decide +kernel
theorem dX12_step_10 : decode cX12_step 10 = .ok (.iload_n 3, 1) := by decide +kernel
theorem dX12_step_11 : decode cX12_step 11 = .ok (.i2l, 1) := by decide +kernel
theorem dX12_step_12 : decode cX12_step 12 = .ok (.ldc2_w 571, 3) := by decide +kernel
theorem dX12_step_15 : decode cX12_step 15 = .ok (.ldc2_w 468, 3) := by decide +kernel
theorem dX12_step_18 : decode cX12_step 18 = .ok (.invokestatic 262, 3) := by decide +kernel
theorem dX12_step_21 : decode cX12_step 21 = .ok (.ifCond .ne 7, 3) := by decide +kernel
theorem dX12_step_24 : decode cX12_step 24 = .ok (.iconst 1, 1) := by decide +kernel
theorem dX12_step_25 : decode cX12_step 25 = .ok (.goto 17, 3) := by decide +kernel
theorem dX12_step_28 : decode cX12_step 28 = .ok (.aload_n 0, 1) := by decide +kernel
theorem dX12_step_29 : decode cX12_step 29 = .ok (.iload_n 1, 1) := by decide +kernel
theorem dX12_step_30 : decode cX12_step 30 = .ok (.invokevirtual 556, 3) := by decide +kernel
theorem dX12_step_33 : decode cX12_step 33 = .ok (.iconst 1, 1) := by decide +kernel
theorem dX12_step_34 : decode cX12_step 34 = .ok (.if_icmp .eq 7, 3) := by decide +kernel
theorem dX12_step_37 : decode cX12_step 37 = .ok (.iconst 2, 1) := by decide +kernel
theorem dX12_step_38 : decode cX12_step 38 = .ok (.goto 4, 3) := by decide +kernel
theorem dX12_step_41 : decode cX12_step 41 = .ok (.iconst 0, 1) := by decide +kernel
theorem dX12_step_42 : decode cX12_step 42 = .ok (.putfield 243, 3) := by decide +kernel
theorem dX12_step_45 : decode cX12_step 45 = .ok (.aload_n 0, 1) := by decide +kernel
theorem dX12_step_46 : decode cX12_step 46 = .ok (.getfield 243, 3) := by decide +kernel
theorem dX12_step_49 : decode cX12_step 49 = .ok (.ifCond .le 5, 3) := by decide +kernel
theorem dX12_step_52 : decode cX12_step 52 = .ok (.iconst 0, 1) := by decide +kernel
theorem dX12_step_53 : decode cX12_step 53 = .ok (.ireturn, 1) := by decide +kernel
theorem dX12_step_54 : decode cX12_step 54 = .ok (.iload_n 3, 1) := by decide +kernel
theorem dX12_step_55 : decode cX12_step 55 = .ok (.ifCond .ge 7, 3) := by decide +kernel
theorem dX12_step_58 : decode cX12_step 58 = .ok (.iconst (-1), 1) := by decide +kernel
theorem dX12_step_59 : decode cX12_step 59 = .ok (.goto 4, 3) := by decide +kernel
theorem dX12_step_62 : decode cX12_step 62 = .ok (.iconst 1, 1) := by decide +kernel
theorem dX12_step_63 : decode cX12_step 63 = .ok (.istore 4, 2) := by decide +kernel
theorem dX12_step_65 : decode cX12_step 65 = .ok (.iconst 0, 1) := by decide +kernel
theorem dX12_step_66 : decode cX12_step 66 = .ok (.istore 5, 2) := by decide +kernel
theorem dX12_step_68 : decode cX12_step 68 = .ok (.iload 5, 2) := by decide +kernel
theorem dX12_step_70 : decode cX12_step 70 = .ok (.iload_n 3, 1) := by decide +kernel
theorem dX12_step_71 : decode cX12_step 71 = .ok (.if_icmp .eq 59, 3) := by decide +kernel
theorem dX12_step_74 : decode cX12_step 74 = .ok (.aload_n 0, 1) := by decide +kernel
theorem dX12_step_75 : decode cX12_step 75 = .ok (.getfield 63, 3) := by decide +kernel
theorem dX12_step_78 : decode cX12_step 78 = .ok (.iload_n 2, 1) := by decide +kernel
theorem dX12_step_79 : decode cX12_step 79 = .ok (.iaload, 1) := by decide +kernel
theorem dX12_step_80 : decode cX12_step 80 = .ok (.istore 6, 2) := by decide +kernel
theorem dX12_step_82 : decode cX12_step 82 = .ok (.aload_n 0, 1) := by decide +kernel
theorem dX12_step_83 : decode cX12_step 83 = .ok (.getfield 63, 3) := by decide +kernel
theorem dX12_step_86 : decode cX12_step 86 = .ok (.iload_n 2, 1) := by decide +kernel
theorem dX12_step_87 : decode cX12_step 87 = .ok (.iload 6, 2) := by decide +kernel
theorem dX12_step_89 : decode cX12_step 89 = .ok (.iload 4, 2) := by decide +kernel
theorem dX12_step_91 : decode cX12_step 91 = .ok (.iadd, 1) := by decide +kernel
theorem dX12_step_92 : decode cX12_step 92 = .ok (.sipush 1023, 3) := by decide +kernel
theorem dX12_step_95 : decode cX12_step 95 = .ok (.iand, 1) := by decide +kernel
theorem dX12_step_96 : decode cX12_step 96 = .ok (.iastore, 1) := by decide +kernel
theorem dX12_step_97 : decode cX12_step 97 = .ok (.aload_n 0, 1) := by decide +kernel
theorem dX12_step_98 : decode cX12_step 98 = .ok (.iload_n 1, 1) := by decide +kernel
theorem dX12_step_99 : decode cX12_step 99 = .ok (.invokevirtual 556, 3) := by decide +kernel
theorem dX12_step_102 : decode cX12_step 102 = .ok (.iconst 1, 1) := by decide +kernel
theorem dX12_step_103 : decode cX12_step 103 = .ok (.if_icmp .ne 6, 3) := by decide +kernel
theorem dX12_step_106 : decode cX12_step 106 = .ok (.goto 14, 3) := by decide +kernel
theorem dX12_step_109 : decode cX12_step 109 = .ok (.aload_n 0, 1) := by decide +kernel
theorem dX12_step_110 : decode cX12_step 110 = .ok (.getfield 63, 3) := by decide +kernel
theorem dX12_step_113 : decode cX12_step 113 = .ok (.iload_n 2, 1) := by decide +kernel
theorem dX12_step_114 : decode cX12_step 114 = .ok (.iload 6, 2) := by decide +kernel
theorem dX12_step_116 : decode cX12_step 116 = .ok (.iastore, 1) := by decide +kernel
theorem dX12_step_117 : decode cX12_step 117 = .ok (.iload 6, 2) := by decide +kernel
theorem dX12_step_119 : decode cX12_step 119 = .ok (.ireturn, 1) := by decide +kernel
theorem dX12_step_120 : decode cX12_step 120 = .ok (.iload 5, 2) := by decide +kernel
theorem dX12_step_122 : decode cX12_step 122 = .ok (.iload 4, 2) := by decide +kernel
theorem dX12_step_124 : decode cX12_step 124 = .ok (.iadd, 1) := by decide +kernel
theorem dX12_step_125 : decode cX12_step 125 = .ok (.istore 5, 2) := by decide +kernel
theorem dX12_step_127 : decode cX12_step 127 = .ok (.goto (-59), 3) := by decide +kernel
theorem dX12_step_130 : decode cX12_step 130 = .ok (.aload_n 0, 1) := by decide +kernel
theorem dX12_step_131 : decode cX12_step 131 = .ok (.getfield 63, 3) := by decide +kernel
theorem dX12_step_134 : decode cX12_step 134 = .ok (.iload_n 2, 1) := by decide +kernel
theorem dX12_step_135 : decode cX12_step 135 = .ok (.iaload, 1) := by decide +kernel
theorem dX12_step_136 : decode cX12_step 136 = .ok (.ireturn, 1) := by decide +kernel
theorem dX12_sweep_0 : decode cX12_sweep 0 = .ok (.aload_n 0, 1) := by decide +kernel
theorem dX12_sweep_1 : decode cX12_sweep 1 = .ok (.getfield 63, 3) := by decide +kernel
theorem dX12_sweep_4 : decode cX12_sweep 4 = .ok (.iload_n 2, 1) := by decide +kernel
theorem dX12_sweep_5 : decode cX12_sweep 5 = .ok (.iaload, 1) := by decide +kernel
theorem dX12_sweep_6 : decode cX12_sweep 6 = .ok (.istore_n 3, 1) := by decide +kernel
theorem dX12_sweep_7 : decode cX12_sweep 7 = .ok (.iconst 0, 1) := by decide +kernel
theorem dX12_sweep_8 : decode cX12_sweep 8 = .ok (.istore 4, 2) := by decide +kernel
theorem dX12_sweep_10 : decode cX12_sweep 10 = .ok (.iconst 0, 1) := by decide +kernel
theorem dX12_sweep_11 : decode cX12_sweep 11 = .ok (.istore 5, 2) := by decide +kernel
theorem dX12_sweep_13 : decode cX12_sweep 13 = .ok (.iload 5, 2) := by decide +kernel
theorem dX12_sweep_15 : decode cX12_sweep 15 = .ok (.sipush 1024, 3) := by decide +kernel
theorem dX12_sweep_18 : decode cX12_sweep 18 = .ok (.if_icmp .ge 59, 3) := by decide +kernel
theorem dX12_sweep_21 : decode cX12_sweep 21 = .ok (.aload_n 0, 1) := by decide +kernel
theorem dX12_sweep_22 : decode cX12_sweep 22 = .ok (.getfield 63, 3) := by decide +kernel
theorem dX12_sweep_25 : decode cX12_sweep 25 = .ok (.iload_n 2, 1) := by decide +kernel
theorem dX12_sweep_26 : decode cX12_sweep 26 = .ok (.iload 5, 2) := by decide +kernel
theorem dX12_sweep_28 : decode cX12_sweep 28 = .ok (.iastore, 1) := by decide +kernel
theorem dX12_sweep_29 : decode cX12_sweep 29 = .ok (.aload_n 0, 1) := by decide +kernel
theorem dX12_sweep_30 : decode cX12_sweep 30 = .ok (.getfield 114, 3) := by decide +kernel
theorem dX12_sweep_33 : decode cX12_sweep 33 = .ok (.iload 5, 2) := by decide +kernel
theorem dX12_sweep_35 : decode cX12_sweep 35 = .ok (.aload_n 0, 1) := by decide +kernel
theorem dX12_sweep_36 : decode cX12_sweep 36 = .ok (.iload_n 1, 1) := by decide +kernel
theorem dX12_sweep_37 : decode cX12_sweep 37 = .ok (.invokevirtual 556, 3) := by decide +kernel
theorem dX12_sweep_40 : decode cX12_sweep 40 = .ok (.iconst 1, 1) := by decide +kernel
theorem dX12_sweep_41 : decode cX12_sweep 41 = .ok (.if_icmp .ne 7, 3) := by decide +kernel
theorem dX12_sweep_44 : decode cX12_sweep 44 = .ok (.iconst 1, 1) := by decide +kernel
theorem dX12_sweep_45 : decode cX12_sweep 45 = .ok (.goto 4, 3) := by decide +kernel
theorem dX12_sweep_48 : decode cX12_sweep 48 = .ok (.iconst 0, 1) := by decide +kernel
theorem dX12_sweep_49 : decode cX12_sweep 49 = .ok (.bastore, 1) := by decide +kernel
theorem dX12_sweep_50 : decode cX12_sweep 50 = .ok (.aload_n 0, 1) := by decide +kernel
theorem dX12_sweep_51 : decode cX12_sweep 51 = .ok (.getfield 114, 3) := by decide +kernel
theorem dX12_sweep_54 : decode cX12_sweep 54 = .ok (.iload 5, 2) := by decide +kernel
theorem dX12_sweep_56 : decode cX12_sweep 56 = .ok (.baload, 1) := by decide +kernel
theorem dX12_sweep_57 : decode cX12_sweep 57 = .ok (.ifCond .eq 10, 3) := by decide +kernel
theorem dX12_sweep_60 : decode cX12_sweep 60 = .ok (.iload 4, 2) := by decide +kernel
theorem dX12_sweep_62 : decode cX12_sweep 62 = .ok (.iconst 1, 1) := by decide +kernel
theorem dX12_sweep_63 : decode cX12_sweep 63 = .ok (.iadd, 1) := by decide +kernel
theorem dX12_sweep_64 : decode cX12_sweep 64 = .ok (.goto 5, 3) := by decide +kernel
theorem dX12_sweep_67 : decode cX12_sweep 67 = .ok (.iload 4, 2) := by decide +kernel
theorem dX12_sweep_69 : decode cX12_sweep 69 = .ok (.istore 4, 2) := by decide +kernel
theorem dX12_sweep_71 : decode cX12_sweep 71 = .ok (.iinc 5 1, 3) := by decide +kernel
theorem dX12_sweep_74 : decode cX12_sweep 74 = .ok (.goto (-61), 3) := by decide +kernel
theorem dX12_sweep_77 : decode cX12_sweep 77 = .ok (.aload_n 0, 1) := by decide +kernel
theorem dX12_sweep_78 : decode cX12_sweep 78 = .ok (.getfield 63, 3) := by decide +kernel
theorem dX12_sweep_81 : decode cX12_sweep 81 = .ok (.iload_n 2, 1) := by decide +kernel
theorem dX12_sweep_82 : decode cX12_sweep 82 = .ok (.iload_n 3, 1) := by decide +kernel
theorem dX12_sweep_83 : decode cX12_sweep 83 = .ok (.iastore, 1) := by decide +kernel
theorem dX12_sweep_84 : decode cX12_sweep 84 = .ok (.iload 4, 2) := by decide +kernel
theorem dX12_sweep_86 : decode cX12_sweep 86 = .ok (.ireturn, 1) := by decide +kernel
theorem dX12_range_0 : decode cX12_range 0 = .ok (.aload_n 0, 1) := by decide +kernel
theorem dX12_range_1 : decode cX12_range 1 = .ok (.aload_n 0, 1) := by decide +kernel
theorem dX12_range_2 : decode cX12_range 2 = .ok (.iload_n 1, 1) := by decide +kernel
theorem dX12_range_3 : decode cX12_range 3 = .ok (.iload_n 2, 1) := by decide +kernel
theorem dX12_range_4 : decode cX12_range 4 = .ok (.invokevirtual 568, 3) := by decide +kernel
theorem dX12_range_7 : decode cX12_range 7 = .ok (.ifCond .eq 19, 3) := by decide +kernel
theorem dX12_range_10 : decode cX12_range 10 = .ok (.iload_n 3, 1) := by decide +kernel
theorem dX12_range_11 : decode cX12_range 11 = .ok (.i2l, 1) := by decide +kernel
theorem dX12_range_12 : decode cX12_range 12 = .ok (.lconst 0, 1) := by decide +kernel
theorem dX12_range_13 : decode cX12_range 13 = .ok (.ldc2_w 325, 3) := by decide +kernel
theorem dX12_range_16 : decode cX12_range 16 = .ok (.invokestatic 262, 3) := by decide +kernel
theorem dX12_range_19 : decode cX12_range 19 = .ok (.ifCond .eq 7, 3) := by decide +kernel
theorem dX12_range_22 : decode cX12_range 22 = .ok (.iconst 0, 1) := by decide +kernel
theorem dX12_range_23 : decode cX12_range 23 = .ok (.goto 4, 3) := by decide +kernel
theorem dX12_range_26 : decode cX12_range 26 = .ok (.iconst 1, 1) := by decide +kernel
theorem dX12_range_27 : decode cX12_range 27 = .ok (.putfield 243, 3) := by decide +kernel
theorem dX12_range_30 : decode cX12_range 30 = .ok (.aload_n 0, 1) := by decide +kernel
theorem dX12_range_31 : decode cX12_range 31 = .ok (.getfield 243, 3) := by decide +kernel
theorem dX12_range_34 : decode cX12_range 34 = .ok (.ifCond .le 5, 3) := by decide +kernel
theorem dX12_range_37 : decode cX12_range 37 = .ok (.iconst 0, 1) := by decide +kernel
theorem dX12_range_38 : decode cX12_range 38 = .ok (.ireturn, 1) := by decide +kernel
theorem dX12_range_39 : decode cX12_range 39 = .ok (.aload_n 0, 1) := by decide +kernel
theorem dX12_range_40 : decode cX12_range 40 = .ok (.iload_n 1, 1) := by decide +kernel
theorem dX12_range_41 : decode cX12_range 41 = .ok (.iload_n 2, 1) := by decide +kernel
theorem dX12_range_42 : decode cX12_range 42 = .ok (.invokevirtual 573, 3) := by decide +kernel
theorem dX12_range_45 : decode cX12_range 45 = .ok (.istore 4, 2) := by decide +kernel
theorem dX12_range_47 : decode cX12_range 47 = .ok (.iload_n 3, 1) := by decide +kernel
theorem dX12_range_48 : decode cX12_range 48 = .ok (.ifCond .ne 6, 3) := by decide +kernel
theorem dX12_range_51 : decode cX12_range 51 = .ok (.iload 4, 2) := by decide +kernel
theorem dX12_range_53 : decode cX12_range 53 = .ok (.ireturn, 1) := by decide +kernel
theorem dX12_range_54 : decode cX12_range 54 = .ok (.iload 4, 2) := by decide +kernel
theorem dX12_range_56 : decode cX12_range 56 = .ok (.sipush 1024, 3) := by decide +kernel
theorem dX12_range_59 : decode cX12_range 59 = .ok (.if_icmp .ne 14, 3) := by decide +kernel
theorem dX12_range_62 : decode cX12_range 62 = .ok (.iload_n 3, 1) := by decide +kernel
theorem dX12_range_63 : decode cX12_range 63 = .ok (.iconst 1, 1) := by decide +kernel
theorem dX12_range_64 : decode cX12_range 64 = .ok (.if_icmp .ne 7, 3) := by decide +kernel
theorem dX12_range_67 : decode cX12_range 67 = .ok (.iconst 1, 1) := by decide +kernel
theorem dX12_range_68 : decode cX12_range 68 = .ok (.goto 4, 3) := by decide +kernel
theorem dX12_range_71 : decode cX12_range 71 = .ok (.iconst 0, 1) := by decide +kernel
theorem dX12_range_72 : decode cX12_range 72 = .ok (.ireturn, 1) := by decide +kernel
theorem dX12_range_73 : decode cX12_range 73 = .ok (.iconst 0, 1) := by decide +kernel
theorem dX12_range_74 : decode cX12_range 74 = .ok (.istore 5, 2) := by decide +kernel
theorem dX12_range_76 : decode cX12_range 76 = .ok (.iconst (-1), 1) := by decide +kernel
theorem dX12_range_77 : decode cX12_range 77 = .ok (.istore 6, 2) := by decide +kernel
theorem dX12_range_79 : decode cX12_range 79 = .ok (.iconst 0, 1) := by decide +kernel
theorem dX12_range_80 : decode cX12_range 80 = .ok (.istore 7, 2) := by decide +kernel
theorem dX12_range_82 : decode cX12_range 82 = .ok (.iload 7, 2) := by decide +kernel
theorem dX12_range_84 : decode cX12_range 84 = .ok (.sipush 1024, 3) := by decide +kernel
theorem dX12_range_87 : decode cX12_range 87 = .ok (.if_icmp .ge 52, 3) := by decide +kernel
theorem dX12_range_90 : decode cX12_range 90 = .ok (.aload_n 0, 1) := by decide +kernel
theorem dX12_range_91 : decode cX12_range 91 = .ok (.getfield 114, 3) := by decide +kernel
theorem dX12_range_94 : decode cX12_range 94 = .ok (.iload 7, 2) := by decide +kernel
theorem dX12_range_96 : decode cX12_range 96 = .ok (.baload, 1) := by decide +kernel
theorem dX12_range_97 : decode cX12_range 97 = .ok (.ifCond .eq 36, 3) := by decide +kernel
theorem dX12_range_100 : decode cX12_range 100 = .ok (.aload_n 0, 1) := by decide +kernel
theorem dX12_range_101 : decode cX12_range 101 = .ok (.getfield 114, 3) := by decide +kernel
theorem dX12_range_104 : decode cX12_range 104 = .ok (.iload 7, 2) := by decide +kernel
theorem dX12_range_106 : decode cX12_range 106 = .ok (.sipush 1023, 3) := by decide +kernel
theorem dX12_range_109 : decode cX12_range 109 = .ok (.iadd, 1) := by decide +kernel
theorem dX12_range_110 : decode cX12_range 110 = .ok (.sipush 1023, 3) := by decide +kernel
theorem dX12_range_113 : decode cX12_range 113 = .ok (.iand, 1) := by decide +kernel
theorem dX12_range_114 : decode cX12_range 114 = .ok (.baload, 1) := by decide +kernel
theorem dX12_range_115 : decode cX12_range 115 = .ok (.ifCond .eq 6, 3) := by decide +kernel
theorem dX12_range_118 : decode cX12_range 118 = .ok (.goto 15, 3) := by decide +kernel
theorem dX12_range_121 : decode cX12_range 121 = .ok (.iinc 5 1, 3) := by decide +kernel
theorem dX12_range_124 : decode cX12_range 124 = .ok (.iload 6, 2) := by decide +kernel
theorem dX12_range_126 : decode cX12_range 126 = .ok (.ifCond .ge 7, 3) := by decide +kernel
theorem dX12_range_129 : decode cX12_range 129 = .ok (.iload 7, 2) := by decide +kernel
theorem dX12_range_131 : decode cX12_range 131 = .ok (.istore 6, 2) := by decide +kernel
theorem dX12_range_133 : decode cX12_range 133 = .ok (.iinc 7 1, 3) := by decide +kernel
theorem dX12_range_136 : decode cX12_range 136 = .ok (.goto (-54), 3) := by decide +kernel
theorem dX12_range_139 : decode cX12_range 139 = .ok (.iload_n 3, 1) := by decide +kernel
theorem dX12_range_140 : decode cX12_range 140 = .ok (.iconst 1, 1) := by decide +kernel
theorem dX12_range_141 : decode cX12_range 141 = .ok (.if_icmp .ne 8, 3) := by decide +kernel
theorem dX12_range_144 : decode cX12_range 144 = .ok (.iload 5, 2) := by decide +kernel
theorem dX12_range_146 : decode cX12_range 146 = .ok (.goto 5, 3) := by decide +kernel
theorem dX12_range_149 : decode cX12_range 149 = .ok (.iload 6, 2) := by decide +kernel
theorem dX12_range_151 : decode cX12_range 151 = .ok (.ireturn, 1) := by decide +kernel
theorem dX12_spread_0 : decode cX12_spread 0 = .ok (.aload_n 0, 1) := by decide +kernel
theorem dX12_spread_1 : decode cX12_spread 1 = .ok (.aload_n 0, 1) := by decide +kernel
theorem dX12_spread_2 : decode cX12_spread 2 = .ok (.iload_n 1, 1) := by decide +kernel
theorem dX12_spread_3 : decode cX12_spread 3 = .ok (.iload_n 2, 1) := by decide +kernel
theorem dX12_spread_4 : decode cX12_spread 4 = .ok (.invokevirtual 568, 3) := by decide +kernel
theorem dX12_spread_7 : decode cX12_spread 7 = .ok (.ifCond .eq 25, 3) := by decide +kernel
theorem dX12_spread_10 : decode cX12_spread 10 = .ok (.iload 4, 2) := by decide +kernel
theorem dX12_spread_12 : decode cX12_spread 12 = .ok (.i2l, 1) := by decide +kernel
theorem dX12_spread_13 : decode cX12_spread 13 = .ok (.lconst 0, 1) := by decide +kernel
theorem dX12_spread_14 : decode cX12_spread 14 = .ok (.lconst 1, 1) := by decide +kernel
theorem dX12_spread_15 : decode cX12_spread 15 = .ok (.invokestatic 262, 3) := by decide +kernel
theorem dX12_spread_18 : decode cX12_spread 18 = .ok (.ifCond .eq 14, 3) := by decide +kernel
theorem dX12_spread_21 : decode cX12_spread 21 = .ok (.iload 5, 2) := by decide +kernel
theorem dX12_spread_23 : decode cX12_spread 23 = .ok (.i2l, 1) := by decide +kernel
theorem dX12_spread_24 : decode cX12_spread 24 = .ok (.lconst 0, 1) := by decide +kernel
theorem dX12_spread_25 : decode cX12_spread 25 = .ok (.lconst 1, 1) := by decide +kernel
theorem dX12_spread_26 : decode cX12_spread 26 = .ok (.invokestatic 262, 3) := by decide +kernel
theorem dX12_spread_29 : decode cX12_spread 29 = .ok (.ifCond .ne 7, 3) := by decide +kernel
theorem dX12_spread_32 : decode cX12_spread 32 = .ok (.iconst 1, 1) := by decide +kernel
theorem dX12_spread_33 : decode cX12_spread 33 = .ok (.goto 16, 3) := by decide +kernel
theorem dX12_spread_36 : decode cX12_spread 36 = .ok (.aload_n 0, 1) := by decide +kernel
theorem dX12_spread_37 : decode cX12_spread 37 = .ok (.iload_n 3, 1) := by decide +kernel
theorem dX12_spread_38 : decode cX12_spread 38 = .ok (.invokevirtual 561, 3) := by decide +kernel
theorem dX12_spread_41 : decode cX12_spread 41 = .ok (.ifCond .eq 7, 3) := by decide +kernel
theorem dX12_spread_44 : decode cX12_spread 44 = .ok (.iconst 0, 1) := by decide +kernel
theorem dX12_spread_45 : decode cX12_spread 45 = .ok (.goto 4, 3) := by decide +kernel
theorem dX12_spread_48 : decode cX12_spread 48 = .ok (.iconst 2, 1) := by decide +kernel
theorem dX12_spread_49 : decode cX12_spread 49 = .ok (.putfield 243, 3) := by decide +kernel
theorem dX12_spread_52 : decode cX12_spread 52 = .ok (.aload_n 0, 1) := by decide +kernel
theorem dX12_spread_53 : decode cX12_spread 53 = .ok (.getfield 243, 3) := by decide +kernel
theorem dX12_spread_56 : decode cX12_spread 56 = .ok (.ifCond .le 5, 3) := by decide +kernel
theorem dX12_spread_59 : decode cX12_spread 59 = .ok (.lconst 0, 1) := by decide +kernel
theorem dX12_spread_60 : decode cX12_spread 60 = .ok (.lreturn, 1) := by decide +kernel
theorem dX12_spread_61 : decode cX12_spread 61 = .ok (.aload_n 0, 1) := by decide +kernel
theorem dX12_spread_62 : decode cX12_spread 62 = .ok (.getfield 63, 3) := by decide +kernel
theorem dX12_spread_65 : decode cX12_spread 65 = .ok (.iload_n 2, 1) := by decide +kernel
theorem dX12_spread_66 : decode cX12_spread 66 = .ok (.iaload, 1) := by decide +kernel
theorem dX12_spread_67 : decode cX12_spread 67 = .ok (.istore 6, 2) := by decide +kernel
theorem dX12_spread_69 : decode cX12_spread 69 = .ok (.iconst 0, 1) := by decide +kernel
theorem dX12_spread_70 : decode cX12_spread 70 = .ok (.istore 7, 2) := by decide +kernel
theorem dX12_spread_72 : decode cX12_spread 72 = .ok (.lconst 0, 1) := by decide +kernel
theorem dX12_spread_73 : decode cX12_spread 73 = .ok (.lstore 8, 2) := by decide +kernel
theorem dX12_spread_75 : decode cX12_spread 75 = .ok (.iconst 0, 1) := by decide +kernel
theorem dX12_spread_76 : decode cX12_spread 76 = .ok (.istore 10, 2) := by decide +kernel
theorem dX12_spread_78 : decode cX12_spread 78 = .ok (.iload 10, 2) := by decide +kernel
theorem dX12_spread_80 : decode cX12_spread 80 = .ok (.sipush 1024, 3) := by decide +kernel
theorem dX12_spread_83 : decode cX12_spread 83 = .ok (.if_icmp .ge 80, 3) := by decide +kernel
theorem dX12_spread_86 : decode cX12_spread 86 = .ok (.aload_n 0, 1) := by decide +kernel
theorem dX12_spread_87 : decode cX12_spread 87 = .ok (.getfield 63, 3) := by decide +kernel
theorem dX12_spread_90 : decode cX12_spread 90 = .ok (.iload_n 2, 1) := by decide +kernel
theorem dX12_spread_91 : decode cX12_spread 91 = .ok (.iload 10, 2) := by decide +kernel
theorem dX12_spread_93 : decode cX12_spread 93 = .ok (.iastore, 1) := by decide +kernel
theorem dX12_spread_94 : decode cX12_spread 94 = .ok (.aload_n 0, 1) := by decide +kernel
theorem dX12_spread_95 : decode cX12_spread 95 = .ok (.iload_n 1, 1) := by decide +kernel
theorem dX12_spread_96 : decode cX12_spread 96 = .ok (.invokevirtual 556, 3) := by decide +kernel
theorem dX12_spread_99 : decode cX12_spread 99 = .ok (.iconst 1, 1) := by decide +kernel
theorem dX12_spread_100 : decode cX12_spread 100 = .ok (.if_icmp .eq 6, 3) := by decide +kernel
theorem dX12_spread_103 : decode cX12_spread 103 = .ok (.goto 54, 3) := by decide +kernel
theorem dX12_spread_106 : decode cX12_spread 106 = .ok (.aload_n 0, 1) := by decide +kernel
theorem dX12_spread_107 : decode cX12_spread 107 = .ok (.iconst 2, 1) := by decide +kernel
theorem dX12_spread_108 : decode cX12_spread 108 = .ok (.iload_n 3, 1) := by decide +kernel
theorem dX12_spread_109 : decode cX12_spread 109 = .ok (.imul, 1) := by decide +kernel
theorem dX12_spread_110 : decode cX12_spread 110 = .ok (.iload 4, 2) := by decide +kernel
theorem dX12_spread_112 : decode cX12_spread 112 = .ok (.iadd, 1) := by decide +kernel
theorem dX12_spread_113 : decode cX12_spread 113 = .ok (.iload 5, 2) := by decide +kernel
theorem dX12_spread_115 : decode cX12_spread 115 = .ok (.invokevirtual 564, 3) := by decide +kernel
theorem dX12_spread_118 : decode cX12_spread 118 = .ok (.lstore 11, 2) := by decide +kernel
theorem dX12_spread_120 : decode cX12_spread 120 = .ok (.iload 7, 2) := by decide +kernel
theorem dX12_spread_122 : decode cX12_spread 122 = .ok (.ifCond .ne 8, 3) := by decide +kernel
theorem dX12_spread_125 : decode cX12_spread 125 = .ok (.lload 11, 2) := by decide +kernel
theorem dX12_spread_127 : decode cX12_spread 127 = .ok (.goto 25, 3) := by decide +kernel
theorem dX12_spread_130 : decode cX12_spread 130 = .ok (.iload 5, 2) := by decide +kernel
theorem dX12_spread_132 : decode cX12_spread 132 = .ok (.ifCond .ne 13, 3) := by decide +kernel
theorem dX12_spread_135 : decode cX12_spread 135 = .ok (.lload 8, 2) := by decide +kernel
theorem dX12_spread_137 : decode cX12_spread 137 = .ok (.lload 11, 2) := by decide +kernel
theorem dX12_spread_139 : decode cX12_spread 139 = .ok (.invokestatic 314, 3) := by decide +kernel
theorem dX12_spread_142 : decode cX12_spread 142 = .ok (.goto 10, 3) := by decide +kernel
theorem dX12_spread_145 : decode cX12_spread 145 = .ok (.lload 8, 2) := by decide +kernel
theorem dX12_spread_147 : decode cX12_spread 147 = .ok (.lload 11, 2) := by decide +kernel
theorem dX12_spread_149 : decode cX12_spread 149 = .ok (.invokestatic 317, 3) := by decide +kernel
theorem dX12_spread_152 : decode cX12_spread 152 = .ok (.lstore 8, 2) := by decide +kernel
theorem dX12_spread_154 : decode cX12_spread 154 = .ok (.iconst 1, 1) := by decide +kernel
theorem dX12_spread_155 : decode cX12_spread 155 = .ok (.istore 7, 2) := by decide +kernel
theorem dX12_spread_157 : decode cX12_spread 157 = .ok (.iinc 10 1, 3) := by decide +kernel
theorem dX12_spread_160 : decode cX12_spread 160 = .ok (.goto (-82), 3) := by decide +kernel
theorem dX12_spread_163 : decode cX12_spread 163 = .ok (.aload_n 0, 1) := by decide +kernel
theorem dX12_spread_164 : decode cX12_spread 164 = .ok (.getfield 63, 3) := by decide +kernel
theorem dX12_spread_167 : decode cX12_spread 167 = .ok (.iload_n 2, 1) := by decide +kernel
theorem dX12_spread_168 : decode cX12_spread 168 = .ok (.iload 6, 2) := by decide +kernel
theorem dX12_spread_170 : decode cX12_spread 170 = .ok (.iastore, 1) := by decide +kernel
theorem dX12_spread_171 : decode cX12_spread 171 = .ok (.aload_n 0, 1) := by decide +kernel
theorem dX12_spread_172 : decode cX12_spread 172 = .ok (.iload 7, 2) := by decide +kernel
theorem dX12_spread_174 : decode cX12_spread 174 = .ok (.ifCond .eq 7, 3) := by decide +kernel
theorem dX12_spread_177 : decode cX12_spread 177 = .ok (.iconst 0, 1) := by decide +kernel
theorem dX12_spread_178 : decode cX12_spread 178 = .ok (.goto 4, 3) := by decide +kernel
theorem dX12_spread_181 : decode cX12_spread 181 = .ok (.iconst 2, 1) := by decide +kernel
theorem dX12_spread_182 : decode cX12_spread 182 = .ok (.putfield 243, 3) := by decide +kernel
theorem dX12_spread_185 : decode cX12_spread 185 = .ok (.lload 8, 2) := by decide +kernel
theorem dX12_spread_187 : decode cX12_spread 187 = .ok (.lreturn, 1) := by decide +kernel
theorem dX12_least_0 : decode cX12_least 0 = .ok (.aload_n 0, 1) := by decide +kernel
theorem dX12_least_1 : decode cX12_least 1 = .ok (.aload_n 0, 1) := by decide +kernel
theorem dX12_least_2 : decode cX12_least 2 = .ok (.iload_n 1, 1) := by decide +kernel
theorem dX12_least_3 : decode cX12_least 3 = .ok (.iload_n 2, 1) := by decide +kernel
theorem dX12_least_4 : decode cX12_least 4 = .ok (.invokevirtual 568, 3) := by decide +kernel
theorem dX12_least_7 : decode cX12_least 7 = .ok (.ifCond .eq 14, 3) := by decide +kernel
theorem dX12_least_10 : decode cX12_least 10 = .ok (.iload 5, 2) := by decide +kernel
theorem dX12_least_12 : decode cX12_least 12 = .ok (.i2l, 1) := by decide +kernel
theorem dX12_least_13 : decode cX12_least 13 = .ok (.lconst 0, 1) := by decide +kernel
theorem dX12_least_14 : decode cX12_least 14 = .ok (.lconst 1, 1) := by decide +kernel
theorem dX12_least_15 : decode cX12_least 15 = .ok (.invokestatic 262, 3) := by decide +kernel
theorem dX12_least_18 : decode cX12_least 18 = .ok (.ifCond .ne 7, 3) := by decide +kernel
theorem dX12_least_21 : decode cX12_least 21 = .ok (.iconst 1, 1) := by decide +kernel
theorem dX12_least_22 : decode cX12_least 22 = .ok (.goto 25, 3) := by decide +kernel
theorem dX12_least_25 : decode cX12_least 25 = .ok (.aload_n 0, 1) := by decide +kernel
theorem dX12_least_26 : decode cX12_least 26 = .ok (.iload_n 3, 1) := by decide +kernel
theorem dX12_least_27 : decode cX12_least 27 = .ok (.invokevirtual 561, 3) := by decide +kernel
theorem dX12_least_30 : decode cX12_least 30 = .ok (.ifCond .eq 16, 3) := by decide +kernel
theorem dX12_least_33 : decode cX12_least 33 = .ok (.aload_n 0, 1) := by decide +kernel
theorem dX12_least_34 : decode cX12_least 34 = .ok (.iload 4, 2) := by decide +kernel
theorem dX12_least_36 : decode cX12_least 36 = .ok (.invokevirtual 561, 3) := by decide +kernel
theorem dX12_least_39 : decode cX12_least 39 = .ok (.ifCond .eq 7, 3) := by decide +kernel
theorem dX12_least_42 : decode cX12_least 42 = .ok (.iconst 0, 1) := by decide +kernel
theorem dX12_least_43 : decode cX12_least 43 = .ok (.goto 4, 3) := by decide +kernel
theorem dX12_least_46 : decode cX12_least 46 = .ok (.iconst 2, 1) := by decide +kernel
theorem dX12_least_47 : decode cX12_least 47 = .ok (.putfield 243, 3) := by decide +kernel
theorem dX12_least_50 : decode cX12_least 50 = .ok (.aload_n 0, 1) := by decide +kernel
theorem dX12_least_51 : decode cX12_least 51 = .ok (.getfield 243, 3) := by decide +kernel
theorem dX12_least_54 : decode cX12_least 54 = .ok (.ifCond .le 5, 3) := by decide +kernel
theorem dX12_least_57 : decode cX12_least 57 = .ok (.lconst 0, 1) := by decide +kernel
theorem dX12_least_58 : decode cX12_least 58 = .ok (.lreturn, 1) := by decide +kernel
theorem dX12_least_59 : decode cX12_least 59 = .ok (.aload_n 0, 1) := by decide +kernel
theorem dX12_least_60 : decode cX12_least 60 = .ok (.getfield 63, 3) := by decide +kernel
theorem dX12_least_63 : decode cX12_least 63 = .ok (.iload_n 2, 1) := by decide +kernel
theorem dX12_least_64 : decode cX12_least 64 = .ok (.iaload, 1) := by decide +kernel
theorem dX12_least_65 : decode cX12_least 65 = .ok (.istore 6, 2) := by decide +kernel
theorem dX12_least_67 : decode cX12_least 67 = .ok (.iconst 0, 1) := by decide +kernel
theorem dX12_least_68 : decode cX12_least 68 = .ok (.istore 7, 2) := by decide +kernel
theorem dX12_least_70 : decode cX12_least 70 = .ok (.lconst 0, 1) := by decide +kernel
theorem dX12_least_71 : decode cX12_least 71 = .ok (.lstore 8, 2) := by decide +kernel
theorem dX12_least_73 : decode cX12_least 73 = .ok (.iconst 0, 1) := by decide +kernel
theorem dX12_least_74 : decode cX12_least 74 = .ok (.istore 10, 2) := by decide +kernel
theorem dX12_least_76 : decode cX12_least 76 = .ok (.iload 10, 2) := by decide +kernel
theorem dX12_least_78 : decode cX12_least 78 = .ok (.sipush 1024, 3) := by decide +kernel
theorem dX12_least_81 : decode cX12_least 81 = .ok (.if_icmp .ge 96, 3) := by decide +kernel
theorem dX12_least_84 : decode cX12_least 84 = .ok (.aload_n 0, 1) := by decide +kernel
theorem dX12_least_85 : decode cX12_least 85 = .ok (.getfield 63, 3) := by decide +kernel
theorem dX12_least_88 : decode cX12_least 88 = .ok (.iload_n 2, 1) := by decide +kernel
theorem dX12_least_89 : decode cX12_least 89 = .ok (.iload 10, 2) := by decide +kernel
theorem dX12_least_91 : decode cX12_least 91 = .ok (.iastore, 1) := by decide +kernel
theorem dX12_least_92 : decode cX12_least 92 = .ok (.aload_n 0, 1) := by decide +kernel
theorem dX12_least_93 : decode cX12_least 93 = .ok (.iload_n 1, 1) := by decide +kernel
theorem dX12_least_94 : decode cX12_least 94 = .ok (.invokevirtual 556, 3) := by decide +kernel
theorem dX12_least_97 : decode cX12_least 97 = .ok (.iconst 1, 1) := by decide +kernel
theorem dX12_least_98 : decode cX12_least 98 = .ok (.if_icmp .eq 6, 3) := by decide +kernel
theorem dX12_least_101 : decode cX12_least 101 = .ok (.goto 70, 3) := by decide +kernel
theorem dX12_least_104 : decode cX12_least 104 = .ok (.aload_n 0, 1) := by decide +kernel
theorem dX12_least_105 : decode cX12_least 105 = .ok (.sipush 160, 3) := by decide +kernel
theorem dX12_least_108 : decode cX12_least 108 = .ok (.iload_n 3, 1) := by decide +kernel
theorem dX12_least_109 : decode cX12_least 109 = .ok (.iload 4, 2) := by decide +kernel
theorem dX12_least_111 : decode cX12_least 111 = .ok (.invokevirtual 517, 3) := by decide +kernel
theorem dX12_least_114 : decode cX12_least 114 = .ok (.aload_n 0, 1) := by decide +kernel
theorem dX12_least_115 : decode cX12_least 115 = .ok (.sipush 162, 3) := by decide +kernel
theorem dX12_least_118 : decode cX12_least 118 = .ok (.sipush 160, 3) := by decide +kernel
theorem dX12_least_121 : decode cX12_least 121 = .ok (.invokevirtual 528, 3) := by decide +kernel
theorem dX12_least_124 : decode cX12_least 124 = .ok (.aload_n 0, 1) := by decide +kernel
theorem dX12_least_125 : decode cX12_least 125 = .ok (.getfield 20, 3) := by decide +kernel
theorem dX12_least_128 : decode cX12_least 128 = .ok (.sipush 162, 3) := by decide +kernel
theorem dX12_least_131 : decode cX12_least 131 = .ok (.baload, 1) := by decide +kernel
theorem dX12_least_132 : decode cX12_least 132 = .ok (.ifCond .eq 6, 3) := by decide +kernel
theorem dX12_least_135 : decode cX12_least 135 = .ok (.goto 36, 3) := by decide +kernel
theorem dX12_least_138 : decode cX12_least 138 = .ok (.aload_n 0, 1) := by decide +kernel
theorem dX12_least_139 : decode cX12_least 139 = .ok (.sipush 162, 3) := by decide +kernel
theorem dX12_least_142 : decode cX12_least 142 = .ok (.iload 5, 2) := by decide +kernel
theorem dX12_least_144 : decode cX12_least 144 = .ok (.invokevirtual 564, 3) := by decide +kernel
theorem dX12_least_147 : decode cX12_least 147 = .ok (.lstore 11, 2) := by decide +kernel
theorem dX12_least_149 : decode cX12_least 149 = .ok (.iload 7, 2) := by decide +kernel
theorem dX12_least_151 : decode cX12_least 151 = .ok (.ifCond .eq 13, 3) := by decide +kernel
theorem dX12_least_154 : decode cX12_least 154 = .ok (.lload 8, 2) := by decide +kernel
theorem dX12_least_156 : decode cX12_least 156 = .ok (.lload 11, 2) := by decide +kernel
theorem dX12_least_158 : decode cX12_least 158 = .ok (.invokestatic 314, 3) := by decide +kernel
theorem dX12_least_161 : decode cX12_least 161 = .ok (.goto 5, 3) := by decide +kernel
theorem dX12_least_164 : decode cX12_least 164 = .ok (.lload 11, 2) := by decide +kernel
theorem dX12_least_166 : decode cX12_least 166 = .ok (.lstore 8, 2) := by decide +kernel
theorem dX12_least_168 : decode cX12_least 168 = .ok (.iconst 1, 1) := by decide +kernel
theorem dX12_least_169 : decode cX12_least 169 = .ok (.istore 7, 2) := by decide +kernel
theorem dX12_least_171 : decode cX12_least 171 = .ok (.iinc 10 1, 3) := by decide +kernel
theorem dX12_least_174 : decode cX12_least 174 = .ok (.goto (-98), 3) := by decide +kernel
theorem dX12_least_177 : decode cX12_least 177 = .ok (.aload_n 0, 1) := by decide +kernel
theorem dX12_least_178 : decode cX12_least 178 = .ok (.getfield 63, 3) := by decide +kernel
theorem dX12_least_181 : decode cX12_least 181 = .ok (.iload_n 2, 1) := by decide +kernel
theorem dX12_least_182 : decode cX12_least 182 = .ok (.iload 6, 2) := by decide +kernel
theorem dX12_least_184 : decode cX12_least 184 = .ok (.iastore, 1) := by decide +kernel
theorem dX12_least_185 : decode cX12_least 185 = .ok (.aload_n 0, 1) := by decide +kernel
theorem dX12_least_186 : decode cX12_least 186 = .ok (.iload 7, 2) := by decide +kernel
theorem dX12_least_188 : decode cX12_least 188 = .ok (.ifCond .eq 7, 3) := by decide +kernel
theorem dX12_least_191 : decode cX12_least 191 = .ok (.iconst 0, 1) := by decide +kernel
theorem dX12_least_192 : decode cX12_least 192 = .ok (.goto 4, 3) := by decide +kernel
theorem dX12_least_195 : decode cX12_least 195 = .ok (.iconst 2, 1) := by decide +kernel
theorem dX12_least_196 : decode cX12_least 196 = .ok (.putfield 243, 3) := by decide +kernel
theorem dX12_least_199 : decode cX12_least 199 = .ok (.lload 8, 2) := by decide +kernel
theorem dX12_least_201 : decode cX12_least 201 = .ok (.lreturn, 1) := by decide +kernel
theorem dX12_speedOf_0 : decode cX12_speedOf 0 = .ok (.bipush 80, 2) := by decide +kernel
theorem dX12_speedOf_2 : decode cX12_speedOf 2 = .ok (.iconst 2, 1) := by decide +kernel
theorem dX12_speedOf_3 : decode cX12_speedOf 3 = .ok (.iload_n 1, 1) := by decide +kernel
theorem dX12_speedOf_4 : decode cX12_speedOf 4 = .ok (.imul, 1) := by decide +kernel
theorem dX12_speedOf_5 : decode cX12_speedOf 5 = .ok (.iadd, 1) := by decide +kernel
theorem dX12_speedOf_6 : decode cX12_speedOf 6 = .ok (.istore_n 3, 1) := by decide +kernel
theorem dX12_speedOf_7 : decode cX12_speedOf 7 = .ok (.aload_n 0, 1) := by decide +kernel
theorem dX12_speedOf_8 : decode cX12_speedOf 8 = .ok (.getfield 27, 3) := by decide +kernel
theorem dX12_speedOf_11 : decode cX12_speedOf 11 = .ok (.iconst 4, 1) := by decide +kernel
theorem dX12_speedOf_12 : decode cX12_speedOf 12 = .ok (.iload_n 1, 1) := by decide +kernel
theorem dX12_speedOf_13 : decode cX12_speedOf 13 = .ok (.imul, 1) := by decide +kernel
theorem dX12_speedOf_14 : decode cX12_speedOf 14 = .ok (.iaload, 1) := by decide +kernel
theorem dX12_speedOf_15 : decode cX12_speedOf 15 = .ok (.istore 4, 2) := by decide +kernel
theorem dX12_speedOf_17 : decode cX12_speedOf 17 = .ok (.aload_n 0, 1) := by decide +kernel
theorem dX12_speedOf_18 : decode cX12_speedOf 18 = .ok (.getfield 27, 3) := by decide +kernel
theorem dX12_speedOf_21 : decode cX12_speedOf 21 = .ok (.iconst 4, 1) := by decide +kernel
theorem dX12_speedOf_22 : decode cX12_speedOf 22 = .ok (.iload_n 1, 1) := by decide +kernel
theorem dX12_speedOf_23 : decode cX12_speedOf 23 = .ok (.imul, 1) := by decide +kernel
theorem dX12_speedOf_24 : decode cX12_speedOf 24 = .ok (.iconst 1, 1) := by decide +kernel
theorem dX12_speedOf_25 : decode cX12_speedOf 25 = .ok (.iadd, 1) := by decide +kernel
theorem dX12_speedOf_26 : decode cX12_speedOf 26 = .ok (.iaload, 1) := by decide +kernel
theorem dX12_speedOf_27 : decode cX12_speedOf 27 = .ok (.istore 5, 2) := by decide +kernel
theorem dX12_speedOf_29 : decode cX12_speedOf 29 = .ok (.aload_n 0, 1) := by decide +kernel
theorem dX12_speedOf_30 : decode cX12_speedOf 30 = .ok (.getfield 27, 3) := by decide +kernel
theorem dX12_speedOf_33 : decode cX12_speedOf 33 = .ok (.iconst 4, 1) := by decide +kernel
theorem dX12_speedOf_34 : decode cX12_speedOf 34 = .ok (.iload_n 1, 1) := by decide +kernel
theorem dX12_speedOf_35 : decode cX12_speedOf 35 = .ok (.imul, 1) := by decide +kernel
theorem dX12_speedOf_36 : decode cX12_speedOf 36 = .ok (.iconst 2, 1) := by decide +kernel
theorem dX12_speedOf_37 : decode cX12_speedOf 37 = .ok (.iadd, 1) := by decide +kernel
theorem dX12_speedOf_38 : decode cX12_speedOf 38 = .ok (.iaload, 1) := by decide +kernel
theorem dX12_speedOf_39 : decode cX12_speedOf 39 = .ok (.istore 6, 2) := by decide +kernel
theorem dX12_speedOf_41 : decode cX12_speedOf 41 = .ok (.aload_n 0, 1) := by decide +kernel
theorem dX12_speedOf_42 : decode cX12_speedOf 42 = .ok (.getfield 27, 3) := by decide +kernel
theorem dX12_speedOf_45 : decode cX12_speedOf 45 = .ok (.iconst 4, 1) := by decide +kernel
theorem dX12_speedOf_46 : decode cX12_speedOf 46 = .ok (.iload_n 1, 1) := by decide +kernel
theorem dX12_speedOf_47 : decode cX12_speedOf 47 = .ok (.imul, 1) := by decide +kernel
theorem dX12_speedOf_48 : decode cX12_speedOf 48 = .ok (.iconst 3, 1) := by decide +kernel
theorem dX12_speedOf_49 : decode cX12_speedOf 49 = .ok (.iadd, 1) := by decide +kernel
theorem dX12_speedOf_50 : decode cX12_speedOf 50 = .ok (.iaload, 1) := by decide +kernel
theorem dX12_speedOf_51 : decode cX12_speedOf 51 = .ok (.istore 7, 2) := by decide +kernel
theorem dX12_speedOf_53 : decode cX12_speedOf 53 = .ok (.aload_n 0, 1) := by decide +kernel
theorem dX12_speedOf_54 : decode cX12_speedOf 54 = .ok (.getfield 24, 3) := by decide +kernel
theorem dX12_speedOf_57 : decode cX12_speedOf 57 = .ok (.iload_n 1, 1) := by decide +kernel
theorem dX12_speedOf_58 : decode cX12_speedOf 58 = .ok (.iaload, 1) := by decide +kernel
theorem dX12_speedOf_59 : decode cX12_speedOf 59 = .ok (.tableswitch 330 0 4 #[33, 52, 185, 257, 270], 33) := by decide +kernel
theorem dX12_speedOf_92 : decode cX12_speedOf 92 = .ok (.aload_n 0, 1) := by decide +kernel
theorem dX12_speedOf_93 : decode cX12_speedOf 93 = .ok (.iload_n 3, 1) := by decide +kernel
theorem dX12_speedOf_94 : decode cX12_speedOf 94 = .ok (.lconst 0, 1) := by decide +kernel
theorem dX12_speedOf_95 : decode cX12_speedOf 95 = .ok (.lconst 0, 1) := by decide +kernel
theorem dX12_speedOf_96 : decode cX12_speedOf 96 = .ok (.iconst 0, 1) := by decide +kernel
theorem dX12_speedOf_97 : decode cX12_speedOf 97 = .ok (.invokevirtual 310, 3) := by decide +kernel
theorem dX12_speedOf_100 : decode cX12_speedOf 100 = .ok (.aload_n 0, 1) := by decide +kernel
theorem dX12_speedOf_101 : decode cX12_speedOf 101 = .ok (.iload_n 3, 1) := by decide +kernel
theorem dX12_speedOf_102 : decode cX12_speedOf 102 = .ok (.iconst 1, 1) := by decide +kernel
theorem dX12_speedOf_103 : decode cX12_speedOf 103 = .ok (.iadd, 1) := by decide +kernel
theorem dX12_speedOf_104 : decode cX12_speedOf 104 = .ok (.lconst 0, 1) := by decide +kernel
theorem dX12_speedOf_105 : decode cX12_speedOf 105 = .ok (.lconst 0, 1) := by decide +kernel
theorem dX12_speedOf_106 : decode cX12_speedOf 106 = .ok (.iconst 0, 1) := by decide +kernel
theorem dX12_speedOf_107 : decode cX12_speedOf 107 = .ok (.invokevirtual 310, 3) := by decide +kernel
theorem dX12_speedOf_110 : decode cX12_speedOf 110 = .ok (.return_, 1) := by decide +kernel
theorem dX12_speedOf_111 : decode cX12_speedOf 111 = .ok (.aload_n 0, 1) := by decide +kernel
theorem dX12_speedOf_112 : decode cX12_speedOf 112 = .ok (.iload_n 3, 1) := by decide +kernel
theorem dX12_speedOf_113 : decode cX12_speedOf 113 = .ok (.bipush 80, 2) := by decide +kernel
theorem dX12_speedOf_115 : decode cX12_speedOf 115 = .ok (.iconst 2, 1) := by decide +kernel
theorem dX12_speedOf_116 : decode cX12_speedOf 116 = .ok (.iload 4, 2) := by decide +kernel
theorem dX12_speedOf_118 : decode cX12_speedOf 118 = .ok (.imul, 1) := by decide +kernel
theorem dX12_speedOf_119 : decode cX12_speedOf 119 = .ok (.iadd, 1) := by decide +kernel
theorem dX12_speedOf_120 : decode cX12_speedOf 120 = .ok (.invokevirtual 479, 3) := by decide +kernel
theorem dX12_speedOf_123 : decode cX12_speedOf 123 = .ok (.aload_n 0, 1) := by decide +kernel
theorem dX12_speedOf_124 : decode cX12_speedOf 124 = .ok (.iload_n 3, 1) := by decide +kernel
theorem dX12_speedOf_125 : decode cX12_speedOf 125 = .ok (.iconst 1, 1) := by decide +kernel
theorem dX12_speedOf_126 : decode cX12_speedOf 126 = .ok (.iadd, 1) := by decide +kernel
theorem dX12_speedOf_127 : decode cX12_speedOf 127 = .ok (.bipush 80, 2) := by decide +kernel
theorem dX12_speedOf_129 : decode cX12_speedOf 129 = .ok (.iconst 2, 1) := by decide +kernel
theorem dX12_speedOf_130 : decode cX12_speedOf 130 = .ok (.iload 4, 2) := by decide +kernel
theorem dX12_speedOf_132 : decode cX12_speedOf 132 = .ok (.imul, 1) := by decide +kernel
theorem dX12_speedOf_133 : decode cX12_speedOf 133 = .ok (.iadd, 1) := by decide +kernel
theorem dX12_speedOf_134 : decode cX12_speedOf 134 = .ok (.iconst 1, 1) := by decide +kernel
theorem dX12_speedOf_135 : decode cX12_speedOf 135 = .ok (.iadd, 1) := by decide +kernel
theorem dX12_speedOf_136 : decode cX12_speedOf 136 = .ok (.invokevirtual 479, 3) := by decide +kernel
theorem dX12_speedOf_139 : decode cX12_speedOf 139 = .ok (.aload_n 0, 1) := by decide +kernel
theorem dX12_speedOf_140 : decode cX12_speedOf 140 = .ok (.getfield 42, 3) := by decide +kernel
theorem dX12_speedOf_143 : decode cX12_speedOf 143 = .ok (.iload_n 1, 1) := by decide +kernel
theorem dX12_speedOf_144 : decode cX12_speedOf 144 = .ok (.iaload, 1) := by decide +kernel
theorem dX12_speedOf_145 : decode cX12_speedOf 145 = .ok (.iload_n 2, 1) := by decide +kernel
theorem dX12_speedOf_146 : decode cX12_speedOf 146 = .ok (.if_icmp .eq 4, 3) := by decide +kernel
theorem dX12_speedOf_149 : decode cX12_speedOf 149 = .ok (.return_, 1) := by decide +kernel
theorem dX12_speedOf_150 : decode cX12_speedOf 150 = .ok (.aload_n 0, 1) := by decide +kernel
theorem dX12_speedOf_151 : decode cX12_speedOf 151 = .ok (.sipush 160, 3) := by decide +kernel
theorem dX12_speedOf_154 : decode cX12_speedOf 154 = .ok (.iload_n 1, 1) := by decide +kernel
theorem dX12_speedOf_155 : decode cX12_speedOf 155 = .ok (.invokevirtual 506, 3) := by decide +kernel
theorem dX12_speedOf_158 : decode cX12_speedOf 158 = .ok (.aload_n 0, 1) := by decide +kernel
theorem dX12_speedOf_159 : decode cX12_speedOf 159 = .ok (.sipush 162, 3) := by decide +kernel
theorem dX12_speedOf_162 : decode cX12_speedOf 162 = .ok (.aload_n 0, 1) := by decide +kernel
theorem dX12_speedOf_163 : decode cX12_speedOf 163 = .ok (.getfield 45, 3) := by decide +kernel
theorem dX12_speedOf_166 : decode cX12_speedOf 166 = .ok (.iload_n 1, 1) := by decide +kernel
theorem dX12_speedOf_167 : decode cX12_speedOf 167 = .ok (.iaload, 1) := by decide +kernel
theorem dX12_speedOf_168 : decode cX12_speedOf 168 = .ok (.i2l, 1) := by decide +kernel
theorem dX12_speedOf_169 : decode cX12_speedOf 169 = .ok (.aload_n 0, 1) := by decide +kernel
theorem dX12_speedOf_170 : decode cX12_speedOf 170 = .ok (.getfield 30, 3) := by decide +kernel
theorem dX12_speedOf_173 : decode cX12_speedOf 173 = .ok (.iload_n 1, 1) := by decide +kernel
theorem dX12_speedOf_174 : decode cX12_speedOf 174 = .ok (.laload, 1) := by decide +kernel
theorem dX12_speedOf_175 : decode cX12_speedOf 175 = .ok (.lmul, 1) := by decide +kernel
theorem dX12_speedOf_176 : decode cX12_speedOf 176 = .ok (.aload_n 0, 1) := by decide +kernel
theorem dX12_speedOf_177 : decode cX12_speedOf 177 = .ok (.getfield 33, 3) := by decide +kernel
theorem dX12_speedOf_180 : decode cX12_speedOf 180 = .ok (.iload_n 1, 1) := by decide +kernel
theorem dX12_speedOf_181 : decode cX12_speedOf 181 = .ok (.laload, 1) := by decide +kernel
theorem dX12_speedOf_182 : decode cX12_speedOf 182 = .ok (.invokevirtual 470, 3) := by decide +kernel
theorem dX12_speedOf_185 : decode cX12_speedOf 185 = .ok (.aload_n 0, 1) := by decide +kernel
theorem dX12_speedOf_186 : decode cX12_speedOf 186 = .ok (.sipush 163, 3) := by decide +kernel
theorem dX12_speedOf_189 : decode cX12_speedOf 189 = .ok (.sipush 161, 3) := by decide +kernel
theorem dX12_speedOf_192 : decode cX12_speedOf 192 = .ok (.invokevirtual 476, 3) := by decide +kernel
theorem dX12_speedOf_195 : decode cX12_speedOf 195 = .ok (.aload_n 0, 1) := by decide +kernel
theorem dX12_speedOf_196 : decode cX12_speedOf 196 = .ok (.sipush 163, 3) := by decide +kernel
theorem dX12_speedOf_199 : decode cX12_speedOf 199 = .ok (.sipush 162, 3) := by decide +kernel
theorem dX12_speedOf_202 : decode cX12_speedOf 202 = .ok (.sipush 163, 3) := by decide +kernel
theorem dX12_speedOf_205 : decode cX12_speedOf 205 = .ok (.invokevirtual 482, 3) := by decide +kernel
theorem dX12_speedOf_208 : decode cX12_speedOf 208 = .ok (.aload_n 0, 1) := by decide +kernel
theorem dX12_speedOf_209 : decode cX12_speedOf 209 = .ok (.sipush 164, 3) := by decide +kernel
theorem dX12_speedOf_212 : decode cX12_speedOf 212 = .ok (.sipush 162, 3) := by decide +kernel
theorem dX12_speedOf_215 : decode cX12_speedOf 215 = .ok (.sipush 160, 3) := by decide +kernel
theorem dX12_speedOf_218 : decode cX12_speedOf 218 = .ok (.invokevirtual 482, 3) := by decide +kernel
theorem dX12_speedOf_221 : decode cX12_speedOf 221 = .ok (.aload_n 0, 1) := by decide +kernel
theorem dX12_speedOf_222 : decode cX12_speedOf 222 = .ok (.iload_n 3, 1) := by decide +kernel
theorem dX12_speedOf_223 : decode cX12_speedOf 223 = .ok (.iload_n 3, 1) := by decide +kernel
theorem dX12_speedOf_224 : decode cX12_speedOf 224 = .ok (.sipush 163, 3) := by decide +kernel
theorem dX12_speedOf_227 : decode cX12_speedOf 227 = .ok (.invokevirtual 488, 3) := by decide +kernel
theorem dX12_speedOf_230 : decode cX12_speedOf 230 = .ok (.aload_n 0, 1) := by decide +kernel
theorem dX12_speedOf_231 : decode cX12_speedOf 231 = .ok (.iload_n 3, 1) := by decide +kernel
theorem dX12_speedOf_232 : decode cX12_speedOf 232 = .ok (.iconst 1, 1) := by decide +kernel
theorem dX12_speedOf_233 : decode cX12_speedOf 233 = .ok (.iadd, 1) := by decide +kernel
theorem dX12_speedOf_234 : decode cX12_speedOf 234 = .ok (.iload_n 3, 1) := by decide +kernel
theorem dX12_speedOf_235 : decode cX12_speedOf 235 = .ok (.iconst 1, 1) := by decide +kernel
theorem dX12_speedOf_236 : decode cX12_speedOf 236 = .ok (.iadd, 1) := by decide +kernel
theorem dX12_speedOf_237 : decode cX12_speedOf 237 = .ok (.sipush 164, 3) := by decide +kernel
theorem dX12_speedOf_240 : decode cX12_speedOf 240 = .ok (.invokevirtual 488, 3) := by decide +kernel
theorem dX12_speedOf_243 : decode cX12_speedOf 243 = .ok (.return_, 1) := by decide +kernel
theorem dX12_speedOf_244 : decode cX12_speedOf 244 = .ok (.aload_n 0, 1) := by decide +kernel
theorem dX12_speedOf_245 : decode cX12_speedOf 245 = .ok (.sipush 160, 3) := by decide +kernel
theorem dX12_speedOf_248 : decode cX12_speedOf 248 = .ok (.iload_n 1, 1) := by decide +kernel
theorem dX12_speedOf_249 : decode cX12_speedOf 249 = .ok (.iload 4, 2) := by decide +kernel
theorem dX12_speedOf_251 : decode cX12_speedOf 251 = .ok (.invokevirtual 517, 3) := by decide +kernel
theorem dX12_speedOf_254 : decode cX12_speedOf 254 = .ok (.aload_n 0, 1) := by decide +kernel
theorem dX12_speedOf_255 : decode cX12_speedOf 255 = .ok (.sipush 162, 3) := by decide +kernel
theorem dX12_speedOf_258 : decode cX12_speedOf 258 = .ok (.iload_n 1, 1) := by decide +kernel
theorem dX12_speedOf_259 : decode cX12_speedOf 259 = .ok (.iload 5, 2) := by decide +kernel
theorem dX12_speedOf_261 : decode cX12_speedOf 261 = .ok (.invokevirtual 517, 3) := by decide +kernel
theorem dX12_speedOf_264 : decode cX12_speedOf 264 = .ok (.aload_n 0, 1) := by decide +kernel
theorem dX12_speedOf_265 : decode cX12_speedOf 265 = .ok (.sipush 164, 3) := by decide +kernel
theorem dX12_speedOf_268 : decode cX12_speedOf 268 = .ok (.sipush 160, 3) := by decide +kernel
theorem dX12_speedOf_271 : decode cX12_speedOf 271 = .ok (.bipush 80, 2) := by decide +kernel
theorem dX12_speedOf_273 : decode cX12_speedOf 273 = .ok (.iconst 2, 1) := by decide +kernel
theorem dX12_speedOf_274 : decode cX12_speedOf 274 = .ok (.iload 4, 2) := by decide +kernel
theorem dX12_speedOf_276 : decode cX12_speedOf 276 = .ok (.imul, 1) := by decide +kernel
theorem dX12_speedOf_277 : decode cX12_speedOf 277 = .ok (.iadd, 1) := by decide +kernel
theorem dX12_speedOf_278 : decode cX12_speedOf 278 = .ok (.invokevirtual 547, 3) := by decide +kernel
theorem dX12_speedOf_281 : decode cX12_speedOf 281 = .ok (.aload_n 0, 1) := by decide +kernel
theorem dX12_speedOf_282 : decode cX12_speedOf 282 = .ok (.sipush 165, 3) := by decide +kernel
theorem dX12_speedOf_285 : decode cX12_speedOf 285 = .ok (.sipush 162, 3) := by decide +kernel
theorem dX12_speedOf_288 : decode cX12_speedOf 288 = .ok (.bipush 80, 2) := by decide +kernel
theorem dX12_speedOf_290 : decode cX12_speedOf 290 = .ok (.iconst 2, 1) := by decide +kernel
theorem dX12_speedOf_291 : decode cX12_speedOf 291 = .ok (.iload 5, 2) := by decide +kernel
theorem dX12_speedOf_293 : decode cX12_speedOf 293 = .ok (.imul, 1) := by decide +kernel
theorem dX12_speedOf_294 : decode cX12_speedOf 294 = .ok (.iadd, 1) := by decide +kernel
theorem dX12_speedOf_295 : decode cX12_speedOf 295 = .ok (.invokevirtual 547, 3) := by decide +kernel
theorem dX12_speedOf_298 : decode cX12_speedOf 298 = .ok (.aload_n 0, 1) := by decide +kernel
theorem dX12_speedOf_299 : decode cX12_speedOf 299 = .ok (.iload_n 3, 1) := by decide +kernel
theorem dX12_speedOf_300 : decode cX12_speedOf 300 = .ok (.sipush 160, 3) := by decide +kernel
theorem dX12_speedOf_303 : decode cX12_speedOf 303 = .ok (.sipush 162, 3) := by decide +kernel
theorem dX12_speedOf_306 : decode cX12_speedOf 306 = .ok (.sipush 164, 3) := by decide +kernel
theorem dX12_speedOf_309 : decode cX12_speedOf 309 = .ok (.sipush 165, 3) := by decide +kernel
theorem dX12_speedOf_312 : decode cX12_speedOf 312 = .ok (.invokevirtual 576, 3) := by decide +kernel
theorem dX12_speedOf_315 : decode cX12_speedOf 315 = .ok (.return_, 1) := by decide +kernel
theorem dX12_speedOf_316 : decode cX12_speedOf 316 = .ok (.aload_n 0, 1) := by decide +kernel
theorem dX12_speedOf_317 : decode cX12_speedOf 317 = .ok (.iload_n 3, 1) := by decide +kernel
theorem dX12_speedOf_318 : decode cX12_speedOf 318 = .ok (.iload_n 1, 1) := by decide +kernel
theorem dX12_speedOf_319 : decode cX12_speedOf 319 = .ok (.iload 4, 2) := by decide +kernel
theorem dX12_speedOf_321 : decode cX12_speedOf 321 = .ok (.iload 6, 2) := by decide +kernel
theorem dX12_speedOf_323 : decode cX12_speedOf 323 = .ok (.iload 7, 2) := by decide +kernel
theorem dX12_speedOf_325 : decode cX12_speedOf 325 = .ok (.invokevirtual 579, 3) := by decide +kernel
theorem dX12_speedOf_328 : decode cX12_speedOf 328 = .ok (.return_, 1) := by decide +kernel
theorem dX12_speedOf_329 : decode cX12_speedOf 329 = .ok (.aload_n 0, 1) := by decide +kernel
theorem dX12_speedOf_330 : decode cX12_speedOf 330 = .ok (.sipush 160, 3) := by decide +kernel
theorem dX12_speedOf_333 : decode cX12_speedOf 333 = .ok (.bipush 80, 2) := by decide +kernel
theorem dX12_speedOf_335 : decode cX12_speedOf 335 = .ok (.iconst 2, 1) := by decide +kernel
theorem dX12_speedOf_336 : decode cX12_speedOf 336 = .ok (.iload 5, 2) := by decide +kernel
theorem dX12_speedOf_338 : decode cX12_speedOf 338 = .ok (.imul, 1) := by decide +kernel
theorem dX12_speedOf_339 : decode cX12_speedOf 339 = .ok (.iadd, 1) := by decide +kernel
theorem dX12_speedOf_340 : decode cX12_speedOf 340 = .ok (.bipush 80, 2) := by decide +kernel
theorem dX12_speedOf_342 : decode cX12_speedOf 342 = .ok (.iconst 2, 1) := by decide +kernel
theorem dX12_speedOf_343 : decode cX12_speedOf 343 = .ok (.iload 4, 2) := by decide +kernel
theorem dX12_speedOf_345 : decode cX12_speedOf 345 = .ok (.imul, 1) := by decide +kernel
theorem dX12_speedOf_346 : decode cX12_speedOf 346 = .ok (.iadd, 1) := by decide +kernel
theorem dX12_speedOf_347 : decode cX12_speedOf 347 = .ok (.invokevirtual 485, 3) := by decide +kernel
theorem dX12_speedOf_350 : decode cX12_speedOf 350 = .ok (.aload_n 0, 1) := by decide +kernel
theorem dX12_speedOf_351 : decode cX12_speedOf 351 = .ok (.sipush 161, 3) := by decide +kernel
theorem dX12_speedOf_354 : decode cX12_speedOf 354 = .ok (.bipush 80, 2) := by decide +kernel
theorem dX12_speedOf_356 : decode cX12_speedOf 356 = .ok (.iconst 2, 1) := by decide +kernel
theorem dX12_speedOf_357 : decode cX12_speedOf 357 = .ok (.iload 5, 2) := by decide +kernel
theorem dX12_speedOf_359 : decode cX12_speedOf 359 = .ok (.imul, 1) := by decide +kernel
theorem dX12_speedOf_360 : decode cX12_speedOf 360 = .ok (.iadd, 1) := by decide +kernel
theorem dX12_speedOf_361 : decode cX12_speedOf 361 = .ok (.iconst 1, 1) := by decide +kernel
theorem dX12_speedOf_362 : decode cX12_speedOf 362 = .ok (.iadd, 1) := by decide +kernel
theorem dX12_speedOf_363 : decode cX12_speedOf 363 = .ok (.bipush 80, 2) := by decide +kernel
theorem dX12_speedOf_365 : decode cX12_speedOf 365 = .ok (.iconst 2, 1) := by decide +kernel
theorem dX12_speedOf_366 : decode cX12_speedOf 366 = .ok (.iload 4, 2) := by decide +kernel
theorem dX12_speedOf_368 : decode cX12_speedOf 368 = .ok (.imul, 1) := by decide +kernel
theorem dX12_speedOf_369 : decode cX12_speedOf 369 = .ok (.iadd, 1) := by decide +kernel
theorem dX12_speedOf_370 : decode cX12_speedOf 370 = .ok (.iconst 1, 1) := by decide +kernel
theorem dX12_speedOf_371 : decode cX12_speedOf 371 = .ok (.iadd, 1) := by decide +kernel
theorem dX12_speedOf_372 : decode cX12_speedOf 372 = .ok (.invokevirtual 485, 3) := by decide +kernel
theorem dX12_speedOf_375 : decode cX12_speedOf 375 = .ok (.aload_n 0, 1) := by decide +kernel
theorem dX12_speedOf_376 : decode cX12_speedOf 376 = .ok (.iload_n 3, 1) := by decide +kernel
theorem dX12_speedOf_377 : decode cX12_speedOf 377 = .ok (.bipush 80, 2) := by decide +kernel
theorem dX12_speedOf_379 : decode cX12_speedOf 379 = .ok (.iconst 2, 1) := by decide +kernel
theorem dX12_speedOf_380 : decode cX12_speedOf 380 = .ok (.iload 4, 2) := by decide +kernel
theorem dX12_speedOf_382 : decode cX12_speedOf 382 = .ok (.imul, 1) := by decide +kernel
theorem dX12_speedOf_383 : decode cX12_speedOf 383 = .ok (.iadd, 1) := by decide +kernel
theorem dX12_speedOf_384 : decode cX12_speedOf 384 = .ok (.iload_n 1, 1) := by decide +kernel
theorem dX12_speedOf_385 : decode cX12_speedOf 385 = .ok (.invokevirtual 520, 3) := by decide +kernel
theorem dX12_speedOf_388 : decode cX12_speedOf 388 = .ok (.return_, 1) := by decide +kernel
theorem dX12_speedOf_389 : decode cX12_speedOf 389 = .ok (.aload_n 0, 1) := by decide +kernel
theorem dX12_speedOf_390 : decode cX12_speedOf 390 = .ok (.iload_n 3, 1) := by decide +kernel
theorem dX12_speedOf_391 : decode cX12_speedOf 391 = .ok (.iload_n 1, 1) := by decide +kernel
theorem dX12_speedOf_392 : decode cX12_speedOf 392 = .ok (.iload 4, 2) := by decide +kernel
theorem dX12_speedOf_394 : decode cX12_speedOf 394 = .ok (.iload 5, 2) := by decide +kernel
theorem dX12_speedOf_396 : decode cX12_speedOf 396 = .ok (.iload 6, 2) := by decide +kernel
theorem dX12_speedOf_398 : decode cX12_speedOf 398 = .ok (.iload 7, 2) := by decide +kernel
theorem dX12_speedOf_400 : decode cX12_speedOf 400 = .ok (.invokevirtual 582, 3) := by decide +kernel
theorem dX12_speedOf_403 : decode cX12_speedOf 403 = .ok (.return_, 1) := by decide +kernel
theorem dX12_solve_0 : decode cX12_solve 0 = .ok (.aload_n 0, 1) := by decide +kernel
theorem dX12_solve_1 : decode cX12_solve 1 = .ok (.sipush 180, 3) := by decide +kernel
theorem dX12_solve_4 : decode cX12_solve 4 = .ok (.iload_n 2, 1) := by decide +kernel
theorem dX12_solve_5 : decode cX12_solve 5 = .ok (.iload_n 3, 1) := by decide +kernel
theorem dX12_solve_6 : decode cX12_solve 6 = .ok (.invokevirtual 523, 3) := by decide +kernel
theorem dX12_solve_9 : decode cX12_solve 9 = .ok (.aload_n 0, 1) := by decide +kernel
theorem dX12_solve_10 : decode cX12_solve 10 = .ok (.sipush 181, 3) := by decide +kernel
theorem dX12_solve_13 : decode cX12_solve 13 = .ok (.iload 4, 2) := by decide +kernel
theorem dX12_solve_15 : decode cX12_solve 15 = .ok (.iload_n 3, 1) := by decide +kernel
theorem dX12_solve_16 : decode cX12_solve 16 = .ok (.iconst 1, 1) := by decide +kernel
theorem dX12_solve_17 : decode cX12_solve 17 = .ok (.iadd, 1) := by decide +kernel
theorem dX12_solve_18 : decode cX12_solve 18 = .ok (.invokevirtual 482, 3) := by decide +kernel
theorem dX12_solve_21 : decode cX12_solve 21 = .ok (.aload_n 0, 1) := by decide +kernel
theorem dX12_solve_22 : decode cX12_solve 22 = .ok (.sipush 182, 3) := by decide +kernel
theorem dX12_solve_25 : decode cX12_solve 25 = .ok (.iload 5, 2) := by decide +kernel
theorem dX12_solve_27 : decode cX12_solve 27 = .ok (.iload_n 2, 1) := by decide +kernel
theorem dX12_solve_28 : decode cX12_solve 28 = .ok (.iconst 1, 1) := by decide +kernel
theorem dX12_solve_29 : decode cX12_solve 29 = .ok (.iadd, 1) := by decide +kernel
theorem dX12_solve_30 : decode cX12_solve 30 = .ok (.invokevirtual 482, 3) := by decide +kernel
theorem dX12_solve_33 : decode cX12_solve 33 = .ok (.aload_n 0, 1) := by decide +kernel
theorem dX12_solve_34 : decode cX12_solve 34 = .ok (.sipush 181, 3) := by decide +kernel
theorem dX12_solve_37 : decode cX12_solve 37 = .ok (.sipush 181, 3) := by decide +kernel
theorem dX12_solve_40 : decode cX12_solve 40 = .ok (.sipush 182, 3) := by decide +kernel
theorem dX12_solve_43 : decode cX12_solve 43 = .ok (.invokevirtual 485, 3) := by decide +kernel
theorem dX12_solve_46 : decode cX12_solve 46 = .ok (.aload_n 0, 1) := by decide +kernel
theorem dX12_solve_47 : decode cX12_solve 47 = .ok (.sipush 183, 3) := by decide +kernel
theorem dX12_solve_50 : decode cX12_solve 50 = .ok (.iload_n 2, 1) := by decide +kernel
theorem dX12_solve_51 : decode cX12_solve 51 = .ok (.iload 5, 2) := by decide +kernel
theorem dX12_solve_53 : decode cX12_solve 53 = .ok (.invokevirtual 482, 3) := by decide +kernel
theorem dX12_solve_56 : decode cX12_solve 56 = .ok (.aload_n 0, 1) := by decide +kernel
theorem dX12_solve_57 : decode cX12_solve 57 = .ok (.sipush 184, 3) := by decide +kernel
theorem dX12_solve_60 : decode cX12_solve 60 = .ok (.iload_n 3, 1) := by decide +kernel
theorem dX12_solve_61 : decode cX12_solve 61 = .ok (.iload 4, 2) := by decide +kernel
theorem dX12_solve_63 : decode cX12_solve 63 = .ok (.invokevirtual 482, 3) := by decide +kernel
theorem dX12_solve_66 : decode cX12_solve 66 = .ok (.aload_n 0, 1) := by decide +kernel
theorem dX12_solve_67 : decode cX12_solve 67 = .ok (.sipush 183, 3) := by decide +kernel
theorem dX12_solve_70 : decode cX12_solve 70 = .ok (.sipush 183, 3) := by decide +kernel
theorem dX12_solve_73 : decode cX12_solve 73 = .ok (.sipush 184, 3) := by decide +kernel
theorem dX12_solve_76 : decode cX12_solve 76 = .ok (.invokevirtual 485, 3) := by decide +kernel
theorem dX12_solve_79 : decode cX12_solve 79 = .ok (.aload_n 0, 1) := by decide +kernel
theorem dX12_solve_80 : decode cX12_solve 80 = .ok (.iload_n 1, 1) := by decide +kernel
theorem dX12_solve_81 : decode cX12_solve 81 = .ok (.sipush 181, 3) := by decide +kernel
theorem dX12_solve_84 : decode cX12_solve 84 = .ok (.sipush 180, 3) := by decide +kernel
theorem dX12_solve_87 : decode cX12_solve 87 = .ok (.invokevirtual 525, 3) := by decide +kernel
theorem dX12_solve_90 : decode cX12_solve 90 = .ok (.aload_n 0, 1) := by decide +kernel
theorem dX12_solve_91 : decode cX12_solve 91 = .ok (.iload_n 1, 1) := by decide +kernel
theorem dX12_solve_92 : decode cX12_solve 92 = .ok (.iconst 1, 1) := by decide +kernel
theorem dX12_solve_93 : decode cX12_solve 93 = .ok (.iadd, 1) := by decide +kernel
theorem dX12_solve_94 : decode cX12_solve 94 = .ok (.sipush 183, 3) := by decide +kernel
theorem dX12_solve_97 : decode cX12_solve 97 = .ok (.sipush 180, 3) := by decide +kernel
theorem dX12_solve_100 : decode cX12_solve 100 = .ok (.invokevirtual 525, 3) := by decide +kernel
theorem dX12_solve_103 : decode cX12_solve 103 = .ok (.return_, 1) := by decide +kernel
theorem dX12_speedBetween_0 : decode cX12_speedBetween 0 = .ok (.aload_n 0, 1) := by decide +kernel
theorem dX12_speedBetween_1 : decode cX12_speedBetween 1 = .ok (.iload_n 1, 1) := by decide +kernel
theorem dX12_speedBetween_2 : decode cX12_speedBetween 2 = .ok (.bipush 80, 2) := by decide +kernel
theorem dX12_speedBetween_4 : decode cX12_speedBetween 4 = .ok (.iconst 2, 1) := by decide +kernel
theorem dX12_speedBetween_5 : decode cX12_speedBetween 5 = .ok (.iload_n 2, 1) := by decide +kernel
theorem dX12_speedBetween_6 : decode cX12_speedBetween 6 = .ok (.imul, 1) := by decide +kernel
theorem dX12_speedBetween_7 : decode cX12_speedBetween 7 = .ok (.iadd, 1) := by decide +kernel
theorem dX12_speedBetween_8 : decode cX12_speedBetween 8 = .ok (.bipush 80, 2) := by decide +kernel
theorem dX12_speedBetween_10 : decode cX12_speedBetween 10 = .ok (.iconst 2, 1) := by decide +kernel
theorem dX12_speedBetween_11 : decode cX12_speedBetween 11 = .ok (.iload_n 3, 1) := by decide +kernel
theorem dX12_speedBetween_12 : decode cX12_speedBetween 12 = .ok (.imul, 1) := by decide +kernel
theorem dX12_speedBetween_13 : decode cX12_speedBetween 13 = .ok (.iadd, 1) := by decide +kernel
theorem dX12_speedBetween_14 : decode cX12_speedBetween 14 = .ok (.invokevirtual 485, 3) := by decide +kernel
theorem dX12_speedBetween_17 : decode cX12_speedBetween 17 = .ok (.aload_n 0, 1) := by decide +kernel
theorem dX12_speedBetween_18 : decode cX12_speedBetween 18 = .ok (.iload_n 1, 1) := by decide +kernel
theorem dX12_speedBetween_19 : decode cX12_speedBetween 19 = .ok (.iconst 1, 1) := by decide +kernel
theorem dX12_speedBetween_20 : decode cX12_speedBetween 20 = .ok (.iadd, 1) := by decide +kernel
theorem dX12_speedBetween_21 : decode cX12_speedBetween 21 = .ok (.bipush 80, 2) := by decide +kernel
theorem dX12_speedBetween_23 : decode cX12_speedBetween 23 = .ok (.iconst 2, 1) := by decide +kernel
theorem dX12_speedBetween_24 : decode cX12_speedBetween 24 = .ok (.iload_n 2, 1) := by decide +kernel
theorem dX12_speedBetween_25 : decode cX12_speedBetween 25 = .ok (.imul, 1) := by decide +kernel
theorem dX12_speedBetween_26 : decode cX12_speedBetween 26 = .ok (.iadd, 1) := by decide +kernel
theorem dX12_speedBetween_27 : decode cX12_speedBetween 27 = .ok (.iconst 1, 1) := by decide +kernel
theorem dX12_speedBetween_28 : decode cX12_speedBetween 28 = .ok (.iadd, 1) := by decide +kernel
theorem dX12_speedBetween_29 : decode cX12_speedBetween 29 = .ok (.bipush 80, 2) := by decide +kernel
theorem dX12_speedBetween_31 : decode cX12_speedBetween 31 = .ok (.iconst 2, 1) := by decide +kernel
theorem dX12_speedBetween_32 : decode cX12_speedBetween 32 = .ok (.iload_n 3, 1) := by decide +kernel
theorem dX12_speedBetween_33 : decode cX12_speedBetween 33 = .ok (.imul, 1) := by decide +kernel
theorem dX12_speedBetween_34 : decode cX12_speedBetween 34 = .ok (.iadd, 1) := by decide +kernel
theorem dX12_speedBetween_35 : decode cX12_speedBetween 35 = .ok (.iconst 1, 1) := by decide +kernel
theorem dX12_speedBetween_36 : decode cX12_speedBetween 36 = .ok (.iadd, 1) := by decide +kernel
theorem dX12_speedBetween_37 : decode cX12_speedBetween 37 = .ok (.invokevirtual 485, 3) := by decide +kernel
theorem dX12_speedBetween_40 : decode cX12_speedBetween 40 = .ok (.return_, 1) := by decide +kernel
theorem dX12_slideSpeed_0 : decode cX12_slideSpeed 0 = .ok (.aload_n 0, 1) := by decide +kernel
theorem dX12_slideSpeed_1 : decode cX12_slideSpeed 1 = .ok (.sipush 160, 3) := by decide +kernel
theorem dX12_slideSpeed_4 : decode cX12_slideSpeed 4 = .ok (.iload_n 2, 1) := by decide +kernel
theorem dX12_slideSpeed_5 : decode cX12_slideSpeed 5 = .ok (.iload_n 3, 1) := by decide +kernel
theorem dX12_slideSpeed_6 : decode cX12_slideSpeed 6 = .ok (.invokevirtual 517, 3) := by decide +kernel
theorem dX12_slideSpeed_9 : decode cX12_slideSpeed 9 = .ok (.aload_n 0, 1) := by decide +kernel
theorem dX12_slideSpeed_10 : decode cX12_slideSpeed 10 = .ok (.sipush 162, 3) := by decide +kernel
theorem dX12_slideSpeed_13 : decode cX12_slideSpeed 13 = .ok (.iload 5, 2) := by decide +kernel
theorem dX12_slideSpeed_15 : decode cX12_slideSpeed 15 = .ok (.iload 4, 2) := by decide +kernel
theorem dX12_slideSpeed_17 : decode cX12_slideSpeed 17 = .ok (.invokevirtual 517, 3) := by decide +kernel
theorem dX12_slideSpeed_20 : decode cX12_slideSpeed 20 = .ok (.aload_n 0, 1) := by decide +kernel
theorem dX12_slideSpeed_21 : decode cX12_slideSpeed 21 = .ok (.sipush 164, 3) := by decide +kernel
theorem dX12_slideSpeed_24 : decode cX12_slideSpeed 24 = .ok (.iload 5, 2) := by decide +kernel
theorem dX12_slideSpeed_26 : decode cX12_slideSpeed 26 = .ok (.iload 4, 2) := by decide +kernel
theorem dX12_slideSpeed_28 : decode cX12_slideSpeed 28 = .ok (.invokevirtual 586, 3) := by decide +kernel
theorem dX12_slideSpeed_31 : decode cX12_slideSpeed 31 = .ok (.aload_n 0, 1) := by decide +kernel
theorem dX12_slideSpeed_32 : decode cX12_slideSpeed 32 = .ok (.sipush 166, 3) := by decide +kernel
theorem dX12_slideSpeed_35 : decode cX12_slideSpeed 35 = .ok (.iload_n 2, 1) := by decide +kernel
theorem dX12_slideSpeed_36 : decode cX12_slideSpeed 36 = .ok (.iload 4, 2) := by decide +kernel
theorem dX12_slideSpeed_38 : decode cX12_slideSpeed 38 = .ok (.invokevirtual 517, 3) := by decide +kernel
theorem dX12_slideSpeed_41 : decode cX12_slideSpeed 41 = .ok (.aload_n 0, 1) := by decide +kernel
theorem dX12_slideSpeed_42 : decode cX12_slideSpeed 42 = .ok (.sipush 168, 3) := by decide +kernel
theorem dX12_slideSpeed_45 : decode cX12_slideSpeed 45 = .ok (.sipush 160, 3) := by decide +kernel
theorem dX12_slideSpeed_48 : decode cX12_slideSpeed 48 = .ok (.bipush 80, 2) := by decide +kernel
theorem dX12_slideSpeed_50 : decode cX12_slideSpeed 50 = .ok (.iconst 2, 1) := by decide +kernel
theorem dX12_slideSpeed_51 : decode cX12_slideSpeed 51 = .ok (.iload_n 3, 1) := by decide +kernel
theorem dX12_slideSpeed_52 : decode cX12_slideSpeed 52 = .ok (.imul, 1) := by decide +kernel
theorem dX12_slideSpeed_53 : decode cX12_slideSpeed 53 = .ok (.iadd, 1) := by decide +kernel
theorem dX12_slideSpeed_54 : decode cX12_slideSpeed 54 = .ok (.invokevirtual 547, 3) := by decide +kernel
theorem dX12_slideSpeed_57 : decode cX12_slideSpeed 57 = .ok (.aload_n 0, 1) := by decide +kernel
theorem dX12_slideSpeed_58 : decode cX12_slideSpeed 58 = .ok (.sipush 169, 3) := by decide +kernel
theorem dX12_slideSpeed_61 : decode cX12_slideSpeed 61 = .ok (.bipush 80, 2) := by decide +kernel
theorem dX12_slideSpeed_63 : decode cX12_slideSpeed 63 = .ok (.iconst 2, 1) := by decide +kernel
theorem dX12_slideSpeed_64 : decode cX12_slideSpeed 64 = .ok (.iload 4, 2) := by decide +kernel
theorem dX12_slideSpeed_66 : decode cX12_slideSpeed 66 = .ok (.imul, 1) := by decide +kernel
theorem dX12_slideSpeed_67 : decode cX12_slideSpeed 67 = .ok (.iadd, 1) := by decide +kernel
theorem dX12_slideSpeed_68 : decode cX12_slideSpeed 68 = .ok (.sipush 162, 3) := by decide +kernel
theorem dX12_slideSpeed_71 : decode cX12_slideSpeed 71 = .ok (.sipush 166, 3) := by decide +kernel
theorem dX12_slideSpeed_74 : decode cX12_slideSpeed 74 = .ok (.sipush 164, 3) := by decide +kernel
theorem dX12_slideSpeed_77 : decode cX12_slideSpeed 77 = .ok (.invokevirtual 589, 3) := by decide +kernel
theorem dX12_slideSpeed_80 : decode cX12_slideSpeed 80 = .ok (.aload_n 0, 1) := by decide +kernel
theorem dX12_slideSpeed_81 : decode cX12_slideSpeed 81 = .ok (.sipush 170, 3) := by decide +kernel
theorem dX12_slideSpeed_84 : decode cX12_slideSpeed 84 = .ok (.sipush 160, 3) := by decide +kernel
theorem dX12_slideSpeed_87 : decode cX12_slideSpeed 87 = .ok (.sipush 162, 3) := by decide +kernel
theorem dX12_slideSpeed_90 : decode cX12_slideSpeed 90 = .ok (.invokevirtual 547, 3) := by decide +kernel
theorem dX12_slideSpeed_93 : decode cX12_slideSpeed 93 = .ok (.aload_n 0, 1) := by decide +kernel
theorem dX12_slideSpeed_94 : decode cX12_slideSpeed 94 = .ok (.sipush 170, 3) := by decide +kernel
theorem dX12_slideSpeed_97 : decode cX12_slideSpeed 97 = .ok (.sipush 170, 3) := by decide +kernel
theorem dX12_slideSpeed_100 : decode cX12_slideSpeed 100 = .ok (.invokevirtual 476, 3) := by decide +kernel
theorem dX12_slideSpeed_103 : decode cX12_slideSpeed 103 = .ok (.aload_n 0, 1) := by decide +kernel
theorem dX12_slideSpeed_104 : decode cX12_slideSpeed 104 = .ok (.sipush 171, 3) := by decide +kernel
theorem dX12_slideSpeed_107 : decode cX12_slideSpeed 107 = .ok (.sipush 162, 3) := by decide +kernel
theorem dX12_slideSpeed_110 : decode cX12_slideSpeed 110 = .ok (.invokevirtual 476, 3) := by decide +kernel
theorem dX12_slideSpeed_113 : decode cX12_slideSpeed 113 = .ok (.aload_n 0, 1) := by decide +kernel
theorem dX12_slideSpeed_114 : decode cX12_slideSpeed 114 = .ok (.sipush 171, 3) := by decide +kernel
theorem dX12_slideSpeed_117 : decode cX12_slideSpeed 117 = .ok (.sipush 171, 3) := by decide +kernel
theorem dX12_slideSpeed_120 : decode cX12_slideSpeed 120 = .ok (.sipush 168, 3) := by decide +kernel
theorem dX12_slideSpeed_123 : decode cX12_slideSpeed 123 = .ok (.invokevirtual 482, 3) := by decide +kernel
theorem dX12_slideSpeed_126 : decode cX12_slideSpeed 126 = .ok (.aload_n 0, 1) := by decide +kernel
theorem dX12_slideSpeed_127 : decode cX12_slideSpeed 127 = .ok (.sipush 172, 3) := by decide +kernel
theorem dX12_slideSpeed_130 : decode cX12_slideSpeed 130 = .ok (.sipush 161, 3) := by decide +kernel
theorem dX12_slideSpeed_133 : decode cX12_slideSpeed 133 = .ok (.sipush 169, 3) := by decide +kernel
theorem dX12_slideSpeed_136 : decode cX12_slideSpeed 136 = .ok (.invokevirtual 482, 3) := by decide +kernel
theorem dX12_slideSpeed_139 : decode cX12_slideSpeed 139 = .ok (.aload_n 0, 1) := by decide +kernel
theorem dX12_slideSpeed_140 : decode cX12_slideSpeed 140 = .ok (.sipush 171, 3) := by decide +kernel
theorem dX12_slideSpeed_143 : decode cX12_slideSpeed 143 = .ok (.sipush 171, 3) := by decide +kernel
theorem dX12_slideSpeed_146 : decode cX12_slideSpeed 146 = .ok (.sipush 172, 3) := by decide +kernel
theorem dX12_slideSpeed_149 : decode cX12_slideSpeed 149 = .ok (.invokevirtual 485, 3) := by decide +kernel
theorem dX12_slideSpeed_152 : decode cX12_slideSpeed 152 = .ok (.aload_n 0, 1) := by decide +kernel
theorem dX12_slideSpeed_153 : decode cX12_slideSpeed 153 = .ok (.sipush 173, 3) := by decide +kernel
theorem dX12_slideSpeed_156 : decode cX12_slideSpeed 156 = .ok (.sipush 160, 3) := by decide +kernel
theorem dX12_slideSpeed_159 : decode cX12_slideSpeed 159 = .ok (.sipush 169, 3) := by decide +kernel
theorem dX12_slideSpeed_162 : decode cX12_slideSpeed 162 = .ok (.invokevirtual 482, 3) := by decide +kernel
theorem dX12_slideSpeed_165 : decode cX12_slideSpeed 165 = .ok (.aload_n 0, 1) := by decide +kernel
theorem dX12_slideSpeed_166 : decode cX12_slideSpeed 166 = .ok (.sipush 174, 3) := by decide +kernel
theorem dX12_slideSpeed_169 : decode cX12_slideSpeed 169 = .ok (.sipush 163, 3) := by decide +kernel
theorem dX12_slideSpeed_172 : decode cX12_slideSpeed 172 = .ok (.sipush 168, 3) := by decide +kernel
theorem dX12_slideSpeed_175 : decode cX12_slideSpeed 175 = .ok (.invokevirtual 482, 3) := by decide +kernel
theorem dX12_slideSpeed_178 : decode cX12_slideSpeed 178 = .ok (.aload_n 0, 1) := by decide +kernel
theorem dX12_slideSpeed_179 : decode cX12_slideSpeed 179 = .ok (.sipush 173, 3) := by decide +kernel
theorem dX12_slideSpeed_182 : decode cX12_slideSpeed 182 = .ok (.sipush 173, 3) := by decide +kernel
theorem dX12_slideSpeed_185 : decode cX12_slideSpeed 185 = .ok (.sipush 174, 3) := by decide +kernel
theorem dX12_slideSpeed_188 : decode cX12_slideSpeed 188 = .ok (.invokevirtual 485, 3) := by decide +kernel
theorem dX12_slideSpeed_191 : decode cX12_slideSpeed 191 = .ok (.aload_n 0, 1) := by decide +kernel
theorem dX12_slideSpeed_192 : decode cX12_slideSpeed 192 = .ok (.iload_n 1, 1) := by decide +kernel
theorem dX12_slideSpeed_193 : decode cX12_slideSpeed 193 = .ok (.sipush 171, 3) := by decide +kernel
theorem dX12_slideSpeed_196 : decode cX12_slideSpeed 196 = .ok (.sipush 170, 3) := by decide +kernel
theorem dX12_slideSpeed_199 : decode cX12_slideSpeed 199 = .ok (.invokevirtual 525, 3) := by decide +kernel
theorem dX12_slideSpeed_202 : decode cX12_slideSpeed 202 = .ok (.aload_n 0, 1) := by decide +kernel
theorem dX12_slideSpeed_203 : decode cX12_slideSpeed 203 = .ok (.iload_n 1, 1) := by decide +kernel
theorem dX12_slideSpeed_204 : decode cX12_slideSpeed 204 = .ok (.iconst 1, 1) := by decide +kernel
theorem dX12_slideSpeed_205 : decode cX12_slideSpeed 205 = .ok (.iadd, 1) := by decide +kernel
theorem dX12_slideSpeed_206 : decode cX12_slideSpeed 206 = .ok (.sipush 173, 3) := by decide +kernel
theorem dX12_slideSpeed_209 : decode cX12_slideSpeed 209 = .ok (.sipush 170, 3) := by decide +kernel
theorem dX12_slideSpeed_212 : decode cX12_slideSpeed 212 = .ok (.invokevirtual 525, 3) := by decide +kernel
theorem dX12_slideSpeed_215 : decode cX12_slideSpeed 215 = .ok (.return_, 1) := by decide +kernel
theorem dX12_lineSpeed_0 : decode cX12_lineSpeed 0 = .ok (.aload_n 0, 1) := by decide +kernel
theorem dX12_lineSpeed_1 : decode cX12_lineSpeed 1 = .ok (.iload_n 1, 1) := by decide +kernel
theorem dX12_lineSpeed_2 : decode cX12_lineSpeed 2 = .ok (.iload_n 2, 1) := by decide +kernel
theorem dX12_lineSpeed_3 : decode cX12_lineSpeed 3 = .ok (.iload_n 3, 1) := by decide +kernel
theorem dX12_lineSpeed_4 : decode cX12_lineSpeed 4 = .ok (.invokevirtual 523, 3) := by decide +kernel
theorem dX12_lineSpeed_7 : decode cX12_lineSpeed 7 = .ok (.aload_n 0, 1) := by decide +kernel
theorem dX12_lineSpeed_8 : decode cX12_lineSpeed 8 = .ok (.sipush 190, 3) := by decide +kernel
theorem dX12_lineSpeed_11 : decode cX12_lineSpeed 11 = .ok (.iload 4, 2) := by decide +kernel
theorem dX12_lineSpeed_13 : decode cX12_lineSpeed 13 = .ok (.iload 5, 2) := by decide +kernel
theorem dX12_lineSpeed_15 : decode cX12_lineSpeed 15 = .ok (.invokevirtual 523, 3) := by decide +kernel
theorem dX12_lineSpeed_18 : decode cX12_lineSpeed 18 = .ok (.aload_n 0, 1) := by decide +kernel
theorem dX12_lineSpeed_19 : decode cX12_lineSpeed 19 = .ok (.iload_n 1, 1) := by decide +kernel
theorem dX12_lineSpeed_20 : decode cX12_lineSpeed 20 = .ok (.iload_n 1, 1) := by decide +kernel
theorem dX12_lineSpeed_21 : decode cX12_lineSpeed 21 = .ok (.sipush 190, 3) := by decide +kernel
theorem dX12_lineSpeed_24 : decode cX12_lineSpeed 24 = .ok (.invokevirtual 485, 3) := by decide +kernel
theorem dX12_lineSpeed_27 : decode cX12_lineSpeed 27 = .ok (.return_, 1) := by decide +kernel
theorem dX12_crossSpeed_0 : decode cX12_crossSpeed 0 = .ok (.aload_n 0, 1) := by decide +kernel
theorem dX12_crossSpeed_1 : decode cX12_crossSpeed 1 = .ok (.sipush 160, 3) := by decide +kernel
theorem dX12_crossSpeed_4 : decode cX12_crossSpeed 4 = .ok (.iload 4, 2) := by decide +kernel
theorem dX12_crossSpeed_6 : decode cX12_crossSpeed 6 = .ok (.iload_n 3, 1) := by decide +kernel
theorem dX12_crossSpeed_7 : decode cX12_crossSpeed 7 = .ok (.invokevirtual 517, 3) := by decide +kernel
theorem dX12_crossSpeed_10 : decode cX12_crossSpeed 10 = .ok (.aload_n 0, 1) := by decide +kernel
theorem dX12_crossSpeed_11 : decode cX12_crossSpeed 11 = .ok (.sipush 162, 3) := by decide +kernel
theorem dX12_crossSpeed_14 : decode cX12_crossSpeed 14 = .ok (.iload 6, 2) := by decide +kernel
theorem dX12_crossSpeed_16 : decode cX12_crossSpeed 16 = .ok (.iload 5, 2) := by decide +kernel
theorem dX12_crossSpeed_18 : decode cX12_crossSpeed 18 = .ok (.invokevirtual 517, 3) := by decide +kernel
theorem dX12_crossSpeed_21 : decode cX12_crossSpeed 21 = .ok (.aload_n 0, 1) := by decide +kernel
theorem dX12_crossSpeed_22 : decode cX12_crossSpeed 22 = .ok (.sipush 164, 3) := by decide +kernel
theorem dX12_crossSpeed_25 : decode cX12_crossSpeed 25 = .ok (.iload_n 2, 1) := by decide +kernel
theorem dX12_crossSpeed_26 : decode cX12_crossSpeed 26 = .ok (.iload_n 3, 1) := by decide +kernel
theorem dX12_crossSpeed_27 : decode cX12_crossSpeed 27 = .ok (.invokevirtual 517, 3) := by decide +kernel
theorem dX12_crossSpeed_30 : decode cX12_crossSpeed 30 = .ok (.aload_n 0, 1) := by decide +kernel
theorem dX12_crossSpeed_31 : decode cX12_crossSpeed 31 = .ok (.sipush 166, 3) := by decide +kernel
theorem dX12_crossSpeed_34 : decode cX12_crossSpeed 34 = .ok (.iload 4, 2) := by decide +kernel
theorem dX12_crossSpeed_36 : decode cX12_crossSpeed 36 = .ok (.iload_n 3, 1) := by decide +kernel
theorem dX12_crossSpeed_37 : decode cX12_crossSpeed 37 = .ok (.invokevirtual 586, 3) := by decide +kernel
theorem dX12_crossSpeed_40 : decode cX12_crossSpeed 40 = .ok (.aload_n 0, 1) := by decide +kernel
theorem dX12_crossSpeed_41 : decode cX12_crossSpeed 41 = .ok (.sipush 168, 3) := by decide +kernel
theorem dX12_crossSpeed_44 : decode cX12_crossSpeed 44 = .ok (.bipush 80, 2) := by decide +kernel
theorem dX12_crossSpeed_46 : decode cX12_crossSpeed 46 = .ok (.iconst 2, 1) := by decide +kernel
theorem dX12_crossSpeed_47 : decode cX12_crossSpeed 47 = .ok (.iload_n 3, 1) := by decide +kernel
theorem dX12_crossSpeed_48 : decode cX12_crossSpeed 48 = .ok (.imul, 1) := by decide +kernel
theorem dX12_crossSpeed_49 : decode cX12_crossSpeed 49 = .ok (.iadd, 1) := by decide +kernel
theorem dX12_crossSpeed_50 : decode cX12_crossSpeed 50 = .ok (.sipush 160, 3) := by decide +kernel
theorem dX12_crossSpeed_53 : decode cX12_crossSpeed 53 = .ok (.sipush 164, 3) := by decide +kernel
theorem dX12_crossSpeed_56 : decode cX12_crossSpeed 56 = .ok (.sipush 166, 3) := by decide +kernel
theorem dX12_crossSpeed_59 : decode cX12_crossSpeed 59 = .ok (.invokevirtual 589, 3) := by decide +kernel
theorem dX12_crossSpeed_62 : decode cX12_crossSpeed 62 = .ok (.aload_n 0, 1) := by decide +kernel
theorem dX12_crossSpeed_63 : decode cX12_crossSpeed 63 = .ok (.sipush 164, 3) := by decide +kernel
theorem dX12_crossSpeed_66 : decode cX12_crossSpeed 66 = .ok (.iload_n 2, 1) := by decide +kernel
theorem dX12_crossSpeed_67 : decode cX12_crossSpeed 67 = .ok (.iload 5, 2) := by decide +kernel
theorem dX12_crossSpeed_69 : decode cX12_crossSpeed 69 = .ok (.invokevirtual 517, 3) := by decide +kernel
theorem dX12_crossSpeed_72 : decode cX12_crossSpeed 72 = .ok (.aload_n 0, 1) := by decide +kernel
theorem dX12_crossSpeed_73 : decode cX12_crossSpeed 73 = .ok (.sipush 166, 3) := by decide +kernel
theorem dX12_crossSpeed_76 : decode cX12_crossSpeed 76 = .ok (.iload 6, 2) := by decide +kernel
theorem dX12_crossSpeed_78 : decode cX12_crossSpeed 78 = .ok (.iload 5, 2) := by decide +kernel
theorem dX12_crossSpeed_80 : decode cX12_crossSpeed 80 = .ok (.invokevirtual 586, 3) := by decide +kernel
theorem dX12_crossSpeed_83 : decode cX12_crossSpeed 83 = .ok (.aload_n 0, 1) := by decide +kernel
theorem dX12_crossSpeed_84 : decode cX12_crossSpeed 84 = .ok (.sipush 169, 3) := by decide +kernel
theorem dX12_crossSpeed_87 : decode cX12_crossSpeed 87 = .ok (.bipush 80, 2) := by decide +kernel
theorem dX12_crossSpeed_89 : decode cX12_crossSpeed 89 = .ok (.iconst 2, 1) := by decide +kernel
theorem dX12_crossSpeed_90 : decode cX12_crossSpeed 90 = .ok (.iload 5, 2) := by decide +kernel
theorem dX12_crossSpeed_92 : decode cX12_crossSpeed 92 = .ok (.imul, 1) := by decide +kernel
theorem dX12_crossSpeed_93 : decode cX12_crossSpeed 93 = .ok (.iadd, 1) := by decide +kernel
theorem dX12_crossSpeed_94 : decode cX12_crossSpeed 94 = .ok (.sipush 162, 3) := by decide +kernel
theorem dX12_crossSpeed_97 : decode cX12_crossSpeed 97 = .ok (.sipush 164, 3) := by decide +kernel
theorem dX12_crossSpeed_100 : decode cX12_crossSpeed 100 = .ok (.sipush 166, 3) := by decide +kernel
theorem dX12_crossSpeed_103 : decode cX12_crossSpeed 103 = .ok (.invokevirtual 589, 3) := by decide +kernel
theorem dX12_crossSpeed_106 : decode cX12_crossSpeed 106 = .ok (.aload_n 0, 1) := by decide +kernel
theorem dX12_crossSpeed_107 : decode cX12_crossSpeed 107 = .ok (.sipush 170, 3) := by decide +kernel
theorem dX12_crossSpeed_110 : decode cX12_crossSpeed 110 = .ok (.sipush 160, 3) := by decide +kernel
theorem dX12_crossSpeed_113 : decode cX12_crossSpeed 113 = .ok (.sipush 162, 3) := by decide +kernel
theorem dX12_crossSpeed_116 : decode cX12_crossSpeed 116 = .ok (.invokevirtual 523, 3) := by decide +kernel
theorem dX12_crossSpeed_119 : decode cX12_crossSpeed 119 = .ok (.aload_n 0, 1) := by decide +kernel
theorem dX12_crossSpeed_120 : decode cX12_crossSpeed 120 = .ok (.sipush 171, 3) := by decide +kernel
theorem dX12_crossSpeed_123 : decode cX12_crossSpeed 123 = .ok (.sipush 160, 3) := by decide +kernel
theorem dX12_crossSpeed_126 : decode cX12_crossSpeed 126 = .ok (.sipush 169, 3) := by decide +kernel
theorem dX12_crossSpeed_129 : decode cX12_crossSpeed 129 = .ok (.invokevirtual 482, 3) := by decide +kernel
theorem dX12_crossSpeed_132 : decode cX12_crossSpeed 132 = .ok (.aload_n 0, 1) := by decide +kernel
theorem dX12_crossSpeed_133 : decode cX12_crossSpeed 133 = .ok (.sipush 172, 3) := by decide +kernel
theorem dX12_crossSpeed_136 : decode cX12_crossSpeed 136 = .ok (.sipush 162, 3) := by decide +kernel
theorem dX12_crossSpeed_139 : decode cX12_crossSpeed 139 = .ok (.sipush 168, 3) := by decide +kernel
theorem dX12_crossSpeed_142 : decode cX12_crossSpeed 142 = .ok (.invokevirtual 482, 3) := by decide +kernel
theorem dX12_crossSpeed_145 : decode cX12_crossSpeed 145 = .ok (.aload_n 0, 1) := by decide +kernel
theorem dX12_crossSpeed_146 : decode cX12_crossSpeed 146 = .ok (.sipush 171, 3) := by decide +kernel
theorem dX12_crossSpeed_149 : decode cX12_crossSpeed 149 = .ok (.sipush 171, 3) := by decide +kernel
theorem dX12_crossSpeed_152 : decode cX12_crossSpeed 152 = .ok (.sipush 172, 3) := by decide +kernel
theorem dX12_crossSpeed_155 : decode cX12_crossSpeed 155 = .ok (.invokevirtual 485, 3) := by decide +kernel
theorem dX12_crossSpeed_158 : decode cX12_crossSpeed 158 = .ok (.aload_n 0, 1) := by decide +kernel
theorem dX12_crossSpeed_159 : decode cX12_crossSpeed 159 = .ok (.sipush 173, 3) := by decide +kernel
theorem dX12_crossSpeed_162 : decode cX12_crossSpeed 162 = .ok (.sipush 161, 3) := by decide +kernel
theorem dX12_crossSpeed_165 : decode cX12_crossSpeed 165 = .ok (.sipush 169, 3) := by decide +kernel
theorem dX12_crossSpeed_168 : decode cX12_crossSpeed 168 = .ok (.invokevirtual 482, 3) := by decide +kernel
theorem dX12_crossSpeed_171 : decode cX12_crossSpeed 171 = .ok (.aload_n 0, 1) := by decide +kernel
theorem dX12_crossSpeed_172 : decode cX12_crossSpeed 172 = .ok (.sipush 174, 3) := by decide +kernel
theorem dX12_crossSpeed_175 : decode cX12_crossSpeed 175 = .ok (.sipush 163, 3) := by decide +kernel
theorem dX12_crossSpeed_178 : decode cX12_crossSpeed 178 = .ok (.sipush 168, 3) := by decide +kernel
theorem dX12_crossSpeed_181 : decode cX12_crossSpeed 181 = .ok (.invokevirtual 482, 3) := by decide +kernel
theorem dX12_crossSpeed_184 : decode cX12_crossSpeed 184 = .ok (.aload_n 0, 1) := by decide +kernel
theorem dX12_crossSpeed_185 : decode cX12_crossSpeed 185 = .ok (.sipush 173, 3) := by decide +kernel
theorem dX12_crossSpeed_188 : decode cX12_crossSpeed 188 = .ok (.sipush 173, 3) := by decide +kernel
theorem dX12_crossSpeed_191 : decode cX12_crossSpeed 191 = .ok (.sipush 174, 3) := by decide +kernel
theorem dX12_crossSpeed_194 : decode cX12_crossSpeed 194 = .ok (.invokevirtual 485, 3) := by decide +kernel
theorem dX12_crossSpeed_197 : decode cX12_crossSpeed 197 = .ok (.aload_n 0, 1) := by decide +kernel
theorem dX12_crossSpeed_198 : decode cX12_crossSpeed 198 = .ok (.iload_n 1, 1) := by decide +kernel
theorem dX12_crossSpeed_199 : decode cX12_crossSpeed 199 = .ok (.sipush 171, 3) := by decide +kernel
theorem dX12_crossSpeed_202 : decode cX12_crossSpeed 202 = .ok (.sipush 170, 3) := by decide +kernel
theorem dX12_crossSpeed_205 : decode cX12_crossSpeed 205 = .ok (.invokevirtual 525, 3) := by decide +kernel
theorem dX12_crossSpeed_208 : decode cX12_crossSpeed 208 = .ok (.aload_n 0, 1) := by decide +kernel
theorem dX12_crossSpeed_209 : decode cX12_crossSpeed 209 = .ok (.iload_n 1, 1) := by decide +kernel
theorem dX12_crossSpeed_210 : decode cX12_crossSpeed 210 = .ok (.iconst 1, 1) := by decide +kernel
theorem dX12_crossSpeed_211 : decode cX12_crossSpeed 211 = .ok (.iadd, 1) := by decide +kernel
theorem dX12_crossSpeed_212 : decode cX12_crossSpeed 212 = .ok (.sipush 173, 3) := by decide +kernel
theorem dX12_crossSpeed_215 : decode cX12_crossSpeed 215 = .ok (.sipush 170, 3) := by decide +kernel
theorem dX12_crossSpeed_218 : decode cX12_crossSpeed 218 = .ok (.invokevirtual 525, 3) := by decide +kernel
theorem dX12_crossSpeed_221 : decode cX12_crossSpeed 221 = .ok (.return_, 1) := by decide +kernel
theorem dX12_speeds_0 : decode cX12_speeds 0 = .ok (.iconst 0, 1) := by decide +kernel
theorem dX12_speeds_1 : decode cX12_speeds 1 = .ok (.istore_n 2, 1) := by decide +kernel
theorem dX12_speeds_2 : decode cX12_speeds 2 = .ok (.iload_n 2, 1) := by decide +kernel
theorem dX12_speeds_3 : decode cX12_speeds 3 = .ok (.aload_n 0, 1) := by decide +kernel
theorem dX12_speeds_4 : decode cX12_speeds 4 = .ok (.getfield 460, 3) := by decide +kernel
theorem dX12_speeds_7 : decode cX12_speeds 7 = .ok (.if_icmp .ge 20, 3) := by decide +kernel
theorem dX12_speeds_10 : decode cX12_speeds 10 = .ok (.aload_n 0, 1) := by decide +kernel
theorem dX12_speeds_11 : decode cX12_speeds 11 = .ok (.aload_n 0, 1) := by decide +kernel
theorem dX12_speeds_12 : decode cX12_speeds 12 = .ok (.getfield 60, 3) := by decide +kernel
theorem dX12_speeds_15 : decode cX12_speeds 15 = .ok (.iload_n 2, 1) := by decide +kernel
theorem dX12_speeds_16 : decode cX12_speeds 16 = .ok (.iaload, 1) := by decide +kernel
theorem dX12_speeds_17 : decode cX12_speeds 17 = .ok (.iload_n 1, 1) := by decide +kernel
theorem dX12_speeds_18 : decode cX12_speeds 18 = .ok (.invokevirtual 592, 3) := by decide +kernel
theorem dX12_speeds_21 : decode cX12_speeds 21 = .ok (.iinc 2 1, 3) := by decide +kernel
theorem dX12_speeds_24 : decode cX12_speeds 24 = .ok (.goto (-22), 3) := by decide +kernel
theorem dX12_speeds_27 : decode cX12_speeds 27 = .ok (.return_, 1) := by decide +kernel
theorem dX12_isSpeedOpen_0 : decode cX12_isSpeedOpen 0 = .ok (.aload_n 0, 1) := by decide +kernel
theorem dX12_isSpeedOpen_1 : decode cX12_isSpeedOpen 1 = .ok (.getfield 20, 3) := by decide +kernel
theorem dX12_isSpeedOpen_4 : decode cX12_isSpeedOpen 4 = .ok (.bipush 80, 2) := by decide +kernel
theorem dX12_isSpeedOpen_6 : decode cX12_isSpeedOpen 6 = .ok (.iconst 2, 1) := by decide +kernel
theorem dX12_isSpeedOpen_7 : decode cX12_isSpeedOpen 7 = .ok (.iload_n 1, 1) := by decide +kernel
theorem dX12_isSpeedOpen_8 : decode cX12_isSpeedOpen 8 = .ok (.imul, 1) := by decide +kernel
theorem dX12_isSpeedOpen_9 : decode cX12_isSpeedOpen 9 = .ok (.iadd, 1) := by decide +kernel
theorem dX12_isSpeedOpen_10 : decode cX12_isSpeedOpen 10 = .ok (.baload, 1) := by decide +kernel
theorem dX12_isSpeedOpen_11 : decode cX12_isSpeedOpen 11 = .ok (.ifCond .ne 19, 3) := by decide +kernel
theorem dX12_isSpeedOpen_14 : decode cX12_isSpeedOpen 14 = .ok (.aload_n 0, 1) := by decide +kernel
theorem dX12_isSpeedOpen_15 : decode cX12_isSpeedOpen 15 = .ok (.getfield 20, 3) := by decide +kernel
theorem dX12_isSpeedOpen_18 : decode cX12_isSpeedOpen 18 = .ok (.bipush 80, 2) := by decide +kernel
theorem dX12_isSpeedOpen_20 : decode cX12_isSpeedOpen 20 = .ok (.iconst 2, 1) := by decide +kernel
theorem dX12_isSpeedOpen_21 : decode cX12_isSpeedOpen 21 = .ok (.iload_n 1, 1) := by decide +kernel
theorem dX12_isSpeedOpen_22 : decode cX12_isSpeedOpen 22 = .ok (.imul, 1) := by decide +kernel
theorem dX12_isSpeedOpen_23 : decode cX12_isSpeedOpen 23 = .ok (.iadd, 1) := by decide +kernel
theorem dX12_isSpeedOpen_24 : decode cX12_isSpeedOpen 24 = .ok (.iconst 1, 1) := by decide +kernel
theorem dX12_isSpeedOpen_25 : decode cX12_isSpeedOpen 25 = .ok (.iadd, 1) := by decide +kernel
theorem dX12_isSpeedOpen_26 : decode cX12_isSpeedOpen 26 = .ok (.baload, 1) := by decide +kernel
theorem dX12_isSpeedOpen_27 : decode cX12_isSpeedOpen 27 = .ok (.ifCond .eq 7, 3) := by decide +kernel
theorem dX12_isSpeedOpen_30 : decode cX12_isSpeedOpen 30 = .ok (.iconst 1, 1) := by decide +kernel
theorem dX12_isSpeedOpen_31 : decode cX12_isSpeedOpen 31 = .ok (.goto 4, 3) := by decide +kernel
theorem dX12_isSpeedOpen_34 : decode cX12_isSpeedOpen 34 = .ok (.iconst 0, 1) := by decide +kernel
theorem dX12_isSpeedOpen_35 : decode cX12_isSpeedOpen 35 = .ok (.ireturn, 1) := by decide +kernel
theorem dX12_speed_0 : decode cX12_speed 0 = .ok (.aload_n 0, 1) := by decide +kernel
theorem dX12_speed_1 : decode cX12_speed 1 = .ok (.aload_n 0, 1) := by decide +kernel
theorem dX12_speed_2 : decode cX12_speed 2 = .ok (.iload_n 1, 1) := by decide +kernel
theorem dX12_speed_3 : decode cX12_speed 3 = .ok (.iload_n 2, 1) := by decide +kernel
theorem dX12_speed_4 : decode cX12_speed 4 = .ok (.invokevirtual 568, 3) := by decide +kernel
theorem dX12_speed_7 : decode cX12_speed 7 = .ok (.ifCond .eq 25, 3) := by decide +kernel
theorem dX12_speed_10 : decode cX12_speed 10 = .ok (.iload 4, 2) := by decide +kernel
theorem dX12_speed_12 : decode cX12_speed 12 = .ok (.i2l, 1) := by decide +kernel
theorem dX12_speed_13 : decode cX12_speed 13 = .ok (.lconst 0, 1) := by decide +kernel
theorem dX12_speed_14 : decode cX12_speed 14 = .ok (.lconst 1, 1) := by decide +kernel
theorem dX12_speed_15 : decode cX12_speed 15 = .ok (.invokestatic 262, 3) := by decide +kernel
theorem dX12_speed_18 : decode cX12_speed 18 = .ok (.ifCond .eq 14, 3) := by decide +kernel
theorem dX12_speed_21 : decode cX12_speed 21 = .ok (.iload 5, 2) := by decide +kernel
theorem dX12_speed_23 : decode cX12_speed 23 = .ok (.i2l, 1) := by decide +kernel
theorem dX12_speed_24 : decode cX12_speed 24 = .ok (.lconst 0, 1) := by decide +kernel
theorem dX12_speed_25 : decode cX12_speed 25 = .ok (.lconst 1, 1) := by decide +kernel
theorem dX12_speed_26 : decode cX12_speed 26 = .ok (.invokestatic 262, 3) := by decide +kernel
theorem dX12_speed_29 : decode cX12_speed 29 = .ok (.ifCond .ne 7, 3) := by decide +kernel
theorem dX12_speed_32 : decode cX12_speed 32 = .ok (.iconst 1, 1) := by decide +kernel
theorem dX12_speed_33 : decode cX12_speed 33 = .ok (.goto 16, 3) := by decide +kernel
theorem dX12_speed_36 : decode cX12_speed 36 = .ok (.aload_n 0, 1) := by decide +kernel
theorem dX12_speed_37 : decode cX12_speed 37 = .ok (.iload_n 3, 1) := by decide +kernel
theorem dX12_speed_38 : decode cX12_speed 38 = .ok (.invokevirtual 561, 3) := by decide +kernel
theorem dX12_speed_41 : decode cX12_speed 41 = .ok (.ifCond .eq 7, 3) := by decide +kernel
theorem dX12_speed_44 : decode cX12_speed 44 = .ok (.iconst 0, 1) := by decide +kernel
theorem dX12_speed_45 : decode cX12_speed 45 = .ok (.goto 4, 3) := by decide +kernel
theorem dX12_speed_48 : decode cX12_speed 48 = .ok (.iconst 2, 1) := by decide +kernel
theorem dX12_speed_49 : decode cX12_speed 49 = .ok (.putfield 243, 3) := by decide +kernel
theorem dX12_speed_52 : decode cX12_speed 52 = .ok (.aload_n 0, 1) := by decide +kernel
theorem dX12_speed_53 : decode cX12_speed 53 = .ok (.getfield 243, 3) := by decide +kernel
theorem dX12_speed_56 : decode cX12_speed 56 = .ok (.ifCond .le 5, 3) := by decide +kernel
theorem dX12_speed_59 : decode cX12_speed 59 = .ok (.lconst 0, 1) := by decide +kernel
theorem dX12_speed_60 : decode cX12_speed 60 = .ok (.lreturn, 1) := by decide +kernel
theorem dX12_speed_61 : decode cX12_speed 61 = .ok (.aload_n 0, 1) := by decide +kernel
theorem dX12_speed_62 : decode cX12_speed 62 = .ok (.iload_n 1, 1) := by decide +kernel
theorem dX12_speed_63 : decode cX12_speed 63 = .ok (.invokevirtual 556, 3) := by decide +kernel
theorem dX12_speed_66 : decode cX12_speed 66 = .ok (.iconst 1, 1) := by decide +kernel
theorem dX12_speed_67 : decode cX12_speed 67 = .ok (.if_icmp .eq 10, 3) := by decide +kernel
theorem dX12_speed_70 : decode cX12_speed 70 = .ok (.aload_n 0, 1) := by decide +kernel
theorem dX12_speed_71 : decode cX12_speed 71 = .ok (.iconst 3, 1) := by decide +kernel
theorem dX12_speed_72 : decode cX12_speed 72 = .ok (.putfield 243, 3) := by decide +kernel
theorem dX12_speed_75 : decode cX12_speed 75 = .ok (.lconst 0, 1) := by decide +kernel
theorem dX12_speed_76 : decode cX12_speed 76 = .ok (.lreturn, 1) := by decide +kernel
theorem dX12_speed_77 : decode cX12_speed 77 = .ok (.aload_n 0, 1) := by decide +kernel
theorem dX12_speed_78 : decode cX12_speed 78 = .ok (.iload_n 2, 1) := by decide +kernel
theorem dX12_speed_79 : decode cX12_speed 79 = .ok (.invokevirtual 595, 3) := by decide +kernel
theorem dX12_speed_82 : decode cX12_speed 82 = .ok (.aload_n 0, 1) := by decide +kernel
theorem dX12_speed_83 : decode cX12_speed 83 = .ok (.aload_n 0, 1) := by decide +kernel
theorem dX12_speed_84 : decode cX12_speed 84 = .ok (.iload_n 3, 1) := by decide +kernel
theorem dX12_speed_85 : decode cX12_speed 85 = .ok (.invokevirtual 598, 3) := by decide +kernel
theorem dX12_speed_88 : decode cX12_speed 88 = .ok (.ifCond .eq 7, 3) := by decide +kernel
theorem dX12_speed_91 : decode cX12_speed 91 = .ok (.iconst 2, 1) := by decide +kernel
theorem dX12_speed_92 : decode cX12_speed 92 = .ok (.goto 4, 3) := by decide +kernel
theorem dX12_speed_95 : decode cX12_speed 95 = .ok (.iconst 0, 1) := by decide +kernel
theorem dX12_speed_96 : decode cX12_speed 96 = .ok (.putfield 243, 3) := by decide +kernel
theorem dX12_speed_99 : decode cX12_speed 99 = .ok (.aload_n 0, 1) := by decide +kernel
theorem dX12_speed_100 : decode cX12_speed 100 = .ok (.getfield 243, 3) := by decide +kernel
theorem dX12_speed_103 : decode cX12_speed 103 = .ok (.ifCond .le 7, 3) := by decide +kernel
theorem dX12_speed_106 : decode cX12_speed 106 = .ok (.lconst 0, 1) := by decide +kernel
theorem dX12_speed_107 : decode cX12_speed 107 = .ok (.goto 18, 3) := by decide +kernel
theorem dX12_speed_110 : decode cX12_speed 110 = .ok (.aload_n 0, 1) := by decide +kernel
theorem dX12_speed_111 : decode cX12_speed 111 = .ok (.bipush 80, 2) := by decide +kernel
theorem dX12_speed_113 : decode cX12_speed 113 = .ok (.iconst 2, 1) := by decide +kernel
theorem dX12_speed_114 : decode cX12_speed 114 = .ok (.iload_n 3, 1) := by decide +kernel
theorem dX12_speed_115 : decode cX12_speed 115 = .ok (.imul, 1) := by decide +kernel
theorem dX12_speed_116 : decode cX12_speed 116 = .ok (.iadd, 1) := by decide +kernel
theorem dX12_speed_117 : decode cX12_speed 117 = .ok (.iload 4, 2) := by decide +kernel
theorem dX12_speed_119 : decode cX12_speed 119 = .ok (.iadd, 1) := by decide +kernel
theorem dX12_speed_120 : decode cX12_speed 120 = .ok (.iload 5, 2) := by decide +kernel
theorem dX12_speed_122 : decode cX12_speed 122 = .ok (.invokevirtual 564, 3) := by decide +kernel
theorem dX12_speed_125 : decode cX12_speed 125 = .ok (.lreturn, 1) := by decide +kernel
theorem dX12_pole_0 : decode cX12_pole 0 = .ok (.aload_n 0, 1) := by decide +kernel
theorem dX12_pole_1 : decode cX12_pole 1 = .ok (.aload_n 0, 1) := by decide +kernel
theorem dX12_pole_2 : decode cX12_pole 2 = .ok (.iload_n 1, 1) := by decide +kernel
theorem dX12_pole_3 : decode cX12_pole 3 = .ok (.iload_n 2, 1) := by decide +kernel
theorem dX12_pole_4 : decode cX12_pole 4 = .ok (.invokevirtual 568, 3) := by decide +kernel
theorem dX12_pole_7 : decode cX12_pole 7 = .ok (.ifCond .eq 25, 3) := by decide +kernel
theorem dX12_pole_10 : decode cX12_pole 10 = .ok (.iload 5, 2) := by decide +kernel
theorem dX12_pole_12 : decode cX12_pole 12 = .ok (.i2l, 1) := by decide +kernel
theorem dX12_pole_13 : decode cX12_pole 13 = .ok (.lconst 0, 1) := by decide +kernel
theorem dX12_pole_14 : decode cX12_pole 14 = .ok (.lconst 1, 1) := by decide +kernel
theorem dX12_pole_15 : decode cX12_pole 15 = .ok (.invokestatic 262, 3) := by decide +kernel
theorem dX12_pole_18 : decode cX12_pole 18 = .ok (.ifCond .eq 14, 3) := by decide +kernel
theorem dX12_pole_21 : decode cX12_pole 21 = .ok (.iload 6, 2) := by decide +kernel
theorem dX12_pole_23 : decode cX12_pole 23 = .ok (.i2l, 1) := by decide +kernel
theorem dX12_pole_24 : decode cX12_pole 24 = .ok (.lconst 0, 1) := by decide +kernel
theorem dX12_pole_25 : decode cX12_pole 25 = .ok (.lconst 1, 1) := by decide +kernel
theorem dX12_pole_26 : decode cX12_pole 26 = .ok (.invokestatic 262, 3) := by decide +kernel
theorem dX12_pole_29 : decode cX12_pole 29 = .ok (.ifCond .ne 7, 3) := by decide +kernel
theorem dX12_pole_32 : decode cX12_pole 32 = .ok (.iconst 1, 1) := by decide +kernel
theorem dX12_pole_33 : decode cX12_pole 33 = .ok (.goto 25, 3) := by decide +kernel
theorem dX12_pole_36 : decode cX12_pole 36 = .ok (.aload_n 0, 1) := by decide +kernel
theorem dX12_pole_37 : decode cX12_pole 37 = .ok (.iload_n 3, 1) := by decide +kernel
theorem dX12_pole_38 : decode cX12_pole 38 = .ok (.invokevirtual 561, 3) := by decide +kernel
theorem dX12_pole_41 : decode cX12_pole 41 = .ok (.ifCond .eq 16, 3) := by decide +kernel
theorem dX12_pole_44 : decode cX12_pole 44 = .ok (.aload_n 0, 1) := by decide +kernel
theorem dX12_pole_45 : decode cX12_pole 45 = .ok (.iload 4, 2) := by decide +kernel
theorem dX12_pole_47 : decode cX12_pole 47 = .ok (.invokevirtual 561, 3) := by decide +kernel
theorem dX12_pole_50 : decode cX12_pole 50 = .ok (.ifCond .eq 7, 3) := by decide +kernel
theorem dX12_pole_53 : decode cX12_pole 53 = .ok (.iconst 0, 1) := by decide +kernel
theorem dX12_pole_54 : decode cX12_pole 54 = .ok (.goto 4, 3) := by decide +kernel
theorem dX12_pole_57 : decode cX12_pole 57 = .ok (.iconst 2, 1) := by decide +kernel
theorem dX12_pole_58 : decode cX12_pole 58 = .ok (.putfield 243, 3) := by decide +kernel
theorem dX12_pole_61 : decode cX12_pole 61 = .ok (.aload_n 0, 1) := by decide +kernel
theorem dX12_pole_62 : decode cX12_pole 62 = .ok (.getfield 243, 3) := by decide +kernel
theorem dX12_pole_65 : decode cX12_pole 65 = .ok (.ifCond .le 5, 3) := by decide +kernel
theorem dX12_pole_68 : decode cX12_pole 68 = .ok (.lconst 0, 1) := by decide +kernel
theorem dX12_pole_69 : decode cX12_pole 69 = .ok (.lreturn, 1) := by decide +kernel
theorem dX12_pole_70 : decode cX12_pole 70 = .ok (.aload_n 0, 1) := by decide +kernel
theorem dX12_pole_71 : decode cX12_pole 71 = .ok (.iload_n 1, 1) := by decide +kernel
theorem dX12_pole_72 : decode cX12_pole 72 = .ok (.invokevirtual 556, 3) := by decide +kernel
theorem dX12_pole_75 : decode cX12_pole 75 = .ok (.iconst 1, 1) := by decide +kernel
theorem dX12_pole_76 : decode cX12_pole 76 = .ok (.if_icmp .eq 10, 3) := by decide +kernel
theorem dX12_pole_79 : decode cX12_pole 79 = .ok (.aload_n 0, 1) := by decide +kernel
theorem dX12_pole_80 : decode cX12_pole 80 = .ok (.iconst 3, 1) := by decide +kernel
theorem dX12_pole_81 : decode cX12_pole 81 = .ok (.putfield 243, 3) := by decide +kernel
theorem dX12_pole_84 : decode cX12_pole 84 = .ok (.lconst 0, 1) := by decide +kernel
theorem dX12_pole_85 : decode cX12_pole 85 = .ok (.lreturn, 1) := by decide +kernel
theorem dX12_pole_86 : decode cX12_pole 86 = .ok (.aload_n 0, 1) := by decide +kernel
theorem dX12_pole_87 : decode cX12_pole 87 = .ok (.iload_n 2, 1) := by decide +kernel
theorem dX12_pole_88 : decode cX12_pole 88 = .ok (.invokevirtual 595, 3) := by decide +kernel
theorem dX12_pole_91 : decode cX12_pole 91 = .ok (.aload_n 0, 1) := by decide +kernel
theorem dX12_pole_92 : decode cX12_pole 92 = .ok (.sipush 160, 3) := by decide +kernel
theorem dX12_pole_95 : decode cX12_pole 95 = .ok (.iconst 2, 1) := by decide +kernel
theorem dX12_pole_96 : decode cX12_pole 96 = .ok (.iload_n 3, 1) := by decide +kernel
theorem dX12_pole_97 : decode cX12_pole 97 = .ok (.imul, 1) := by decide +kernel
theorem dX12_pole_98 : decode cX12_pole 98 = .ok (.bipush 80, 2) := by decide +kernel
theorem dX12_pole_100 : decode cX12_pole 100 = .ok (.iconst 2, 1) := by decide +kernel
theorem dX12_pole_101 : decode cX12_pole 101 = .ok (.iload_n 3, 1) := by decide +kernel
theorem dX12_pole_102 : decode cX12_pole 102 = .ok (.imul, 1) := by decide +kernel
theorem dX12_pole_103 : decode cX12_pole 103 = .ok (.iadd, 1) := by decide +kernel
theorem dX12_pole_104 : decode cX12_pole 104 = .ok (.invokevirtual 547, 3) := by decide +kernel
theorem dX12_pole_107 : decode cX12_pole 107 = .ok (.aload_n 0, 1) := by decide +kernel
theorem dX12_pole_108 : decode cX12_pole 108 = .ok (.sipush 161, 3) := by decide +kernel
theorem dX12_pole_111 : decode cX12_pole 111 = .ok (.iconst 2, 1) := by decide +kernel
theorem dX12_pole_112 : decode cX12_pole 112 = .ok (.iload 4, 2) := by decide +kernel
theorem dX12_pole_114 : decode cX12_pole 114 = .ok (.imul, 1) := by decide +kernel
theorem dX12_pole_115 : decode cX12_pole 115 = .ok (.bipush 80, 2) := by decide +kernel
theorem dX12_pole_117 : decode cX12_pole 117 = .ok (.iconst 2, 1) := by decide +kernel
theorem dX12_pole_118 : decode cX12_pole 118 = .ok (.iload 4, 2) := by decide +kernel
theorem dX12_pole_120 : decode cX12_pole 120 = .ok (.imul, 1) := by decide +kernel
theorem dX12_pole_121 : decode cX12_pole 121 = .ok (.iadd, 1) := by decide +kernel
theorem dX12_pole_122 : decode cX12_pole 122 = .ok (.invokevirtual 547, 3) := by decide +kernel
theorem dX12_pole_125 : decode cX12_pole 125 = .ok (.aload_n 0, 1) := by decide +kernel
theorem dX12_pole_126 : decode cX12_pole 126 = .ok (.sipush 162, 3) := by decide +kernel
theorem dX12_pole_129 : decode cX12_pole 129 = .ok (.bipush 80, 2) := by decide +kernel
theorem dX12_pole_131 : decode cX12_pole 131 = .ok (.iconst 2, 1) := by decide +kernel
theorem dX12_pole_132 : decode cX12_pole 132 = .ok (.iload_n 3, 1) := by decide +kernel
theorem dX12_pole_133 : decode cX12_pole 133 = .ok (.imul, 1) := by decide +kernel
theorem dX12_pole_134 : decode cX12_pole 134 = .ok (.iadd, 1) := by decide +kernel
theorem dX12_pole_135 : decode cX12_pole 135 = .ok (.bipush 80, 2) := by decide +kernel
theorem dX12_pole_137 : decode cX12_pole 137 = .ok (.iconst 2, 1) := by decide +kernel
theorem dX12_pole_138 : decode cX12_pole 138 = .ok (.iload 4, 2) := by decide +kernel
theorem dX12_pole_140 : decode cX12_pole 140 = .ok (.imul, 1) := by decide +kernel
theorem dX12_pole_141 : decode cX12_pole 141 = .ok (.iadd, 1) := by decide +kernel
theorem dX12_pole_142 : decode cX12_pole 142 = .ok (.sipush 160, 3) := by decide +kernel
theorem dX12_pole_145 : decode cX12_pole 145 = .ok (.sipush 161, 3) := by decide +kernel
theorem dX12_pole_148 : decode cX12_pole 148 = .ok (.invokevirtual 576, 3) := by decide +kernel
theorem dX12_pole_151 : decode cX12_pole 151 = .ok (.aload_n 0, 1) := by decide +kernel
theorem dX12_pole_152 : decode cX12_pole 152 = .ok (.aload_n 0, 1) := by decide +kernel
theorem dX12_pole_153 : decode cX12_pole 153 = .ok (.getfield 20, 3) := by decide +kernel
theorem dX12_pole_156 : decode cX12_pole 156 = .ok (.sipush 162, 3) := by decide +kernel
theorem dX12_pole_159 : decode cX12_pole 159 = .ok (.baload, 1) := by decide +kernel
theorem dX12_pole_160 : decode cX12_pole 160 = .ok (.ifCond .ne 14, 3) := by decide +kernel
theorem dX12_pole_163 : decode cX12_pole 163 = .ok (.aload_n 0, 1) := by decide +kernel
theorem dX12_pole_164 : decode cX12_pole 164 = .ok (.getfield 20, 3) := by decide +kernel
theorem dX12_pole_167 : decode cX12_pole 167 = .ok (.sipush 163, 3) := by decide +kernel
theorem dX12_pole_170 : decode cX12_pole 170 = .ok (.baload, 1) := by decide +kernel
theorem dX12_pole_171 : decode cX12_pole 171 = .ok (.ifCond .eq 7, 3) := by decide +kernel
theorem dX12_pole_174 : decode cX12_pole 174 = .ok (.iconst 2, 1) := by decide +kernel
theorem dX12_pole_175 : decode cX12_pole 175 = .ok (.goto 4, 3) := by decide +kernel
theorem dX12_pole_178 : decode cX12_pole 178 = .ok (.iconst 0, 1) := by decide +kernel
theorem dX12_pole_179 : decode cX12_pole 179 = .ok (.putfield 243, 3) := by decide +kernel
theorem dX12_pole_182 : decode cX12_pole 182 = .ok (.aload_n 0, 1) := by decide +kernel
theorem dX12_pole_183 : decode cX12_pole 183 = .ok (.getfield 243, 3) := by decide +kernel
theorem dX12_pole_186 : decode cX12_pole 186 = .ok (.ifCond .le 7, 3) := by decide +kernel
theorem dX12_pole_189 : decode cX12_pole 189 = .ok (.lconst 0, 1) := by decide +kernel
theorem dX12_pole_190 : decode cX12_pole 190 = .ok (.goto 15, 3) := by decide +kernel
theorem dX12_pole_193 : decode cX12_pole 193 = .ok (.aload_n 0, 1) := by decide +kernel
theorem dX12_pole_194 : decode cX12_pole 194 = .ok (.sipush 162, 3) := by decide +kernel
theorem dX12_pole_197 : decode cX12_pole 197 = .ok (.iload 5, 2) := by decide +kernel
theorem dX12_pole_199 : decode cX12_pole 199 = .ok (.iadd, 1) := by decide +kernel
theorem dX12_pole_200 : decode cX12_pole 200 = .ok (.iload 6, 2) := by decide +kernel
theorem dX12_pole_202 : decode cX12_pole 202 = .ok (.invokevirtual 564, 3) := by decide +kernel
theorem dX12_pole_205 : decode cX12_pole 205 = .ok (.lreturn, 1) := by decide +kernel
theorem dX12_load_0 : decode cX12_load 0 = .ok (.aload_n 0, 1) := by decide +kernel
theorem dX12_load_1 : decode cX12_load 1 = .ok (.iload_n 2, 1) := by decide +kernel
theorem dX12_load_2 : decode cX12_load 2 = .ok (.i2l, 1) := by decide +kernel
theorem dX12_load_3 : decode cX12_load 3 = .ok (.ldc2_w 601, 3) := by decide +kernel
theorem dX12_load_6 : decode cX12_load 6 = .ok (.ldc2_w 603, 3) := by decide +kernel
theorem dX12_load_9 : decode cX12_load 9 = .ok (.invokestatic 262, 3) := by decide +kernel
theorem dX12_load_12 : decode cX12_load 12 = .ok (.ifCond .eq 17, 3) := by decide +kernel
theorem dX12_load_15 : decode cX12_load 15 = .ok (.iload_n 3, 1) := by decide +kernel
theorem dX12_load_16 : decode cX12_load 16 = .ok (.i2l, 1) := by decide +kernel
theorem dX12_load_17 : decode cX12_load 17 = .ok (.ldc2_w 601, 3) := by decide +kernel
theorem dX12_load_20 : decode cX12_load 20 = .ok (.ldc2_w 603, 3) := by decide +kernel
theorem dX12_load_23 : decode cX12_load 23 = .ok (.invokestatic 262, 3) := by decide +kernel
theorem dX12_load_26 : decode cX12_load 26 = .ok (.ifCond .ne 7, 3) := by decide +kernel
theorem dX12_load_29 : decode cX12_load 29 = .ok (.iconst 1, 1) := by decide +kernel
theorem dX12_load_30 : decode cX12_load 30 = .ok (.goto 16, 3) := by decide +kernel
theorem dX12_load_33 : decode cX12_load 33 = .ok (.aload_n 0, 1) := by decide +kernel
theorem dX12_load_34 : decode cX12_load 34 = .ok (.iload_n 1, 1) := by decide +kernel
theorem dX12_load_35 : decode cX12_load 35 = .ok (.invokevirtual 561, 3) := by decide +kernel
theorem dX12_load_38 : decode cX12_load 38 = .ok (.ifCond .eq 7, 3) := by decide +kernel
theorem dX12_load_41 : decode cX12_load 41 = .ok (.iconst 0, 1) := by decide +kernel
theorem dX12_load_42 : decode cX12_load 42 = .ok (.goto 4, 3) := by decide +kernel
theorem dX12_load_45 : decode cX12_load 45 = .ok (.iconst 2, 1) := by decide +kernel
theorem dX12_load_46 : decode cX12_load 46 = .ok (.putfield 243, 3) := by decide +kernel
theorem dX12_load_49 : decode cX12_load 49 = .ok (.aload_n 0, 1) := by decide +kernel
theorem dX12_load_50 : decode cX12_load 50 = .ok (.getfield 243, 3) := by decide +kernel
theorem dX12_load_53 : decode cX12_load 53 = .ok (.ifCond .le 4, 3) := by decide +kernel
theorem dX12_load_56 : decode cX12_load 56 = .ok (.return_, 1) := by decide +kernel
theorem dX12_load_57 : decode cX12_load 57 = .ok (.aload_n 0, 1) := by decide +kernel
theorem dX12_load_58 : decode cX12_load 58 = .ok (.getfield 66, 3) := by decide +kernel
theorem dX12_load_61 : decode cX12_load 61 = .ok (.iload_n 1, 1) := by decide +kernel
theorem dX12_load_62 : decode cX12_load 62 = .ok (.iload_n 2, 1) := by decide +kernel
theorem dX12_load_63 : decode cX12_load 63 = .ok (.iastore, 1) := by decide +kernel
theorem dX12_load_64 : decode cX12_load 64 = .ok (.aload_n 0, 1) := by decide +kernel
theorem dX12_load_65 : decode cX12_load 65 = .ok (.getfield 69, 3) := by decide +kernel
theorem dX12_load_68 : decode cX12_load 68 = .ok (.iload_n 1, 1) := by decide +kernel
theorem dX12_load_69 : decode cX12_load 69 = .ok (.iload_n 3, 1) := by decide +kernel
theorem dX12_load_70 : decode cX12_load 70 = .ok (.iastore, 1) := by decide +kernel
theorem dX12_load_71 : decode cX12_load 71 = .ok (.return_, 1) := by decide +kernel
theorem dX12_mass_0 : decode cX12_mass 0 = .ok (.aload_n 0, 1) := by decide +kernel
theorem dX12_mass_1 : decode cX12_mass 1 = .ok (.iload_n 2, 1) := by decide +kernel
theorem dX12_mass_2 : decode cX12_mass 2 = .ok (.i2l, 1) := by decide +kernel
theorem dX12_mass_3 : decode cX12_mass 3 = .ok (.lconst 0, 1) := by decide +kernel
theorem dX12_mass_4 : decode cX12_mass 4 = .ok (.ldc2_w 603, 3) := by decide +kernel
theorem dX12_mass_7 : decode cX12_mass 7 = .ok (.invokestatic 262, 3) := by decide +kernel
theorem dX12_mass_10 : decode cX12_mass 10 = .ok (.ifCond .ne 7, 3) := by decide +kernel
theorem dX12_mass_13 : decode cX12_mass 13 = .ok (.iconst 1, 1) := by decide +kernel
theorem dX12_mass_14 : decode cX12_mass 14 = .ok (.goto 16, 3) := by decide +kernel
theorem dX12_mass_17 : decode cX12_mass 17 = .ok (.aload_n 0, 1) := by decide +kernel
theorem dX12_mass_18 : decode cX12_mass 18 = .ok (.iload_n 1, 1) := by decide +kernel
theorem dX12_mass_19 : decode cX12_mass 19 = .ok (.invokevirtual 561, 3) := by decide +kernel
theorem dX12_mass_22 : decode cX12_mass 22 = .ok (.ifCond .eq 7, 3) := by decide +kernel
theorem dX12_mass_25 : decode cX12_mass 25 = .ok (.iconst 0, 1) := by decide +kernel
theorem dX12_mass_26 : decode cX12_mass 26 = .ok (.goto 4, 3) := by decide +kernel
theorem dX12_mass_29 : decode cX12_mass 29 = .ok (.iconst 2, 1) := by decide +kernel
theorem dX12_mass_30 : decode cX12_mass 30 = .ok (.putfield 243, 3) := by decide +kernel
theorem dX12_mass_33 : decode cX12_mass 33 = .ok (.aload_n 0, 1) := by decide +kernel
theorem dX12_mass_34 : decode cX12_mass 34 = .ok (.getfield 243, 3) := by decide +kernel
theorem dX12_mass_37 : decode cX12_mass 37 = .ok (.ifCond .ne 10, 3) := by decide +kernel
theorem dX12_mass_40 : decode cX12_mass 40 = .ok (.aload_n 0, 1) := by decide +kernel
theorem dX12_mass_41 : decode cX12_mass 41 = .ok (.getfield 72, 3) := by decide +kernel
theorem dX12_mass_44 : decode cX12_mass 44 = .ok (.iload_n 1, 1) := by decide +kernel
theorem dX12_mass_45 : decode cX12_mass 45 = .ok (.iload_n 2, 1) := by decide +kernel
theorem dX12_mass_46 : decode cX12_mass 46 = .ok (.iastore, 1) := by decide +kernel
theorem dX12_mass_47 : decode cX12_mass 47 = .ok (.return_, 1) := by decide +kernel
theorem dX12_moment_0 : decode cX12_moment 0 = .ok (.aload_n 0, 1) := by decide +kernel
theorem dX12_moment_1 : decode cX12_moment 1 = .ok (.aload_n 0, 1) := by decide +kernel
theorem dX12_moment_2 : decode cX12_moment 2 = .ok (.iload_n 1, 1) := by decide +kernel
theorem dX12_moment_3 : decode cX12_moment 3 = .ok (.iload_n 2, 1) := by decide +kernel
theorem dX12_moment_4 : decode cX12_moment 4 = .ok (.invokevirtual 568, 3) := by decide +kernel
theorem dX12_moment_7 : decode cX12_moment 7 = .ok (.ifCond .eq 13, 3) := by decide +kernel
theorem dX12_moment_10 : decode cX12_moment 10 = .ok (.iload_n 3, 1) := by decide +kernel
theorem dX12_moment_11 : decode cX12_moment 11 = .ok (.i2l, 1) := by decide +kernel
theorem dX12_moment_12 : decode cX12_moment 12 = .ok (.lconst 0, 1) := by decide +kernel
theorem dX12_moment_13 : decode cX12_moment 13 = .ok (.lconst 1, 1) := by decide +kernel
theorem dX12_moment_14 : decode cX12_moment 14 = .ok (.invokestatic 262, 3) := by decide +kernel
theorem dX12_moment_17 : decode cX12_moment 17 = .ok (.ifCond .ne 7, 3) := by decide +kernel
theorem dX12_moment_20 : decode cX12_moment 20 = .ok (.iconst 1, 1) := by decide +kernel
theorem dX12_moment_21 : decode cX12_moment 21 = .ok (.goto 17, 3) := by decide +kernel
theorem dX12_moment_24 : decode cX12_moment 24 = .ok (.aload_n 0, 1) := by decide +kernel
theorem dX12_moment_25 : decode cX12_moment 25 = .ok (.iload_n 1, 1) := by decide +kernel
theorem dX12_moment_26 : decode cX12_moment 26 = .ok (.invokevirtual 556, 3) := by decide +kernel
theorem dX12_moment_29 : decode cX12_moment 29 = .ok (.iconst 1, 1) := by decide +kernel
theorem dX12_moment_30 : decode cX12_moment 30 = .ok (.if_icmp .eq 7, 3) := by decide +kernel
theorem dX12_moment_33 : decode cX12_moment 33 = .ok (.iconst 3, 1) := by decide +kernel
theorem dX12_moment_34 : decode cX12_moment 34 = .ok (.goto 4, 3) := by decide +kernel
theorem dX12_moment_37 : decode cX12_moment 37 = .ok (.iconst 0, 1) := by decide +kernel
theorem dX12_moment_38 : decode cX12_moment 38 = .ok (.putfield 243, 3) := by decide +kernel
theorem dX12_moment_41 : decode cX12_moment 41 = .ok (.aload_n 0, 1) := by decide +kernel
theorem dX12_moment_42 : decode cX12_moment 42 = .ok (.getfield 243, 3) := by decide +kernel
theorem dX12_moment_45 : decode cX12_moment 45 = .ok (.ifCond .le 5, 3) := by decide +kernel
theorem dX12_moment_48 : decode cX12_moment 48 = .ok (.lconst 0, 1) := by decide +kernel
theorem dX12_moment_49 : decode cX12_moment 49 = .ok (.lreturn, 1) := by decide +kernel
theorem dX12_moment_50 : decode cX12_moment 50 = .ok (.aload_n 0, 1) := by decide +kernel
theorem dX12_moment_51 : decode cX12_moment 51 = .ok (.iload_n 2, 1) := by decide +kernel
theorem dX12_moment_52 : decode cX12_moment 52 = .ok (.invokevirtual 595, 3) := by decide +kernel
theorem dX12_moment_55 : decode cX12_moment 55 = .ok (.aload_n 0, 1) := by decide +kernel
theorem dX12_moment_56 : decode cX12_moment 56 = .ok (.sipush 200, 3) := by decide +kernel
theorem dX12_moment_59 : decode cX12_moment 59 = .ok (.lconst 0, 1) := by decide +kernel
theorem dX12_moment_60 : decode cX12_moment 60 = .ok (.lconst 0, 1) := by decide +kernel
theorem dX12_moment_61 : decode cX12_moment 61 = .ok (.iconst 0, 1) := by decide +kernel
theorem dX12_moment_62 : decode cX12_moment 62 = .ok (.invokevirtual 310, 3) := by decide +kernel
theorem dX12_moment_65 : decode cX12_moment 65 = .ok (.iconst 0, 1) := by decide +kernel
theorem dX12_moment_66 : decode cX12_moment 66 = .ok (.istore 4, 2) := by decide +kernel
theorem dX12_moment_68 : decode cX12_moment 68 = .ok (.iload 4, 2) := by decide +kernel
theorem dX12_moment_70 : decode cX12_moment 70 = .ok (.aload_n 0, 1) := by decide +kernel
theorem dX12_moment_71 : decode cX12_moment 71 = .ok (.getfield 460, 3) := by decide +kernel
theorem dX12_moment_74 : decode cX12_moment 74 = .ok (.if_icmp .ge 104, 3) := by decide +kernel
theorem dX12_moment_77 : decode cX12_moment 77 = .ok (.aload_n 0, 1) := by decide +kernel
theorem dX12_moment_78 : decode cX12_moment 78 = .ok (.getfield 66, 3) := by decide +kernel
theorem dX12_moment_81 : decode cX12_moment 81 = .ok (.iload 4, 2) := by decide +kernel
theorem dX12_moment_83 : decode cX12_moment 83 = .ok (.iaload, 1) := by decide +kernel
theorem dX12_moment_84 : decode cX12_moment 84 = .ok (.ifCond .ne 16, 3) := by decide +kernel
theorem dX12_moment_87 : decode cX12_moment 87 = .ok (.aload_n 0, 1) := by decide +kernel
theorem dX12_moment_88 : decode cX12_moment 88 = .ok (.getfield 69, 3) := by decide +kernel
theorem dX12_moment_91 : decode cX12_moment 91 = .ok (.iload 4, 2) := by decide +kernel
theorem dX12_moment_93 : decode cX12_moment 93 = .ok (.iaload, 1) := by decide +kernel
theorem dX12_moment_94 : decode cX12_moment 94 = .ok (.ifCond .ne 6, 3) := by decide +kernel
theorem dX12_moment_97 : decode cX12_moment 97 = .ok (.goto 75, 3) := by decide +kernel
theorem dX12_moment_100 : decode cX12_moment 100 = .ok (.aload_n 0, 1) := by decide +kernel
theorem dX12_moment_101 : decode cX12_moment 101 = .ok (.sipush 201, 3) := by decide +kernel
theorem dX12_moment_104 : decode cX12_moment 104 = .ok (.aload_n 0, 1) := by decide +kernel
theorem dX12_moment_105 : decode cX12_moment 105 = .ok (.getfield 66, 3) := by decide +kernel
theorem dX12_moment_108 : decode cX12_moment 108 = .ok (.iload 4, 2) := by decide +kernel
theorem dX12_moment_110 : decode cX12_moment 110 = .ok (.iaload, 1) := by decide +kernel
theorem dX12_moment_111 : decode cX12_moment 111 = .ok (.i2l, 1) := by decide +kernel
theorem dX12_moment_112 : decode cX12_moment 112 = .ok (.bipush 80, 2) := by decide +kernel
theorem dX12_moment_114 : decode cX12_moment 114 = .ok (.iconst 2, 1) := by decide +kernel
theorem dX12_moment_115 : decode cX12_moment 115 = .ok (.iload 4, 2) := by decide +kernel
theorem dX12_moment_117 : decode cX12_moment 117 = .ok (.imul, 1) := by decide +kernel
theorem dX12_moment_118 : decode cX12_moment 118 = .ok (.iadd, 1) := by decide +kernel
theorem dX12_moment_119 : decode cX12_moment 119 = .ok (.invokevirtual 605, 3) := by decide +kernel
theorem dX12_moment_122 : decode cX12_moment 122 = .ok (.aload_n 0, 1) := by decide +kernel
theorem dX12_moment_123 : decode cX12_moment 123 = .ok (.sipush 202, 3) := by decide +kernel
theorem dX12_moment_126 : decode cX12_moment 126 = .ok (.aload_n 0, 1) := by decide +kernel
theorem dX12_moment_127 : decode cX12_moment 127 = .ok (.getfield 69, 3) := by decide +kernel
theorem dX12_moment_130 : decode cX12_moment 130 = .ok (.iload 4, 2) := by decide +kernel
theorem dX12_moment_132 : decode cX12_moment 132 = .ok (.iaload, 1) := by decide +kernel
theorem dX12_moment_133 : decode cX12_moment 133 = .ok (.i2l, 1) := by decide +kernel
theorem dX12_moment_134 : decode cX12_moment 134 = .ok (.bipush 80, 2) := by decide +kernel
theorem dX12_moment_136 : decode cX12_moment 136 = .ok (.iconst 2, 1) := by decide +kernel
theorem dX12_moment_137 : decode cX12_moment 137 = .ok (.iload 4, 2) := by decide +kernel
theorem dX12_moment_139 : decode cX12_moment 139 = .ok (.imul, 1) := by decide +kernel
theorem dX12_moment_140 : decode cX12_moment 140 = .ok (.iadd, 1) := by decide +kernel
theorem dX12_moment_141 : decode cX12_moment 141 = .ok (.iconst 1, 1) := by decide +kernel
theorem dX12_moment_142 : decode cX12_moment 142 = .ok (.iadd, 1) := by decide +kernel
theorem dX12_moment_143 : decode cX12_moment 143 = .ok (.invokevirtual 605, 3) := by decide +kernel
theorem dX12_moment_146 : decode cX12_moment 146 = .ok (.aload_n 0, 1) := by decide +kernel
theorem dX12_moment_147 : decode cX12_moment 147 = .ok (.sipush 201, 3) := by decide +kernel
theorem dX12_moment_150 : decode cX12_moment 150 = .ok (.sipush 201, 3) := by decide +kernel
theorem dX12_moment_153 : decode cX12_moment 153 = .ok (.sipush 202, 3) := by decide +kernel
theorem dX12_moment_156 : decode cX12_moment 156 = .ok (.invokevirtual 488, 3) := by decide +kernel
theorem dX12_moment_159 : decode cX12_moment 159 = .ok (.aload_n 0, 1) := by decide +kernel
theorem dX12_moment_160 : decode cX12_moment 160 = .ok (.sipush 200, 3) := by decide +kernel
theorem dX12_moment_163 : decode cX12_moment 163 = .ok (.sipush 200, 3) := by decide +kernel
theorem dX12_moment_166 : decode cX12_moment 166 = .ok (.sipush 201, 3) := by decide +kernel
theorem dX12_moment_169 : decode cX12_moment 169 = .ok (.invokevirtual 488, 3) := by decide +kernel
theorem dX12_moment_172 : decode cX12_moment 172 = .ok (.iinc 4 1, 3) := by decide +kernel
theorem dX12_moment_175 : decode cX12_moment 175 = .ok (.goto (-107), 3) := by decide +kernel
theorem dX12_moment_178 : decode cX12_moment 178 = .ok (.aload_n 0, 1) := by decide +kernel
theorem dX12_moment_179 : decode cX12_moment 179 = .ok (.sipush 200, 3) := by decide +kernel
theorem dX12_moment_182 : decode cX12_moment 182 = .ok (.sipush 200, 3) := by decide +kernel
theorem dX12_moment_185 : decode cX12_moment 185 = .ok (.invokevirtual 476, 3) := by decide +kernel
theorem dX12_moment_188 : decode cX12_moment 188 = .ok (.aload_n 0, 1) := by decide +kernel
theorem dX12_moment_189 : decode cX12_moment 189 = .ok (.aload_n 0, 1) := by decide +kernel
theorem dX12_moment_190 : decode cX12_moment 190 = .ok (.getfield 20, 3) := by decide +kernel
theorem dX12_moment_193 : decode cX12_moment 193 = .ok (.sipush 200, 3) := by decide +kernel
theorem dX12_moment_196 : decode cX12_moment 196 = .ok (.baload, 1) := by decide +kernel
theorem dX12_moment_197 : decode cX12_moment 197 = .ok (.ifCond .eq 7, 3) := by decide +kernel
theorem dX12_moment_200 : decode cX12_moment 200 = .ok (.iconst 2, 1) := by decide +kernel
theorem dX12_moment_201 : decode cX12_moment 201 = .ok (.goto 4, 3) := by decide +kernel
theorem dX12_moment_204 : decode cX12_moment 204 = .ok (.iconst 0, 1) := by decide +kernel
theorem dX12_moment_205 : decode cX12_moment 205 = .ok (.putfield 243, 3) := by decide +kernel
theorem dX12_moment_208 : decode cX12_moment 208 = .ok (.aload_n 0, 1) := by decide +kernel
theorem dX12_moment_209 : decode cX12_moment 209 = .ok (.getfield 243, 3) := by decide +kernel
theorem dX12_moment_212 : decode cX12_moment 212 = .ok (.ifCond .le 7, 3) := by decide +kernel
theorem dX12_moment_215 : decode cX12_moment 215 = .ok (.lconst 0, 1) := by decide +kernel
theorem dX12_moment_216 : decode cX12_moment 216 = .ok (.goto 11, 3) := by decide +kernel
theorem dX12_moment_219 : decode cX12_moment 219 = .ok (.aload_n 0, 1) := by decide +kernel
theorem dX12_moment_220 : decode cX12_moment 220 = .ok (.sipush 200, 3) := by decide +kernel
theorem dX12_moment_223 : decode cX12_moment 223 = .ok (.iload_n 3, 1) := by decide +kernel
theorem dX12_moment_224 : decode cX12_moment 224 = .ok (.invokevirtual 564, 3) := by decide +kernel
theorem dX12_moment_227 : decode cX12_moment 227 = .ok (.lreturn, 1) := by decide +kernel
theorem dX12_middle_0 : decode cX12_middle 0 = .ok (.aload_n 0, 1) := by decide +kernel
theorem dX12_middle_1 : decode cX12_middle 1 = .ok (.iload_n 1, 1) := by decide +kernel
theorem dX12_middle_2 : decode cX12_middle 2 = .ok (.i2l, 1) := by decide +kernel
theorem dX12_middle_3 : decode cX12_middle 3 = .ok (.lconst 0, 1) := by decide +kernel
theorem dX12_middle_4 : decode cX12_middle 4 = .ok (.ldc2_w 559, 3) := by decide +kernel
theorem dX12_middle_7 : decode cX12_middle 7 = .ok (.invokestatic 262, 3) := by decide +kernel
theorem dX12_middle_10 : decode cX12_middle 10 = .ok (.ifCond .eq 27, 3) := by decide +kernel
theorem dX12_middle_13 : decode cX12_middle 13 = .ok (.iload_n 2, 1) := by decide +kernel
theorem dX12_middle_14 : decode cX12_middle 14 = .ok (.i2l, 1) := by decide +kernel
theorem dX12_middle_15 : decode cX12_middle 15 = .ok (.lconst 0, 1) := by decide +kernel
theorem dX12_middle_16 : decode cX12_middle 16 = .ok (.lconst 1, 1) := by decide +kernel
theorem dX12_middle_17 : decode cX12_middle 17 = .ok (.invokestatic 262, 3) := by decide +kernel
theorem dX12_middle_20 : decode cX12_middle 20 = .ok (.ifCond .eq 17, 3) := by decide +kernel
theorem dX12_middle_23 : decode cX12_middle 23 = .ok (.iload_n 3, 1) := by decide +kernel
theorem dX12_middle_24 : decode cX12_middle 24 = .ok (.i2l, 1) := by decide +kernel
theorem dX12_middle_25 : decode cX12_middle 25 = .ok (.lconst 0, 1) := by decide +kernel
theorem dX12_middle_26 : decode cX12_middle 26 = .ok (.lconst 1, 1) := by decide +kernel
theorem dX12_middle_27 : decode cX12_middle 27 = .ok (.invokestatic 262, 3) := by decide +kernel
theorem dX12_middle_30 : decode cX12_middle 30 = .ok (.ifCond .eq 7, 3) := by decide +kernel
theorem dX12_middle_33 : decode cX12_middle 33 = .ok (.iconst 0, 1) := by decide +kernel
theorem dX12_middle_34 : decode cX12_middle 34 = .ok (.goto 4, 3) := by decide +kernel
theorem dX12_middle_37 : decode cX12_middle 37 = .ok (.iconst 1, 1) := by decide +kernel
theorem dX12_middle_38 : decode cX12_middle 38 = .ok (.putfield 243, 3) := by decide +kernel
theorem dX12_middle_41 : decode cX12_middle 41 = .ok (.aload_n 0, 1) := by decide +kernel
theorem dX12_middle_42 : decode cX12_middle 42 = .ok (.getfield 243, 3) := by decide +kernel
theorem dX12_middle_45 : decode cX12_middle 45 = .ok (.ifCond .le 5, 3) := by decide +kernel
theorem dX12_middle_48 : decode cX12_middle 48 = .ok (.lconst 0, 1) := by decide +kernel
theorem dX12_middle_49 : decode cX12_middle 49 = .ok (.lreturn, 1) := by decide +kernel
theorem dX12_middle_50 : decode cX12_middle 50 = .ok (.lconst 0, 1) := by decide +kernel
theorem dX12_middle_51 : decode cX12_middle 51 = .ok (.lstore 4, 2) := by decide +kernel
theorem dX12_middle_53 : decode cX12_middle 53 = .ok (.iconst 0, 1) := by decide +kernel
theorem dX12_middle_54 : decode cX12_middle 54 = .ok (.istore 6, 2) := by decide +kernel
theorem dX12_middle_56 : decode cX12_middle 56 = .ok (.iload 6, 2) := by decide +kernel
theorem dX12_middle_58 : decode cX12_middle 58 = .ok (.aload_n 0, 1) := by decide +kernel
theorem dX12_middle_59 : decode cX12_middle 59 = .ok (.getfield 460, 3) := by decide +kernel
theorem dX12_middle_62 : decode cX12_middle 62 = .ok (.if_icmp .ge 22, 3) := by decide +kernel
theorem dX12_middle_65 : decode cX12_middle 65 = .ok (.lload 4, 2) := by decide +kernel
theorem dX12_middle_67 : decode cX12_middle 67 = .ok (.aload_n 0, 1) := by decide +kernel
theorem dX12_middle_68 : decode cX12_middle 68 = .ok (.getfield 72, 3) := by decide +kernel
theorem dX12_middle_71 : decode cX12_middle 71 = .ok (.iload 6, 2) := by decide +kernel
theorem dX12_middle_73 : decode cX12_middle 73 = .ok (.iaload, 1) := by decide +kernel
theorem dX12_middle_74 : decode cX12_middle 74 = .ok (.i2l, 1) := by decide +kernel
theorem dX12_middle_75 : decode cX12_middle 75 = .ok (.ladd, 1) := by decide +kernel
theorem dX12_middle_76 : decode cX12_middle 76 = .ok (.lstore 4, 2) := by decide +kernel
theorem dX12_middle_78 : decode cX12_middle 78 = .ok (.iinc 6 1, 3) := by decide +kernel
theorem dX12_middle_81 : decode cX12_middle 81 = .ok (.goto (-25), 3) := by decide +kernel
theorem dX12_middle_84 : decode cX12_middle 84 = .ok (.aload_n 0, 1) := by decide +kernel
theorem dX12_middle_85 : decode cX12_middle 85 = .ok (.iload_n 1, 1) := by decide +kernel
theorem dX12_middle_86 : decode cX12_middle 86 = .ok (.invokevirtual 556, 3) := by decide +kernel
theorem dX12_middle_89 : decode cX12_middle 89 = .ok (.istore 6, 2) := by decide +kernel
theorem dX12_middle_91 : decode cX12_middle 91 = .ok (.aload_n 0, 1) := by decide +kernel
theorem dX12_middle_92 : decode cX12_middle 92 = .ok (.sipush 200, 3) := by decide +kernel
theorem dX12_middle_95 : decode cX12_middle 95 = .ok (.lconst 0, 1) := by decide +kernel
theorem dX12_middle_96 : decode cX12_middle 96 = .ok (.lconst 0, 1) := by decide +kernel
theorem dX12_middle_97 : decode cX12_middle 97 = .ok (.iconst 0, 1) := by decide +kernel
theorem dX12_middle_98 : decode cX12_middle 98 = .ok (.invokevirtual 310, 3) := by decide +kernel
theorem dX12_middle_101 : decode cX12_middle 101 = .ok (.iconst 0, 1) := by decide +kernel
theorem dX12_middle_102 : decode cX12_middle 102 = .ok (.istore 7, 2) := by decide +kernel
theorem dX12_middle_104 : decode cX12_middle 104 = .ok (.iload 7, 2) := by decide +kernel
theorem dX12_middle_106 : decode cX12_middle 106 = .ok (.aload_n 0, 1) := by decide +kernel
theorem dX12_middle_107 : decode cX12_middle 107 = .ok (.getfield 460, 3) := by decide +kernel
theorem dX12_middle_110 : decode cX12_middle 110 = .ok (.if_icmp .ge 62, 3) := by decide +kernel
theorem dX12_middle_113 : decode cX12_middle 113 = .ok (.iload 6, 2) := by decide +kernel
theorem dX12_middle_115 : decode cX12_middle 115 = .ok (.iconst 1, 1) := by decide +kernel
theorem dX12_middle_116 : decode cX12_middle 116 = .ok (.if_icmp .ne 56, 3) := by decide +kernel
theorem dX12_middle_119 : decode cX12_middle 119 = .ok (.aload_n 0, 1) := by decide +kernel
theorem dX12_middle_120 : decode cX12_middle 120 = .ok (.getfield 72, 3) := by decide +kernel
theorem dX12_middle_123 : decode cX12_middle 123 = .ok (.iload 7, 2) := by decide +kernel
theorem dX12_middle_125 : decode cX12_middle 125 = .ok (.iaload, 1) := by decide +kernel
theorem dX12_middle_126 : decode cX12_middle 126 = .ok (.ifCond .ne 6, 3) := by decide +kernel
theorem dX12_middle_129 : decode cX12_middle 129 = .ok (.goto 37, 3) := by decide +kernel
theorem dX12_middle_132 : decode cX12_middle 132 = .ok (.aload_n 0, 1) := by decide +kernel
theorem dX12_middle_133 : decode cX12_middle 133 = .ok (.sipush 201, 3) := by decide +kernel
theorem dX12_middle_136 : decode cX12_middle 136 = .ok (.aload_n 0, 1) := by decide +kernel
theorem dX12_middle_137 : decode cX12_middle 137 = .ok (.getfield 72, 3) := by decide +kernel
theorem dX12_middle_140 : decode cX12_middle 140 = .ok (.iload 7, 2) := by decide +kernel
theorem dX12_middle_142 : decode cX12_middle 142 = .ok (.iaload, 1) := by decide +kernel
theorem dX12_middle_143 : decode cX12_middle 143 = .ok (.i2l, 1) := by decide +kernel
theorem dX12_middle_144 : decode cX12_middle 144 = .ok (.iconst 2, 1) := by decide +kernel
theorem dX12_middle_145 : decode cX12_middle 145 = .ok (.iload 7, 2) := by decide +kernel
theorem dX12_middle_147 : decode cX12_middle 147 = .ok (.imul, 1) := by decide +kernel
theorem dX12_middle_148 : decode cX12_middle 148 = .ok (.iload_n 2, 1) := by decide +kernel
theorem dX12_middle_149 : decode cX12_middle 149 = .ok (.iadd, 1) := by decide +kernel
theorem dX12_middle_150 : decode cX12_middle 150 = .ok (.invokevirtual 605, 3) := by decide +kernel
theorem dX12_middle_153 : decode cX12_middle 153 = .ok (.aload_n 0, 1) := by decide +kernel
theorem dX12_middle_154 : decode cX12_middle 154 = .ok (.sipush 200, 3) := by decide +kernel
theorem dX12_middle_157 : decode cX12_middle 157 = .ok (.sipush 200, 3) := by decide +kernel
theorem dX12_middle_160 : decode cX12_middle 160 = .ok (.sipush 201, 3) := by decide +kernel
theorem dX12_middle_163 : decode cX12_middle 163 = .ok (.invokevirtual 488, 3) := by decide +kernel
theorem dX12_middle_166 : decode cX12_middle 166 = .ok (.iinc 7 1, 3) := by decide +kernel
theorem dX12_middle_169 : decode cX12_middle 169 = .ok (.goto (-65), 3) := by decide +kernel
theorem dX12_middle_172 : decode cX12_middle 172 = .ok (.aload_n 0, 1) := by decide +kernel
theorem dX12_middle_173 : decode cX12_middle 173 = .ok (.lload 4, 2) := by decide +kernel
theorem dX12_middle_175 : decode cX12_middle 175 = .ok (.lconst 0, 1) := by decide +kernel
theorem dX12_middle_176 : decode cX12_middle 176 = .ok (.lcmp, 1) := by decide +kernel
theorem dX12_middle_177 : decode cX12_middle 177 = .ok (.ifCond .ne 7, 3) := by decide +kernel
theorem dX12_middle_180 : decode cX12_middle 180 = .ok (.iconst 2, 1) := by decide +kernel
theorem dX12_middle_181 : decode cX12_middle 181 = .ok (.goto 29, 3) := by decide +kernel
theorem dX12_middle_184 : decode cX12_middle 184 = .ok (.iload 6, 2) := by decide +kernel
theorem dX12_middle_186 : decode cX12_middle 186 = .ok (.iconst 1, 1) := by decide +kernel
theorem dX12_middle_187 : decode cX12_middle 187 = .ok (.if_icmp .eq 7, 3) := by decide +kernel
theorem dX12_middle_190 : decode cX12_middle 190 = .ok (.iconst 3, 1) := by decide +kernel
theorem dX12_middle_191 : decode cX12_middle 191 = .ok (.goto 19, 3) := by decide +kernel
theorem dX12_middle_194 : decode cX12_middle 194 = .ok (.aload_n 0, 1) := by decide +kernel
theorem dX12_middle_195 : decode cX12_middle 195 = .ok (.getfield 20, 3) := by decide +kernel
theorem dX12_middle_198 : decode cX12_middle 198 = .ok (.sipush 200, 3) := by decide +kernel
theorem dX12_middle_201 : decode cX12_middle 201 = .ok (.baload, 1) := by decide +kernel
theorem dX12_middle_202 : decode cX12_middle 202 = .ok (.ifCond .eq 7, 3) := by decide +kernel
theorem dX12_middle_205 : decode cX12_middle 205 = .ok (.iconst 2, 1) := by decide +kernel
theorem dX12_middle_206 : decode cX12_middle 206 = .ok (.goto 4, 3) := by decide +kernel
theorem dX12_middle_209 : decode cX12_middle 209 = .ok (.iconst 0, 1) := by decide +kernel
theorem dX12_middle_210 : decode cX12_middle 210 = .ok (.putfield 243, 3) := by decide +kernel
theorem dX12_middle_213 : decode cX12_middle 213 = .ok (.aload_n 0, 1) := by decide +kernel
theorem dX12_middle_214 : decode cX12_middle 214 = .ok (.getfield 243, 3) := by decide +kernel
theorem dX12_middle_217 : decode cX12_middle 217 = .ok (.ifCond .le 5, 3) := by decide +kernel
theorem dX12_middle_220 : decode cX12_middle 220 = .ok (.lconst 0, 1) := by decide +kernel
theorem dX12_middle_221 : decode cX12_middle 221 = .ok (.lreturn, 1) := by decide +kernel
theorem dX12_middle_222 : decode cX12_middle 222 = .ok (.iload_n 3, 1) := by decide +kernel
theorem dX12_middle_223 : decode cX12_middle 223 = .ok (.ifCond .ne 19, 3) := by decide +kernel
theorem dX12_middle_226 : decode cX12_middle 226 = .ok (.aload_n 0, 1) := by decide +kernel
theorem dX12_middle_227 : decode cX12_middle 227 = .ok (.getfield 13, 3) := by decide +kernel
theorem dX12_middle_230 : decode cX12_middle 230 = .ok (.sipush 200, 3) := by decide +kernel
theorem dX12_middle_233 : decode cX12_middle 233 = .ok (.laload, 1) := by decide +kernel
theorem dX12_middle_234 : decode cX12_middle 234 = .ok (.lload 4, 2) := by decide +kernel
theorem dX12_middle_236 : decode cX12_middle 236 = .ok (.invokestatic 247, 3) := by decide +kernel
theorem dX12_middle_239 : decode cX12_middle 239 = .ok (.goto 16, 3) := by decide +kernel
theorem dX12_middle_242 : decode cX12_middle 242 = .ok (.aload_n 0, 1) := by decide +kernel
theorem dX12_middle_243 : decode cX12_middle 243 = .ok (.getfield 17, 3) := by decide +kernel
theorem dX12_middle_246 : decode cX12_middle 246 = .ok (.sipush 200, 3) := by decide +kernel
theorem dX12_middle_249 : decode cX12_middle 249 = .ok (.laload, 1) := by decide +kernel
theorem dX12_middle_250 : decode cX12_middle 250 = .ok (.lload 4, 2) := by decide +kernel
theorem dX12_middle_252 : decode cX12_middle 252 = .ok (.invokestatic 322, 3) := by decide +kernel
theorem dX12_middle_255 : decode cX12_middle 255 = .ok (.lreturn, 1) := by decide +kernel
theorem dX12_gear_0 : decode cX12_gear 0 = .ok (.aload_n 0, 1) := by decide +kernel
theorem dX12_gear_1 : decode cX12_gear 1 = .ok (.iload_n 1, 1) := by decide +kernel
theorem dX12_gear_2 : decode cX12_gear 2 = .ok (.i2l, 1) := by decide +kernel
theorem dX12_gear_3 : decode cX12_gear 3 = .ok (.ldc2_w 609, 3) := by decide +kernel
theorem dX12_gear_6 : decode cX12_gear 6 = .ok (.ldc2_w 611, 3) := by decide +kernel
theorem dX12_gear_9 : decode cX12_gear 9 = .ok (.invokestatic 262, 3) := by decide +kernel
theorem dX12_gear_12 : decode cX12_gear 12 = .ok (.ifCond .eq 15, 3) := by decide +kernel
theorem dX12_gear_15 : decode cX12_gear 15 = .ok (.iload_n 2, 1) := by decide +kernel
theorem dX12_gear_16 : decode cX12_gear 16 = .ok (.i2l, 1) := by decide +kernel
theorem dX12_gear_17 : decode cX12_gear 17 = .ok (.lconst 0, 1) := by decide +kernel
theorem dX12_gear_18 : decode cX12_gear 18 = .ok (.ldc2_w 613, 3) := by decide +kernel
theorem dX12_gear_21 : decode cX12_gear 21 = .ok (.invokestatic 262, 3) := by decide +kernel
theorem dX12_gear_24 : decode cX12_gear 24 = .ok (.ifCond .ne 7, 3) := by decide +kernel
theorem dX12_gear_27 : decode cX12_gear 27 = .ok (.iconst 1, 1) := by decide +kernel
theorem dX12_gear_28 : decode cX12_gear 28 = .ok (.goto 17, 3) := by decide +kernel
theorem dX12_gear_31 : decode cX12_gear 31 = .ok (.aload_n 0, 1) := by decide +kernel
theorem dX12_gear_32 : decode cX12_gear 32 = .ok (.getfield 615, 3) := by decide +kernel
theorem dX12_gear_35 : decode cX12_gear 35 = .ok (.bipush 24, 2) := by decide +kernel
theorem dX12_gear_37 : decode cX12_gear 37 = .ok (.if_icmp .ne 7, 3) := by decide +kernel
theorem dX12_gear_40 : decode cX12_gear 40 = .ok (.iconst 2, 1) := by decide +kernel
theorem dX12_gear_41 : decode cX12_gear 41 = .ok (.goto 4, 3) := by decide +kernel
theorem dX12_gear_44 : decode cX12_gear 44 = .ok (.iconst 0, 1) := by decide +kernel
theorem dX12_gear_45 : decode cX12_gear 45 = .ok (.putfield 243, 3) := by decide +kernel
theorem dX12_gear_48 : decode cX12_gear 48 = .ok (.aload_n 0, 1) := by decide +kernel
theorem dX12_gear_49 : decode cX12_gear 49 = .ok (.getfield 243, 3) := by decide +kernel
theorem dX12_gear_52 : decode cX12_gear 52 = .ok (.ifCond .le 5, 3) := by decide +kernel
theorem dX12_gear_55 : decode cX12_gear 55 = .ok (.iconst 0, 1) := by decide +kernel
theorem dX12_gear_56 : decode cX12_gear 56 = .ok (.ireturn, 1) := by decide +kernel
theorem dX12_gear_57 : decode cX12_gear 57 = .ok (.aload_n 0, 1) := by decide +kernel
theorem dX12_gear_58 : decode cX12_gear 58 = .ok (.getfield 117, 3) := by decide +kernel
theorem dX12_gear_61 : decode cX12_gear 61 = .ok (.aload_n 0, 1) := by decide +kernel
theorem dX12_gear_62 : decode cX12_gear 62 = .ok (.getfield 615, 3) := by decide +kernel
theorem dX12_gear_65 : decode cX12_gear 65 = .ok (.iload_n 1, 1) := by decide +kernel
theorem dX12_gear_66 : decode cX12_gear 66 = .ok (.iastore, 1) := by decide +kernel
theorem dX12_gear_67 : decode cX12_gear 67 = .ok (.aload_n 0, 1) := by decide +kernel
theorem dX12_gear_68 : decode cX12_gear 68 = .ok (.getfield 120, 3) := by decide +kernel
theorem dX12_gear_71 : decode cX12_gear 71 = .ok (.aload_n 0, 1) := by decide +kernel
theorem dX12_gear_72 : decode cX12_gear 72 = .ok (.getfield 615, 3) := by decide +kernel
theorem dX12_gear_75 : decode cX12_gear 75 = .ok (.iload_n 2, 1) := by decide +kernel
theorem dX12_gear_76 : decode cX12_gear 76 = .ok (.iastore, 1) := by decide +kernel
theorem dX12_gear_77 : decode cX12_gear 77 = .ok (.aload_n 0, 1) := by decide +kernel
theorem dX12_gear_78 : decode cX12_gear 78 = .ok (.dup, 1) := by decide +kernel
theorem dX12_gear_79 : decode cX12_gear 79 = .ok (.getfield 615, 3) := by decide +kernel
theorem dX12_gear_82 : decode cX12_gear 82 = .ok (.iconst 1, 1) := by decide +kernel
theorem dX12_gear_83 : decode cX12_gear 83 = .ok (.iadd, 1) := by decide +kernel
theorem dX12_gear_84 : decode cX12_gear 84 = .ok (.putfield 615, 3) := by decide +kernel
theorem dX12_gear_87 : decode cX12_gear 87 = .ok (.aload_n 0, 1) := by decide +kernel
theorem dX12_gear_88 : decode cX12_gear 88 = .ok (.getfield 615, 3) := by decide +kernel
theorem dX12_gear_91 : decode cX12_gear 91 = .ok (.iconst 1, 1) := by decide +kernel
theorem dX12_gear_92 : decode cX12_gear 92 = .ok (.isub, 1) := by decide +kernel
theorem dX12_gear_93 : decode cX12_gear 93 = .ok (.ireturn, 1) := by decide +kernel
theorem dX12_isGear_0 : decode cX12_isGear 0 = .ok (.iload_n 1, 1) := by decide +kernel
theorem dX12_isGear_1 : decode cX12_isGear 1 = .ok (.ifCond .lt 15, 3) := by decide +kernel
theorem dX12_isGear_4 : decode cX12_isGear 4 = .ok (.iload_n 1, 1) := by decide +kernel
theorem dX12_isGear_5 : decode cX12_isGear 5 = .ok (.aload_n 0, 1) := by decide +kernel
theorem dX12_isGear_6 : decode cX12_isGear 6 = .ok (.getfield 615, 3) := by decide +kernel
theorem dX12_isGear_9 : decode cX12_isGear 9 = .ok (.if_icmp .ge 7, 3) := by decide +kernel
theorem dX12_isGear_12 : decode cX12_isGear 12 = .ok (.iconst 1, 1) := by decide +kernel
theorem dX12_isGear_13 : decode cX12_isGear 13 = .ok (.goto 4, 3) := by decide +kernel
theorem dX12_isGear_16 : decode cX12_isGear 16 = .ok (.iconst 0, 1) := by decide +kernel
theorem dX12_isGear_17 : decode cX12_isGear 17 = .ok (.ireturn, 1) := by decide +kernel
theorem dX12_mesh_0 : decode cX12_mesh 0 = .ok (.aload_n 0, 1) := by decide +kernel
theorem dX12_mesh_1 : decode cX12_mesh 1 = .ok (.iload_n 1, 1) := by decide +kernel
theorem dX12_mesh_2 : decode cX12_mesh 2 = .ok (.invokevirtual 618, 3) := by decide +kernel
theorem dX12_mesh_5 : decode cX12_mesh 5 = .ok (.ifCond .eq 15, 3) := by decide +kernel
theorem dX12_mesh_8 : decode cX12_mesh 8 = .ok (.aload_n 0, 1) := by decide +kernel
theorem dX12_mesh_9 : decode cX12_mesh 9 = .ok (.iload_n 2, 1) := by decide +kernel
theorem dX12_mesh_10 : decode cX12_mesh 10 = .ok (.invokevirtual 618, 3) := by decide +kernel
theorem dX12_mesh_13 : decode cX12_mesh 13 = .ok (.ifCond .eq 7, 3) := by decide +kernel
theorem dX12_mesh_16 : decode cX12_mesh 16 = .ok (.iconst 1, 1) := by decide +kernel
theorem dX12_mesh_17 : decode cX12_mesh 17 = .ok (.goto 4, 3) := by decide +kernel
theorem dX12_mesh_20 : decode cX12_mesh 20 = .ok (.iconst 0, 1) := by decide +kernel
theorem dX12_mesh_21 : decode cX12_mesh 21 = .ok (.istore 5, 2) := by decide +kernel
theorem dX12_mesh_23 : decode cX12_mesh 23 = .ok (.aload_n 0, 1) := by decide +kernel
theorem dX12_mesh_24 : decode cX12_mesh 24 = .ok (.iload 4, 2) := by decide +kernel
theorem dX12_mesh_26 : decode cX12_mesh 26 = .ok (.i2l, 1) := by decide +kernel
theorem dX12_mesh_27 : decode cX12_mesh 27 = .ok (.ldc2_w 621, 3) := by decide +kernel
theorem dX12_mesh_30 : decode cX12_mesh 30 = .ok (.ldc2_w 613, 3) := by decide +kernel
theorem dX12_mesh_33 : decode cX12_mesh 33 = .ok (.invokestatic 262, 3) := by decide +kernel
theorem dX12_mesh_36 : decode cX12_mesh 36 = .ok (.ifCond .ne 7, 3) := by decide +kernel
theorem dX12_mesh_39 : decode cX12_mesh 39 = .ok (.iconst 1, 1) := by decide +kernel
theorem dX12_mesh_40 : decode cX12_mesh 40 = .ok (.goto 45, 3) := by decide +kernel
theorem dX12_mesh_43 : decode cX12_mesh 43 = .ok (.iload 5, 2) := by decide +kernel
theorem dX12_mesh_45 : decode cX12_mesh 45 = .ok (.ifCond .ne 7, 3) := by decide +kernel
theorem dX12_mesh_48 : decode cX12_mesh 48 = .ok (.iconst 2, 1) := by decide +kernel
theorem dX12_mesh_49 : decode cX12_mesh 49 = .ok (.goto 36, 3) := by decide +kernel
theorem dX12_mesh_52 : decode cX12_mesh 52 = .ok (.aload_n 0, 1) := by decide +kernel
theorem dX12_mesh_53 : decode cX12_mesh 53 = .ok (.getfield 120, 3) := by decide +kernel
theorem dX12_mesh_56 : decode cX12_mesh 56 = .ok (.iload_n 1, 1) := by decide +kernel
theorem dX12_mesh_57 : decode cX12_mesh 57 = .ok (.iaload, 1) := by decide +kernel
theorem dX12_mesh_58 : decode cX12_mesh 58 = .ok (.aload_n 0, 1) := by decide +kernel
theorem dX12_mesh_59 : decode cX12_mesh 59 = .ok (.getfield 120, 3) := by decide +kernel
theorem dX12_mesh_62 : decode cX12_mesh 62 = .ok (.iload_n 2, 1) := by decide +kernel
theorem dX12_mesh_63 : decode cX12_mesh 63 = .ok (.iaload, 1) := by decide +kernel
theorem dX12_mesh_64 : decode cX12_mesh 64 = .ok (.if_icmp .ne 7, 3) := by decide +kernel
theorem dX12_mesh_67 : decode cX12_mesh 67 = .ok (.iconst 3, 1) := by decide +kernel
theorem dX12_mesh_68 : decode cX12_mesh 68 = .ok (.goto 17, 3) := by decide +kernel
theorem dX12_mesh_71 : decode cX12_mesh 71 = .ok (.aload_n 0, 1) := by decide +kernel
theorem dX12_mesh_72 : decode cX12_mesh 72 = .ok (.getfield 623, 3) := by decide +kernel
theorem dX12_mesh_75 : decode cX12_mesh 75 = .ok (.bipush 20, 2) := by decide +kernel
theorem dX12_mesh_77 : decode cX12_mesh 77 = .ok (.if_icmp .ne 7, 3) := by decide +kernel
theorem dX12_mesh_80 : decode cX12_mesh 80 = .ok (.iconst 4, 1) := by decide +kernel
theorem dX12_mesh_81 : decode cX12_mesh 81 = .ok (.goto 4, 3) := by decide +kernel
theorem dX12_mesh_84 : decode cX12_mesh 84 = .ok (.iconst 0, 1) := by decide +kernel
theorem dX12_mesh_85 : decode cX12_mesh 85 = .ok (.putfield 243, 3) := by decide +kernel
theorem dX12_mesh_88 : decode cX12_mesh 88 = .ok (.aload_n 0, 1) := by decide +kernel
theorem dX12_mesh_89 : decode cX12_mesh 89 = .ok (.getfield 243, 3) := by decide +kernel
theorem dX12_mesh_92 : decode cX12_mesh 92 = .ok (.ifCond .le 5, 3) := by decide +kernel
theorem dX12_mesh_95 : decode cX12_mesh 95 = .ok (.iconst 0, 1) := by decide +kernel
theorem dX12_mesh_96 : decode cX12_mesh 96 = .ok (.ireturn, 1) := by decide +kernel
theorem dX12_mesh_97 : decode cX12_mesh 97 = .ok (.aload_n 0, 1) := by decide +kernel
theorem dX12_mesh_98 : decode cX12_mesh 98 = .ok (.getfield 123, 3) := by decide +kernel
theorem dX12_mesh_101 : decode cX12_mesh 101 = .ok (.aload_n 0, 1) := by decide +kernel
theorem dX12_mesh_102 : decode cX12_mesh 102 = .ok (.getfield 623, 3) := by decide +kernel
theorem dX12_mesh_105 : decode cX12_mesh 105 = .ok (.iload_n 1, 1) := by decide +kernel
theorem dX12_mesh_106 : decode cX12_mesh 106 = .ok (.iastore, 1) := by decide +kernel
theorem dX12_mesh_107 : decode cX12_mesh 107 = .ok (.aload_n 0, 1) := by decide +kernel
theorem dX12_mesh_108 : decode cX12_mesh 108 = .ok (.getfield 126, 3) := by decide +kernel
theorem dX12_mesh_111 : decode cX12_mesh 111 = .ok (.aload_n 0, 1) := by decide +kernel
theorem dX12_mesh_112 : decode cX12_mesh 112 = .ok (.getfield 623, 3) := by decide +kernel
theorem dX12_mesh_115 : decode cX12_mesh 115 = .ok (.iload_n 2, 1) := by decide +kernel
theorem dX12_mesh_116 : decode cX12_mesh 116 = .ok (.iastore, 1) := by decide +kernel
theorem dX12_mesh_117 : decode cX12_mesh 117 = .ok (.aload_n 0, 1) := by decide +kernel
theorem dX12_mesh_118 : decode cX12_mesh 118 = .ok (.getfield 129, 3) := by decide +kernel
theorem dX12_mesh_121 : decode cX12_mesh 121 = .ok (.aload_n 0, 1) := by decide +kernel
theorem dX12_mesh_122 : decode cX12_mesh 122 = .ok (.getfield 623, 3) := by decide +kernel
theorem dX12_mesh_125 : decode cX12_mesh 125 = .ok (.iload 4, 2) := by decide +kernel
theorem dX12_mesh_127 : decode cX12_mesh 127 = .ok (.iastore, 1) := by decide +kernel
theorem dX12_mesh_128 : decode cX12_mesh 128 = .ok (.aload_n 0, 1) := by decide +kernel
theorem dX12_mesh_129 : decode cX12_mesh 129 = .ok (.getfield 132, 3) := by decide +kernel
theorem dX12_mesh_132 : decode cX12_mesh 132 = .ok (.aload_n 0, 1) := by decide +kernel
theorem dX12_mesh_133 : decode cX12_mesh 133 = .ok (.getfield 623, 3) := by decide +kernel
theorem dX12_mesh_136 : decode cX12_mesh 136 = .ok (.iload_n 3, 1) := by decide +kernel
theorem dX12_mesh_137 : decode cX12_mesh 137 = .ok (.bastore, 1) := by decide +kernel
theorem dX12_mesh_138 : decode cX12_mesh 138 = .ok (.aload_n 0, 1) := by decide +kernel
theorem dX12_mesh_139 : decode cX12_mesh 139 = .ok (.dup, 1) := by decide +kernel
theorem dX12_mesh_140 : decode cX12_mesh 140 = .ok (.getfield 623, 3) := by decide +kernel
theorem dX12_mesh_143 : decode cX12_mesh 143 = .ok (.iconst 1, 1) := by decide +kernel
theorem dX12_mesh_144 : decode cX12_mesh 144 = .ok (.iadd, 1) := by decide +kernel
theorem dX12_mesh_145 : decode cX12_mesh 145 = .ok (.putfield 623, 3) := by decide +kernel
theorem dX12_mesh_148 : decode cX12_mesh 148 = .ok (.aload_n 0, 1) := by decide +kernel
theorem dX12_mesh_149 : decode cX12_mesh 149 = .ok (.getfield 623, 3) := by decide +kernel
theorem dX12_mesh_152 : decode cX12_mesh 152 = .ok (.iconst 1, 1) := by decide +kernel
theorem dX12_mesh_153 : decode cX12_mesh 153 = .ok (.isub, 1) := by decide +kernel
theorem dX12_mesh_154 : decode cX12_mesh 154 = .ok (.ireturn, 1) := by decide +kernel
theorem dX12_shaft_0 : decode cX12_shaft 0 = .ok (.iload_n 1, 1) := by decide +kernel
theorem dX12_shaft_1 : decode cX12_shaft 1 = .ok (.i2l, 1) := by decide +kernel
theorem dX12_shaft_2 : decode cX12_shaft 2 = .ok (.lconst 0, 1) := by decide +kernel
theorem dX12_shaft_3 : decode cX12_shaft 3 = .ok (.ldc2_w 613, 3) := by decide +kernel
theorem dX12_shaft_6 : decode cX12_shaft 6 = .ok (.invokestatic 262, 3) := by decide +kernel
theorem dX12_shaft_9 : decode cX12_shaft 9 = .ok (.ifCond .eq 51, 3) := by decide +kernel
theorem dX12_shaft_12 : decode cX12_shaft 12 = .ok (.iload_n 2, 1) := by decide +kernel
theorem dX12_shaft_13 : decode cX12_shaft 13 = .ok (.i2l, 1) := by decide +kernel
theorem dX12_shaft_14 : decode cX12_shaft 14 = .ok (.lconst 0, 1) := by decide +kernel
theorem dX12_shaft_15 : decode cX12_shaft 15 = .ok (.ldc2_w 325, 3) := by decide +kernel
theorem dX12_shaft_18 : decode cX12_shaft 18 = .ok (.invokestatic 262, 3) := by decide +kernel
theorem dX12_shaft_21 : decode cX12_shaft 21 = .ok (.ifCond .eq 39, 3) := by decide +kernel
theorem dX12_shaft_24 : decode cX12_shaft 24 = .ok (.iload_n 2, 1) := by decide +kernel
theorem dX12_shaft_25 : decode cX12_shaft 25 = .ok (.iconst 2, 1) := by decide +kernel
theorem dX12_shaft_26 : decode cX12_shaft 26 = .ok (.if_icmp .ne 30, 3) := by decide +kernel
theorem dX12_shaft_29 : decode cX12_shaft 29 = .ok (.iload_n 3, 1) := by decide +kernel
theorem dX12_shaft_30 : decode cX12_shaft 30 = .ok (.i2l, 1) := by decide +kernel
theorem dX12_shaft_31 : decode cX12_shaft 31 = .ok (.ldc2_w 601, 3) := by decide +kernel
theorem dX12_shaft_34 : decode cX12_shaft 34 = .ok (.ldc2_w 603, 3) := by decide +kernel
theorem dX12_shaft_37 : decode cX12_shaft 37 = .ok (.invokestatic 262, 3) := by decide +kernel
theorem dX12_shaft_40 : decode cX12_shaft 40 = .ok (.ifCond .eq 20, 3) := by decide +kernel
theorem dX12_shaft_43 : decode cX12_shaft 43 = .ok (.iload 4, 2) := by decide +kernel
theorem dX12_shaft_45 : decode cX12_shaft 45 = .ok (.i2l, 1) := by decide +kernel
theorem dX12_shaft_46 : decode cX12_shaft 46 = .ok (.lconst 1, 1) := by decide +kernel
theorem dX12_shaft_47 : decode cX12_shaft 47 = .ok (.ldc2_w 603, 3) := by decide +kernel
theorem dX12_shaft_50 : decode cX12_shaft 50 = .ok (.invokestatic 262, 3) := by decide +kernel
theorem dX12_shaft_53 : decode cX12_shaft 53 = .ok (.ifCond .eq 7, 3) := by decide +kernel
theorem dX12_shaft_56 : decode cX12_shaft 56 = .ok (.iconst 1, 1) := by decide +kernel
theorem dX12_shaft_57 : decode cX12_shaft 57 = .ok (.goto 4, 3) := by decide +kernel
theorem dX12_shaft_60 : decode cX12_shaft 60 = .ok (.iconst 0, 1) := by decide +kernel
theorem dX12_shaft_61 : decode cX12_shaft 61 = .ok (.istore 5, 2) := by decide +kernel
theorem dX12_shaft_63 : decode cX12_shaft 63 = .ok (.aload_n 0, 1) := by decide +kernel
theorem dX12_shaft_64 : decode cX12_shaft 64 = .ok (.iload 5, 2) := by decide +kernel
theorem dX12_shaft_66 : decode cX12_shaft 66 = .ok (.ifCond .eq 7, 3) := by decide +kernel
theorem dX12_shaft_69 : decode cX12_shaft 69 = .ok (.iconst 0, 1) := by decide +kernel
theorem dX12_shaft_70 : decode cX12_shaft 70 = .ok (.goto 4, 3) := by decide +kernel
theorem dX12_shaft_73 : decode cX12_shaft 73 = .ok (.iconst 1, 1) := by decide +kernel
theorem dX12_shaft_74 : decode cX12_shaft 74 = .ok (.putfield 243, 3) := by decide +kernel
theorem dX12_shaft_77 : decode cX12_shaft 77 = .ok (.aload_n 0, 1) := by decide +kernel
theorem dX12_shaft_78 : decode cX12_shaft 78 = .ok (.getfield 243, 3) := by decide +kernel
theorem dX12_shaft_81 : decode cX12_shaft 81 = .ok (.ifCond .le 4, 3) := by decide +kernel
theorem dX12_shaft_84 : decode cX12_shaft 84 = .ok (.return_, 1) := by decide +kernel
theorem dX12_shaft_85 : decode cX12_shaft 85 = .ok (.aload_n 0, 1) := by decide +kernel
theorem dX12_shaft_86 : decode cX12_shaft 86 = .ok (.getfield 135, 3) := by decide +kernel
theorem dX12_shaft_89 : decode cX12_shaft 89 = .ok (.iload_n 1, 1) := by decide +kernel
theorem dX12_shaft_90 : decode cX12_shaft 90 = .ok (.iload_n 2, 1) := by decide +kernel
theorem dX12_shaft_91 : decode cX12_shaft 91 = .ok (.iastore, 1) := by decide +kernel
theorem dX12_shaft_92 : decode cX12_shaft 92 = .ok (.aload_n 0, 1) := by decide +kernel
theorem dX12_shaft_93 : decode cX12_shaft 93 = .ok (.getfield 138, 3) := by decide +kernel
theorem dX12_shaft_96 : decode cX12_shaft 96 = .ok (.iload_n 1, 1) := by decide +kernel
theorem dX12_shaft_97 : decode cX12_shaft 97 = .ok (.iload_n 2, 1) := by decide +kernel
theorem dX12_shaft_98 : decode cX12_shaft 98 = .ok (.iconst 2, 1) := by decide +kernel
theorem dX12_shaft_99 : decode cX12_shaft 99 = .ok (.if_icmp .ne 7, 3) := by decide +kernel
theorem dX12_shaft_102 : decode cX12_shaft 102 = .ok (.iload_n 3, 1) := by decide +kernel
theorem dX12_shaft_103 : decode cX12_shaft 103 = .ok (.goto 4, 3) := by decide +kernel
theorem dX12_shaft_106 : decode cX12_shaft 106 = .ok (.iconst 0, 1) := by decide +kernel
theorem dX12_shaft_107 : decode cX12_shaft 107 = .ok (.iastore, 1) := by decide +kernel
theorem dX12_shaft_108 : decode cX12_shaft 108 = .ok (.aload_n 0, 1) := by decide +kernel
theorem dX12_shaft_109 : decode cX12_shaft 109 = .ok (.getfield 141, 3) := by decide +kernel
theorem dX12_shaft_112 : decode cX12_shaft 112 = .ok (.iload_n 1, 1) := by decide +kernel
theorem dX12_shaft_113 : decode cX12_shaft 113 = .ok (.iload_n 2, 1) := by decide +kernel
theorem dX12_shaft_114 : decode cX12_shaft 114 = .ok (.iconst 2, 1) := by decide +kernel
theorem dX12_shaft_115 : decode cX12_shaft 115 = .ok (.if_icmp .ne 8, 3) := by decide +kernel
theorem dX12_shaft_118 : decode cX12_shaft 118 = .ok (.iload 4, 2) := by decide +kernel
theorem dX12_shaft_120 : decode cX12_shaft 120 = .ok (.goto 4, 3) := by decide +kernel
theorem dX12_shaft_123 : decode cX12_shaft 123 = .ok (.iconst 1, 1) := by decide +kernel
theorem dX12_shaft_124 : decode cX12_shaft 124 = .ok (.iastore, 1) := by decide +kernel
theorem dX12_shaft_125 : decode cX12_shaft 125 = .ok (.return_, 1) := by decide +kernel
theorem dX12_clear_0 : decode cX12_clear 0 = .ok (.aload_n 0, 1) := by decide +kernel
theorem dX12_clear_1 : decode cX12_clear 1 = .ok (.iconst 0, 1) := by decide +kernel
theorem dX12_clear_2 : decode cX12_clear 2 = .ok (.putfield 243, 3) := by decide +kernel
theorem dX12_clear_5 : decode cX12_clear 5 = .ok (.aload_n 0, 1) := by decide +kernel
theorem dX12_clear_6 : decode cX12_clear 6 = .ok (.iconst 0, 1) := by decide +kernel
theorem dX12_clear_7 : decode cX12_clear 7 = .ok (.putfield 615, 3) := by decide +kernel
theorem dX12_clear_10 : decode cX12_clear 10 = .ok (.aload_n 0, 1) := by decide +kernel
theorem dX12_clear_11 : decode cX12_clear 11 = .ok (.iconst 0, 1) := by decide +kernel
theorem dX12_clear_12 : decode cX12_clear 12 = .ok (.putfield 623, 3) := by decide +kernel
theorem dX12_clear_15 : decode cX12_clear 15 = .ok (.iconst 0, 1) := by decide +kernel
theorem dX12_clear_16 : decode cX12_clear 16 = .ok (.istore_n 1, 1) := by decide +kernel
theorem dX12_clear_17 : decode cX12_clear 17 = .ok (.iload_n 1, 1) := by decide +kernel
theorem dX12_clear_18 : decode cX12_clear 18 = .ok (.bipush 12, 2) := by decide +kernel
theorem dX12_clear_20 : decode cX12_clear 20 = .ok (.if_icmp .ge 16, 3) := by decide +kernel
theorem dX12_clear_23 : decode cX12_clear 23 = .ok (.aload_n 0, 1) := by decide +kernel
theorem dX12_clear_24 : decode cX12_clear 24 = .ok (.getfield 135, 3) := by decide +kernel
theorem dX12_clear_27 : decode cX12_clear 27 = .ok (.iload_n 1, 1) := by decide +kernel
theorem dX12_clear_28 : decode cX12_clear 28 = .ok (.iconst 0, 1) := by decide +kernel
theorem dX12_clear_29 : decode cX12_clear 29 = .ok (.iastore, 1) := by decide +kernel
theorem dX12_clear_30 : decode cX12_clear 30 = .ok (.iinc 1 1, 3) := by decide +kernel
theorem dX12_clear_33 : decode cX12_clear 33 = .ok (.goto (-16), 3) := by decide +kernel
theorem dX12_clear_36 : decode cX12_clear 36 = .ok (.return_, 1) := by decide +kernel
theorem dX12_emptyRow_0 : decode cX12_emptyRow 0 = .ok (.iconst 0, 1) := by decide +kernel
theorem dX12_emptyRow_1 : decode cX12_emptyRow 1 = .ok (.istore_n 1, 1) := by decide +kernel
theorem dX12_emptyRow_2 : decode cX12_emptyRow 2 = .ok (.iload_n 1, 1) := by decide +kernel
theorem dX12_emptyRow_3 : decode cX12_emptyRow 3 = .ok (.bipush 13, 2) := by decide +kernel
theorem dX12_emptyRow_5 : decode cX12_emptyRow 5 = .ok (.if_icmp .ge 39, 3) := by decide +kernel
theorem dX12_emptyRow_8 : decode cX12_emptyRow 8 = .ok (.aload_n 0, 1) := by decide +kernel
theorem dX12_emptyRow_9 : decode cX12_emptyRow 9 = .ok (.getfield 144, 3) := by decide +kernel
theorem dX12_emptyRow_12 : decode cX12_emptyRow 12 = .ok (.bipush 13, 2) := by decide +kernel
theorem dX12_emptyRow_14 : decode cX12_emptyRow 14 = .ok (.aload_n 0, 1) := by decide +kernel
theorem dX12_emptyRow_15 : decode cX12_emptyRow 15 = .ok (.getfield 626, 3) := by decide +kernel
theorem dX12_emptyRow_18 : decode cX12_emptyRow 18 = .ok (.imul, 1) := by decide +kernel
theorem dX12_emptyRow_19 : decode cX12_emptyRow 19 = .ok (.iload_n 1, 1) := by decide +kernel
theorem dX12_emptyRow_20 : decode cX12_emptyRow 20 = .ok (.iadd, 1) := by decide +kernel
theorem dX12_emptyRow_21 : decode cX12_emptyRow 21 = .ok (.lconst 0, 1) := by decide +kernel
theorem dX12_emptyRow_22 : decode cX12_emptyRow 22 = .ok (.lastore, 1) := by decide +kernel
theorem dX12_emptyRow_23 : decode cX12_emptyRow 23 = .ok (.aload_n 0, 1) := by decide +kernel
theorem dX12_emptyRow_24 : decode cX12_emptyRow 24 = .ok (.getfield 147, 3) := by decide +kernel
theorem dX12_emptyRow_27 : decode cX12_emptyRow 27 = .ok (.bipush 13, 2) := by decide +kernel
theorem dX12_emptyRow_29 : decode cX12_emptyRow 29 = .ok (.aload_n 0, 1) := by decide +kernel
theorem dX12_emptyRow_30 : decode cX12_emptyRow 30 = .ok (.getfield 626, 3) := by decide +kernel
theorem dX12_emptyRow_33 : decode cX12_emptyRow 33 = .ok (.imul, 1) := by decide +kernel
theorem dX12_emptyRow_34 : decode cX12_emptyRow 34 = .ok (.iload_n 1, 1) := by decide +kernel
theorem dX12_emptyRow_35 : decode cX12_emptyRow 35 = .ok (.iadd, 1) := by decide +kernel
theorem dX12_emptyRow_36 : decode cX12_emptyRow 36 = .ok (.lconst 1, 1) := by decide +kernel
theorem dX12_emptyRow_37 : decode cX12_emptyRow 37 = .ok (.lastore, 1) := by decide +kernel
theorem dX12_emptyRow_38 : decode cX12_emptyRow 38 = .ok (.iinc 1 1, 3) := by decide +kernel
theorem dX12_emptyRow_41 : decode cX12_emptyRow 41 = .ok (.goto (-39), 3) := by decide +kernel
theorem dX12_emptyRow_44 : decode cX12_emptyRow 44 = .ok (.aload_n 0, 1) := by decide +kernel
theorem dX12_emptyRow_45 : decode cX12_emptyRow 45 = .ok (.dup, 1) := by decide +kernel
theorem dX12_emptyRow_46 : decode cX12_emptyRow 46 = .ok (.getfield 626, 3) := by decide +kernel
theorem dX12_emptyRow_49 : decode cX12_emptyRow 49 = .ok (.iconst 1, 1) := by decide +kernel
theorem dX12_emptyRow_50 : decode cX12_emptyRow 50 = .ok (.iadd, 1) := by decide +kernel
theorem dX12_emptyRow_51 : decode cX12_emptyRow 51 = .ok (.putfield 626, 3) := by decide +kernel
theorem dX12_emptyRow_54 : decode cX12_emptyRow 54 = .ok (.return_, 1) := by decide +kernel
theorem dX12_makeRows_0 : decode cX12_makeRows 0 = .ok (.aload_n 0, 1) := by decide +kernel
theorem dX12_makeRows_1 : decode cX12_makeRows 1 = .ok (.iconst 0, 1) := by decide +kernel
theorem dX12_makeRows_2 : decode cX12_makeRows 2 = .ok (.putfield 626, 3) := by decide +kernel
theorem dX12_makeRows_5 : decode cX12_makeRows 5 = .ok (.iconst 0, 1) := by decide +kernel
theorem dX12_makeRows_6 : decode cX12_makeRows 6 = .ok (.istore_n 1, 1) := by decide +kernel
theorem dX12_makeRows_7 : decode cX12_makeRows 7 = .ok (.iload_n 1, 1) := by decide +kernel
theorem dX12_makeRows_8 : decode cX12_makeRows 8 = .ok (.aload_n 0, 1) := by decide +kernel
theorem dX12_makeRows_9 : decode cX12_makeRows 9 = .ok (.getfield 623, 3) := by decide +kernel
theorem dX12_makeRows_12 : decode cX12_makeRows 12 = .ok (.if_icmp .ge 149, 3) := by decide +kernel
theorem dX12_makeRows_15 : decode cX12_makeRows 15 = .ok (.aload_n 0, 1) := by decide +kernel
theorem dX12_makeRows_16 : decode cX12_makeRows 16 = .ok (.invokevirtual 629, 3) := by decide +kernel
theorem dX12_makeRows_19 : decode cX12_makeRows 19 = .ok (.bipush 13, 2) := by decide +kernel
theorem dX12_makeRows_21 : decode cX12_makeRows 21 = .ok (.aload_n 0, 1) := by decide +kernel
theorem dX12_makeRows_22 : decode cX12_makeRows 22 = .ok (.getfield 626, 3) := by decide +kernel
theorem dX12_makeRows_25 : decode cX12_makeRows 25 = .ok (.iconst 1, 1) := by decide +kernel
theorem dX12_makeRows_26 : decode cX12_makeRows 26 = .ok (.isub, 1) := by decide +kernel
theorem dX12_makeRows_27 : decode cX12_makeRows 27 = .ok (.imul, 1) := by decide +kernel
theorem dX12_makeRows_28 : decode cX12_makeRows 28 = .ok (.istore_n 2, 1) := by decide +kernel
theorem dX12_makeRows_29 : decode cX12_makeRows 29 = .ok (.aload_n 0, 1) := by decide +kernel
theorem dX12_makeRows_30 : decode cX12_makeRows 30 = .ok (.getfield 117, 3) := by decide +kernel
theorem dX12_makeRows_33 : decode cX12_makeRows 33 = .ok (.aload_n 0, 1) := by decide +kernel
theorem dX12_makeRows_34 : decode cX12_makeRows 34 = .ok (.getfield 123, 3) := by decide +kernel
theorem dX12_makeRows_37 : decode cX12_makeRows 37 = .ok (.iload_n 1, 1) := by decide +kernel
theorem dX12_makeRows_38 : decode cX12_makeRows 38 = .ok (.iaload, 1) := by decide +kernel
theorem dX12_makeRows_39 : decode cX12_makeRows 39 = .ok (.iaload, 1) := by decide +kernel
theorem dX12_makeRows_40 : decode cX12_makeRows 40 = .ok (.i2l, 1) := by decide +kernel
theorem dX12_makeRows_41 : decode cX12_makeRows 41 = .ok (.lstore_n 3, 1) := by decide +kernel
theorem dX12_makeRows_42 : decode cX12_makeRows 42 = .ok (.aload_n 0, 1) := by decide +kernel
theorem dX12_makeRows_43 : decode cX12_makeRows 43 = .ok (.getfield 132, 3) := by decide +kernel
theorem dX12_makeRows_46 : decode cX12_makeRows 46 = .ok (.iload_n 1, 1) := by decide +kernel
theorem dX12_makeRows_47 : decode cX12_makeRows 47 = .ok (.baload, 1) := by decide +kernel
theorem dX12_makeRows_48 : decode cX12_makeRows 48 = .ok (.ifCond .eq 19, 3) := by decide +kernel
theorem dX12_makeRows_51 : decode cX12_makeRows 51 = .ok (.aload_n 0, 1) := by decide +kernel
theorem dX12_makeRows_52 : decode cX12_makeRows 52 = .ok (.getfield 117, 3) := by decide +kernel
theorem dX12_makeRows_55 : decode cX12_makeRows 55 = .ok (.aload_n 0, 1) := by decide +kernel
theorem dX12_makeRows_56 : decode cX12_makeRows 56 = .ok (.getfield 126, 3) := by decide +kernel
theorem dX12_makeRows_59 : decode cX12_makeRows 59 = .ok (.iload_n 1, 1) := by decide +kernel
theorem dX12_makeRows_60 : decode cX12_makeRows 60 = .ok (.iaload, 1) := by decide +kernel
theorem dX12_makeRows_61 : decode cX12_makeRows 61 = .ok (.iaload, 1) := by decide +kernel
theorem dX12_makeRows_62 : decode cX12_makeRows 62 = .ok (.ineg, 1) := by decide +kernel
theorem dX12_makeRows_63 : decode cX12_makeRows 63 = .ok (.i2l, 1) := by decide +kernel
theorem dX12_makeRows_64 : decode cX12_makeRows 64 = .ok (.goto 15, 3) := by decide +kernel
theorem dX12_makeRows_67 : decode cX12_makeRows 67 = .ok (.aload_n 0, 1) := by decide +kernel
theorem dX12_makeRows_68 : decode cX12_makeRows 68 = .ok (.getfield 117, 3) := by decide +kernel
theorem dX12_makeRows_71 : decode cX12_makeRows 71 = .ok (.aload_n 0, 1) := by decide +kernel
theorem dX12_makeRows_72 : decode cX12_makeRows 72 = .ok (.getfield 126, 3) := by decide +kernel
theorem dX12_makeRows_75 : decode cX12_makeRows 75 = .ok (.iload_n 1, 1) := by decide +kernel
theorem dX12_makeRows_76 : decode cX12_makeRows 76 = .ok (.iaload, 1) := by decide +kernel
theorem dX12_makeRows_77 : decode cX12_makeRows 77 = .ok (.iaload, 1) := by decide +kernel
theorem dX12_makeRows_78 : decode cX12_makeRows 78 = .ok (.i2l, 1) := by decide +kernel
theorem dX12_makeRows_79 : decode cX12_makeRows 79 = .ok (.lstore 5, 2) := by decide +kernel
theorem dX12_makeRows_81 : decode cX12_makeRows 81 = .ok (.aload_n 0, 1) := by decide +kernel
theorem dX12_makeRows_82 : decode cX12_makeRows 82 = .ok (.getfield 144, 3) := by decide +kernel
theorem dX12_makeRows_85 : decode cX12_makeRows 85 = .ok (.iload_n 2, 1) := by decide +kernel
theorem dX12_makeRows_86 : decode cX12_makeRows 86 = .ok (.aload_n 0, 1) := by decide +kernel
theorem dX12_makeRows_87 : decode cX12_makeRows 87 = .ok (.getfield 120, 3) := by decide +kernel
theorem dX12_makeRows_90 : decode cX12_makeRows 90 = .ok (.aload_n 0, 1) := by decide +kernel
theorem dX12_makeRows_91 : decode cX12_makeRows 91 = .ok (.getfield 123, 3) := by decide +kernel
theorem dX12_makeRows_94 : decode cX12_makeRows 94 = .ok (.iload_n 1, 1) := by decide +kernel
theorem dX12_makeRows_95 : decode cX12_makeRows 95 = .ok (.iaload, 1) := by decide +kernel
theorem dX12_makeRows_96 : decode cX12_makeRows 96 = .ok (.iaload, 1) := by decide +kernel
theorem dX12_makeRows_97 : decode cX12_makeRows 97 = .ok (.iadd, 1) := by decide +kernel
theorem dX12_makeRows_98 : decode cX12_makeRows 98 = .ok (.dup2, 1) := by decide +kernel
theorem dX12_makeRows_99 : decode cX12_makeRows 99 = .ok (.laload, 1) := by decide +kernel
theorem dX12_makeRows_100 : decode cX12_makeRows 100 = .ok (.lload_n 3, 1) := by decide +kernel
theorem dX12_makeRows_101 : decode cX12_makeRows 101 = .ok (.ladd, 1) := by decide +kernel
theorem dX12_makeRows_102 : decode cX12_makeRows 102 = .ok (.lastore, 1) := by decide +kernel
theorem dX12_makeRows_103 : decode cX12_makeRows 103 = .ok (.aload_n 0, 1) := by decide +kernel
theorem dX12_makeRows_104 : decode cX12_makeRows 104 = .ok (.getfield 144, 3) := by decide +kernel
theorem dX12_makeRows_107 : decode cX12_makeRows 107 = .ok (.iload_n 2, 1) := by decide +kernel
theorem dX12_makeRows_108 : decode cX12_makeRows 108 = .ok (.aload_n 0, 1) := by decide +kernel
theorem dX12_makeRows_109 : decode cX12_makeRows 109 = .ok (.getfield 120, 3) := by decide +kernel
theorem dX12_makeRows_112 : decode cX12_makeRows 112 = .ok (.aload_n 0, 1) := by decide +kernel
theorem dX12_makeRows_113 : decode cX12_makeRows 113 = .ok (.getfield 126, 3) := by decide +kernel
theorem dX12_makeRows_116 : decode cX12_makeRows 116 = .ok (.iload_n 1, 1) := by decide +kernel
theorem dX12_makeRows_117 : decode cX12_makeRows 117 = .ok (.iaload, 1) := by decide +kernel
theorem dX12_makeRows_118 : decode cX12_makeRows 118 = .ok (.iaload, 1) := by decide +kernel
theorem dX12_makeRows_119 : decode cX12_makeRows 119 = .ok (.iadd, 1) := by decide +kernel
theorem dX12_makeRows_120 : decode cX12_makeRows 120 = .ok (.dup2, 1) := by decide +kernel
theorem dX12_makeRows_121 : decode cX12_makeRows 121 = .ok (.laload, 1) := by decide +kernel
theorem dX12_makeRows_122 : decode cX12_makeRows 122 = .ok (.lload 5, 2) := by decide +kernel
theorem dX12_makeRows_124 : decode cX12_makeRows 124 = .ok (.ladd, 1) := by decide +kernel
theorem dX12_makeRows_125 : decode cX12_makeRows 125 = .ok (.lastore, 1) := by decide +kernel
theorem dX12_makeRows_126 : decode cX12_makeRows 126 = .ok (.aload_n 0, 1) := by decide +kernel
theorem dX12_makeRows_127 : decode cX12_makeRows 127 = .ok (.getfield 129, 3) := by decide +kernel
theorem dX12_makeRows_130 : decode cX12_makeRows 130 = .ok (.iload_n 1, 1) := by decide +kernel
theorem dX12_makeRows_131 : decode cX12_makeRows 131 = .ok (.iaload, 1) := by decide +kernel
theorem dX12_makeRows_132 : decode cX12_makeRows 132 = .ok (.ifCond .lt 23, 3) := by decide +kernel
theorem dX12_makeRows_135 : decode cX12_makeRows 135 = .ok (.aload_n 0, 1) := by decide +kernel
theorem dX12_makeRows_136 : decode cX12_makeRows 136 = .ok (.getfield 144, 3) := by decide +kernel
theorem dX12_makeRows_139 : decode cX12_makeRows 139 = .ok (.iload_n 2, 1) := by decide +kernel
theorem dX12_makeRows_140 : decode cX12_makeRows 140 = .ok (.aload_n 0, 1) := by decide +kernel
theorem dX12_makeRows_141 : decode cX12_makeRows 141 = .ok (.getfield 129, 3) := by decide +kernel
theorem dX12_makeRows_144 : decode cX12_makeRows 144 = .ok (.iload_n 1, 1) := by decide +kernel
theorem dX12_makeRows_145 : decode cX12_makeRows 145 = .ok (.iaload, 1) := by decide +kernel
theorem dX12_makeRows_146 : decode cX12_makeRows 146 = .ok (.iadd, 1) := by decide +kernel
theorem dX12_makeRows_147 : decode cX12_makeRows 147 = .ok (.dup2, 1) := by decide +kernel
theorem dX12_makeRows_148 : decode cX12_makeRows 148 = .ok (.laload, 1) := by decide +kernel
theorem dX12_makeRows_149 : decode cX12_makeRows 149 = .ok (.lload_n 3, 1) := by decide +kernel
theorem dX12_makeRows_150 : decode cX12_makeRows 150 = .ok (.lload 5, 2) := by decide +kernel
theorem dX12_makeRows_152 : decode cX12_makeRows 152 = .ok (.ladd, 1) := by decide +kernel
theorem dX12_makeRows_153 : decode cX12_makeRows 153 = .ok (.lsub, 1) := by decide +kernel
theorem dX12_makeRows_154 : decode cX12_makeRows 154 = .ok (.lastore, 1) := by decide +kernel
theorem dX12_makeRows_155 : decode cX12_makeRows 155 = .ok (.iinc 1 1, 3) := by decide +kernel
theorem dX12_makeRows_158 : decode cX12_makeRows 158 = .ok (.goto (-151), 3) := by decide +kernel
theorem dX12_makeRows_161 : decode cX12_makeRows 161 = .ok (.iconst 0, 1) := by decide +kernel
theorem dX12_makeRows_162 : decode cX12_makeRows 162 = .ok (.istore_n 1, 1) := by decide +kernel
theorem dX12_makeRows_163 : decode cX12_makeRows 163 = .ok (.iload_n 1, 1) := by decide +kernel
theorem dX12_makeRows_164 : decode cX12_makeRows 164 = .ok (.bipush 12, 2) := by decide +kernel
theorem dX12_makeRows_166 : decode cX12_makeRows 166 = .ok (.if_icmp .ge 130, 3) := by decide +kernel
theorem dX12_makeRows_169 : decode cX12_makeRows 169 = .ok (.aload_n 0, 1) := by decide +kernel
theorem dX12_makeRows_170 : decode cX12_makeRows 170 = .ok (.getfield 135, 3) := by decide +kernel
theorem dX12_makeRows_173 : decode cX12_makeRows 173 = .ok (.iload_n 1, 1) := by decide +kernel
theorem dX12_makeRows_174 : decode cX12_makeRows 174 = .ok (.iaload, 1) := by decide +kernel
theorem dX12_makeRows_175 : decode cX12_makeRows 175 = .ok (.ifCond .ne 6, 3) := by decide +kernel
theorem dX12_makeRows_178 : decode cX12_makeRows 178 = .ok (.goto 112, 3) := by decide +kernel
theorem dX12_makeRows_181 : decode cX12_makeRows 181 = .ok (.aload_n 0, 1) := by decide +kernel
theorem dX12_makeRows_182 : decode cX12_makeRows 182 = .ok (.invokevirtual 629, 3) := by decide +kernel
theorem dX12_makeRows_185 : decode cX12_makeRows 185 = .ok (.aload_n 0, 1) := by decide +kernel
theorem dX12_makeRows_186 : decode cX12_makeRows 186 = .ok (.getfield 144, 3) := by decide +kernel
theorem dX12_makeRows_189 : decode cX12_makeRows 189 = .ok (.bipush 13, 2) := by decide +kernel
theorem dX12_makeRows_191 : decode cX12_makeRows 191 = .ok (.aload_n 0, 1) := by decide +kernel
theorem dX12_makeRows_192 : decode cX12_makeRows 192 = .ok (.getfield 626, 3) := by decide +kernel
theorem dX12_makeRows_195 : decode cX12_makeRows 195 = .ok (.iconst 1, 1) := by decide +kernel
theorem dX12_makeRows_196 : decode cX12_makeRows 196 = .ok (.isub, 1) := by decide +kernel
theorem dX12_makeRows_197 : decode cX12_makeRows 197 = .ok (.imul, 1) := by decide +kernel
theorem dX12_makeRows_198 : decode cX12_makeRows 198 = .ok (.iload_n 1, 1) := by decide +kernel
theorem dX12_makeRows_199 : decode cX12_makeRows 199 = .ok (.iadd, 1) := by decide +kernel
theorem dX12_makeRows_200 : decode cX12_makeRows 200 = .ok (.lconst 1, 1) := by decide +kernel
theorem dX12_makeRows_201 : decode cX12_makeRows 201 = .ok (.lastore, 1) := by decide +kernel
theorem dX12_makeRows_202 : decode cX12_makeRows 202 = .ok (.aload_n 0, 1) := by decide +kernel
theorem dX12_makeRows_203 : decode cX12_makeRows 203 = .ok (.aload_n 0, 1) := by decide +kernel
theorem dX12_makeRows_204 : decode cX12_makeRows 204 = .ok (.getfield 135, 3) := by decide +kernel
theorem dX12_makeRows_207 : decode cX12_makeRows 207 = .ok (.iload_n 1, 1) := by decide +kernel
theorem dX12_makeRows_208 : decode cX12_makeRows 208 = .ok (.iaload, 1) := by decide +kernel
theorem dX12_makeRows_209 : decode cX12_makeRows 209 = .ok (.iconst 2, 1) := by decide +kernel
theorem dX12_makeRows_210 : decode cX12_makeRows 210 = .ok (.if_icmp .ne 13, 3) := by decide +kernel
theorem dX12_makeRows_213 : decode cX12_makeRows 213 = .ok (.aload_n 0, 1) := by decide +kernel
theorem dX12_makeRows_214 : decode cX12_makeRows 214 = .ok (.getfield 138, 3) := by decide +kernel
theorem dX12_makeRows_217 : decode cX12_makeRows 217 = .ok (.iload_n 1, 1) := by decide +kernel
theorem dX12_makeRows_218 : decode cX12_makeRows 218 = .ok (.iaload, 1) := by decide +kernel
theorem dX12_makeRows_219 : decode cX12_makeRows 219 = .ok (.i2l, 1) := by decide +kernel
theorem dX12_makeRows_220 : decode cX12_makeRows 220 = .ok (.goto 4, 3) := by decide +kernel
theorem dX12_makeRows_223 : decode cX12_makeRows 223 = .ok (.lconst 0, 1) := by decide +kernel
theorem dX12_makeRows_224 : decode cX12_makeRows 224 = .ok (.aload_n 0, 1) := by decide +kernel
theorem dX12_makeRows_225 : decode cX12_makeRows 225 = .ok (.getfield 135, 3) := by decide +kernel
theorem dX12_makeRows_228 : decode cX12_makeRows 228 = .ok (.iload_n 1, 1) := by decide +kernel
theorem dX12_makeRows_229 : decode cX12_makeRows 229 = .ok (.iaload, 1) := by decide +kernel
theorem dX12_makeRows_230 : decode cX12_makeRows 230 = .ok (.iconst 2, 1) := by decide +kernel
theorem dX12_makeRows_231 : decode cX12_makeRows 231 = .ok (.if_icmp .ne 13, 3) := by decide +kernel
theorem dX12_makeRows_234 : decode cX12_makeRows 234 = .ok (.aload_n 0, 1) := by decide +kernel
theorem dX12_makeRows_235 : decode cX12_makeRows 235 = .ok (.getfield 141, 3) := by decide +kernel
theorem dX12_makeRows_238 : decode cX12_makeRows 238 = .ok (.iload_n 1, 1) := by decide +kernel
theorem dX12_makeRows_239 : decode cX12_makeRows 239 = .ok (.iaload, 1) := by decide +kernel
theorem dX12_makeRows_240 : decode cX12_makeRows 240 = .ok (.i2l, 1) := by decide +kernel
theorem dX12_makeRows_241 : decode cX12_makeRows 241 = .ok (.goto 4, 3) := by decide +kernel
theorem dX12_makeRows_244 : decode cX12_makeRows 244 = .ok (.lconst 1, 1) := by decide +kernel
theorem dX12_makeRows_245 : decode cX12_makeRows 245 = .ok (.invokevirtual 300, 3) := by decide +kernel
theorem dX12_makeRows_248 : decode cX12_makeRows 248 = .ok (.aload_n 0, 1) := by decide +kernel
theorem dX12_makeRows_249 : decode cX12_makeRows 249 = .ok (.getfield 144, 3) := by decide +kernel
theorem dX12_makeRows_252 : decode cX12_makeRows 252 = .ok (.bipush 13, 2) := by decide +kernel
theorem dX12_makeRows_254 : decode cX12_makeRows 254 = .ok (.aload_n 0, 1) := by decide +kernel
theorem dX12_makeRows_255 : decode cX12_makeRows 255 = .ok (.getfield 626, 3) := by decide +kernel
theorem dX12_makeRows_258 : decode cX12_makeRows 258 = .ok (.iconst 1, 1) := by decide +kernel
theorem dX12_makeRows_259 : decode cX12_makeRows 259 = .ok (.isub, 1) := by decide +kernel
theorem dX12_makeRows_260 : decode cX12_makeRows 260 = .ok (.imul, 1) := by decide +kernel
theorem dX12_makeRows_261 : decode cX12_makeRows 261 = .ok (.bipush 12, 2) := by decide +kernel
theorem dX12_makeRows_263 : decode cX12_makeRows 263 = .ok (.iadd, 1) := by decide +kernel
theorem dX12_makeRows_264 : decode cX12_makeRows 264 = .ok (.aload_n 0, 1) := by decide +kernel
theorem dX12_makeRows_265 : decode cX12_makeRows 265 = .ok (.getfield 287, 3) := by decide +kernel
theorem dX12_makeRows_268 : decode cX12_makeRows 268 = .ok (.lastore, 1) := by decide +kernel
theorem dX12_makeRows_269 : decode cX12_makeRows 269 = .ok (.aload_n 0, 1) := by decide +kernel
theorem dX12_makeRows_270 : decode cX12_makeRows 270 = .ok (.getfield 147, 3) := by decide +kernel
theorem dX12_makeRows_273 : decode cX12_makeRows 273 = .ok (.bipush 13, 2) := by decide +kernel
theorem dX12_makeRows_275 : decode cX12_makeRows 275 = .ok (.aload_n 0, 1) := by decide +kernel
theorem dX12_makeRows_276 : decode cX12_makeRows 276 = .ok (.getfield 626, 3) := by decide +kernel
theorem dX12_makeRows_279 : decode cX12_makeRows 279 = .ok (.iconst 1, 1) := by decide +kernel
theorem dX12_makeRows_280 : decode cX12_makeRows 280 = .ok (.isub, 1) := by decide +kernel
theorem dX12_makeRows_281 : decode cX12_makeRows 281 = .ok (.imul, 1) := by decide +kernel
theorem dX12_makeRows_282 : decode cX12_makeRows 282 = .ok (.bipush 12, 2) := by decide +kernel
theorem dX12_makeRows_284 : decode cX12_makeRows 284 = .ok (.iadd, 1) := by decide +kernel
theorem dX12_makeRows_285 : decode cX12_makeRows 285 = .ok (.aload_n 0, 1) := by decide +kernel
theorem dX12_makeRows_286 : decode cX12_makeRows 286 = .ok (.getfield 291, 3) := by decide +kernel
theorem dX12_makeRows_289 : decode cX12_makeRows 289 = .ok (.lastore, 1) := by decide +kernel
theorem dX12_makeRows_290 : decode cX12_makeRows 290 = .ok (.iinc 1 1, 3) := by decide +kernel
theorem dX12_makeRows_293 : decode cX12_makeRows 293 = .ok (.goto (-130), 3) := by decide +kernel
theorem dX12_makeRows_296 : decode cX12_makeRows 296 = .ok (.return_, 1) := by decide +kernel
theorem dX12_keepFraction_0 : decode cX12_keepFraction 0 = .ok (.aload_n 0, 1) := by decide +kernel
theorem dX12_keepFraction_1 : decode cX12_keepFraction 1 = .ok (.getfield 144, 3) := by decide +kernel
theorem dX12_keepFraction_4 : decode cX12_keepFraction 4 = .ok (.iload_n 1, 1) := by decide +kernel
theorem dX12_keepFraction_5 : decode cX12_keepFraction 5 = .ok (.aload_n 0, 1) := by decide +kernel
theorem dX12_keepFraction_6 : decode cX12_keepFraction 6 = .ok (.getfield 287, 3) := by decide +kernel
theorem dX12_keepFraction_9 : decode cX12_keepFraction 9 = .ok (.lastore, 1) := by decide +kernel
theorem dX12_keepFraction_10 : decode cX12_keepFraction 10 = .ok (.aload_n 0, 1) := by decide +kernel
theorem dX12_keepFraction_11 : decode cX12_keepFraction 11 = .ok (.getfield 147, 3) := by decide +kernel
theorem dX12_keepFraction_14 : decode cX12_keepFraction 14 = .ok (.iload_n 1, 1) := by decide +kernel
theorem dX12_keepFraction_15 : decode cX12_keepFraction 15 = .ok (.aload_n 0, 1) := by decide +kernel
theorem dX12_keepFraction_16 : decode cX12_keepFraction 16 = .ok (.getfield 291, 3) := by decide +kernel
theorem dX12_keepFraction_19 : decode cX12_keepFraction 19 = .ok (.lastore, 1) := by decide +kernel
theorem dX12_keepFraction_20 : decode cX12_keepFraction 20 = .ok (.return_, 1) := by decide +kernel
theorem dX12_changeRows_0 : decode cX12_changeRows 0 = .ok (.iconst 0, 1) := by decide +kernel
theorem dX12_changeRows_1 : decode cX12_changeRows 1 = .ok (.istore_n 3, 1) := by decide +kernel
theorem dX12_changeRows_2 : decode cX12_changeRows 2 = .ok (.iload_n 3, 1) := by decide +kernel
theorem dX12_changeRows_3 : decode cX12_changeRows 3 = .ok (.bipush 13, 2) := by decide +kernel
theorem dX12_changeRows_5 : decode cX12_changeRows 5 = .ok (.if_icmp .ge 105, 3) := by decide +kernel
theorem dX12_changeRows_8 : decode cX12_changeRows 8 = .ok (.aload_n 0, 1) := by decide +kernel
theorem dX12_changeRows_9 : decode cX12_changeRows 9 = .ok (.getfield 144, 3) := by decide +kernel
theorem dX12_changeRows_12 : decode cX12_changeRows 12 = .ok (.bipush 13, 2) := by decide +kernel
theorem dX12_changeRows_14 : decode cX12_changeRows 14 = .ok (.iload_n 1, 1) := by decide +kernel
theorem dX12_changeRows_15 : decode cX12_changeRows 15 = .ok (.imul, 1) := by decide +kernel
theorem dX12_changeRows_16 : decode cX12_changeRows 16 = .ok (.iload_n 3, 1) := by decide +kernel
theorem dX12_changeRows_17 : decode cX12_changeRows 17 = .ok (.iadd, 1) := by decide +kernel
theorem dX12_changeRows_18 : decode cX12_changeRows 18 = .ok (.laload, 1) := by decide +kernel
theorem dX12_changeRows_19 : decode cX12_changeRows 19 = .ok (.lstore 4, 2) := by decide +kernel
theorem dX12_changeRows_21 : decode cX12_changeRows 21 = .ok (.aload_n 0, 1) := by decide +kernel
theorem dX12_changeRows_22 : decode cX12_changeRows 22 = .ok (.getfield 147, 3) := by decide +kernel
theorem dX12_changeRows_25 : decode cX12_changeRows 25 = .ok (.bipush 13, 2) := by decide +kernel
theorem dX12_changeRows_27 : decode cX12_changeRows 27 = .ok (.iload_n 1, 1) := by decide +kernel
theorem dX12_changeRows_28 : decode cX12_changeRows 28 = .ok (.imul, 1) := by decide +kernel
theorem dX12_changeRows_29 : decode cX12_changeRows 29 = .ok (.iload_n 3, 1) := by decide +kernel
theorem dX12_changeRows_30 : decode cX12_changeRows 30 = .ok (.iadd, 1) := by decide +kernel
theorem dX12_changeRows_31 : decode cX12_changeRows 31 = .ok (.laload, 1) := by decide +kernel
theorem dX12_changeRows_32 : decode cX12_changeRows 32 = .ok (.lstore 6, 2) := by decide +kernel
theorem dX12_changeRows_34 : decode cX12_changeRows 34 = .ok (.aload_n 0, 1) := by decide +kernel
theorem dX12_changeRows_35 : decode cX12_changeRows 35 = .ok (.getfield 144, 3) := by decide +kernel
theorem dX12_changeRows_38 : decode cX12_changeRows 38 = .ok (.bipush 13, 2) := by decide +kernel
theorem dX12_changeRows_40 : decode cX12_changeRows 40 = .ok (.iload_n 1, 1) := by decide +kernel
theorem dX12_changeRows_41 : decode cX12_changeRows 41 = .ok (.imul, 1) := by decide +kernel
theorem dX12_changeRows_42 : decode cX12_changeRows 42 = .ok (.iload_n 3, 1) := by decide +kernel
theorem dX12_changeRows_43 : decode cX12_changeRows 43 = .ok (.iadd, 1) := by decide +kernel
theorem dX12_changeRows_44 : decode cX12_changeRows 44 = .ok (.aload_n 0, 1) := by decide +kernel
theorem dX12_changeRows_45 : decode cX12_changeRows 45 = .ok (.getfield 144, 3) := by decide +kernel
theorem dX12_changeRows_48 : decode cX12_changeRows 48 = .ok (.bipush 13, 2) := by decide +kernel
theorem dX12_changeRows_50 : decode cX12_changeRows 50 = .ok (.iload_n 2, 1) := by decide +kernel
theorem dX12_changeRows_51 : decode cX12_changeRows 51 = .ok (.imul, 1) := by decide +kernel
theorem dX12_changeRows_52 : decode cX12_changeRows 52 = .ok (.iload_n 3, 1) := by decide +kernel
theorem dX12_changeRows_53 : decode cX12_changeRows 53 = .ok (.iadd, 1) := by decide +kernel
theorem dX12_changeRows_54 : decode cX12_changeRows 54 = .ok (.laload, 1) := by decide +kernel
theorem dX12_changeRows_55 : decode cX12_changeRows 55 = .ok (.lastore, 1) := by decide +kernel
theorem dX12_changeRows_56 : decode cX12_changeRows 56 = .ok (.aload_n 0, 1) := by decide +kernel
theorem dX12_changeRows_57 : decode cX12_changeRows 57 = .ok (.getfield 147, 3) := by decide +kernel
theorem dX12_changeRows_60 : decode cX12_changeRows 60 = .ok (.bipush 13, 2) := by decide +kernel
theorem dX12_changeRows_62 : decode cX12_changeRows 62 = .ok (.iload_n 1, 1) := by decide +kernel
theorem dX12_changeRows_63 : decode cX12_changeRows 63 = .ok (.imul, 1) := by decide +kernel
theorem dX12_changeRows_64 : decode cX12_changeRows 64 = .ok (.iload_n 3, 1) := by decide +kernel
theorem dX12_changeRows_65 : decode cX12_changeRows 65 = .ok (.iadd, 1) := by decide +kernel
theorem dX12_changeRows_66 : decode cX12_changeRows 66 = .ok (.aload_n 0, 1) := by decide +kernel
theorem dX12_changeRows_67 : decode cX12_changeRows 67 = .ok (.getfield 147, 3) := by decide +kernel
theorem dX12_changeRows_70 : decode cX12_changeRows 70 = .ok (.bipush 13, 2) := by decide +kernel
theorem dX12_changeRows_72 : decode cX12_changeRows 72 = .ok (.iload_n 2, 1) := by decide +kernel
theorem dX12_changeRows_73 : decode cX12_changeRows 73 = .ok (.imul, 1) := by decide +kernel
theorem dX12_changeRows_74 : decode cX12_changeRows 74 = .ok (.iload_n 3, 1) := by decide +kernel
theorem dX12_changeRows_75 : decode cX12_changeRows 75 = .ok (.iadd, 1) := by decide +kernel
theorem dX12_changeRows_76 : decode cX12_changeRows 76 = .ok (.laload, 1) := by decide +kernel
theorem dX12_changeRows_77 : decode cX12_changeRows 77 = .ok (.lastore, 1) := by decide +kernel
theorem dX12_changeRows_78 : decode cX12_changeRows 78 = .ok (.aload_n 0, 1) := by decide +kernel
theorem dX12_changeRows_79 : decode cX12_changeRows 79 = .ok (.getfield 144, 3) := by decide +kernel
theorem dX12_changeRows_82 : decode cX12_changeRows 82 = .ok (.bipush 13, 2) := by decide +kernel
theorem dX12_changeRows_84 : decode cX12_changeRows 84 = .ok (.iload_n 2, 1) := by decide +kernel
theorem dX12_changeRows_85 : decode cX12_changeRows 85 = .ok (.imul, 1) := by decide +kernel
theorem dX12_changeRows_86 : decode cX12_changeRows 86 = .ok (.iload_n 3, 1) := by decide +kernel
theorem dX12_changeRows_87 : decode cX12_changeRows 87 = .ok (.iadd, 1) := by decide +kernel
theorem dX12_changeRows_88 : decode cX12_changeRows 88 = .ok (.lload 4, 2) := by decide +kernel
theorem dX12_changeRows_90 : decode cX12_changeRows 90 = .ok (.lastore, 1) := by decide +kernel
theorem dX12_changeRows_91 : decode cX12_changeRows 91 = .ok (.aload_n 0, 1) := by decide +kernel
theorem dX12_changeRows_92 : decode cX12_changeRows 92 = .ok (.getfield 147, 3) := by decide +kernel
theorem dX12_changeRows_95 : decode cX12_changeRows 95 = .ok (.bipush 13, 2) := by decide +kernel
theorem dX12_changeRows_97 : decode cX12_changeRows 97 = .ok (.iload_n 2, 1) := by decide +kernel
theorem dX12_changeRows_98 : decode cX12_changeRows 98 = .ok (.imul, 1) := by decide +kernel
theorem dX12_changeRows_99 : decode cX12_changeRows 99 = .ok (.iload_n 3, 1) := by decide +kernel
theorem dX12_changeRows_100 : decode cX12_changeRows 100 = .ok (.iadd, 1) := by decide +kernel
theorem dX12_changeRows_101 : decode cX12_changeRows 101 = .ok (.lload 6, 2) := by decide +kernel
theorem dX12_changeRows_103 : decode cX12_changeRows 103 = .ok (.lastore, 1) := by decide +kernel
theorem dX12_changeRows_104 : decode cX12_changeRows 104 = .ok (.iinc 3 1, 3) := by decide +kernel
theorem dX12_changeRows_107 : decode cX12_changeRows 107 = .ok (.goto (-105), 3) := by decide +kernel
theorem dX12_changeRows_110 : decode cX12_changeRows 110 = .ok (.return_, 1) := by decide +kernel
theorem dX12_pivot_0 : decode cX12_pivot 0 = .ok (.aload_n 0, 1) := by decide +kernel
theorem dX12_pivot_1 : decode cX12_pivot 1 = .ok (.getfield 144, 3) := by decide +kernel
theorem dX12_pivot_4 : decode cX12_pivot 4 = .ok (.bipush 13, 2) := by decide +kernel
theorem dX12_pivot_6 : decode cX12_pivot 6 = .ok (.iload_n 1, 1) := by decide +kernel
theorem dX12_pivot_7 : decode cX12_pivot 7 = .ok (.imul, 1) := by decide +kernel
theorem dX12_pivot_8 : decode cX12_pivot 8 = .ok (.iload_n 2, 1) := by decide +kernel
theorem dX12_pivot_9 : decode cX12_pivot 9 = .ok (.iadd, 1) := by decide +kernel
theorem dX12_pivot_10 : decode cX12_pivot 10 = .ok (.laload, 1) := by decide +kernel
theorem dX12_pivot_11 : decode cX12_pivot 11 = .ok (.lstore_n 3, 1) := by decide +kernel
theorem dX12_pivot_12 : decode cX12_pivot 12 = .ok (.aload_n 0, 1) := by decide +kernel
theorem dX12_pivot_13 : decode cX12_pivot 13 = .ok (.getfield 147, 3) := by decide +kernel
theorem dX12_pivot_16 : decode cX12_pivot 16 = .ok (.bipush 13, 2) := by decide +kernel
theorem dX12_pivot_18 : decode cX12_pivot 18 = .ok (.iload_n 1, 1) := by decide +kernel
theorem dX12_pivot_19 : decode cX12_pivot 19 = .ok (.imul, 1) := by decide +kernel
theorem dX12_pivot_20 : decode cX12_pivot 20 = .ok (.iload_n 2, 1) := by decide +kernel
theorem dX12_pivot_21 : decode cX12_pivot 21 = .ok (.iadd, 1) := by decide +kernel
theorem dX12_pivot_22 : decode cX12_pivot 22 = .ok (.laload, 1) := by decide +kernel
theorem dX12_pivot_23 : decode cX12_pivot 23 = .ok (.lstore 5, 2) := by decide +kernel
theorem dX12_pivot_25 : decode cX12_pivot 25 = .ok (.iconst 0, 1) := by decide +kernel
theorem dX12_pivot_26 : decode cX12_pivot 26 = .ok (.istore 7, 2) := by decide +kernel
theorem dX12_pivot_28 : decode cX12_pivot 28 = .ok (.iload 7, 2) := by decide +kernel
theorem dX12_pivot_30 : decode cX12_pivot 30 = .ok (.bipush 13, 2) := by decide +kernel
theorem dX12_pivot_32 : decode cX12_pivot 32 = .ok (.if_icmp .ge 78, 3) := by decide +kernel
theorem dX12_pivot_35 : decode cX12_pivot 35 = .ok (.aload_n 0, 1) := by decide +kernel
theorem dX12_pivot_36 : decode cX12_pivot 36 = .ok (.getfield 283, 3) := by decide +kernel
theorem dX12_pivot_39 : decode cX12_pivot 39 = .ok (.ifCond .ne 71, 3) := by decide +kernel
theorem dX12_pivot_42 : decode cX12_pivot 42 = .ok (.aload_n 0, 1) := by decide +kernel
theorem dX12_pivot_43 : decode cX12_pivot 43 = .ok (.getfield 144, 3) := by decide +kernel
theorem dX12_pivot_46 : decode cX12_pivot 46 = .ok (.bipush 13, 2) := by decide +kernel
theorem dX12_pivot_48 : decode cX12_pivot 48 = .ok (.iload_n 1, 1) := by decide +kernel
theorem dX12_pivot_49 : decode cX12_pivot 49 = .ok (.imul, 1) := by decide +kernel
theorem dX12_pivot_50 : decode cX12_pivot 50 = .ok (.iload 7, 2) := by decide +kernel
theorem dX12_pivot_52 : decode cX12_pivot 52 = .ok (.iadd, 1) := by decide +kernel
theorem dX12_pivot_53 : decode cX12_pivot 53 = .ok (.laload, 1) := by decide +kernel
theorem dX12_pivot_54 : decode cX12_pivot 54 = .ok (.lconst 0, 1) := by decide +kernel
theorem dX12_pivot_55 : decode cX12_pivot 55 = .ok (.lcmp, 1) := by decide +kernel
theorem dX12_pivot_56 : decode cX12_pivot 56 = .ok (.ifCond .ne 6, 3) := by decide +kernel
theorem dX12_pivot_59 : decode cX12_pivot 59 = .ok (.goto 45, 3) := by decide +kernel
theorem dX12_pivot_62 : decode cX12_pivot 62 = .ok (.aload_n 0, 1) := by decide +kernel
theorem dX12_pivot_63 : decode cX12_pivot 63 = .ok (.aload_n 0, 1) := by decide +kernel
theorem dX12_pivot_64 : decode cX12_pivot 64 = .ok (.getfield 144, 3) := by decide +kernel
theorem dX12_pivot_67 : decode cX12_pivot 67 = .ok (.bipush 13, 2) := by decide +kernel
theorem dX12_pivot_69 : decode cX12_pivot 69 = .ok (.iload_n 1, 1) := by decide +kernel
theorem dX12_pivot_70 : decode cX12_pivot 70 = .ok (.imul, 1) := by decide +kernel
theorem dX12_pivot_71 : decode cX12_pivot 71 = .ok (.iload 7, 2) := by decide +kernel
theorem dX12_pivot_73 : decode cX12_pivot 73 = .ok (.iadd, 1) := by decide +kernel
theorem dX12_pivot_74 : decode cX12_pivot 74 = .ok (.laload, 1) := by decide +kernel
theorem dX12_pivot_75 : decode cX12_pivot 75 = .ok (.aload_n 0, 1) := by decide +kernel
theorem dX12_pivot_76 : decode cX12_pivot 76 = .ok (.getfield 147, 3) := by decide +kernel
theorem dX12_pivot_79 : decode cX12_pivot 79 = .ok (.bipush 13, 2) := by decide +kernel
theorem dX12_pivot_81 : decode cX12_pivot 81 = .ok (.iload_n 1, 1) := by decide +kernel
theorem dX12_pivot_82 : decode cX12_pivot 82 = .ok (.imul, 1) := by decide +kernel
theorem dX12_pivot_83 : decode cX12_pivot 83 = .ok (.iload 7, 2) := by decide +kernel
theorem dX12_pivot_85 : decode cX12_pivot 85 = .ok (.iadd, 1) := by decide +kernel
theorem dX12_pivot_86 : decode cX12_pivot 86 = .ok (.laload, 1) := by decide +kernel
theorem dX12_pivot_87 : decode cX12_pivot 87 = .ok (.lload_n 3, 1) := by decide +kernel
theorem dX12_pivot_88 : decode cX12_pivot 88 = .ok (.lload 5, 2) := by decide +kernel
theorem dX12_pivot_90 : decode cX12_pivot 90 = .ok (.invokevirtual 632, 3) := by decide +kernel
theorem dX12_pivot_93 : decode cX12_pivot 93 = .ok (.aload_n 0, 1) := by decide +kernel
theorem dX12_pivot_94 : decode cX12_pivot 94 = .ok (.bipush 13, 2) := by decide +kernel
theorem dX12_pivot_96 : decode cX12_pivot 96 = .ok (.iload_n 1, 1) := by decide +kernel
theorem dX12_pivot_97 : decode cX12_pivot 97 = .ok (.imul, 1) := by decide +kernel
theorem dX12_pivot_98 : decode cX12_pivot 98 = .ok (.iload 7, 2) := by decide +kernel
theorem dX12_pivot_100 : decode cX12_pivot 100 = .ok (.iadd, 1) := by decide +kernel
theorem dX12_pivot_101 : decode cX12_pivot 101 = .ok (.invokevirtual 635, 3) := by decide +kernel
theorem dX12_pivot_104 : decode cX12_pivot 104 = .ok (.iinc 7 1, 3) := by decide +kernel
theorem dX12_pivot_107 : decode cX12_pivot 107 = .ok (.goto (-79), 3) := by decide +kernel
theorem dX12_pivot_110 : decode cX12_pivot 110 = .ok (.iconst 0, 1) := by decide +kernel
theorem dX12_pivot_111 : decode cX12_pivot 111 = .ok (.istore 7, 2) := by decide +kernel
theorem dX12_pivot_113 : decode cX12_pivot 113 = .ok (.iload 7, 2) := by decide +kernel
theorem dX12_pivot_115 : decode cX12_pivot 115 = .ok (.aload_n 0, 1) := by decide +kernel
theorem dX12_pivot_116 : decode cX12_pivot 116 = .ok (.getfield 626, 3) := by decide +kernel
theorem dX12_pivot_119 : decode cX12_pivot 119 = .ok (.if_icmp .ge 186, 3) := by decide +kernel
theorem dX12_pivot_122 : decode cX12_pivot 122 = .ok (.aload_n 0, 1) := by decide +kernel
theorem dX12_pivot_123 : decode cX12_pivot 123 = .ok (.getfield 283, 3) := by decide +kernel
theorem dX12_pivot_126 : decode cX12_pivot 126 = .ok (.ifCond .ne 179, 3) := by decide +kernel
theorem dX12_pivot_129 : decode cX12_pivot 129 = .ok (.aload_n 0, 1) := by decide +kernel
theorem dX12_pivot_130 : decode cX12_pivot 130 = .ok (.getfield 144, 3) := by decide +kernel
theorem dX12_pivot_133 : decode cX12_pivot 133 = .ok (.bipush 13, 2) := by decide +kernel
theorem dX12_pivot_135 : decode cX12_pivot 135 = .ok (.iload 7, 2) := by decide +kernel
theorem dX12_pivot_137 : decode cX12_pivot 137 = .ok (.imul, 1) := by decide +kernel
theorem dX12_pivot_138 : decode cX12_pivot 138 = .ok (.iload_n 2, 1) := by decide +kernel
theorem dX12_pivot_139 : decode cX12_pivot 139 = .ok (.iadd, 1) := by decide +kernel
theorem dX12_pivot_140 : decode cX12_pivot 140 = .ok (.laload, 1) := by decide +kernel
theorem dX12_pivot_141 : decode cX12_pivot 141 = .ok (.lstore 8, 2) := by decide +kernel
theorem dX12_pivot_143 : decode cX12_pivot 143 = .ok (.aload_n 0, 1) := by decide +kernel
theorem dX12_pivot_144 : decode cX12_pivot 144 = .ok (.getfield 147, 3) := by decide +kernel
theorem dX12_pivot_147 : decode cX12_pivot 147 = .ok (.bipush 13, 2) := by decide +kernel
theorem dX12_pivot_149 : decode cX12_pivot 149 = .ok (.iload 7, 2) := by decide +kernel
theorem dX12_pivot_151 : decode cX12_pivot 151 = .ok (.imul, 1) := by decide +kernel
theorem dX12_pivot_152 : decode cX12_pivot 152 = .ok (.iload_n 2, 1) := by decide +kernel
theorem dX12_pivot_153 : decode cX12_pivot 153 = .ok (.iadd, 1) := by decide +kernel
theorem dX12_pivot_154 : decode cX12_pivot 154 = .ok (.laload, 1) := by decide +kernel
theorem dX12_pivot_155 : decode cX12_pivot 155 = .ok (.lstore 10, 2) := by decide +kernel
theorem dX12_pivot_157 : decode cX12_pivot 157 = .ok (.iload 7, 2) := by decide +kernel
theorem dX12_pivot_159 : decode cX12_pivot 159 = .ok (.iload_n 1, 1) := by decide +kernel
theorem dX12_pivot_160 : decode cX12_pivot 160 = .ok (.if_icmp .eq 139, 3) := by decide +kernel
theorem dX12_pivot_163 : decode cX12_pivot 163 = .ok (.lload 8, 2) := by decide +kernel
theorem dX12_pivot_165 : decode cX12_pivot 165 = .ok (.lconst 0, 1) := by decide +kernel
theorem dX12_pivot_166 : decode cX12_pivot 166 = .ok (.lcmp, 1) := by decide +kernel
theorem dX12_pivot_167 : decode cX12_pivot 167 = .ok (.ifCond .ne 6, 3) := by decide +kernel
theorem dX12_pivot_170 : decode cX12_pivot 170 = .ok (.goto 129, 3) := by decide +kernel
theorem dX12_pivot_173 : decode cX12_pivot 173 = .ok (.iconst 0, 1) := by decide +kernel
theorem dX12_pivot_174 : decode cX12_pivot 174 = .ok (.istore 12, 2) := by decide +kernel
theorem dX12_pivot_176 : decode cX12_pivot 176 = .ok (.iload 12, 2) := by decide +kernel
theorem dX12_pivot_178 : decode cX12_pivot 178 = .ok (.bipush 13, 2) := by decide +kernel
theorem dX12_pivot_180 : decode cX12_pivot 180 = .ok (.if_icmp .ge 119, 3) := by decide +kernel
theorem dX12_pivot_183 : decode cX12_pivot 183 = .ok (.aload_n 0, 1) := by decide +kernel
theorem dX12_pivot_184 : decode cX12_pivot 184 = .ok (.getfield 283, 3) := by decide +kernel
theorem dX12_pivot_187 : decode cX12_pivot 187 = .ok (.ifCond .ne 112, 3) := by decide +kernel
theorem dX12_pivot_190 : decode cX12_pivot 190 = .ok (.aload_n 0, 1) := by decide +kernel
theorem dX12_pivot_191 : decode cX12_pivot 191 = .ok (.getfield 144, 3) := by decide +kernel
theorem dX12_pivot_194 : decode cX12_pivot 194 = .ok (.bipush 13, 2) := by decide +kernel
theorem dX12_pivot_196 : decode cX12_pivot 196 = .ok (.iload_n 1, 1) := by decide +kernel
theorem dX12_pivot_197 : decode cX12_pivot 197 = .ok (.imul, 1) := by decide +kernel
theorem dX12_pivot_198 : decode cX12_pivot 198 = .ok (.iload 12, 2) := by decide +kernel
theorem dX12_pivot_200 : decode cX12_pivot 200 = .ok (.iadd, 1) := by decide +kernel
theorem dX12_pivot_201 : decode cX12_pivot 201 = .ok (.laload, 1) := by decide +kernel
theorem dX12_pivot_202 : decode cX12_pivot 202 = .ok (.lconst 0, 1) := by decide +kernel
theorem dX12_pivot_203 : decode cX12_pivot 203 = .ok (.lcmp, 1) := by decide +kernel
theorem dX12_pivot_204 : decode cX12_pivot 204 = .ok (.ifCond .ne 6, 3) := by decide +kernel
theorem dX12_pivot_207 : decode cX12_pivot 207 = .ok (.goto 86, 3) := by decide +kernel
theorem dX12_pivot_210 : decode cX12_pivot 210 = .ok (.aload_n 0, 1) := by decide +kernel
theorem dX12_pivot_211 : decode cX12_pivot 211 = .ok (.lload 8, 2) := by decide +kernel
theorem dX12_pivot_213 : decode cX12_pivot 213 = .ok (.lload 10, 2) := by decide +kernel
theorem dX12_pivot_215 : decode cX12_pivot 215 = .ok (.aload_n 0, 1) := by decide +kernel
theorem dX12_pivot_216 : decode cX12_pivot 216 = .ok (.getfield 144, 3) := by decide +kernel
theorem dX12_pivot_219 : decode cX12_pivot 219 = .ok (.bipush 13, 2) := by decide +kernel
theorem dX12_pivot_221 : decode cX12_pivot 221 = .ok (.iload_n 1, 1) := by decide +kernel
theorem dX12_pivot_222 : decode cX12_pivot 222 = .ok (.imul, 1) := by decide +kernel
theorem dX12_pivot_223 : decode cX12_pivot 223 = .ok (.iload 12, 2) := by decide +kernel
theorem dX12_pivot_225 : decode cX12_pivot 225 = .ok (.iadd, 1) := by decide +kernel
theorem dX12_pivot_226 : decode cX12_pivot 226 = .ok (.laload, 1) := by decide +kernel
theorem dX12_pivot_227 : decode cX12_pivot 227 = .ok (.aload_n 0, 1) := by decide +kernel
theorem dX12_pivot_228 : decode cX12_pivot 228 = .ok (.getfield 147, 3) := by decide +kernel
theorem dX12_pivot_231 : decode cX12_pivot 231 = .ok (.bipush 13, 2) := by decide +kernel
theorem dX12_pivot_233 : decode cX12_pivot 233 = .ok (.iload_n 1, 1) := by decide +kernel
theorem dX12_pivot_234 : decode cX12_pivot 234 = .ok (.imul, 1) := by decide +kernel
theorem dX12_pivot_235 : decode cX12_pivot 235 = .ok (.iload 12, 2) := by decide +kernel
theorem dX12_pivot_237 : decode cX12_pivot 237 = .ok (.iadd, 1) := by decide +kernel
theorem dX12_pivot_238 : decode cX12_pivot 238 = .ok (.laload, 1) := by decide +kernel
theorem dX12_pivot_239 : decode cX12_pivot 239 = .ok (.invokevirtual 304, 3) := by decide +kernel
theorem dX12_pivot_242 : decode cX12_pivot 242 = .ok (.aload_n 0, 1) := by decide +kernel
theorem dX12_pivot_243 : decode cX12_pivot 243 = .ok (.aload_n 0, 1) := by decide +kernel
theorem dX12_pivot_244 : decode cX12_pivot 244 = .ok (.getfield 144, 3) := by decide +kernel
theorem dX12_pivot_247 : decode cX12_pivot 247 = .ok (.bipush 13, 2) := by decide +kernel
theorem dX12_pivot_249 : decode cX12_pivot 249 = .ok (.iload 7, 2) := by decide +kernel
theorem dX12_pivot_251 : decode cX12_pivot 251 = .ok (.imul, 1) := by decide +kernel
theorem dX12_pivot_252 : decode cX12_pivot 252 = .ok (.iload 12, 2) := by decide +kernel
theorem dX12_pivot_254 : decode cX12_pivot 254 = .ok (.iadd, 1) := by decide +kernel
theorem dX12_pivot_255 : decode cX12_pivot 255 = .ok (.laload, 1) := by decide +kernel
theorem dX12_pivot_256 : decode cX12_pivot 256 = .ok (.aload_n 0, 1) := by decide +kernel
theorem dX12_pivot_257 : decode cX12_pivot 257 = .ok (.getfield 147, 3) := by decide +kernel
theorem dX12_pivot_260 : decode cX12_pivot 260 = .ok (.bipush 13, 2) := by decide +kernel
theorem dX12_pivot_262 : decode cX12_pivot 262 = .ok (.iload 7, 2) := by decide +kernel
theorem dX12_pivot_264 : decode cX12_pivot 264 = .ok (.imul, 1) := by decide +kernel
theorem dX12_pivot_265 : decode cX12_pivot 265 = .ok (.iload 12, 2) := by decide +kernel
theorem dX12_pivot_267 : decode cX12_pivot 267 = .ok (.iadd, 1) := by decide +kernel
