theorem dX12_distances_159 : decode cX12_distances 159 = .ok (.lload 13, 2) := by decide +kernel
theorem dX12_distances_161 : decode cX12_distances 161 = .ok (.lmul, 1) := by decide +kernel
theorem dX12_distances_162 : decode cX12_distances 162 = .ok (.lsub, 1) := by decide +kernel
theorem dX12_distances_163 : decode cX12_distances 163 = .ok (.lstore 21, 2) := by decide +kernel
theorem dX12_distances_165 : decode cX12_distances 165 = .ok (.lload 4, 2) := by decide +kernel
theorem dX12_distances_167 : decode cX12_distances 167 = .ok (.lload 9, 2) := by decide +kernel
theorem dX12_distances_169 : decode cX12_distances 169 = .ok (.lsub, 1) := by decide +kernel
theorem dX12_distances_170 : decode cX12_distances 170 = .ok (.lload 4, 2) := by decide +kernel
theorem dX12_distances_172 : decode cX12_distances 172 = .ok (.lload 9, 2) := by decide +kernel
theorem dX12_distances_174 : decode cX12_distances 174 = .ok (.lsub, 1) := by decide +kernel
theorem dX12_distances_175 : decode cX12_distances 175 = .ok (.lmul, 1) := by decide +kernel
theorem dX12_distances_176 : decode cX12_distances 176 = .ok (.lload 6, 2) := by decide +kernel
theorem dX12_distances_178 : decode cX12_distances 178 = .ok (.lload 11, 2) := by decide +kernel
theorem dX12_distances_180 : decode cX12_distances 180 = .ok (.lsub, 1) := by decide +kernel
theorem dX12_distances_181 : decode cX12_distances 181 = .ok (.lload 6, 2) := by decide +kernel
theorem dX12_distances_183 : decode cX12_distances 183 = .ok (.lload 11, 2) := by decide +kernel
theorem dX12_distances_185 : decode cX12_distances 185 = .ok (.lsub, 1) := by decide +kernel
theorem dX12_distances_186 : decode cX12_distances 186 = .ok (.lmul, 1) := by decide +kernel
theorem dX12_distances_187 : decode cX12_distances 187 = .ok (.ladd, 1) := by decide +kernel
theorem dX12_distances_188 : decode cX12_distances 188 = .ok (.lstore 23, 2) := by decide +kernel
theorem dX12_distances_190 : decode cX12_distances 190 = .ok (.lload 4, 2) := by decide +kernel
theorem dX12_distances_192 : decode cX12_distances 192 = .ok (.lload 9, 2) := by decide +kernel
theorem dX12_distances_194 : decode cX12_distances 194 = .ok (.lsub, 1) := by decide +kernel
theorem dX12_distances_195 : decode cX12_distances 195 = .ok (.lload 13, 2) := by decide +kernel
theorem dX12_distances_197 : decode cX12_distances 197 = .ok (.lsub, 1) := by decide +kernel
theorem dX12_distances_198 : decode cX12_distances 198 = .ok (.lload 4, 2) := by decide +kernel
theorem dX12_distances_200 : decode cX12_distances 200 = .ok (.lload 9, 2) := by decide +kernel
theorem dX12_distances_202 : decode cX12_distances 202 = .ok (.lsub, 1) := by decide +kernel
theorem dX12_distances_203 : decode cX12_distances 203 = .ok (.lload 13, 2) := by decide +kernel
theorem dX12_distances_205 : decode cX12_distances 205 = .ok (.lsub, 1) := by decide +kernel
theorem dX12_distances_206 : decode cX12_distances 206 = .ok (.lmul, 1) := by decide +kernel
theorem dX12_distances_207 : decode cX12_distances 207 = .ok (.lload 6, 2) := by decide +kernel
theorem dX12_distances_209 : decode cX12_distances 209 = .ok (.lload 11, 2) := by decide +kernel
theorem dX12_distances_211 : decode cX12_distances 211 = .ok (.lsub, 1) := by decide +kernel
theorem dX12_distances_212 : decode cX12_distances 212 = .ok (.lload 15, 2) := by decide +kernel
theorem dX12_distances_214 : decode cX12_distances 214 = .ok (.lsub, 1) := by decide +kernel
theorem dX12_distances_215 : decode cX12_distances 215 = .ok (.lload 6, 2) := by decide +kernel
theorem dX12_distances_217 : decode cX12_distances 217 = .ok (.lload 11, 2) := by decide +kernel
theorem dX12_distances_219 : decode cX12_distances 219 = .ok (.lsub, 1) := by decide +kernel
theorem dX12_distances_220 : decode cX12_distances 220 = .ok (.lload 15, 2) := by decide +kernel
theorem dX12_distances_222 : decode cX12_distances 222 = .ok (.lsub, 1) := by decide +kernel
theorem dX12_distances_223 : decode cX12_distances 223 = .ok (.lmul, 1) := by decide +kernel
theorem dX12_distances_224 : decode cX12_distances 224 = .ok (.ladd, 1) := by decide +kernel
theorem dX12_distances_225 : decode cX12_distances 225 = .ok (.lstore 25, 2) := by decide +kernel
theorem dX12_distances_227 : decode cX12_distances 227 = .ok (.lload 17, 2) := by decide +kernel
theorem dX12_distances_229 : decode cX12_distances 229 = .ok (.lconst 0, 1) := by decide +kernel
theorem dX12_distances_230 : decode cX12_distances 230 = .ok (.lcmp, 1) := by decide +kernel
theorem dX12_distances_231 : decode cX12_distances 231 = .ok (.ifCond .le 32, 3) := by decide +kernel
theorem dX12_distances_234 : decode cX12_distances 234 = .ok (.lload 19, 2) := by decide +kernel
theorem dX12_distances_236 : decode cX12_distances 236 = .ok (.lconst 0, 1) := by decide +kernel
theorem dX12_distances_237 : decode cX12_distances 237 = .ok (.lcmp, 1) := by decide +kernel
theorem dX12_distances_238 : decode cX12_distances 238 = .ok (.ifCond .lt 25, 3) := by decide +kernel
theorem dX12_distances_241 : decode cX12_distances 241 = .ok (.lload 19, 2) := by decide +kernel
theorem dX12_distances_243 : decode cX12_distances 243 = .ok (.lload 17, 2) := by decide +kernel
theorem dX12_distances_245 : decode cX12_distances 245 = .ok (.lcmp, 1) := by decide +kernel
theorem dX12_distances_246 : decode cX12_distances 246 = .ok (.ifCond .gt 17, 3) := by decide +kernel
theorem dX12_distances_249 : decode cX12_distances 249 = .ok (.aload_n 0, 1) := by decide +kernel
theorem dX12_distances_250 : decode cX12_distances 250 = .ok (.lload 21, 2) := by decide +kernel
theorem dX12_distances_252 : decode cX12_distances 252 = .ok (.lload 21, 2) := by decide +kernel
theorem dX12_distances_254 : decode cX12_distances 254 = .ok (.lmul, 1) := by decide +kernel
theorem dX12_distances_255 : decode cX12_distances 255 = .ok (.lload 17, 2) := by decide +kernel
theorem dX12_distances_257 : decode cX12_distances 257 = .ok (.invokevirtual 762, 3) := by decide +kernel
theorem dX12_distances_260 : decode cX12_distances 260 = .ok (.goto 15, 3) := by decide +kernel
theorem dX12_distances_263 : decode cX12_distances 263 = .ok (.aload_n 0, 1) := by decide +kernel
theorem dX12_distances_264 : decode cX12_distances 264 = .ok (.lload 23, 2) := by decide +kernel
theorem dX12_distances_266 : decode cX12_distances 266 = .ok (.lload 25, 2) := by decide +kernel
theorem dX12_distances_268 : decode cX12_distances 268 = .ok (.invokestatic 314, 3) := by decide +kernel
theorem dX12_distances_271 : decode cX12_distances 271 = .ok (.lconst 1, 1) := by decide +kernel
theorem dX12_distances_272 : decode cX12_distances 272 = .ok (.invokevirtual 762, 3) := by decide +kernel
theorem dX12_distances_275 : decode cX12_distances 275 = .ok (.iinc 8 1, 3) := by decide +kernel
theorem dX12_distances_278 : decode cX12_distances 278 = .ok (.goto (-237), 3) := by decide +kernel
theorem dX12_distances_281 : decode cX12_distances 281 = .ok (.iinc 3 1, 3) := by decide +kernel
theorem dX12_distances_284 : decode cX12_distances 284 = .ok (.goto (-282), 3) := by decide +kernel
theorem dX12_distances_287 : decode cX12_distances 287 = .ok (.return_, 1) := by decide +kernel
theorem dX12_nearer_0 : decode cX12_nearer 0 = .ok (.lload_n 1, 1) := by decide +kernel
theorem dX12_nearer_1 : decode cX12_nearer 1 = .ok (.lload_n 3, 1) := by decide +kernel
theorem dX12_nearer_2 : decode cX12_nearer 2 = .ok (.invokestatic 294, 3) := by decide +kernel
theorem dX12_nearer_5 : decode cX12_nearer 5 = .ok (.lstore 5, 2) := by decide +kernel
theorem dX12_nearer_7 : decode cX12_nearer 7 = .ok (.aload_n 0, 1) := by decide +kernel
theorem dX12_nearer_8 : decode cX12_nearer 8 = .ok (.getfield 765, 3) := by decide +kernel
theorem dX12_nearer_11 : decode cX12_nearer 11 = .ok (.lconst 0, 1) := by decide +kernel
theorem dX12_nearer_12 : decode cX12_nearer 12 = .ok (.lcmp, 1) := by decide +kernel
theorem dX12_nearer_13 : decode cX12_nearer 13 = .ok (.ifCond .le 26, 3) := by decide +kernel
theorem dX12_nearer_16 : decode cX12_nearer 16 = .ok (.lload_n 1, 1) := by decide +kernel
theorem dX12_nearer_17 : decode cX12_nearer 17 = .ok (.lload 5, 2) := by decide +kernel
theorem dX12_nearer_19 : decode cX12_nearer 19 = .ok (.ldiv, 1) := by decide +kernel
theorem dX12_nearer_20 : decode cX12_nearer 20 = .ok (.lload_n 3, 1) := by decide +kernel
theorem dX12_nearer_21 : decode cX12_nearer 21 = .ok (.lload 5, 2) := by decide +kernel
theorem dX12_nearer_23 : decode cX12_nearer 23 = .ok (.ldiv, 1) := by decide +kernel
theorem dX12_nearer_24 : decode cX12_nearer 24 = .ok (.aload_n 0, 1) := by decide +kernel
theorem dX12_nearer_25 : decode cX12_nearer 25 = .ok (.getfield 768, 3) := by decide +kernel
theorem dX12_nearer_28 : decode cX12_nearer 28 = .ok (.aload_n 0, 1) := by decide +kernel
theorem dX12_nearer_29 : decode cX12_nearer 29 = .ok (.getfield 765, 3) := by decide +kernel
theorem dX12_nearer_32 : decode cX12_nearer 32 = .ok (.invokestatic 719, 3) := by decide +kernel
theorem dX12_nearer_35 : decode cX12_nearer 35 = .ok (.ifCond .ne 4, 3) := by decide +kernel
theorem dX12_nearer_38 : decode cX12_nearer 38 = .ok (.return_, 1) := by decide +kernel
theorem dX12_nearer_39 : decode cX12_nearer 39 = .ok (.aload_n 0, 1) := by decide +kernel
theorem dX12_nearer_40 : decode cX12_nearer 40 = .ok (.lload_n 1, 1) := by decide +kernel
theorem dX12_nearer_41 : decode cX12_nearer 41 = .ok (.lload 5, 2) := by decide +kernel
theorem dX12_nearer_43 : decode cX12_nearer 43 = .ok (.ldiv, 1) := by decide +kernel
theorem dX12_nearer_44 : decode cX12_nearer 44 = .ok (.putfield 768, 3) := by decide +kernel
theorem dX12_nearer_47 : decode cX12_nearer 47 = .ok (.aload_n 0, 1) := by decide +kernel
theorem dX12_nearer_48 : decode cX12_nearer 48 = .ok (.lload_n 3, 1) := by decide +kernel
theorem dX12_nearer_49 : decode cX12_nearer 49 = .ok (.lload 5, 2) := by decide +kernel
theorem dX12_nearer_51 : decode cX12_nearer 51 = .ok (.ldiv, 1) := by decide +kernel
theorem dX12_nearer_52 : decode cX12_nearer 52 = .ok (.putfield 765, 3) := by decide +kernel
theorem dX12_nearer_55 : decode cX12_nearer 55 = .ok (.return_, 1) := by decide +kernel
theorem dX12_distance_0 : decode cX12_distance 0 = .ok (.iload_n 1, 1) := by decide +kernel
theorem dX12_distance_1 : decode cX12_distance 1 = .ok (.i2l, 1) := by decide +kernel
theorem dX12_distance_2 : decode cX12_distance 2 = .ok (.lconst 0, 1) := by decide +kernel
theorem dX12_distance_3 : decode cX12_distance 3 = .ok (.ldc2_w 729, 3) := by decide +kernel
theorem dX12_distance_6 : decode cX12_distance 6 = .ok (.invokestatic 262, 3) := by decide +kernel
theorem dX12_distance_9 : decode cX12_distance 9 = .ok (.ifCond .eq 29, 3) := by decide +kernel
theorem dX12_distance_12 : decode cX12_distance 12 = .ok (.iload_n 2, 1) := by decide +kernel
theorem dX12_distance_13 : decode cX12_distance 13 = .ok (.i2l, 1) := by decide +kernel
theorem dX12_distance_14 : decode cX12_distance 14 = .ok (.lconst 0, 1) := by decide +kernel
theorem dX12_distance_15 : decode cX12_distance 15 = .ok (.ldc2_w 729, 3) := by decide +kernel
theorem dX12_distance_18 : decode cX12_distance 18 = .ok (.invokestatic 262, 3) := by decide +kernel
theorem dX12_distance_21 : decode cX12_distance 21 = .ok (.ifCond .eq 17, 3) := by decide +kernel
theorem dX12_distance_24 : decode cX12_distance 24 = .ok (.iload_n 3, 1) := by decide +kernel
theorem dX12_distance_25 : decode cX12_distance 25 = .ok (.i2l, 1) := by decide +kernel
theorem dX12_distance_26 : decode cX12_distance 26 = .ok (.lconst 0, 1) := by decide +kernel
theorem dX12_distance_27 : decode cX12_distance 27 = .ok (.lconst 1, 1) := by decide +kernel
theorem dX12_distance_28 : decode cX12_distance 28 = .ok (.invokestatic 262, 3) := by decide +kernel
theorem dX12_distance_31 : decode cX12_distance 31 = .ok (.ifCond .eq 7, 3) := by decide +kernel
theorem dX12_distance_34 : decode cX12_distance 34 = .ok (.iconst 1, 1) := by decide +kernel
theorem dX12_distance_35 : decode cX12_distance 35 = .ok (.goto 4, 3) := by decide +kernel
theorem dX12_distance_38 : decode cX12_distance 38 = .ok (.iconst 0, 1) := by decide +kernel
theorem dX12_distance_39 : decode cX12_distance 39 = .ok (.istore 4, 2) := by decide +kernel
theorem dX12_distance_41 : decode cX12_distance 41 = .ok (.aload_n 0, 1) := by decide +kernel
theorem dX12_distance_42 : decode cX12_distance 42 = .ok (.iload 4, 2) := by decide +kernel
theorem dX12_distance_44 : decode cX12_distance 44 = .ok (.ifCond .ne 7, 3) := by decide +kernel
theorem dX12_distance_47 : decode cX12_distance 47 = .ok (.iconst 1, 1) := by decide +kernel
theorem dX12_distance_48 : decode cX12_distance 48 = .ok (.goto 28, 3) := by decide +kernel
theorem dX12_distance_51 : decode cX12_distance 51 = .ok (.aload_n 0, 1) := by decide +kernel
theorem dX12_distance_52 : decode cX12_distance 52 = .ok (.getfield 186, 3) := by decide +kernel
theorem dX12_distance_55 : decode cX12_distance 55 = .ok (.iload_n 1, 1) := by decide +kernel
theorem dX12_distance_56 : decode cX12_distance 56 = .ok (.iaload, 1) := by decide +kernel
theorem dX12_distance_57 : decode cX12_distance 57 = .ok (.iconst 3, 1) := by decide +kernel
theorem dX12_distance_58 : decode cX12_distance 58 = .ok (.if_icmp .lt 13, 3) := by decide +kernel
theorem dX12_distance_61 : decode cX12_distance 61 = .ok (.aload_n 0, 1) := by decide +kernel
theorem dX12_distance_62 : decode cX12_distance 62 = .ok (.getfield 186, 3) := by decide +kernel
theorem dX12_distance_65 : decode cX12_distance 65 = .ok (.iload_n 2, 1) := by decide +kernel
theorem dX12_distance_66 : decode cX12_distance 66 = .ok (.iaload, 1) := by decide +kernel
theorem dX12_distance_67 : decode cX12_distance 67 = .ok (.iconst 3, 1) := by decide +kernel
theorem dX12_distance_68 : decode cX12_distance 68 = .ok (.if_icmp .ge 7, 3) := by decide +kernel
theorem dX12_distance_71 : decode cX12_distance 71 = .ok (.iconst 2, 1) := by decide +kernel
theorem dX12_distance_72 : decode cX12_distance 72 = .ok (.goto 4, 3) := by decide +kernel
theorem dX12_distance_75 : decode cX12_distance 75 = .ok (.iconst 0, 1) := by decide +kernel
theorem dX12_distance_76 : decode cX12_distance 76 = .ok (.putfield 243, 3) := by decide +kernel
theorem dX12_distance_79 : decode cX12_distance 79 = .ok (.aload_n 0, 1) := by decide +kernel
theorem dX12_distance_80 : decode cX12_distance 80 = .ok (.getfield 243, 3) := by decide +kernel
theorem dX12_distance_83 : decode cX12_distance 83 = .ok (.ifCond .le 5, 3) := by decide +kernel
theorem dX12_distance_86 : decode cX12_distance 86 = .ok (.lconst 0, 1) := by decide +kernel
theorem dX12_distance_87 : decode cX12_distance 87 = .ok (.lreturn, 1) := by decide +kernel
theorem dX12_distance_88 : decode cX12_distance 88 = .ok (.aload_n 0, 1) := by decide +kernel
theorem dX12_distance_89 : decode cX12_distance 89 = .ok (.lconst 0, 1) := by decide +kernel
theorem dX12_distance_90 : decode cX12_distance 90 = .ok (.putfield 768, 3) := by decide +kernel
theorem dX12_distance_93 : decode cX12_distance 93 = .ok (.aload_n 0, 1) := by decide +kernel
theorem dX12_distance_94 : decode cX12_distance 94 = .ok (.lconst 0, 1) := by decide +kernel
theorem dX12_distance_95 : decode cX12_distance 95 = .ok (.putfield 765, 3) := by decide +kernel
theorem dX12_distance_98 : decode cX12_distance 98 = .ok (.aload_n 0, 1) := by decide +kernel
theorem dX12_distance_99 : decode cX12_distance 99 = .ok (.iload_n 1, 1) := by decide +kernel
theorem dX12_distance_100 : decode cX12_distance 100 = .ok (.iload_n 2, 1) := by decide +kernel
theorem dX12_distance_101 : decode cX12_distance 101 = .ok (.invokevirtual 771, 3) := by decide +kernel
theorem dX12_distance_104 : decode cX12_distance 104 = .ok (.ifCond .ne 12, 3) := by decide +kernel
theorem dX12_distance_107 : decode cX12_distance 107 = .ok (.aload_n 0, 1) := by decide +kernel
theorem dX12_distance_108 : decode cX12_distance 108 = .ok (.iload_n 2, 1) := by decide +kernel
theorem dX12_distance_109 : decode cX12_distance 109 = .ok (.iload_n 1, 1) := by decide +kernel
theorem dX12_distance_110 : decode cX12_distance 110 = .ok (.invokevirtual 771, 3) := by decide +kernel
theorem dX12_distance_113 : decode cX12_distance 113 = .ok (.ifCond .eq 11, 3) := by decide +kernel
theorem dX12_distance_116 : decode cX12_distance 116 = .ok (.aload_n 0, 1) := by decide +kernel
theorem dX12_distance_117 : decode cX12_distance 117 = .ok (.lconst 1, 1) := by decide +kernel
theorem dX12_distance_118 : decode cX12_distance 118 = .ok (.putfield 765, 3) := by decide +kernel
theorem dX12_distance_121 : decode cX12_distance 121 = .ok (.goto 15, 3) := by decide +kernel
theorem dX12_distance_124 : decode cX12_distance 124 = .ok (.aload_n 0, 1) := by decide +kernel
theorem dX12_distance_125 : decode cX12_distance 125 = .ok (.iload_n 1, 1) := by decide +kernel
theorem dX12_distance_126 : decode cX12_distance 126 = .ok (.iload_n 2, 1) := by decide +kernel
theorem dX12_distance_127 : decode cX12_distance 127 = .ok (.invokevirtual 774, 3) := by decide +kernel
theorem dX12_distance_130 : decode cX12_distance 130 = .ok (.aload_n 0, 1) := by decide +kernel
theorem dX12_distance_131 : decode cX12_distance 131 = .ok (.iload_n 2, 1) := by decide +kernel
theorem dX12_distance_132 : decode cX12_distance 132 = .ok (.iload_n 1, 1) := by decide +kernel
theorem dX12_distance_133 : decode cX12_distance 133 = .ok (.invokevirtual 774, 3) := by decide +kernel
theorem dX12_distance_136 : decode cX12_distance 136 = .ok (.iload_n 3, 1) := by decide +kernel
theorem dX12_distance_137 : decode cX12_distance 137 = .ok (.ifCond .ne 10, 3) := by decide +kernel
theorem dX12_distance_140 : decode cX12_distance 140 = .ok (.aload_n 0, 1) := by decide +kernel
theorem dX12_distance_141 : decode cX12_distance 141 = .ok (.getfield 768, 3) := by decide +kernel
theorem dX12_distance_144 : decode cX12_distance 144 = .ok (.goto 7, 3) := by decide +kernel
theorem dX12_distance_147 : decode cX12_distance 147 = .ok (.aload_n 0, 1) := by decide +kernel
theorem dX12_distance_148 : decode cX12_distance 148 = .ok (.getfield 765, 3) := by decide +kernel
theorem dX12_distance_151 : decode cX12_distance 151 = .ok (.lreturn, 1) := by decide +kernel
theorem dX12_readCode_0 : decode cX12_readCode 0 = .ok (.iload_n 1, 1) := by decide +kernel
theorem dX12_readCode_1 : decode cX12_readCode 1 = .ok (.iload_n 1, 1) := by decide +kernel
theorem dX12_readCode_2 : decode cX12_readCode 2 = .ok (.iconst 1, 1) := by decide +kernel
theorem dX12_readCode_3 : decode cX12_readCode 3 = .ok (.isub, 1) := by decide +kernel
theorem dX12_readCode_4 : decode cX12_readCode 4 = .ok (.imul, 1) := by decide +kernel
theorem dX12_readCode_5 : decode cX12_readCode 5 = .ok (.iconst 2, 1) := by decide +kernel
theorem dX12_readCode_6 : decode cX12_readCode 6 = .ok (.idiv, 1) := by decide +kernel
theorem dX12_readCode_7 : decode cX12_readCode 7 = .ok (.iconst 1, 1) := by decide +kernel
theorem dX12_readCode_8 : decode cX12_readCode 8 = .ok (.isub, 1) := by decide +kernel
theorem dX12_readCode_9 : decode cX12_readCode 9 = .ok (.istore_n 3, 1) := by decide +kernel
theorem dX12_readCode_10 : decode cX12_readCode 10 = .ok (.iconst 0, 1) := by decide +kernel
theorem dX12_readCode_11 : decode cX12_readCode 11 = .ok (.istore 4, 2) := by decide +kernel
theorem dX12_readCode_13 : decode cX12_readCode 13 = .ok (.iload 4, 2) := by decide +kernel
theorem dX12_readCode_15 : decode cX12_readCode 15 = .ok (.iload_n 1, 1) := by decide +kernel
theorem dX12_readCode_16 : decode cX12_readCode 16 = .ok (.if_icmp .ge 76, 3) := by decide +kernel
theorem dX12_readCode_19 : decode cX12_readCode 19 = .ok (.iload 4, 2) := by decide +kernel
theorem dX12_readCode_21 : decode cX12_readCode 21 = .ok (.iconst 1, 1) := by decide +kernel
theorem dX12_readCode_22 : decode cX12_readCode 22 = .ok (.iadd, 1) := by decide +kernel
theorem dX12_readCode_23 : decode cX12_readCode 23 = .ok (.istore 5, 2) := by decide +kernel
theorem dX12_readCode_25 : decode cX12_readCode 25 = .ok (.iload 5, 2) := by decide +kernel
theorem dX12_readCode_27 : decode cX12_readCode 27 = .ok (.iload_n 1, 1) := by decide +kernel
theorem dX12_readCode_28 : decode cX12_readCode 28 = .ok (.if_icmp .ge 58, 3) := by decide +kernel
theorem dX12_readCode_31 : decode cX12_readCode 31 = .ok (.iload_n 2, 1) := by decide +kernel
theorem dX12_readCode_32 : decode cX12_readCode 32 = .ok (.iload_n 3, 1) := by decide +kernel
theorem dX12_readCode_33 : decode cX12_readCode 33 = .ok (.ishr, 1) := by decide +kernel
theorem dX12_readCode_34 : decode cX12_readCode 34 = .ok (.iconst 1, 1) := by decide +kernel
theorem dX12_readCode_35 : decode cX12_readCode 35 = .ok (.iand, 1) := by decide +kernel
theorem dX12_readCode_36 : decode cX12_readCode 36 = .ok (.iconst 1, 1) := by decide +kernel
theorem dX12_readCode_37 : decode cX12_readCode 37 = .ok (.if_icmp .ne 7, 3) := by decide +kernel
theorem dX12_readCode_40 : decode cX12_readCode 40 = .ok (.iconst 1, 1) := by decide +kernel
theorem dX12_readCode_41 : decode cX12_readCode 41 = .ok (.goto 4, 3) := by decide +kernel
theorem dX12_readCode_44 : decode cX12_readCode 44 = .ok (.iconst 0, 1) := by decide +kernel
theorem dX12_readCode_45 : decode cX12_readCode 45 = .ok (.istore 6, 2) := by decide +kernel
theorem dX12_readCode_47 : decode cX12_readCode 47 = .ok (.aload_n 0, 1) := by decide +kernel
theorem dX12_readCode_48 : decode cX12_readCode 48 = .ok (.getfield 198, 3) := by decide +kernel
theorem dX12_readCode_51 : decode cX12_readCode 51 = .ok (.bipush 6, 2) := by decide +kernel
theorem dX12_readCode_53 : decode cX12_readCode 53 = .ok (.iload 4, 2) := by decide +kernel
theorem dX12_readCode_55 : decode cX12_readCode 55 = .ok (.imul, 1) := by decide +kernel
theorem dX12_readCode_56 : decode cX12_readCode 56 = .ok (.iload 5, 2) := by decide +kernel
theorem dX12_readCode_58 : decode cX12_readCode 58 = .ok (.iadd, 1) := by decide +kernel
theorem dX12_readCode_59 : decode cX12_readCode 59 = .ok (.iload 6, 2) := by decide +kernel
theorem dX12_readCode_61 : decode cX12_readCode 61 = .ok (.bastore, 1) := by decide +kernel
theorem dX12_readCode_62 : decode cX12_readCode 62 = .ok (.aload_n 0, 1) := by decide +kernel
theorem dX12_readCode_63 : decode cX12_readCode 63 = .ok (.getfield 198, 3) := by decide +kernel
theorem dX12_readCode_66 : decode cX12_readCode 66 = .ok (.bipush 6, 2) := by decide +kernel
theorem dX12_readCode_68 : decode cX12_readCode 68 = .ok (.iload 5, 2) := by decide +kernel
theorem dX12_readCode_70 : decode cX12_readCode 70 = .ok (.imul, 1) := by decide +kernel
theorem dX12_readCode_71 : decode cX12_readCode 71 = .ok (.iload 4, 2) := by decide +kernel
theorem dX12_readCode_73 : decode cX12_readCode 73 = .ok (.iadd, 1) := by decide +kernel
theorem dX12_readCode_74 : decode cX12_readCode 74 = .ok (.iload 6, 2) := by decide +kernel
theorem dX12_readCode_76 : decode cX12_readCode 76 = .ok (.bastore, 1) := by decide +kernel
theorem dX12_readCode_77 : decode cX12_readCode 77 = .ok (.iinc 3 (-1), 3) := by decide +kernel
theorem dX12_readCode_80 : decode cX12_readCode 80 = .ok (.iinc 5 1, 3) := by decide +kernel
theorem dX12_readCode_83 : decode cX12_readCode 83 = .ok (.goto (-58), 3) := by decide +kernel
theorem dX12_readCode_86 : decode cX12_readCode 86 = .ok (.iinc 4 1, 3) := by decide +kernel
theorem dX12_readCode_89 : decode cX12_readCode 89 = .ok (.goto (-76), 3) := by decide +kernel
theorem dX12_readCode_92 : decode cX12_readCode 92 = .ok (.return_, 1) := by decide +kernel
theorem dX12_isChain_0 : decode cX12_isChain 0 = .ok (.iconst 0, 1) := by decide +kernel
theorem dX12_isChain_1 : decode cX12_isChain 1 = .ok (.istore_n 2, 1) := by decide +kernel
theorem dX12_isChain_2 : decode cX12_isChain 2 = .ok (.iload_n 2, 1) := by decide +kernel
theorem dX12_isChain_3 : decode cX12_isChain 3 = .ok (.iload_n 1, 1) := by decide +kernel
theorem dX12_isChain_4 : decode cX12_isChain 4 = .ok (.if_icmp .ge 57, 3) := by decide +kernel
theorem dX12_isChain_7 : decode cX12_isChain 7 = .ok (.iconst 0, 1) := by decide +kernel
theorem dX12_isChain_8 : decode cX12_isChain 8 = .ok (.istore_n 3, 1) := by decide +kernel
theorem dX12_isChain_9 : decode cX12_isChain 9 = .ok (.iconst 0, 1) := by decide +kernel
theorem dX12_isChain_10 : decode cX12_isChain 10 = .ok (.istore 4, 2) := by decide +kernel
theorem dX12_isChain_12 : decode cX12_isChain 12 = .ok (.iload 4, 2) := by decide +kernel
theorem dX12_isChain_14 : decode cX12_isChain 14 = .ok (.iload_n 1, 1) := by decide +kernel
theorem dX12_isChain_15 : decode cX12_isChain 15 = .ok (.if_icmp .ge 33, 3) := by decide +kernel
theorem dX12_isChain_18 : decode cX12_isChain 18 = .ok (.iload 4, 2) := by decide +kernel
theorem dX12_isChain_20 : decode cX12_isChain 20 = .ok (.iload_n 2, 1) := by decide +kernel
theorem dX12_isChain_21 : decode cX12_isChain 21 = .ok (.if_icmp .eq 21, 3) := by decide +kernel
theorem dX12_isChain_24 : decode cX12_isChain 24 = .ok (.aload_n 0, 1) := by decide +kernel
theorem dX12_isChain_25 : decode cX12_isChain 25 = .ok (.getfield 198, 3) := by decide +kernel
theorem dX12_isChain_28 : decode cX12_isChain 28 = .ok (.bipush 6, 2) := by decide +kernel
theorem dX12_isChain_30 : decode cX12_isChain 30 = .ok (.iload_n 2, 1) := by decide +kernel
theorem dX12_isChain_31 : decode cX12_isChain 31 = .ok (.imul, 1) := by decide +kernel
theorem dX12_isChain_32 : decode cX12_isChain 32 = .ok (.iload 4, 2) := by decide +kernel
theorem dX12_isChain_34 : decode cX12_isChain 34 = .ok (.iadd, 1) := by decide +kernel
theorem dX12_isChain_35 : decode cX12_isChain 35 = .ok (.baload, 1) := by decide +kernel
theorem dX12_isChain_36 : decode cX12_isChain 36 = .ok (.ifCond .eq 6, 3) := by decide +kernel
theorem dX12_isChain_39 : decode cX12_isChain 39 = .ok (.iinc 3 1, 3) := by decide +kernel
theorem dX12_isChain_42 : decode cX12_isChain 42 = .ok (.iinc 4 1, 3) := by decide +kernel
theorem dX12_isChain_45 : decode cX12_isChain 45 = .ok (.goto (-33), 3) := by decide +kernel
theorem dX12_isChain_48 : decode cX12_isChain 48 = .ok (.iload_n 3, 1) := by decide +kernel
theorem dX12_isChain_49 : decode cX12_isChain 49 = .ok (.iconst 2, 1) := by decide +kernel
theorem dX12_isChain_50 : decode cX12_isChain 50 = .ok (.if_icmp .ge 5, 3) := by decide +kernel
theorem dX12_isChain_53 : decode cX12_isChain 53 = .ok (.iconst 0, 1) := by decide +kernel
theorem dX12_isChain_54 : decode cX12_isChain 54 = .ok (.ireturn, 1) := by decide +kernel
theorem dX12_isChain_55 : decode cX12_isChain 55 = .ok (.iinc 2 1, 3) := by decide +kernel
theorem dX12_isChain_58 : decode cX12_isChain 58 = .ok (.goto (-56), 3) := by decide +kernel
theorem dX12_isChain_61 : decode cX12_isChain 61 = .ok (.iconst 1, 1) := by decide +kernel
theorem dX12_isChain_62 : decode cX12_isChain 62 = .ok (.istore_n 2, 1) := by decide +kernel
theorem dX12_isChain_63 : decode cX12_isChain 63 = .ok (.iconst 0, 1) := by decide +kernel
theorem dX12_isChain_64 : decode cX12_isChain 64 = .ok (.istore_n 3, 1) := by decide +kernel
theorem dX12_isChain_65 : decode cX12_isChain 65 = .ok (.iload_n 3, 1) := by decide +kernel
theorem dX12_isChain_66 : decode cX12_isChain 66 = .ok (.iload_n 1, 1) := by decide +kernel
theorem dX12_isChain_67 : decode cX12_isChain 67 = .ok (.if_icmp .ge 79, 3) := by decide +kernel
theorem dX12_isChain_70 : decode cX12_isChain 70 = .ok (.iconst 0, 1) := by decide +kernel
theorem dX12_isChain_71 : decode cX12_isChain 71 = .ok (.istore 4, 2) := by decide +kernel
theorem dX12_isChain_73 : decode cX12_isChain 73 = .ok (.iload 4, 2) := by decide +kernel
theorem dX12_isChain_75 : decode cX12_isChain 75 = .ok (.iload_n 1, 1) := by decide +kernel
theorem dX12_isChain_76 : decode cX12_isChain 76 = .ok (.if_icmp .ge 64, 3) := by decide +kernel
theorem dX12_isChain_79 : decode cX12_isChain 79 = .ok (.iconst 0, 1) := by decide +kernel
theorem dX12_isChain_80 : decode cX12_isChain 80 = .ok (.istore 5, 2) := by decide +kernel
theorem dX12_isChain_82 : decode cX12_isChain 82 = .ok (.iload 5, 2) := by decide +kernel
theorem dX12_isChain_84 : decode cX12_isChain 84 = .ok (.iload_n 1, 1) := by decide +kernel
theorem dX12_isChain_85 : decode cX12_isChain 85 = .ok (.if_icmp .ge 49, 3) := by decide +kernel
theorem dX12_isChain_88 : decode cX12_isChain 88 = .ok (.iload 4, 2) := by decide +kernel
theorem dX12_isChain_90 : decode cX12_isChain 90 = .ok (.iload 5, 2) := by decide +kernel
theorem dX12_isChain_92 : decode cX12_isChain 92 = .ok (.if_icmp .eq 36, 3) := by decide +kernel
theorem dX12_isChain_95 : decode cX12_isChain 95 = .ok (.aload_n 0, 1) := by decide +kernel
theorem dX12_isChain_96 : decode cX12_isChain 96 = .ok (.getfield 198, 3) := by decide +kernel
theorem dX12_isChain_99 : decode cX12_isChain 99 = .ok (.bipush 6, 2) := by decide +kernel
theorem dX12_isChain_101 : decode cX12_isChain 101 = .ok (.iload 4, 2) := by decide +kernel
theorem dX12_isChain_103 : decode cX12_isChain 103 = .ok (.imul, 1) := by decide +kernel
theorem dX12_isChain_104 : decode cX12_isChain 104 = .ok (.iload 5, 2) := by decide +kernel
theorem dX12_isChain_106 : decode cX12_isChain 106 = .ok (.iadd, 1) := by decide +kernel
theorem dX12_isChain_107 : decode cX12_isChain 107 = .ok (.baload, 1) := by decide +kernel
theorem dX12_isChain_108 : decode cX12_isChain 108 = .ok (.ifCond .eq 20, 3) := by decide +kernel
theorem dX12_isChain_111 : decode cX12_isChain 111 = .ok (.iload_n 2, 1) := by decide +kernel
theorem dX12_isChain_112 : decode cX12_isChain 112 = .ok (.iload 4, 2) := by decide +kernel
theorem dX12_isChain_114 : decode cX12_isChain 114 = .ok (.ishr, 1) := by decide +kernel
theorem dX12_isChain_115 : decode cX12_isChain 115 = .ok (.iconst 1, 1) := by decide +kernel
theorem dX12_isChain_116 : decode cX12_isChain 116 = .ok (.iand, 1) := by decide +kernel
theorem dX12_isChain_117 : decode cX12_isChain 117 = .ok (.iconst 1, 1) := by decide +kernel
theorem dX12_isChain_118 : decode cX12_isChain 118 = .ok (.if_icmp .ne 10, 3) := by decide +kernel
theorem dX12_isChain_121 : decode cX12_isChain 121 = .ok (.iload_n 2, 1) := by decide +kernel
theorem dX12_isChain_122 : decode cX12_isChain 122 = .ok (.iconst 1, 1) := by decide +kernel
theorem dX12_isChain_123 : decode cX12_isChain 123 = .ok (.iload 5, 2) := by decide +kernel
theorem dX12_isChain_125 : decode cX12_isChain 125 = .ok (.ishl, 1) := by decide +kernel
theorem dX12_isChain_126 : decode cX12_isChain 126 = .ok (.ior, 1) := by decide +kernel
theorem dX12_isChain_127 : decode cX12_isChain 127 = .ok (.istore_n 2, 1) := by decide +kernel
theorem dX12_isChain_128 : decode cX12_isChain 128 = .ok (.iinc 5 1, 3) := by decide +kernel
theorem dX12_isChain_131 : decode cX12_isChain 131 = .ok (.goto (-49), 3) := by decide +kernel
theorem dX12_isChain_134 : decode cX12_isChain 134 = .ok (.iinc 4 1, 3) := by decide +kernel
theorem dX12_isChain_137 : decode cX12_isChain 137 = .ok (.goto (-64), 3) := by decide +kernel
theorem dX12_isChain_140 : decode cX12_isChain 140 = .ok (.iinc 3 1, 3) := by decide +kernel
theorem dX12_isChain_143 : decode cX12_isChain 143 = .ok (.goto (-78), 3) := by decide +kernel
theorem dX12_isChain_146 : decode cX12_isChain 146 = .ok (.iload_n 2, 1) := by decide +kernel
theorem dX12_isChain_147 : decode cX12_isChain 147 = .ok (.iconst 1, 1) := by decide +kernel
theorem dX12_isChain_148 : decode cX12_isChain 148 = .ok (.iload_n 1, 1) := by decide +kernel
theorem dX12_isChain_149 : decode cX12_isChain 149 = .ok (.ishl, 1) := by decide +kernel
theorem dX12_isChain_150 : decode cX12_isChain 150 = .ok (.iconst 1, 1) := by decide +kernel
theorem dX12_isChain_151 : decode cX12_isChain 151 = .ok (.isub, 1) := by decide +kernel
theorem dX12_isChain_152 : decode cX12_isChain 152 = .ok (.if_icmp .eq 5, 3) := by decide +kernel
theorem dX12_isChain_155 : decode cX12_isChain 155 = .ok (.iconst 0, 1) := by decide +kernel
theorem dX12_isChain_156 : decode cX12_isChain 156 = .ok (.ireturn, 1) := by decide +kernel
theorem dX12_isChain_157 : decode cX12_isChain 157 = .ok (.iconst 1, 1) := by decide +kernel
theorem dX12_isChain_158 : decode cX12_isChain 158 = .ok (.istore_n 3, 1) := by decide +kernel
theorem dX12_isChain_159 : decode cX12_isChain 159 = .ok (.iload_n 3, 1) := by decide +kernel
theorem dX12_isChain_160 : decode cX12_isChain 160 = .ok (.iconst 1, 1) := by decide +kernel
theorem dX12_isChain_161 : decode cX12_isChain 161 = .ok (.iload_n 1, 1) := by decide +kernel
theorem dX12_isChain_162 : decode cX12_isChain 162 = .ok (.ishl, 1) := by decide +kernel
theorem dX12_isChain_163 : decode cX12_isChain 163 = .ok (.iconst 1, 1) := by decide +kernel
theorem dX12_isChain_164 : decode cX12_isChain 164 = .ok (.isub, 1) := by decide +kernel
theorem dX12_isChain_165 : decode cX12_isChain 165 = .ok (.if_icmp .ge 111, 3) := by decide +kernel
theorem dX12_isChain_168 : decode cX12_isChain 168 = .ok (.iconst 0, 1) := by decide +kernel
theorem dX12_isChain_169 : decode cX12_isChain 169 = .ok (.istore 4, 2) := by decide +kernel
theorem dX12_isChain_171 : decode cX12_isChain 171 = .ok (.iconst 0, 1) := by decide +kernel
theorem dX12_isChain_172 : decode cX12_isChain 172 = .ok (.istore 5, 2) := by decide +kernel
theorem dX12_isChain_174 : decode cX12_isChain 174 = .ok (.iconst 0, 1) := by decide +kernel
theorem dX12_isChain_175 : decode cX12_isChain 175 = .ok (.istore 6, 2) := by decide +kernel
theorem dX12_isChain_177 : decode cX12_isChain 177 = .ok (.iload 6, 2) := by decide +kernel
theorem dX12_isChain_179 : decode cX12_isChain 179 = .ok (.iload_n 1, 1) := by decide +kernel
theorem dX12_isChain_180 : decode cX12_isChain 180 = .ok (.if_icmp .ge 69, 3) := by decide +kernel
theorem dX12_isChain_183 : decode cX12_isChain 183 = .ok (.iload_n 3, 1) := by decide +kernel
theorem dX12_isChain_184 : decode cX12_isChain 184 = .ok (.iload 6, 2) := by decide +kernel
theorem dX12_isChain_186 : decode cX12_isChain 186 = .ok (.ishr, 1) := by decide +kernel
theorem dX12_isChain_187 : decode cX12_isChain 187 = .ok (.iconst 1, 1) := by decide +kernel
theorem dX12_isChain_188 : decode cX12_isChain 188 = .ok (.iand, 1) := by decide +kernel
theorem dX12_isChain_189 : decode cX12_isChain 189 = .ok (.ifCond .ne 6, 3) := by decide +kernel
theorem dX12_isChain_192 : decode cX12_isChain 192 = .ok (.goto 51, 3) := by decide +kernel
theorem dX12_isChain_195 : decode cX12_isChain 195 = .ok (.iinc 4 1, 3) := by decide +kernel
theorem dX12_isChain_198 : decode cX12_isChain 198 = .ok (.iconst 0, 1) := by decide +kernel
theorem dX12_isChain_199 : decode cX12_isChain 199 = .ok (.istore 7, 2) := by decide +kernel
theorem dX12_isChain_201 : decode cX12_isChain 201 = .ok (.iload 7, 2) := by decide +kernel
theorem dX12_isChain_203 : decode cX12_isChain 203 = .ok (.iload 6, 2) := by decide +kernel
theorem dX12_isChain_205 : decode cX12_isChain 205 = .ok (.if_icmp .ge 38, 3) := by decide +kernel
theorem dX12_isChain_208 : decode cX12_isChain 208 = .ok (.iload_n 3, 1) := by decide +kernel
theorem dX12_isChain_209 : decode cX12_isChain 209 = .ok (.iload 7, 2) := by decide +kernel
theorem dX12_isChain_211 : decode cX12_isChain 211 = .ok (.ishr, 1) := by decide +kernel
theorem dX12_isChain_212 : decode cX12_isChain 212 = .ok (.iconst 1, 1) := by decide +kernel
theorem dX12_isChain_213 : decode cX12_isChain 213 = .ok (.iand, 1) := by decide +kernel
theorem dX12_isChain_214 : decode cX12_isChain 214 = .ok (.iconst 1, 1) := by decide +kernel
theorem dX12_isChain_215 : decode cX12_isChain 215 = .ok (.if_icmp .ne 22, 3) := by decide +kernel
theorem dX12_isChain_218 : decode cX12_isChain 218 = .ok (.aload_n 0, 1) := by decide +kernel
theorem dX12_isChain_219 : decode cX12_isChain 219 = .ok (.getfield 198, 3) := by decide +kernel
theorem dX12_isChain_222 : decode cX12_isChain 222 = .ok (.bipush 6, 2) := by decide +kernel
theorem dX12_isChain_224 : decode cX12_isChain 224 = .ok (.iload 6, 2) := by decide +kernel
theorem dX12_isChain_226 : decode cX12_isChain 226 = .ok (.imul, 1) := by decide +kernel
theorem dX12_isChain_227 : decode cX12_isChain 227 = .ok (.iload 7, 2) := by decide +kernel
theorem dX12_isChain_229 : decode cX12_isChain 229 = .ok (.iadd, 1) := by decide +kernel
theorem dX12_isChain_230 : decode cX12_isChain 230 = .ok (.baload, 1) := by decide +kernel
theorem dX12_isChain_231 : decode cX12_isChain 231 = .ok (.ifCond .eq 6, 3) := by decide +kernel
theorem dX12_isChain_234 : decode cX12_isChain 234 = .ok (.iinc 5 1, 3) := by decide +kernel
theorem dX12_isChain_237 : decode cX12_isChain 237 = .ok (.iinc 7 1, 3) := by decide +kernel
theorem dX12_isChain_240 : decode cX12_isChain 240 = .ok (.goto (-39), 3) := by decide +kernel
theorem dX12_isChain_243 : decode cX12_isChain 243 = .ok (.iinc 6 1, 3) := by decide +kernel
theorem dX12_isChain_246 : decode cX12_isChain 246 = .ok (.goto (-69), 3) := by decide +kernel
theorem dX12_isChain_249 : decode cX12_isChain 249 = .ok (.iload 4, 2) := by decide +kernel
theorem dX12_isChain_251 : decode cX12_isChain 251 = .ok (.iconst 1, 1) := by decide +kernel
theorem dX12_isChain_252 : decode cX12_isChain 252 = .ok (.if_icmp .le 18, 3) := by decide +kernel
theorem dX12_isChain_255 : decode cX12_isChain 255 = .ok (.iload 5, 2) := by decide +kernel
theorem dX12_isChain_257 : decode cX12_isChain 257 = .ok (.iconst 3, 1) := by decide +kernel
theorem dX12_isChain_258 : decode cX12_isChain 258 = .ok (.iload 4, 2) := by decide +kernel
theorem dX12_isChain_260 : decode cX12_isChain 260 = .ok (.imul, 1) := by decide +kernel
theorem dX12_isChain_261 : decode cX12_isChain 261 = .ok (.iconst 3, 1) := by decide +kernel
theorem dX12_isChain_262 : decode cX12_isChain 262 = .ok (.isub, 1) := by decide +kernel
theorem dX12_isChain_263 : decode cX12_isChain 263 = .ok (.iconst 2, 1) := by decide +kernel
theorem dX12_isChain_264 : decode cX12_isChain 264 = .ok (.idiv, 1) := by decide +kernel
theorem dX12_isChain_265 : decode cX12_isChain 265 = .ok (.if_icmp .le 5, 3) := by decide +kernel
theorem dX12_isChain_268 : decode cX12_isChain 268 = .ok (.iconst 0, 1) := by decide +kernel
theorem dX12_isChain_269 : decode cX12_isChain 269 = .ok (.ireturn, 1) := by decide +kernel
theorem dX12_isChain_270 : decode cX12_isChain 270 = .ok (.iinc 3 1, 3) := by decide +kernel
theorem dX12_isChain_273 : decode cX12_isChain 273 = .ok (.goto (-114), 3) := by decide +kernel
theorem dX12_isChain_276 : decode cX12_isChain 276 = .ok (.iconst 1, 1) := by decide +kernel
theorem dX12_isChain_277 : decode cX12_isChain 277 = .ok (.ireturn, 1) := by decide +kernel
theorem dX12_isGreatest_0 : decode cX12_isGreatest 0 = .ok (.iconst 0, 1) := by decide +kernel
theorem dX12_isGreatest_1 : decode cX12_isGreatest 1 = .ok (.istore_n 3, 1) := by decide +kernel
theorem dX12_isGreatest_2 : decode cX12_isGreatest 2 = .ok (.iload_n 3, 1) := by decide +kernel
theorem dX12_isGreatest_3 : decode cX12_isGreatest 3 = .ok (.iload_n 1, 1) := by decide +kernel
theorem dX12_isGreatest_4 : decode cX12_isGreatest 4 = .ok (.if_icmp .ge 16, 3) := by decide +kernel
theorem dX12_isGreatest_7 : decode cX12_isGreatest 7 = .ok (.aload_n 0, 1) := by decide +kernel
theorem dX12_isGreatest_8 : decode cX12_isGreatest 8 = .ok (.getfield 201, 3) := by decide +kernel
theorem dX12_isGreatest_11 : decode cX12_isGreatest 11 = .ok (.iload_n 3, 1) := by decide +kernel
theorem dX12_isGreatest_12 : decode cX12_isGreatest 12 = .ok (.iload_n 3, 1) := by decide +kernel
theorem dX12_isGreatest_13 : decode cX12_isGreatest 13 = .ok (.iastore, 1) := by decide +kernel
theorem dX12_isGreatest_14 : decode cX12_isGreatest 14 = .ok (.iinc 3 1, 3) := by decide +kernel
theorem dX12_isGreatest_17 : decode cX12_isGreatest 17 = .ok (.goto (-15), 3) := by decide +kernel
theorem dX12_isGreatest_20 : decode cX12_isGreatest 20 = .ok (.iconst 1, 1) := by decide +kernel
theorem dX12_isGreatest_21 : decode cX12_isGreatest 21 = .ok (.istore_n 3, 1) := by decide +kernel
theorem dX12_isGreatest_22 : decode cX12_isGreatest 22 = .ok (.iload_n 3, 1) := by decide +kernel
theorem dX12_isGreatest_23 : decode cX12_isGreatest 23 = .ok (.ifCond .eq 94, 3) := by decide +kernel
theorem dX12_isGreatest_26 : decode cX12_isGreatest 26 = .ok (.iconst 0, 1) := by decide +kernel
theorem dX12_isGreatest_27 : decode cX12_isGreatest 27 = .ok (.istore 4, 2) := by decide +kernel
theorem dX12_isGreatest_29 : decode cX12_isGreatest 29 = .ok (.iconst 0, 1) := by decide +kernel
theorem dX12_isGreatest_30 : decode cX12_isGreatest 30 = .ok (.istore 5, 2) := by decide +kernel
theorem dX12_isGreatest_32 : decode cX12_isGreatest 32 = .ok (.iload 5, 2) := by decide +kernel
theorem dX12_isGreatest_34 : decode cX12_isGreatest 34 = .ok (.iload_n 1, 1) := by decide +kernel
theorem dX12_isGreatest_35 : decode cX12_isGreatest 35 = .ok (.if_icmp .ge 65, 3) := by decide +kernel
theorem dX12_isGreatest_38 : decode cX12_isGreatest 38 = .ok (.iload 5, 2) := by decide +kernel
theorem dX12_isGreatest_40 : decode cX12_isGreatest 40 = .ok (.iconst 1, 1) := by decide +kernel
theorem dX12_isGreatest_41 : decode cX12_isGreatest 41 = .ok (.iadd, 1) := by decide +kernel
theorem dX12_isGreatest_42 : decode cX12_isGreatest 42 = .ok (.istore 6, 2) := by decide +kernel
theorem dX12_isGreatest_44 : decode cX12_isGreatest 44 = .ok (.iload 6, 2) := by decide +kernel
theorem dX12_isGreatest_46 : decode cX12_isGreatest 46 = .ok (.iload_n 1, 1) := by decide +kernel
theorem dX12_isGreatest_47 : decode cX12_isGreatest 47 = .ok (.if_icmp .ge 47, 3) := by decide +kernel
theorem dX12_isGreatest_50 : decode cX12_isGreatest 50 = .ok (.iconst 2, 1) := by decide +kernel
theorem dX12_isGreatest_51 : decode cX12_isGreatest 51 = .ok (.iload 4, 2) := by decide +kernel
theorem dX12_isGreatest_53 : decode cX12_isGreatest 53 = .ok (.imul, 1) := by decide +kernel
theorem dX12_isGreatest_54 : decode cX12_isGreatest 54 = .ok (.aload_n 0, 1) := by decide +kernel
theorem dX12_isGreatest_55 : decode cX12_isGreatest 55 = .ok (.getfield 198, 3) := by decide +kernel
theorem dX12_isGreatest_58 : decode cX12_isGreatest 58 = .ok (.bipush 6, 2) := by decide +kernel
theorem dX12_isGreatest_60 : decode cX12_isGreatest 60 = .ok (.aload_n 0, 1) := by decide +kernel
theorem dX12_isGreatest_61 : decode cX12_isGreatest 61 = .ok (.getfield 201, 3) := by decide +kernel
theorem dX12_isGreatest_64 : decode cX12_isGreatest 64 = .ok (.iload 5, 2) := by decide +kernel
theorem dX12_isGreatest_66 : decode cX12_isGreatest 66 = .ok (.iaload, 1) := by decide +kernel
theorem dX12_isGreatest_67 : decode cX12_isGreatest 67 = .ok (.imul, 1) := by decide +kernel
theorem dX12_isGreatest_68 : decode cX12_isGreatest 68 = .ok (.aload_n 0, 1) := by decide +kernel
theorem dX12_isGreatest_69 : decode cX12_isGreatest 69 = .ok (.getfield 201, 3) := by decide +kernel
theorem dX12_isGreatest_72 : decode cX12_isGreatest 72 = .ok (.iload 6, 2) := by decide +kernel
theorem dX12_isGreatest_74 : decode cX12_isGreatest 74 = .ok (.iaload, 1) := by decide +kernel
theorem dX12_isGreatest_75 : decode cX12_isGreatest 75 = .ok (.iadd, 1) := by decide +kernel
theorem dX12_isGreatest_76 : decode cX12_isGreatest 76 = .ok (.baload, 1) := by decide +kernel
theorem dX12_isGreatest_77 : decode cX12_isGreatest 77 = .ok (.ifCond .eq 7, 3) := by decide +kernel
theorem dX12_isGreatest_80 : decode cX12_isGreatest 80 = .ok (.iconst 1, 1) := by decide +kernel
theorem dX12_isGreatest_81 : decode cX12_isGreatest 81 = .ok (.goto 4, 3) := by decide +kernel
theorem dX12_isGreatest_84 : decode cX12_isGreatest 84 = .ok (.iconst 0, 1) := by decide +kernel
theorem dX12_isGreatest_85 : decode cX12_isGreatest 85 = .ok (.iadd, 1) := by decide +kernel
theorem dX12_isGreatest_86 : decode cX12_isGreatest 86 = .ok (.istore 4, 2) := by decide +kernel
theorem dX12_isGreatest_88 : decode cX12_isGreatest 88 = .ok (.iinc 6 1, 3) := by decide +kernel
theorem dX12_isGreatest_91 : decode cX12_isGreatest 91 = .ok (.goto (-47), 3) := by decide +kernel
theorem dX12_isGreatest_94 : decode cX12_isGreatest 94 = .ok (.iinc 5 1, 3) := by decide +kernel
theorem dX12_isGreatest_97 : decode cX12_isGreatest 97 = .ok (.goto (-65), 3) := by decide +kernel
theorem dX12_isGreatest_100 : decode cX12_isGreatest 100 = .ok (.iload 4, 2) := by decide +kernel
theorem dX12_isGreatest_102 : decode cX12_isGreatest 102 = .ok (.iload_n 2, 1) := by decide +kernel
theorem dX12_isGreatest_103 : decode cX12_isGreatest 103 = .ok (.if_icmp .le 5, 3) := by decide +kernel
theorem dX12_isGreatest_106 : decode cX12_isGreatest 106 = .ok (.iconst 0, 1) := by decide +kernel
theorem dX12_isGreatest_107 : decode cX12_isGreatest 107 = .ok (.ireturn, 1) := by decide +kernel
theorem dX12_isGreatest_108 : decode cX12_isGreatest 108 = .ok (.aload_n 0, 1) := by decide +kernel
theorem dX12_isGreatest_109 : decode cX12_isGreatest 109 = .ok (.iload_n 1, 1) := by decide +kernel
theorem dX12_isGreatest_110 : decode cX12_isGreatest 110 = .ok (.invokevirtual 777, 3) := by decide +kernel
theorem dX12_isGreatest_113 : decode cX12_isGreatest 113 = .ok (.istore_n 3, 1) := by decide +kernel
theorem dX12_isGreatest_114 : decode cX12_isGreatest 114 = .ok (.goto (-92), 3) := by decide +kernel
theorem dX12_isGreatest_117 : decode cX12_isGreatest 117 = .ok (.iconst 1, 1) := by decide +kernel
theorem dX12_isGreatest_118 : decode cX12_isGreatest 118 = .ok (.ireturn, 1) := by decide +kernel
theorem dX12_nextRow_0 : decode cX12_nextRow 0 = .ok (.iload_n 1, 1) := by decide +kernel
theorem dX12_nextRow_1 : decode cX12_nextRow 1 = .ok (.iconst 2, 1) := by decide +kernel
theorem dX12_nextRow_2 : decode cX12_nextRow 2 = .ok (.isub, 1) := by decide +kernel
theorem dX12_nextRow_3 : decode cX12_nextRow 3 = .ok (.istore_n 2, 1) := by decide +kernel
theorem dX12_nextRow_4 : decode cX12_nextRow 4 = .ok (.iload_n 2, 1) := by decide +kernel
theorem dX12_nextRow_5 : decode cX12_nextRow 5 = .ok (.ifCond .lt 26, 3) := by decide +kernel
theorem dX12_nextRow_8 : decode cX12_nextRow 8 = .ok (.aload_n 0, 1) := by decide +kernel
theorem dX12_nextRow_9 : decode cX12_nextRow 9 = .ok (.getfield 201, 3) := by decide +kernel
theorem dX12_nextRow_12 : decode cX12_nextRow 12 = .ok (.iload_n 2, 1) := by decide +kernel
theorem dX12_nextRow_13 : decode cX12_nextRow 13 = .ok (.iaload, 1) := by decide +kernel
theorem dX12_nextRow_14 : decode cX12_nextRow 14 = .ok (.aload_n 0, 1) := by decide +kernel
theorem dX12_nextRow_15 : decode cX12_nextRow 15 = .ok (.getfield 201, 3) := by decide +kernel
theorem dX12_nextRow_18 : decode cX12_nextRow 18 = .ok (.iload_n 2, 1) := by decide +kernel
theorem dX12_nextRow_19 : decode cX12_nextRow 19 = .ok (.iconst 1, 1) := by decide +kernel
theorem dX12_nextRow_20 : decode cX12_nextRow 20 = .ok (.iadd, 1) := by decide +kernel
theorem dX12_nextRow_21 : decode cX12_nextRow 21 = .ok (.iaload, 1) := by decide +kernel
theorem dX12_nextRow_22 : decode cX12_nextRow 22 = .ok (.if_icmp .le 9, 3) := by decide +kernel
theorem dX12_nextRow_25 : decode cX12_nextRow 25 = .ok (.iinc 2 (-1), 3) := by decide +kernel
theorem dX12_nextRow_28 : decode cX12_nextRow 28 = .ok (.goto (-24), 3) := by decide +kernel
theorem dX12_nextRow_31 : decode cX12_nextRow 31 = .ok (.iload_n 2, 1) := by decide +kernel
theorem dX12_nextRow_32 : decode cX12_nextRow 32 = .ok (.ifCond .ge 5, 3) := by decide +kernel
theorem dX12_nextRow_35 : decode cX12_nextRow 35 = .ok (.iconst 0, 1) := by decide +kernel
theorem dX12_nextRow_36 : decode cX12_nextRow 36 = .ok (.ireturn, 1) := by decide +kernel
theorem dX12_nextRow_37 : decode cX12_nextRow 37 = .ok (.iload_n 1, 1) := by decide +kernel
theorem dX12_nextRow_38 : decode cX12_nextRow 38 = .ok (.iconst 1, 1) := by decide +kernel
theorem dX12_nextRow_39 : decode cX12_nextRow 39 = .ok (.isub, 1) := by decide +kernel
theorem dX12_nextRow_40 : decode cX12_nextRow 40 = .ok (.istore_n 3, 1) := by decide +kernel
theorem dX12_nextRow_41 : decode cX12_nextRow 41 = .ok (.aload_n 0, 1) := by decide +kernel
theorem dX12_nextRow_42 : decode cX12_nextRow 42 = .ok (.getfield 201, 3) := by decide +kernel
theorem dX12_nextRow_45 : decode cX12_nextRow 45 = .ok (.iload_n 3, 1) := by decide +kernel
theorem dX12_nextRow_46 : decode cX12_nextRow 46 = .ok (.iaload, 1) := by decide +kernel
theorem dX12_nextRow_47 : decode cX12_nextRow 47 = .ok (.aload_n 0, 1) := by decide +kernel
theorem dX12_nextRow_48 : decode cX12_nextRow 48 = .ok (.getfield 201, 3) := by decide +kernel
theorem dX12_nextRow_51 : decode cX12_nextRow 51 = .ok (.iload_n 2, 1) := by decide +kernel
theorem dX12_nextRow_52 : decode cX12_nextRow 52 = .ok (.iaload, 1) := by decide +kernel
theorem dX12_nextRow_53 : decode cX12_nextRow 53 = .ok (.if_icmp .ge 9, 3) := by decide +kernel
theorem dX12_nextRow_56 : decode cX12_nextRow 56 = .ok (.iinc 3 (-1), 3) := by decide +kernel
theorem dX12_nextRow_59 : decode cX12_nextRow 59 = .ok (.goto (-18), 3) := by decide +kernel
theorem dX12_nextRow_62 : decode cX12_nextRow 62 = .ok (.aload_n 0, 1) := by decide +kernel
theorem dX12_nextRow_63 : decode cX12_nextRow 63 = .ok (.getfield 201, 3) := by decide +kernel
theorem dX12_nextRow_66 : decode cX12_nextRow 66 = .ok (.iload_n 2, 1) := by decide +kernel
theorem dX12_nextRow_67 : decode cX12_nextRow 67 = .ok (.iaload, 1) := by decide +kernel
theorem dX12_nextRow_68 : decode cX12_nextRow 68 = .ok (.istore 4, 2) := by decide +kernel
theorem dX12_nextRow_70 : decode cX12_nextRow 70 = .ok (.aload_n 0, 1) := by decide +kernel
theorem dX12_nextRow_71 : decode cX12_nextRow 71 = .ok (.getfield 201, 3) := by decide +kernel
theorem dX12_nextRow_74 : decode cX12_nextRow 74 = .ok (.iload_n 2, 1) := by decide +kernel
theorem dX12_nextRow_75 : decode cX12_nextRow 75 = .ok (.aload_n 0, 1) := by decide +kernel
theorem dX12_nextRow_76 : decode cX12_nextRow 76 = .ok (.getfield 201, 3) := by decide +kernel
theorem dX12_nextRow_79 : decode cX12_nextRow 79 = .ok (.iload_n 3, 1) := by decide +kernel
theorem dX12_nextRow_80 : decode cX12_nextRow 80 = .ok (.iaload, 1) := by decide +kernel
theorem dX12_nextRow_81 : decode cX12_nextRow 81 = .ok (.iastore, 1) := by decide +kernel
theorem dX12_nextRow_82 : decode cX12_nextRow 82 = .ok (.aload_n 0, 1) := by decide +kernel
theorem dX12_nextRow_83 : decode cX12_nextRow 83 = .ok (.getfield 201, 3) := by decide +kernel
theorem dX12_nextRow_86 : decode cX12_nextRow 86 = .ok (.iload_n 3, 1) := by decide +kernel
theorem dX12_nextRow_87 : decode cX12_nextRow 87 = .ok (.iload 4, 2) := by decide +kernel
theorem dX12_nextRow_89 : decode cX12_nextRow 89 = .ok (.iastore, 1) := by decide +kernel
theorem dX12_nextRow_90 : decode cX12_nextRow 90 = .ok (.iload_n 2, 1) := by decide +kernel
theorem dX12_nextRow_91 : decode cX12_nextRow 91 = .ok (.iconst 1, 1) := by decide +kernel
theorem dX12_nextRow_92 : decode cX12_nextRow 92 = .ok (.iadd, 1) := by decide +kernel
theorem dX12_nextRow_93 : decode cX12_nextRow 93 = .ok (.istore 5, 2) := by decide +kernel
theorem dX12_nextRow_95 : decode cX12_nextRow 95 = .ok (.iload_n 1, 1) := by decide +kernel
theorem dX12_nextRow_96 : decode cX12_nextRow 96 = .ok (.iconst 1, 1) := by decide +kernel
theorem dX12_nextRow_97 : decode cX12_nextRow 97 = .ok (.isub, 1) := by decide +kernel
theorem dX12_nextRow_98 : decode cX12_nextRow 98 = .ok (.istore 6, 2) := by decide +kernel
theorem dX12_nextRow_100 : decode cX12_nextRow 100 = .ok (.iload 5, 2) := by decide +kernel
theorem dX12_nextRow_102 : decode cX12_nextRow 102 = .ok (.iload 6, 2) := by decide +kernel
theorem dX12_nextRow_104 : decode cX12_nextRow 104 = .ok (.if_icmp .ge 44, 3) := by decide +kernel
theorem dX12_nextRow_107 : decode cX12_nextRow 107 = .ok (.aload_n 0, 1) := by decide +kernel
theorem dX12_nextRow_108 : decode cX12_nextRow 108 = .ok (.getfield 201, 3) := by decide +kernel
theorem dX12_nextRow_111 : decode cX12_nextRow 111 = .ok (.iload 5, 2) := by decide +kernel
theorem dX12_nextRow_113 : decode cX12_nextRow 113 = .ok (.iaload, 1) := by decide +kernel
theorem dX12_nextRow_114 : decode cX12_nextRow 114 = .ok (.istore 4, 2) := by decide +kernel
theorem dX12_nextRow_116 : decode cX12_nextRow 116 = .ok (.aload_n 0, 1) := by decide +kernel
theorem dX12_nextRow_117 : decode cX12_nextRow 117 = .ok (.getfield 201, 3) := by decide +kernel
theorem dX12_nextRow_120 : decode cX12_nextRow 120 = .ok (.iload 5, 2) := by decide +kernel
theorem dX12_nextRow_122 : decode cX12_nextRow 122 = .ok (.aload_n 0, 1) := by decide +kernel
theorem dX12_nextRow_123 : decode cX12_nextRow 123 = .ok (.getfield 201, 3) := by decide +kernel
theorem dX12_nextRow_126 : decode cX12_nextRow 126 = .ok (.iload 6, 2) := by decide +kernel
theorem dX12_nextRow_128 : decode cX12_nextRow 128 = .ok (.iaload, 1) := by decide +kernel
theorem dX12_nextRow_129 : decode cX12_nextRow 129 = .ok (.iastore, 1) := by decide +kernel
theorem dX12_nextRow_130 : decode cX12_nextRow 130 = .ok (.aload_n 0, 1) := by decide +kernel
theorem dX12_nextRow_131 : decode cX12_nextRow 131 = .ok (.getfield 201, 3) := by decide +kernel
theorem dX12_nextRow_134 : decode cX12_nextRow 134 = .ok (.iload 6, 2) := by decide +kernel
theorem dX12_nextRow_136 : decode cX12_nextRow 136 = .ok (.iload 4, 2) := by decide +kernel
theorem dX12_nextRow_138 : decode cX12_nextRow 138 = .ok (.iastore, 1) := by decide +kernel
theorem dX12_nextRow_139 : decode cX12_nextRow 139 = .ok (.iinc 5 1, 3) := by decide +kernel
theorem dX12_nextRow_142 : decode cX12_nextRow 142 = .ok (.iinc 6 (-1), 3) := by decide +kernel
theorem dX12_nextRow_145 : decode cX12_nextRow 145 = .ok (.goto (-45), 3) := by decide +kernel
theorem dX12_nextRow_148 : decode cX12_nextRow 148 = .ok (.iconst 1, 1) := by decide +kernel
theorem dX12_nextRow_149 : decode cX12_nextRow 149 = .ok (.ireturn, 1) := by decide +kernel
theorem dX12_kinds_0 : decode cX12_kinds 0 = .ok (.aload_n 0, 1) := by decide +kernel
theorem dX12_kinds_1 : decode cX12_kinds 1 = .ok (.iload_n 1, 1) := by decide +kernel
theorem dX12_kinds_2 : decode cX12_kinds 2 = .ok (.i2l, 1) := by decide +kernel
theorem dX12_kinds_3 : decode cX12_kinds 3 = .ok (.ldc2_w 466, 3) := by decide +kernel
theorem dX12_kinds_6 : decode cX12_kinds 6 = .ok (.ldc2_w 691, 3) := by decide +kernel
theorem dX12_kinds_9 : decode cX12_kinds 9 = .ok (.invokestatic 262, 3) := by decide +kernel
theorem dX12_kinds_12 : decode cX12_kinds 12 = .ok (.ifCond .eq 19, 3) := by decide +kernel
theorem dX12_kinds_15 : decode cX12_kinds 15 = .ok (.iload_n 2, 1) := by decide +kernel
theorem dX12_kinds_16 : decode cX12_kinds 16 = .ok (.i2l, 1) := by decide +kernel
theorem dX12_kinds_17 : decode cX12_kinds 17 = .ok (.lconst 0, 1) := by decide +kernel
theorem dX12_kinds_18 : decode cX12_kinds 18 = .ok (.ldc2_w 715, 3) := by decide +kernel
theorem dX12_kinds_21 : decode cX12_kinds 21 = .ok (.invokestatic 262, 3) := by decide +kernel
theorem dX12_kinds_24 : decode cX12_kinds 24 = .ok (.ifCond .eq 7, 3) := by decide +kernel
theorem dX12_kinds_27 : decode cX12_kinds 27 = .ok (.iconst 0, 1) := by decide +kernel
theorem dX12_kinds_28 : decode cX12_kinds 28 = .ok (.goto 4, 3) := by decide +kernel
theorem dX12_kinds_31 : decode cX12_kinds 31 = .ok (.iconst 1, 1) := by decide +kernel
theorem dX12_kinds_32 : decode cX12_kinds 32 = .ok (.putfield 243, 3) := by decide +kernel
theorem dX12_kinds_35 : decode cX12_kinds 35 = .ok (.aload_n 0, 1) := by decide +kernel
theorem dX12_kinds_36 : decode cX12_kinds 36 = .ok (.getfield 243, 3) := by decide +kernel
theorem dX12_kinds_39 : decode cX12_kinds 39 = .ok (.ifCond .le 5, 3) := by decide +kernel
theorem dX12_kinds_42 : decode cX12_kinds 42 = .ok (.iconst 0, 1) := by decide +kernel
theorem dX12_kinds_43 : decode cX12_kinds 43 = .ok (.ireturn, 1) := by decide +kernel
theorem dX12_kinds_44 : decode cX12_kinds 44 = .ok (.aload_n 0, 1) := by decide +kernel
theorem dX12_kinds_45 : decode cX12_kinds 45 = .ok (.iconst 0, 1) := by decide +kernel
theorem dX12_kinds_46 : decode cX12_kinds 46 = .ok (.putfield 780, 3) := by decide +kernel
theorem dX12_kinds_49 : decode cX12_kinds 49 = .ok (.iconst 1, 1) := by decide +kernel
theorem dX12_kinds_50 : decode cX12_kinds 50 = .ok (.iload_n 1, 1) := by decide +kernel
theorem dX12_kinds_51 : decode cX12_kinds 51 = .ok (.iload_n 1, 1) := by decide +kernel
theorem dX12_kinds_52 : decode cX12_kinds 52 = .ok (.iconst 1, 1) := by decide +kernel
theorem dX12_kinds_53 : decode cX12_kinds 53 = .ok (.isub, 1) := by decide +kernel
theorem dX12_kinds_54 : decode cX12_kinds 54 = .ok (.imul, 1) := by decide +kernel
theorem dX12_kinds_55 : decode cX12_kinds 55 = .ok (.iconst 2, 1) := by decide +kernel
theorem dX12_kinds_56 : decode cX12_kinds 56 = .ok (.idiv, 1) := by decide +kernel
theorem dX12_kinds_57 : decode cX12_kinds 57 = .ok (.ishl, 1) := by decide +kernel
theorem dX12_kinds_58 : decode cX12_kinds 58 = .ok (.iconst 1, 1) := by decide +kernel
theorem dX12_kinds_59 : decode cX12_kinds 59 = .ok (.isub, 1) := by decide +kernel
theorem dX12_kinds_60 : decode cX12_kinds 60 = .ok (.istore_n 3, 1) := by decide +kernel
theorem dX12_kinds_61 : decode cX12_kinds 61 = .ok (.iload_n 3, 1) := by decide +kernel
theorem dX12_kinds_62 : decode cX12_kinds 62 = .ok (.ifCond .lt 94, 3) := by decide +kernel
theorem dX12_kinds_65 : decode cX12_kinds 65 = .ok (.iconst 0, 1) := by decide +kernel
theorem dX12_kinds_66 : decode cX12_kinds 66 = .ok (.istore 4, 2) := by decide +kernel
theorem dX12_kinds_68 : decode cX12_kinds 68 = .ok (.iconst 0, 1) := by decide +kernel
theorem dX12_kinds_69 : decode cX12_kinds 69 = .ok (.istore 5, 2) := by decide +kernel
theorem dX12_kinds_71 : decode cX12_kinds 71 = .ok (.iload 5, 2) := by decide +kernel
theorem dX12_kinds_73 : decode cX12_kinds 73 = .ok (.bipush 15, 2) := by decide +kernel
theorem dX12_kinds_75 : decode cX12_kinds 75 = .ok (.if_icmp .ge 20, 3) := by decide +kernel
theorem dX12_kinds_78 : decode cX12_kinds 78 = .ok (.iload 4, 2) := by decide +kernel
theorem dX12_kinds_80 : decode cX12_kinds 80 = .ok (.iload_n 3, 1) := by decide +kernel
theorem dX12_kinds_81 : decode cX12_kinds 81 = .ok (.iload 5, 2) := by decide +kernel
theorem dX12_kinds_83 : decode cX12_kinds 83 = .ok (.ishr, 1) := by decide +kernel
theorem dX12_kinds_84 : decode cX12_kinds 84 = .ok (.iconst 1, 1) := by decide +kernel
theorem dX12_kinds_85 : decode cX12_kinds 85 = .ok (.iand, 1) := by decide +kernel
theorem dX12_kinds_86 : decode cX12_kinds 86 = .ok (.iadd, 1) := by decide +kernel
theorem dX12_kinds_87 : decode cX12_kinds 87 = .ok (.istore 4, 2) := by decide +kernel
theorem dX12_kinds_89 : decode cX12_kinds 89 = .ok (.iinc 5 1, 3) := by decide +kernel
theorem dX12_kinds_92 : decode cX12_kinds 92 = .ok (.goto (-21), 3) := by decide +kernel
theorem dX12_kinds_95 : decode cX12_kinds 95 = .ok (.iload 4, 2) := by decide +kernel
theorem dX12_kinds_97 : decode cX12_kinds 97 = .ok (.iload_n 2, 1) := by decide +kernel
theorem dX12_kinds_98 : decode cX12_kinds 98 = .ok (.if_icmp .eq 6, 3) := by decide +kernel
theorem dX12_kinds_101 : decode cX12_kinds 101 = .ok (.goto 49, 3) := by decide +kernel
theorem dX12_kinds_104 : decode cX12_kinds 104 = .ok (.aload_n 0, 1) := by decide +kernel
theorem dX12_kinds_105 : decode cX12_kinds 105 = .ok (.iload_n 1, 1) := by decide +kernel
theorem dX12_kinds_106 : decode cX12_kinds 106 = .ok (.iload_n 3, 1) := by decide +kernel
theorem dX12_kinds_107 : decode cX12_kinds 107 = .ok (.invokevirtual 783, 3) := by decide +kernel
theorem dX12_kinds_110 : decode cX12_kinds 110 = .ok (.aload_n 0, 1) := by decide +kernel
theorem dX12_kinds_111 : decode cX12_kinds 111 = .ok (.iload_n 1, 1) := by decide +kernel
theorem dX12_kinds_112 : decode cX12_kinds 112 = .ok (.invokevirtual 786, 3) := by decide +kernel
theorem dX12_kinds_115 : decode cX12_kinds 115 = .ok (.ifCond .eq 35, 3) := by decide +kernel
theorem dX12_kinds_118 : decode cX12_kinds 118 = .ok (.aload_n 0, 1) := by decide +kernel
theorem dX12_kinds_119 : decode cX12_kinds 119 = .ok (.iload_n 1, 1) := by decide +kernel
theorem dX12_kinds_120 : decode cX12_kinds 120 = .ok (.iload_n 3, 1) := by decide +kernel
theorem dX12_kinds_121 : decode cX12_kinds 121 = .ok (.invokevirtual 789, 3) := by decide +kernel
theorem dX12_kinds_124 : decode cX12_kinds 124 = .ok (.ifCond .ne 6, 3) := by decide +kernel
theorem dX12_kinds_127 : decode cX12_kinds 127 = .ok (.goto 23, 3) := by decide +kernel
theorem dX12_kinds_130 : decode cX12_kinds 130 = .ok (.aload_n 0, 1) := by decide +kernel
theorem dX12_kinds_131 : decode cX12_kinds 131 = .ok (.getfield 195, 3) := by decide +kernel
theorem dX12_kinds_134 : decode cX12_kinds 134 = .ok (.aload_n 0, 1) := by decide +kernel
theorem dX12_kinds_135 : decode cX12_kinds 135 = .ok (.getfield 780, 3) := by decide +kernel
theorem dX12_kinds_138 : decode cX12_kinds 138 = .ok (.iload_n 3, 1) := by decide +kernel
theorem dX12_kinds_139 : decode cX12_kinds 139 = .ok (.iastore, 1) := by decide +kernel
theorem dX12_kinds_140 : decode cX12_kinds 140 = .ok (.aload_n 0, 1) := by decide +kernel
theorem dX12_kinds_141 : decode cX12_kinds 141 = .ok (.dup, 1) := by decide +kernel
theorem dX12_kinds_142 : decode cX12_kinds 142 = .ok (.getfield 780, 3) := by decide +kernel
theorem dX12_kinds_145 : decode cX12_kinds 145 = .ok (.iconst 1, 1) := by decide +kernel
theorem dX12_kinds_146 : decode cX12_kinds 146 = .ok (.iadd, 1) := by decide +kernel
theorem dX12_kinds_147 : decode cX12_kinds 147 = .ok (.putfield 780, 3) := by decide +kernel
theorem dX12_kinds_150 : decode cX12_kinds 150 = .ok (.iinc 3 (-1), 3) := by decide +kernel
theorem dX12_kinds_153 : decode cX12_kinds 153 = .ok (.goto (-92), 3) := by decide +kernel
theorem dX12_kinds_156 : decode cX12_kinds 156 = .ok (.aload_n 0, 1) := by decide +kernel
theorem dX12_kinds_157 : decode cX12_kinds 157 = .ok (.getfield 780, 3) := by decide +kernel
theorem dX12_kinds_160 : decode cX12_kinds 160 = .ok (.ireturn, 1) := by decide +kernel
theorem dX12_kind_0 : decode cX12_kind 0 = .ok (.aload_n 0, 1) := by decide +kernel
theorem dX12_kind_1 : decode cX12_kind 1 = .ok (.iload_n 1, 1) := by decide +kernel
theorem dX12_kind_2 : decode cX12_kind 2 = .ok (.i2l, 1) := by decide +kernel
theorem dX12_kind_3 : decode cX12_kind 3 = .ok (.lconst 0, 1) := by decide +kernel
theorem dX12_kind_4 : decode cX12_kind 4 = .ok (.aload_n 0, 1) := by decide +kernel
theorem dX12_kind_5 : decode cX12_kind 5 = .ok (.getfield 780, 3) := by decide +kernel
theorem dX12_kind_8 : decode cX12_kind 8 = .ok (.iconst 1, 1) := by decide +kernel
theorem dX12_kind_9 : decode cX12_kind 9 = .ok (.isub, 1) := by decide +kernel
theorem dX12_kind_10 : decode cX12_kind 10 = .ok (.i2l, 1) := by decide +kernel
theorem dX12_kind_11 : decode cX12_kind 11 = .ok (.invokestatic 262, 3) := by decide +kernel
theorem dX12_kind_14 : decode cX12_kind 14 = .ok (.ifCond .eq 7, 3) := by decide +kernel
theorem dX12_kind_17 : decode cX12_kind 17 = .ok (.iconst 0, 1) := by decide +kernel
theorem dX12_kind_18 : decode cX12_kind 18 = .ok (.goto 4, 3) := by decide +kernel
theorem dX12_kind_21 : decode cX12_kind 21 = .ok (.iconst 1, 1) := by decide +kernel
theorem dX12_kind_22 : decode cX12_kind 22 = .ok (.putfield 243, 3) := by decide +kernel
theorem dX12_kind_25 : decode cX12_kind 25 = .ok (.aload_n 0, 1) := by decide +kernel
theorem dX12_kind_26 : decode cX12_kind 26 = .ok (.getfield 243, 3) := by decide +kernel
theorem dX12_kind_29 : decode cX12_kind 29 = .ok (.ifCond .le 7, 3) := by decide +kernel
theorem dX12_kind_32 : decode cX12_kind 32 = .ok (.iconst 0, 1) := by decide +kernel
theorem dX12_kind_33 : decode cX12_kind 33 = .ok (.goto 9, 3) := by decide +kernel
theorem dX12_kind_36 : decode cX12_kind 36 = .ok (.aload_n 0, 1) := by decide +kernel
theorem dX12_kind_37 : decode cX12_kind 37 = .ok (.getfield 195, 3) := by decide +kernel
theorem dX12_kind_40 : decode cX12_kind 40 = .ok (.iload_n 1, 1) := by decide +kernel
theorem dX12_kind_41 : decode cX12_kind 41 = .ok (.iaload, 1) := by decide +kernel
theorem dX12_kind_42 : decode cX12_kind 42 = .ok (.ireturn, 1) := by decide +kernel
theorem dX12_pointNamed_0 : decode cX12_pointNamed 0 = .ok (.iconst 0, 1) := by decide +kernel
theorem dX12_pointNamed_1 : decode cX12_pointNamed 1 = .ok (.istore_n 3, 1) := by decide +kernel
theorem dX12_pointNamed_2 : decode cX12_pointNamed 2 = .ok (.iload_n 3, 1) := by decide +kernel
theorem dX12_pointNamed_3 : decode cX12_pointNamed 3 = .ok (.aload_n 0, 1) := by decide +kernel
theorem dX12_pointNamed_4 : decode cX12_pointNamed 4 = .ok (.getfield 460, 3) := by decide +kernel
theorem dX12_pointNamed_7 : decode cX12_pointNamed 7 = .ok (.if_icmp .ge 84, 3) := by decide +kernel
theorem dX12_pointNamed_10 : decode cX12_pointNamed 10 = .ok (.aload_n 0, 1) := by decide +kernel
theorem dX12_pointNamed_11 : decode cX12_pointNamed 11 = .ok (.getfield 54, 3) := by decide +kernel
theorem dX12_pointNamed_14 : decode cX12_pointNamed 14 = .ok (.iload_n 3, 1) := by decide +kernel
theorem dX12_pointNamed_15 : decode cX12_pointNamed 15 = .ok (.iaload, 1) := by decide +kernel
theorem dX12_pointNamed_16 : decode cX12_pointNamed 16 = .ok (.iload_n 2, 1) := by decide +kernel
theorem dX12_pointNamed_17 : decode cX12_pointNamed 17 = .ok (.if_icmp .ne 7, 3) := by decide +kernel
theorem dX12_pointNamed_20 : decode cX12_pointNamed 20 = .ok (.iconst 1, 1) := by decide +kernel
theorem dX12_pointNamed_21 : decode cX12_pointNamed 21 = .ok (.goto 4, 3) := by decide +kernel
theorem dX12_pointNamed_24 : decode cX12_pointNamed 24 = .ok (.iconst 0, 1) := by decide +kernel
theorem dX12_pointNamed_25 : decode cX12_pointNamed 25 = .ok (.istore 4, 2) := by decide +kernel
theorem dX12_pointNamed_27 : decode cX12_pointNamed 27 = .ok (.iconst 0, 1) := by decide +kernel
theorem dX12_pointNamed_28 : decode cX12_pointNamed 28 = .ok (.istore 5, 2) := by decide +kernel
theorem dX12_pointNamed_30 : decode cX12_pointNamed 30 = .ok (.iload 5, 2) := by decide +kernel
theorem dX12_pointNamed_32 : decode cX12_pointNamed 32 = .ok (.iload_n 2, 1) := by decide +kernel
theorem dX12_pointNamed_33 : decode cX12_pointNamed 33 = .ok (.if_icmp .ge 45, 3) := by decide +kernel
theorem dX12_pointNamed_36 : decode cX12_pointNamed 36 = .ok (.iload 4, 2) := by decide +kernel
theorem dX12_pointNamed_38 : decode cX12_pointNamed 38 = .ok (.ifCond .eq 40, 3) := by decide +kernel
theorem dX12_pointNamed_41 : decode cX12_pointNamed 41 = .ok (.aload_n 0, 1) := by decide +kernel
theorem dX12_pointNamed_42 : decode cX12_pointNamed 42 = .ok (.getfield 57, 3) := by decide +kernel
theorem dX12_pointNamed_45 : decode cX12_pointNamed 45 = .ok (.bipush 8, 2) := by decide +kernel
theorem dX12_pointNamed_47 : decode cX12_pointNamed 47 = .ok (.iload_n 3, 1) := by decide +kernel
theorem dX12_pointNamed_48 : decode cX12_pointNamed 48 = .ok (.imul, 1) := by decide +kernel
theorem dX12_pointNamed_49 : decode cX12_pointNamed 49 = .ok (.iload 5, 2) := by decide +kernel
theorem dX12_pointNamed_51 : decode cX12_pointNamed 51 = .ok (.iadd, 1) := by decide +kernel
theorem dX12_pointNamed_52 : decode cX12_pointNamed 52 = .ok (.iaload, 1) := by decide +kernel
theorem dX12_pointNamed_53 : decode cX12_pointNamed 53 = .ok (.aload_n 0, 1) := by decide +kernel
theorem dX12_pointNamed_54 : decode cX12_pointNamed 54 = .ok (.getfield 7, 3) := by decide +kernel
theorem dX12_pointNamed_57 : decode cX12_pointNamed 57 = .ok (.iload_n 1, 1) := by decide +kernel
theorem dX12_pointNamed_58 : decode cX12_pointNamed 58 = .ok (.iload 5, 2) := by decide +kernel
theorem dX12_pointNamed_60 : decode cX12_pointNamed 60 = .ok (.iadd, 1) := by decide +kernel
theorem dX12_pointNamed_61 : decode cX12_pointNamed 61 = .ok (.iaload, 1) := by decide +kernel
theorem dX12_pointNamed_62 : decode cX12_pointNamed 62 = .ok (.if_icmp .ne 7, 3) := by decide +kernel
theorem dX12_pointNamed_65 : decode cX12_pointNamed 65 = .ok (.iconst 1, 1) := by decide +kernel
theorem dX12_pointNamed_66 : decode cX12_pointNamed 66 = .ok (.goto 4, 3) := by decide +kernel
theorem dX12_pointNamed_69 : decode cX12_pointNamed 69 = .ok (.iconst 0, 1) := by decide +kernel
theorem dX12_pointNamed_70 : decode cX12_pointNamed 70 = .ok (.istore 4, 2) := by decide +kernel
theorem dX12_pointNamed_72 : decode cX12_pointNamed 72 = .ok (.iinc 5 1, 3) := by decide +kernel
theorem dX12_pointNamed_75 : decode cX12_pointNamed 75 = .ok (.goto (-45), 3) := by decide +kernel
theorem dX12_pointNamed_78 : decode cX12_pointNamed 78 = .ok (.iload 4, 2) := by decide +kernel
theorem dX12_pointNamed_80 : decode cX12_pointNamed 80 = .ok (.ifCond .eq 5, 3) := by decide +kernel
theorem dX12_pointNamed_83 : decode cX12_pointNamed 83 = .ok (.iload_n 3, 1) := by decide +kernel
theorem dX12_pointNamed_84 : decode cX12_pointNamed 84 = .ok (.ireturn, 1) := by decide +kernel
theorem dX12_pointNamed_85 : decode cX12_pointNamed 85 = .ok (.iinc 3 1, 3) := by decide +kernel
theorem dX12_pointNamed_88 : decode cX12_pointNamed 88 = .ok (.goto (-86), 3) := by decide +kernel
theorem dX12_pointNamed_91 : decode cX12_pointNamed 91 = .ok (.iconst (-1), 1) := by decide +kernel
theorem dX12_pointNamed_92 : decode cX12_pointNamed 92 = .ok (.ireturn, 1) := by decide +kernel
theorem dX12_taken_0 : decode cX12_taken 0 = .ok (.aload_n 0, 1) := by decide +kernel
theorem dX12_taken_1 : decode cX12_taken 1 = .ok (.iconst 2, 1) := by decide +kernel
theorem dX12_taken_2 : decode cX12_taken 2 = .ok (.invokevirtual 381, 3) := by decide +kernel
theorem dX12_taken_5 : decode cX12_taken 5 = .ok (.ifCond .ne 5, 3) := by decide +kernel
theorem dX12_taken_8 : decode cX12_taken 8 = .ok (.iconst 0, 1) := by decide +kernel
theorem dX12_taken_9 : decode cX12_taken 9 = .ok (.ireturn, 1) := by decide +kernel
theorem dX12_taken_10 : decode cX12_taken 10 = .ok (.aload_n 0, 1) := by decide +kernel
theorem dX12_taken_11 : decode cX12_taken 11 = .ok (.iload_n 1, 1) := by decide +kernel
theorem dX12_taken_12 : decode cX12_taken 12 = .ok (.i2l, 1) := by decide +kernel
theorem dX12_taken_13 : decode cX12_taken 13 = .ok (.iload_n 2, 1) := by decide +kernel
theorem dX12_taken_14 : decode cX12_taken 14 = .ok (.i2l, 1) := by decide +kernel
theorem dX12_taken_15 : decode cX12_taken 15 = .ok (.invokevirtual 408, 3) := by decide +kernel
theorem dX12_taken_18 : decode cX12_taken 18 = .ok (.aload_n 0, 1) := by decide +kernel
theorem dX12_taken_19 : decode cX12_taken 19 = .ok (.getfield 353, 3) := by decide +kernel
theorem dX12_taken_22 : decode cX12_taken 22 = .ok (.l2i, 1) := by decide +kernel
theorem dX12_taken_23 : decode cX12_taken 23 = .ok (.istore_n 3, 1) := by decide +kernel
theorem dX12_taken_24 : decode cX12_taken 24 = .ok (.aload_n 0, 1) := by decide +kernel
theorem dX12_taken_25 : decode cX12_taken 25 = .ok (.invokevirtual 371, 3) := by decide +kernel
theorem dX12_taken_28 : decode cX12_taken 28 = .ok (.iload_n 3, 1) := by decide +kernel
theorem dX12_taken_29 : decode cX12_taken 29 = .ok (.ireturn, 1) := by decide +kernel
theorem dX12_driveStatement_0 : decode cX12_driveStatement 0 = .ok (.aload_n 0, 1) := by decide +kernel
theorem dX12_driveStatement_1 : decode cX12_driveStatement 1 = .ok (.ldc_w 792, 3) := by decide +kernel
theorem dX12_driveStatement_4 : decode cX12_driveStatement 4 = .ok (.invokevirtual 386, 3) := by decide +kernel
theorem dX12_driveStatement_7 : decode cX12_driveStatement 7 = .ok (.ifCond .eq 7, 3) := by decide +kernel
theorem dX12_driveStatement_10 : decode cX12_driveStatement 10 = .ok (.iconst 0, 1) := by decide +kernel
theorem dX12_driveStatement_11 : decode cX12_driveStatement 11 = .ok (.goto 46, 3) := by decide +kernel
theorem dX12_driveStatement_14 : decode cX12_driveStatement 14 = .ok (.aload_n 0, 1) := by decide +kernel
theorem dX12_driveStatement_15 : decode cX12_driveStatement 15 = .ok (.ldc_w 794, 3) := by decide +kernel
theorem dX12_driveStatement_18 : decode cX12_driveStatement 18 = .ok (.invokevirtual 386, 3) := by decide +kernel
theorem dX12_driveStatement_21 : decode cX12_driveStatement 21 = .ok (.ifCond .eq 7, 3) := by decide +kernel
theorem dX12_driveStatement_24 : decode cX12_driveStatement 24 = .ok (.iconst 1, 1) := by decide +kernel
theorem dX12_driveStatement_25 : decode cX12_driveStatement 25 = .ok (.goto 32, 3) := by decide +kernel
theorem dX12_driveStatement_28 : decode cX12_driveStatement 28 = .ok (.aload_n 0, 1) := by decide +kernel
theorem dX12_driveStatement_29 : decode cX12_driveStatement 29 = .ok (.ldc_w 796, 3) := by decide +kernel
theorem dX12_driveStatement_32 : decode cX12_driveStatement 32 = .ok (.invokevirtual 386, 3) := by decide +kernel
theorem dX12_driveStatement_35 : decode cX12_driveStatement 35 = .ok (.ifCond .eq 7, 3) := by decide +kernel
theorem dX12_driveStatement_38 : decode cX12_driveStatement 38 = .ok (.iconst 2, 1) := by decide +kernel
theorem dX12_driveStatement_39 : decode cX12_driveStatement 39 = .ok (.goto 18, 3) := by decide +kernel
theorem dX12_driveStatement_42 : decode cX12_driveStatement 42 = .ok (.aload_n 0, 1) := by decide +kernel
theorem dX12_driveStatement_43 : decode cX12_driveStatement 43 = .ok (.ldc_w 798, 3) := by decide +kernel
theorem dX12_driveStatement_46 : decode cX12_driveStatement 46 = .ok (.invokevirtual 386, 3) := by decide +kernel
theorem dX12_driveStatement_49 : decode cX12_driveStatement 49 = .ok (.ifCond .eq 7, 3) := by decide +kernel
theorem dX12_driveStatement_52 : decode cX12_driveStatement 52 = .ok (.iconst 3, 1) := by decide +kernel
theorem dX12_driveStatement_53 : decode cX12_driveStatement 53 = .ok (.goto 4, 3) := by decide +kernel
theorem dX12_driveStatement_56 : decode cX12_driveStatement 56 = .ok (.iconst (-1), 1) := by decide +kernel
theorem dX12_driveStatement_57 : decode cX12_driveStatement 57 = .ok (.istore_n 1, 1) := by decide +kernel
theorem dX12_driveStatement_58 : decode cX12_driveStatement 58 = .ok (.iload_n 1, 1) := by decide +kernel
theorem dX12_driveStatement_59 : decode cX12_driveStatement 59 = .ok (.ifCond .ge 13, 3) := by decide +kernel
theorem dX12_driveStatement_62 : decode cX12_driveStatement 62 = .ok (.aload_n 0, 1) := by decide +kernel
theorem dX12_driveStatement_63 : decode cX12_driveStatement 63 = .ok (.iconst 1, 1) := by decide +kernel
theorem dX12_driveStatement_64 : decode cX12_driveStatement 64 = .ok (.aload_n 0, 1) := by decide +kernel
theorem dX12_driveStatement_65 : decode cX12_driveStatement 65 = .ok (.getfield 337, 3) := by decide +kernel
theorem dX12_driveStatement_68 : decode cX12_driveStatement 68 = .ok (.invokevirtual 374, 3) := by decide +kernel
theorem dX12_driveStatement_71 : decode cX12_driveStatement 71 = .ok (.return_, 1) := by decide +kernel
theorem dX12_driveStatement_72 : decode cX12_driveStatement 72 = .ok (.aload_n 0, 1) := by decide +kernel
theorem dX12_driveStatement_73 : decode cX12_driveStatement 73 = .ok (.getfield 800, 3) := by decide +kernel
theorem dX12_driveStatement_76 : decode cX12_driveStatement 76 = .ok (.bipush 40, 2) := by decide +kernel
theorem dX12_driveStatement_78 : decode cX12_driveStatement 78 = .ok (.if_icmp .ne 13, 3) := by decide +kernel
theorem dX12_driveStatement_81 : decode cX12_driveStatement 81 = .ok (.aload_n 0, 1) := by decide +kernel
theorem dX12_driveStatement_82 : decode cX12_driveStatement 82 = .ok (.bipush 6, 2) := by decide +kernel
theorem dX12_driveStatement_84 : decode cX12_driveStatement 84 = .ok (.aload_n 0, 1) := by decide +kernel
theorem dX12_driveStatement_85 : decode cX12_driveStatement 85 = .ok (.getfield 337, 3) := by decide +kernel
theorem dX12_driveStatement_88 : decode cX12_driveStatement 88 = .ok (.invokevirtual 378, 3) := by decide +kernel
theorem dX12_driveStatement_91 : decode cX12_driveStatement 91 = .ok (.aload_n 0, 1) := by decide +kernel
theorem dX12_driveStatement_92 : decode cX12_driveStatement 92 = .ok (.getfield 800, 3) := by decide +kernel
theorem dX12_driveStatement_95 : decode cX12_driveStatement 95 = .ok (.bipush 40, 2) := by decide +kernel
theorem dX12_driveStatement_97 : decode cX12_driveStatement 97 = .ok (.if_icmp .ge 10, 3) := by decide +kernel
theorem dX12_driveStatement_100 : decode cX12_driveStatement 100 = .ok (.aload_n 0, 1) := by decide +kernel
theorem dX12_driveStatement_101 : decode cX12_driveStatement 101 = .ok (.getfield 800, 3) := by decide +kernel
theorem dX12_driveStatement_104 : decode cX12_driveStatement 104 = .ok (.goto 5, 3) := by decide +kernel
theorem dX12_driveStatement_107 : decode cX12_driveStatement 107 = .ok (.bipush 39, 2) := by decide +kernel
theorem dX12_driveStatement_109 : decode cX12_driveStatement 109 = .ok (.istore_n 2, 1) := by decide +kernel
theorem dX12_driveStatement_110 : decode cX12_driveStatement 110 = .ok (.aload_n 0, 1) := by decide +kernel
theorem dX12_driveStatement_111 : decode cX12_driveStatement 111 = .ok (.getfield 800, 3) := by decide +kernel
theorem dX12_driveStatement_114 : decode cX12_driveStatement 114 = .ok (.bipush 40, 2) := by decide +kernel
theorem dX12_driveStatement_116 : decode cX12_driveStatement 116 = .ok (.if_icmp .ge 7, 3) := by decide +kernel
theorem dX12_driveStatement_119 : decode cX12_driveStatement 119 = .ok (.iconst 1, 1) := by decide +kernel
theorem dX12_driveStatement_120 : decode cX12_driveStatement 120 = .ok (.goto 4, 3) := by decide +kernel
theorem dX12_driveStatement_123 : decode cX12_driveStatement 123 = .ok (.iconst 0, 1) := by decide +kernel
theorem dX12_driveStatement_124 : decode cX12_driveStatement 124 = .ok (.istore_n 3, 1) := by decide +kernel
theorem dX12_driveStatement_125 : decode cX12_driveStatement 125 = .ok (.aload_n 0, 1) := by decide +kernel
theorem dX12_driveStatement_126 : decode cX12_driveStatement 126 = .ok (.invokevirtual 371, 3) := by decide +kernel
theorem dX12_driveStatement_129 : decode cX12_driveStatement 129 = .ok (.iload_n 1, 1) := by decide +kernel
theorem dX12_driveStatement_130 : decode cX12_driveStatement 130 = .ok (.iconst 2, 1) := by decide +kernel
theorem dX12_driveStatement_131 : decode cX12_driveStatement 131 = .ok (.if_icmp .ne 13, 3) := by decide +kernel
theorem dX12_driveStatement_134 : decode cX12_driveStatement 134 = .ok (.aload_n 0, 1) := by decide +kernel
theorem dX12_driveStatement_135 : decode cX12_driveStatement 135 = .ok (.iconst 1, 1) := by decide +kernel
theorem dX12_driveStatement_136 : decode cX12_driveStatement 136 = .ok (.bipush 9, 2) := by decide +kernel
theorem dX12_driveStatement_138 : decode cX12_driveStatement 138 = .ok (.invokevirtual 803, 3) := by decide +kernel
theorem dX12_driveStatement_141 : decode cX12_driveStatement 141 = .ok (.goto 25, 3) := by decide +kernel
theorem dX12_driveStatement_144 : decode cX12_driveStatement 144 = .ok (.iload_n 1, 1) := by decide +kernel
theorem dX12_driveStatement_145 : decode cX12_driveStatement 145 = .ok (.iconst 3, 1) := by decide +kernel
theorem dX12_driveStatement_146 : decode cX12_driveStatement 146 = .ok (.if_icmp .ne 14, 3) := by decide +kernel
theorem dX12_driveStatement_149 : decode cX12_driveStatement 149 = .ok (.aload_n 0, 1) := by decide +kernel
theorem dX12_driveStatement_150 : decode cX12_driveStatement 150 = .ok (.iconst 0, 1) := by decide +kernel
theorem dX12_driveStatement_151 : decode cX12_driveStatement 151 = .ok (.sipush 255, 3) := by decide +kernel
theorem dX12_driveStatement_154 : decode cX12_driveStatement 154 = .ok (.invokevirtual 803, 3) := by decide +kernel
theorem dX12_driveStatement_157 : decode cX12_driveStatement 157 = .ok (.goto 9, 3) := by decide +kernel
theorem dX12_driveStatement_160 : decode cX12_driveStatement 160 = .ok (.aload_n 0, 1) := by decide +kernel
theorem dX12_driveStatement_161 : decode cX12_driveStatement 161 = .ok (.iconst 0, 1) := by decide +kernel
theorem dX12_driveStatement_162 : decode cX12_driveStatement 162 = .ok (.iconst 3, 1) := by decide +kernel
theorem dX12_driveStatement_163 : decode cX12_driveStatement 163 = .ok (.invokevirtual 803, 3) := by decide +kernel
theorem dX12_driveStatement_166 : decode cX12_driveStatement 166 = .ok (.istore 4, 2) := by decide +kernel
theorem dX12_driveStatement_168 : decode cX12_driveStatement 168 = .ok (.iload_n 1, 1) := by decide +kernel
theorem dX12_driveStatement_169 : decode cX12_driveStatement 169 = .ok (.iconst 2, 1) := by decide +kernel
theorem dX12_driveStatement_170 : decode cX12_driveStatement 170 = .ok (.if_icmp .ge 16, 3) := by decide +kernel
theorem dX12_driveStatement_173 : decode cX12_driveStatement 173 = .ok (.aload_n 0, 1) := by decide +kernel
theorem dX12_driveStatement_174 : decode cX12_driveStatement 174 = .ok (.sipush (-1023), 3) := by decide +kernel
theorem dX12_driveStatement_177 : decode cX12_driveStatement 177 = .ok (.sipush 1023, 3) := by decide +kernel
theorem dX12_driveStatement_180 : decode cX12_driveStatement 180 = .ok (.invokevirtual 803, 3) := by decide +kernel
theorem dX12_driveStatement_183 : decode cX12_driveStatement 183 = .ok (.goto 4, 3) := by decide +kernel
theorem dX12_driveStatement_186 : decode cX12_driveStatement 186 = .ok (.iconst 0, 1) := by decide +kernel
theorem dX12_driveStatement_187 : decode cX12_driveStatement 187 = .ok (.istore 5, 2) := by decide +kernel
theorem dX12_driveStatement_189 : decode cX12_driveStatement 189 = .ok (.iconst (-1), 1) := by decide +kernel
theorem dX12_driveStatement_190 : decode cX12_driveStatement 190 = .ok (.istore 6, 2) := by decide +kernel
theorem dX12_driveStatement_192 : decode cX12_driveStatement 192 = .ok (.iconst 0, 1) := by decide +kernel
theorem dX12_driveStatement_193 : decode cX12_driveStatement 193 = .ok (.istore 7, 2) := by decide +kernel
theorem dX12_driveStatement_195 : decode cX12_driveStatement 195 = .ok (.lconst 0, 1) := by decide +kernel
theorem dX12_driveStatement_196 : decode cX12_driveStatement 196 = .ok (.lstore 8, 2) := by decide +kernel
theorem dX12_driveStatement_198 : decode cX12_driveStatement 198 = .ok (.iload_n 1, 1) := by decide +kernel
theorem dX12_driveStatement_199 : decode cX12_driveStatement 199 = .ok (.iconst 1, 1) := by decide +kernel
theorem dX12_driveStatement_200 : decode cX12_driveStatement 200 = .ok (.if_icmp .ne 127, 3) := by decide +kernel
theorem dX12_driveStatement_203 : decode cX12_driveStatement 203 = .ok (.aload_n 0, 1) := by decide +kernel
theorem dX12_driveStatement_204 : decode cX12_driveStatement 204 = .ok (.iconst 1, 1) := by decide +kernel
theorem dX12_driveStatement_205 : decode cX12_driveStatement 205 = .ok (.invokevirtual 381, 3) := by decide +kernel
theorem dX12_driveStatement_208 : decode cX12_driveStatement 208 = .ok (.ifCond .ne 4, 3) := by decide +kernel
theorem dX12_driveStatement_211 : decode cX12_driveStatement 211 = .ok (.return_, 1) := by decide +kernel
theorem dX12_driveStatement_212 : decode cX12_driveStatement 212 = .ok (.aload_n 0, 1) := by decide +kernel
theorem dX12_driveStatement_213 : decode cX12_driveStatement 213 = .ok (.aload_n 0, 1) := by decide +kernel
theorem dX12_driveStatement_214 : decode cX12_driveStatement 214 = .ok (.getfield 337, 3) := by decide +kernel
theorem dX12_driveStatement_217 : decode cX12_driveStatement 217 = .ok (.aload_n 0, 1) := by decide +kernel
theorem dX12_driveStatement_218 : decode cX12_driveStatement 218 = .ok (.getfield 330, 3) := by decide +kernel
theorem dX12_driveStatement_221 : decode cX12_driveStatement 221 = .ok (.aload_n 0, 1) := by decide +kernel
theorem dX12_driveStatement_222 : decode cX12_driveStatement 222 = .ok (.getfield 337, 3) := by decide +kernel
theorem dX12_driveStatement_225 : decode cX12_driveStatement 225 = .ok (.isub, 1) := by decide +kernel
theorem dX12_driveStatement_226 : decode cX12_driveStatement 226 = .ok (.invokevirtual 806, 3) := by decide +kernel
theorem dX12_driveStatement_229 : decode cX12_driveStatement 229 = .ok (.istore 6, 2) := by decide +kernel
theorem dX12_driveStatement_231 : decode cX12_driveStatement 231 = .ok (.iload 6, 2) := by decide +kernel
theorem dX12_driveStatement_233 : decode cX12_driveStatement 233 = .ok (.ifCond .ge 12, 3) := by decide +kernel
theorem dX12_driveStatement_236 : decode cX12_driveStatement 236 = .ok (.aload_n 0, 1) := by decide +kernel
theorem dX12_driveStatement_237 : decode cX12_driveStatement 237 = .ok (.iconst 3, 1) := by decide +kernel
theorem dX12_driveStatement_238 : decode cX12_driveStatement 238 = .ok (.aload_n 0, 1) := by decide +kernel
theorem dX12_driveStatement_239 : decode cX12_driveStatement 239 = .ok (.getfield 337, 3) := by decide +kernel
theorem dX12_driveStatement_242 : decode cX12_driveStatement 242 = .ok (.invokevirtual 378, 3) := by decide +kernel
theorem dX12_driveStatement_245 : decode cX12_driveStatement 245 = .ok (.aload_n 0, 1) := by decide +kernel
theorem dX12_driveStatement_246 : decode cX12_driveStatement 246 = .ok (.invokevirtual 371, 3) := by decide +kernel
theorem dX12_driveStatement_249 : decode cX12_driveStatement 249 = .ok (.aload_n 0, 1) := by decide +kernel
theorem dX12_driveStatement_250 : decode cX12_driveStatement 250 = .ok (.getfield 340, 3) := by decide +kernel
theorem dX12_driveStatement_253 : decode cX12_driveStatement 253 = .ok (.bipush 43, 2) := by decide +kernel
theorem dX12_driveStatement_255 : decode cX12_driveStatement 255 = .ok (.if_icmp .eq 22, 3) := by decide +kernel
theorem dX12_driveStatement_258 : decode cX12_driveStatement 258 = .ok (.aload_n 0, 1) := by decide +kernel
theorem dX12_driveStatement_259 : decode cX12_driveStatement 259 = .ok (.getfield 340, 3) := by decide +kernel
theorem dX12_driveStatement_262 : decode cX12_driveStatement 262 = .ok (.bipush 45, 2) := by decide +kernel
theorem dX12_driveStatement_264 : decode cX12_driveStatement 264 = .ok (.if_icmp .eq 13, 3) := by decide +kernel
theorem dX12_driveStatement_267 : decode cX12_driveStatement 267 = .ok (.aload_n 0, 1) := by decide +kernel
theorem dX12_driveStatement_268 : decode cX12_driveStatement 268 = .ok (.iconst 1, 1) := by decide +kernel
theorem dX12_driveStatement_269 : decode cX12_driveStatement 269 = .ok (.aload_n 0, 1) := by decide +kernel
theorem dX12_driveStatement_270 : decode cX12_driveStatement 270 = .ok (.getfield 337, 3) := by decide +kernel
theorem dX12_driveStatement_273 : decode cX12_driveStatement 273 = .ok (.invokevirtual 374, 3) := by decide +kernel
theorem dX12_driveStatement_276 : decode cX12_driveStatement 276 = .ok (.return_, 1) := by decide +kernel
theorem dX12_driveStatement_277 : decode cX12_driveStatement 277 = .ok (.aload_n 0, 1) := by decide +kernel
theorem dX12_driveStatement_278 : decode cX12_driveStatement 278 = .ok (.getfield 340, 3) := by decide +kernel
theorem dX12_driveStatement_281 : decode cX12_driveStatement 281 = .ok (.bipush 43, 2) := by decide +kernel
theorem dX12_driveStatement_283 : decode cX12_driveStatement 283 = .ok (.if_icmp .ne 7, 3) := by decide +kernel
theorem dX12_driveStatement_286 : decode cX12_driveStatement 286 = .ok (.iconst 1, 1) := by decide +kernel
theorem dX12_driveStatement_287 : decode cX12_driveStatement 287 = .ok (.goto 4, 3) := by decide +kernel
theorem dX12_driveStatement_290 : decode cX12_driveStatement 290 = .ok (.iconst 0, 1) := by decide +kernel
theorem dX12_driveStatement_291 : decode cX12_driveStatement 291 = .ok (.istore 7, 2) := by decide +kernel
theorem dX12_driveStatement_293 : decode cX12_driveStatement 293 = .ok (.aload_n 0, 1) := by decide +kernel
theorem dX12_driveStatement_294 : decode cX12_driveStatement 294 = .ok (.invokevirtual 371, 3) := by decide +kernel
theorem dX12_driveStatement_297 : decode cX12_driveStatement 297 = .ok (.aload_n 0, 1) := by decide +kernel
theorem dX12_driveStatement_298 : decode cX12_driveStatement 298 = .ok (.iconst 2, 1) := by decide +kernel
theorem dX12_driveStatement_299 : decode cX12_driveStatement 299 = .ok (.invokevirtual 381, 3) := by decide +kernel
theorem dX12_driveStatement_302 : decode cX12_driveStatement 302 = .ok (.ifCond .ne 4, 3) := by decide +kernel
theorem dX12_driveStatement_305 : decode cX12_driveStatement 305 = .ok (.return_, 1) := by decide +kernel
theorem dX12_driveStatement_306 : decode cX12_driveStatement 306 = .ok (.ldc2_w 320, 3) := by decide +kernel
theorem dX12_driveStatement_309 : decode cX12_driveStatement 309 = .ok (.aload_n 0, 1) := by decide +kernel
theorem dX12_driveStatement_310 : decode cX12_driveStatement 310 = .ok (.getfield 353, 3) := by decide +kernel
theorem dX12_driveStatement_313 : decode cX12_driveStatement 313 = .ok (.lmul, 1) := by decide +kernel
theorem dX12_driveStatement_314 : decode cX12_driveStatement 314 = .ok (.aload_n 0, 1) := by decide +kernel
theorem dX12_driveStatement_315 : decode cX12_driveStatement 315 = .ok (.getfield 356, 3) := by decide +kernel
theorem dX12_driveStatement_318 : decode cX12_driveStatement 318 = .ok (.invokestatic 247, 3) := by decide +kernel
theorem dX12_driveStatement_321 : decode cX12_driveStatement 321 = .ok (.lstore 8, 2) := by decide +kernel
theorem dX12_driveStatement_323 : decode cX12_driveStatement 323 = .ok (.aload_n 0, 1) := by decide +kernel
theorem dX12_driveStatement_324 : decode cX12_driveStatement 324 = .ok (.invokevirtual 371, 3) := by decide +kernel
theorem dX12_driveStatement_327 : decode cX12_driveStatement 327 = .ok (.aload_n 0, 1) := by decide +kernel
theorem dX12_driveStatement_328 : decode cX12_driveStatement 328 = .ok (.invokevirtual 424, 3) := by decide +kernel
theorem dX12_driveStatement_331 : decode cX12_driveStatement 331 = .ok (.aload_n 0, 1) := by decide +kernel
theorem dX12_driveStatement_332 : decode cX12_driveStatement 332 = .ok (.getfield 266, 3) := by decide +kernel
theorem dX12_driveStatement_335 : decode cX12_driveStatement 335 = .ok (.ifCond .gt 7, 3) := by decide +kernel
theorem dX12_driveStatement_338 : decode cX12_driveStatement 338 = .ok (.iload_n 3, 1) := by decide +kernel
theorem dX12_driveStatement_339 : decode cX12_driveStatement 339 = .ok (.ifCond .ne 4, 3) := by decide +kernel
theorem dX12_driveStatement_342 : decode cX12_driveStatement 342 = .ok (.return_, 1) := by decide +kernel
theorem dX12_driveStatement_343 : decode cX12_driveStatement 343 = .ok (.aload_n 0, 1) := by decide +kernel
theorem dX12_driveStatement_344 : decode cX12_driveStatement 344 = .ok (.getfield 225, 3) := by decide +kernel
theorem dX12_driveStatement_347 : decode cX12_driveStatement 347 = .ok (.iload_n 2, 1) := by decide +kernel
theorem dX12_driveStatement_348 : decode cX12_driveStatement 348 = .ok (.iload_n 1, 1) := by decide +kernel
theorem dX12_driveStatement_349 : decode cX12_driveStatement 349 = .ok (.iastore, 1) := by decide +kernel
theorem dX12_driveStatement_350 : decode cX12_driveStatement 350 = .ok (.aload_n 0, 1) := by decide +kernel
theorem dX12_driveStatement_351 : decode cX12_driveStatement 351 = .ok (.getfield 228, 3) := by decide +kernel
theorem dX12_driveStatement_354 : decode cX12_driveStatement 354 = .ok (.iload_n 2, 1) := by decide +kernel
theorem dX12_driveStatement_355 : decode cX12_driveStatement 355 = .ok (.iload 4, 2) := by decide +kernel
theorem dX12_driveStatement_357 : decode cX12_driveStatement 357 = .ok (.iastore, 1) := by decide +kernel
theorem dX12_driveStatement_358 : decode cX12_driveStatement 358 = .ok (.aload_n 0, 1) := by decide +kernel
theorem dX12_driveStatement_359 : decode cX12_driveStatement 359 = .ok (.getfield 231, 3) := by decide +kernel
theorem dX12_driveStatement_362 : decode cX12_driveStatement 362 = .ok (.iload_n 2, 1) := by decide +kernel
theorem dX12_driveStatement_363 : decode cX12_driveStatement 363 = .ok (.iload 5, 2) := by decide +kernel
theorem dX12_driveStatement_365 : decode cX12_driveStatement 365 = .ok (.iastore, 1) := by decide +kernel
theorem dX12_driveStatement_366 : decode cX12_driveStatement 366 = .ok (.aload_n 0, 1) := by decide +kernel
theorem dX12_driveStatement_367 : decode cX12_driveStatement 367 = .ok (.getfield 234, 3) := by decide +kernel
theorem dX12_driveStatement_370 : decode cX12_driveStatement 370 = .ok (.iload_n 2, 1) := by decide +kernel
theorem dX12_driveStatement_371 : decode cX12_driveStatement 371 = .ok (.iload 6, 2) := by decide +kernel
theorem dX12_driveStatement_373 : decode cX12_driveStatement 373 = .ok (.iastore, 1) := by decide +kernel
theorem dX12_driveStatement_374 : decode cX12_driveStatement 374 = .ok (.aload_n 0, 1) := by decide +kernel
theorem dX12_driveStatement_375 : decode cX12_driveStatement 375 = .ok (.getfield 237, 3) := by decide +kernel
theorem dX12_driveStatement_378 : decode cX12_driveStatement 378 = .ok (.iload_n 2, 1) := by decide +kernel
theorem dX12_driveStatement_379 : decode cX12_driveStatement 379 = .ok (.iload 7, 2) := by decide +kernel
theorem dX12_driveStatement_381 : decode cX12_driveStatement 381 = .ok (.bastore, 1) := by decide +kernel
theorem dX12_driveStatement_382 : decode cX12_driveStatement 382 = .ok (.aload_n 0, 1) := by decide +kernel
theorem dX12_driveStatement_383 : decode cX12_driveStatement 383 = .ok (.getfield 240, 3) := by decide +kernel
theorem dX12_driveStatement_386 : decode cX12_driveStatement 386 = .ok (.iload_n 2, 1) := by decide +kernel
theorem dX12_driveStatement_387 : decode cX12_driveStatement 387 = .ok (.lload 8, 2) := by decide +kernel
theorem dX12_driveStatement_389 : decode cX12_driveStatement 389 = .ok (.lastore, 1) := by decide +kernel
theorem dX12_driveStatement_390 : decode cX12_driveStatement 390 = .ok (.aload_n 0, 1) := by decide +kernel
theorem dX12_driveStatement_391 : decode cX12_driveStatement 391 = .ok (.dup, 1) := by decide +kernel
theorem dX12_driveStatement_392 : decode cX12_driveStatement 392 = .ok (.getfield 800, 3) := by decide +kernel
theorem dX12_driveStatement_395 : decode cX12_driveStatement 395 = .ok (.iconst 1, 1) := by decide +kernel
theorem dX12_driveStatement_396 : decode cX12_driveStatement 396 = .ok (.iadd, 1) := by decide +kernel
theorem dX12_driveStatement_397 : decode cX12_driveStatement 397 = .ok (.putfield 800, 3) := by decide +kernel
theorem dX12_driveStatement_400 : decode cX12_driveStatement 400 = .ok (.return_, 1) := by decide +kernel
theorem dX12_isReached_0 : decode cX12_isReached 0 = .ok (.aload_n 0, 1) := by decide +kernel
theorem dX12_isReached_1 : decode cX12_isReached 1 = .ok (.getfield 204, 3) := by decide +kernel
theorem dX12_isReached_4 : decode cX12_isReached 4 = .ok (.iload_n 1, 1) := by decide +kernel
theorem dX12_isReached_5 : decode cX12_isReached 5 = .ok (.iaload, 1) := by decide +kernel
theorem dX12_isReached_6 : decode cX12_isReached 6 = .ok (.ifCond .eq 15, 3) := by decide +kernel
theorem dX12_isReached_9 : decode cX12_isReached 9 = .ok (.aload_n 0, 1) := by decide +kernel
theorem dX12_isReached_10 : decode cX12_isReached 10 = .ok (.aload_n 0, 1) := by decide +kernel
theorem dX12_isReached_11 : decode cX12_isReached 11 = .ok (.getfield 809, 3) := by decide +kernel
theorem dX12_isReached_14 : decode cX12_isReached 14 = .ok (.invokevirtual 556, 3) := by decide +kernel
theorem dX12_isReached_17 : decode cX12_isReached 17 = .ok (.iconst 1, 1) := by decide +kernel
theorem dX12_isReached_18 : decode cX12_isReached 18 = .ok (.if_icmp .eq 5, 3) := by decide +kernel
theorem dX12_isReached_21 : decode cX12_isReached 21 = .ok (.iconst 0, 1) := by decide +kernel
theorem dX12_isReached_22 : decode cX12_isReached 22 = .ok (.ireturn, 1) := by decide +kernel
theorem dX12_isReached_23 : decode cX12_isReached 23 = .ok (.aload_n 0, 1) := by decide +kernel
theorem dX12_isReached_24 : decode cX12_isReached 24 = .ok (.getfield 13, 3) := by decide +kernel
theorem dX12_isReached_27 : decode cX12_isReached 27 = .ok (.iconst 2, 1) := by decide +kernel
theorem dX12_isReached_28 : decode cX12_isReached 28 = .ok (.aload_n 0, 1) := by decide +kernel
theorem dX12_isReached_29 : decode cX12_isReached 29 = .ok (.getfield 213, 3) := by decide +kernel
theorem dX12_isReached_32 : decode cX12_isReached 32 = .ok (.iload_n 1, 1) := by decide +kernel
theorem dX12_isReached_33 : decode cX12_isReached 33 = .ok (.iaload, 1) := by decide +kernel
theorem dX12_isReached_34 : decode cX12_isReached 34 = .ok (.imul, 1) := by decide +kernel
theorem dX12_isReached_35 : decode cX12_isReached 35 = .ok (.aload_n 0, 1) := by decide +kernel
theorem dX12_isReached_36 : decode cX12_isReached 36 = .ok (.getfield 216, 3) := by decide +kernel
theorem dX12_isReached_39 : decode cX12_isReached 39 = .ok (.iload_n 1, 1) := by decide +kernel
theorem dX12_isReached_40 : decode cX12_isReached 40 = .ok (.baload, 1) := by decide +kernel
theorem dX12_isReached_41 : decode cX12_isReached 41 = .ok (.ifCond .eq 7, 3) := by decide +kernel
theorem dX12_isReached_44 : decode cX12_isReached 44 = .ok (.iconst 0, 1) := by decide +kernel
theorem dX12_isReached_45 : decode cX12_isReached 45 = .ok (.goto 4, 3) := by decide +kernel
theorem dX12_isReached_48 : decode cX12_isReached 48 = .ok (.iconst 1, 1) := by decide +kernel
theorem dX12_isReached_49 : decode cX12_isReached 49 = .ok (.iadd, 1) := by decide +kernel
theorem dX12_isReached_50 : decode cX12_isReached 50 = .ok (.laload, 1) := by decide +kernel
theorem dX12_isReached_51 : decode cX12_isReached 51 = .ok (.aload_n 0, 1) := by decide +kernel
theorem dX12_isReached_52 : decode cX12_isReached 52 = .ok (.getfield 219, 3) := by decide +kernel
theorem dX12_isReached_55 : decode cX12_isReached 55 = .ok (.iload_n 1, 1) := by decide +kernel
theorem dX12_isReached_56 : decode cX12_isReached 56 = .ok (.laload, 1) := by decide +kernel
theorem dX12_isReached_57 : decode cX12_isReached 57 = .ok (.lcmp, 1) := by decide +kernel
theorem dX12_isReached_58 : decode cX12_isReached 58 = .ok (.ifCond .le 7, 3) := by decide +kernel
theorem dX12_isReached_61 : decode cX12_isReached 61 = .ok (.iconst 1, 1) := by decide +kernel
theorem dX12_isReached_62 : decode cX12_isReached 62 = .ok (.goto 4, 3) := by decide +kernel
theorem dX12_isReached_65 : decode cX12_isReached 65 = .ok (.iconst 0, 1) := by decide +kernel
theorem dX12_isReached_66 : decode cX12_isReached 66 = .ok (.ireturn, 1) := by decide +kernel
theorem dX12_goOn_0 : decode cX12_goOn 0 = .ok (.aload_n 0, 1) := by decide +kernel
theorem dX12_goOn_1 : decode cX12_goOn 1 = .ok (.getfield 207, 3) := by decide +kernel
theorem dX12_goOn_4 : decode cX12_goOn 4 = .ok (.iload_n 1, 1) := by decide +kernel
theorem dX12_goOn_5 : decode cX12_goOn 5 = .ok (.iaload, 1) := by decide +kernel
theorem dX12_goOn_6 : decode cX12_goOn 6 = .ok (.istore_n 2, 1) := by decide +kernel
theorem dX12_goOn_7 : decode cX12_goOn 7 = .ok (.aload_n 0, 1) := by decide +kernel
theorem dX12_goOn_8 : decode cX12_goOn 8 = .ok (.getfield 210, 3) := by decide +kernel
theorem dX12_goOn_11 : decode cX12_goOn 11 = .ok (.iload_n 1, 1) := by decide +kernel
theorem dX12_goOn_12 : decode cX12_goOn 12 = .ok (.iaload, 1) := by decide +kernel
theorem dX12_goOn_13 : decode cX12_goOn 13 = .ok (.ifCond .ge 7, 3) := by decide +kernel
theorem dX12_goOn_16 : decode cX12_goOn 16 = .ok (.iconst (-1), 1) := by decide +kernel
theorem dX12_goOn_17 : decode cX12_goOn 17 = .ok (.goto 4, 3) := by decide +kernel
theorem dX12_goOn_20 : decode cX12_goOn 20 = .ok (.iconst 1, 1) := by decide +kernel
theorem dX12_goOn_21 : decode cX12_goOn 21 = .ok (.istore_n 3, 1) := by decide +kernel
theorem dX12_goOn_22 : decode cX12_goOn 22 = .ok (.iconst 0, 1) := by decide +kernel
theorem dX12_goOn_23 : decode cX12_goOn 23 = .ok (.istore 4, 2) := by decide +kernel
theorem dX12_goOn_25 : decode cX12_goOn 25 = .ok (.iload 4, 2) := by decide +kernel
theorem dX12_goOn_27 : decode cX12_goOn 27 = .ok (.aload_n 0, 1) := by decide +kernel
theorem dX12_goOn_28 : decode cX12_goOn 28 = .ok (.getfield 210, 3) := by decide +kernel
theorem dX12_goOn_31 : decode cX12_goOn 31 = .ok (.iload_n 1, 1) := by decide +kernel
theorem dX12_goOn_32 : decode cX12_goOn 32 = .ok (.iaload, 1) := by decide +kernel
theorem dX12_goOn_33 : decode cX12_goOn 33 = .ok (.if_icmp .eq 97, 3) := by decide +kernel
theorem dX12_goOn_36 : decode cX12_goOn 36 = .ok (.aload_n 0, 1) := by decide +kernel
theorem dX12_goOn_37 : decode cX12_goOn 37 = .ok (.iload_n 1, 1) := by decide +kernel
theorem dX12_goOn_38 : decode cX12_goOn 38 = .ok (.invokevirtual 812, 3) := by decide +kernel
theorem dX12_goOn_41 : decode cX12_goOn 41 = .ok (.ifCond .ne 89, 3) := by decide +kernel
theorem dX12_goOn_44 : decode cX12_goOn 44 = .ok (.aload_n 0, 1) := by decide +kernel
theorem dX12_goOn_45 : decode cX12_goOn 45 = .ok (.getfield 815, 3) := by decide +kernel
theorem dX12_goOn_48 : decode cX12_goOn 48 = .ok (.sipush 2000, 3) := by decide +kernel
theorem dX12_goOn_51 : decode cX12_goOn 51 = .ok (.if_icmp .ne 9, 3) := by decide +kernel
theorem dX12_goOn_54 : decode cX12_goOn 54 = .ok (.aload_n 0, 1) := by decide +kernel
theorem dX12_goOn_55 : decode cX12_goOn 55 = .ok (.iconst 2, 1) := by decide +kernel
theorem dX12_goOn_56 : decode cX12_goOn 56 = .ok (.putfield 818, 3) := by decide +kernel
theorem dX12_goOn_59 : decode cX12_goOn 59 = .ok (.return_, 1) := by decide +kernel
theorem dX12_goOn_60 : decode cX12_goOn 60 = .ok (.aload_n 0, 1) := by decide +kernel
theorem dX12_goOn_61 : decode cX12_goOn 61 = .ok (.dup, 1) := by decide +kernel
theorem dX12_goOn_62 : decode cX12_goOn 62 = .ok (.getfield 815, 3) := by decide +kernel
theorem dX12_goOn_65 : decode cX12_goOn 65 = .ok (.iconst 1, 1) := by decide +kernel
theorem dX12_goOn_66 : decode cX12_goOn 66 = .ok (.iadd, 1) := by decide +kernel
theorem dX12_goOn_67 : decode cX12_goOn 67 = .ok (.putfield 815, 3) := by decide +kernel
theorem dX12_goOn_70 : decode cX12_goOn 70 = .ok (.aload_n 0, 1) := by decide +kernel
theorem dX12_goOn_71 : decode cX12_goOn 71 = .ok (.getfield 63, 3) := by decide +kernel
theorem dX12_goOn_74 : decode cX12_goOn 74 = .ok (.iload_n 2, 1) := by decide +kernel
theorem dX12_goOn_75 : decode cX12_goOn 75 = .ok (.iaload, 1) := by decide +kernel
theorem dX12_goOn_76 : decode cX12_goOn 76 = .ok (.istore 5, 2) := by decide +kernel
theorem dX12_goOn_78 : decode cX12_goOn 78 = .ok (.aload_n 0, 1) := by decide +kernel
theorem dX12_goOn_79 : decode cX12_goOn 79 = .ok (.getfield 63, 3) := by decide +kernel
theorem dX12_goOn_82 : decode cX12_goOn 82 = .ok (.iload_n 2, 1) := by decide +kernel
theorem dX12_goOn_83 : decode cX12_goOn 83 = .ok (.iload 5, 2) := by decide +kernel
theorem dX12_goOn_85 : decode cX12_goOn 85 = .ok (.iload_n 3, 1) := by decide +kernel
theorem dX12_goOn_86 : decode cX12_goOn 86 = .ok (.iadd, 1) := by decide +kernel
theorem dX12_goOn_87 : decode cX12_goOn 87 = .ok (.sipush 1023, 3) := by decide +kernel
theorem dX12_goOn_90 : decode cX12_goOn 90 = .ok (.iand, 1) := by decide +kernel
theorem dX12_goOn_91 : decode cX12_goOn 91 = .ok (.iastore, 1) := by decide +kernel
theorem dX12_goOn_92 : decode cX12_goOn 92 = .ok (.aload_n 0, 1) := by decide +kernel
theorem dX12_goOn_93 : decode cX12_goOn 93 = .ok (.aload_n 0, 1) := by decide +kernel
theorem dX12_goOn_94 : decode cX12_goOn 94 = .ok (.getfield 809, 3) := by decide +kernel
theorem dX12_goOn_97 : decode cX12_goOn 97 = .ok (.invokevirtual 556, 3) := by decide +kernel
theorem dX12_goOn_100 : decode cX12_goOn 100 = .ok (.iconst 1, 1) := by decide +kernel
theorem dX12_goOn_101 : decode cX12_goOn 101 = .ok (.if_icmp .ne 6, 3) := by decide +kernel
theorem dX12_goOn_104 : decode cX12_goOn 104 = .ok (.goto 17, 3) := by decide +kernel
theorem dX12_goOn_107 : decode cX12_goOn 107 = .ok (.aload_n 0, 1) := by decide +kernel
theorem dX12_goOn_108 : decode cX12_goOn 108 = .ok (.getfield 63, 3) := by decide +kernel
theorem dX12_goOn_111 : decode cX12_goOn 111 = .ok (.iload_n 2, 1) := by decide +kernel
theorem dX12_goOn_112 : decode cX12_goOn 112 = .ok (.iload 5, 2) := by decide +kernel
theorem dX12_goOn_114 : decode cX12_goOn 114 = .ok (.iastore, 1) := by decide +kernel
theorem dX12_goOn_115 : decode cX12_goOn 115 = .ok (.aload_n 0, 1) := by decide +kernel
theorem dX12_goOn_116 : decode cX12_goOn 116 = .ok (.iconst 1, 1) := by decide +kernel
theorem dX12_goOn_117 : decode cX12_goOn 117 = .ok (.putfield 818, 3) := by decide +kernel
theorem dX12_goOn_120 : decode cX12_goOn 120 = .ok (.return_, 1) := by decide +kernel
theorem dX12_goOn_121 : decode cX12_goOn 121 = .ok (.iload 4, 2) := by decide +kernel
theorem dX12_goOn_123 : decode cX12_goOn 123 = .ok (.iload_n 3, 1) := by decide +kernel
theorem dX12_goOn_124 : decode cX12_goOn 124 = .ok (.iadd, 1) := by decide +kernel
theorem dX12_goOn_125 : decode cX12_goOn 125 = .ok (.istore 4, 2) := by decide +kernel
theorem dX12_goOn_127 : decode cX12_goOn 127 = .ok (.goto (-102), 3) := by decide +kernel
theorem dX12_goOn_130 : decode cX12_goOn 130 = .ok (.aload_n 0, 1) := by decide +kernel
theorem dX12_goOn_131 : decode cX12_goOn 131 = .ok (.getfield 821, 3) := by decide +kernel
theorem dX12_goOn_134 : decode cX12_goOn 134 = .ok (.bipush 100, 2) := by decide +kernel
theorem dX12_goOn_136 : decode cX12_goOn 136 = .ok (.if_icmp .ge 48, 3) := by decide +kernel
theorem dX12_goOn_139 : decode cX12_goOn 139 = .ok (.aload_n 0, 1) := by decide +kernel
theorem dX12_goOn_140 : decode cX12_goOn 140 = .ok (.getfield 222, 3) := by decide +kernel
theorem dX12_goOn_143 : decode cX12_goOn 143 = .ok (.iconst 3, 1) := by decide +kernel
theorem dX12_goOn_144 : decode cX12_goOn 144 = .ok (.aload_n 0, 1) := by decide +kernel
theorem dX12_goOn_145 : decode cX12_goOn 145 = .ok (.getfield 821, 3) := by decide +kernel
theorem dX12_goOn_148 : decode cX12_goOn 148 = .ok (.imul, 1) := by decide +kernel
theorem dX12_goOn_149 : decode cX12_goOn 149 = .ok (.iload_n 1, 1) := by decide +kernel
theorem dX12_goOn_150 : decode cX12_goOn 150 = .ok (.iastore, 1) := by decide +kernel
theorem dX12_goOn_151 : decode cX12_goOn 151 = .ok (.aload_n 0, 1) := by decide +kernel
theorem dX12_goOn_152 : decode cX12_goOn 152 = .ok (.getfield 222, 3) := by decide +kernel
theorem dX12_goOn_155 : decode cX12_goOn 155 = .ok (.iconst 3, 1) := by decide +kernel
theorem dX12_goOn_156 : decode cX12_goOn 156 = .ok (.aload_n 0, 1) := by decide +kernel
theorem dX12_goOn_157 : decode cX12_goOn 157 = .ok (.getfield 821, 3) := by decide +kernel
theorem dX12_goOn_160 : decode cX12_goOn 160 = .ok (.imul, 1) := by decide +kernel
theorem dX12_goOn_161 : decode cX12_goOn 161 = .ok (.iconst 1, 1) := by decide +kernel
theorem dX12_goOn_162 : decode cX12_goOn 162 = .ok (.iadd, 1) := by decide +kernel
theorem dX12_goOn_163 : decode cX12_goOn 163 = .ok (.iload_n 2, 1) := by decide +kernel
theorem dX12_goOn_164 : decode cX12_goOn 164 = .ok (.iastore, 1) := by decide +kernel
theorem dX12_goOn_165 : decode cX12_goOn 165 = .ok (.aload_n 0, 1) := by decide +kernel
theorem dX12_goOn_166 : decode cX12_goOn 166 = .ok (.getfield 222, 3) := by decide +kernel
theorem dX12_goOn_169 : decode cX12_goOn 169 = .ok (.iconst 3, 1) := by decide +kernel
theorem dX12_goOn_170 : decode cX12_goOn 170 = .ok (.aload_n 0, 1) := by decide +kernel
theorem dX12_goOn_171 : decode cX12_goOn 171 = .ok (.getfield 821, 3) := by decide +kernel
theorem dX12_goOn_174 : decode cX12_goOn 174 = .ok (.imul, 1) := by decide +kernel
theorem dX12_goOn_175 : decode cX12_goOn 175 = .ok (.iconst 2, 1) := by decide +kernel
theorem dX12_goOn_176 : decode cX12_goOn 176 = .ok (.iadd, 1) := by decide +kernel
theorem dX12_goOn_177 : decode cX12_goOn 177 = .ok (.aload_n 0, 1) := by decide +kernel
theorem dX12_goOn_178 : decode cX12_goOn 178 = .ok (.getfield 63, 3) := by decide +kernel
theorem dX12_goOn_181 : decode cX12_goOn 181 = .ok (.iload_n 2, 1) := by decide +kernel
theorem dX12_goOn_182 : decode cX12_goOn 182 = .ok (.iaload, 1) := by decide +kernel
theorem dX12_goOn_183 : decode cX12_goOn 183 = .ok (.iastore, 1) := by decide +kernel
theorem dX12_goOn_184 : decode cX12_goOn 184 = .ok (.aload_n 0, 1) := by decide +kernel
theorem dX12_goOn_185 : decode cX12_goOn 185 = .ok (.dup, 1) := by decide +kernel
theorem dX12_goOn_186 : decode cX12_goOn 186 = .ok (.getfield 821, 3) := by decide +kernel
theorem dX12_goOn_189 : decode cX12_goOn 189 = .ok (.iconst 1, 1) := by decide +kernel
theorem dX12_goOn_190 : decode cX12_goOn 190 = .ok (.iadd, 1) := by decide +kernel
theorem dX12_goOn_191 : decode cX12_goOn 191 = .ok (.putfield 821, 3) := by decide +kernel
theorem dX12_goOn_194 : decode cX12_goOn 194 = .ok (.return_, 1) := by decide +kernel
theorem dX12_doOrder_0 : decode cX12_doOrder 0 = .ok (.aload_n 0, 1) := by decide +kernel
theorem dX12_doOrder_1 : decode cX12_doOrder 1 = .ok (.getfield 204, 3) := by decide +kernel
theorem dX12_doOrder_4 : decode cX12_doOrder 4 = .ok (.iload_n 1, 1) := by decide +kernel
theorem dX12_doOrder_5 : decode cX12_doOrder 5 = .ok (.iaload, 1) := by decide +kernel
theorem dX12_doOrder_6 : decode cX12_doOrder 6 = .ok (.iconst 2, 1) := by decide +kernel
theorem dX12_doOrder_7 : decode cX12_doOrder 7 = .ok (.if_icmp .ge 11, 3) := by decide +kernel
theorem dX12_doOrder_10 : decode cX12_doOrder 10 = .ok (.aload_n 0, 1) := by decide +kernel
theorem dX12_doOrder_11 : decode cX12_doOrder 11 = .ok (.iload_n 1, 1) := by decide +kernel
theorem dX12_doOrder_12 : decode cX12_doOrder 12 = .ok (.invokevirtual 824, 3) := by decide +kernel
theorem dX12_doOrder_15 : decode cX12_doOrder 15 = .ok (.goto 23, 3) := by decide +kernel
theorem dX12_doOrder_18 : decode cX12_doOrder 18 = .ok (.aload_n 0, 1) := by decide +kernel
theorem dX12_doOrder_19 : decode cX12_doOrder 19 = .ok (.getfield 204, 3) := by decide +kernel
theorem dX12_doOrder_22 : decode cX12_doOrder 22 = .ok (.iload_n 1, 1) := by decide +kernel
theorem dX12_doOrder_23 : decode cX12_doOrder 23 = .ok (.iaload, 1) := by decide +kernel
theorem dX12_doOrder_24 : decode cX12_doOrder 24 = .ok (.iconst 3, 1) := by decide +kernel
theorem dX12_doOrder_25 : decode cX12_doOrder 25 = .ok (.if_icmp .ne 13, 3) := by decide +kernel
theorem dX12_doOrder_28 : decode cX12_doOrder 28 = .ok (.aload_n 0, 1) := by decide +kernel
theorem dX12_doOrder_29 : decode cX12_doOrder 29 = .ok (.aload_n 0, 1) := by decide +kernel
theorem dX12_doOrder_30 : decode cX12_doOrder 30 = .ok (.getfield 207, 3) := by decide +kernel
theorem dX12_doOrder_33 : decode cX12_doOrder 33 = .ok (.iload_n 1, 1) := by decide +kernel
theorem dX12_doOrder_34 : decode cX12_doOrder 34 = .ok (.iaload, 1) := by decide +kernel
theorem dX12_doOrder_35 : decode cX12_doOrder 35 = .ok (.putfield 809, 3) := by decide +kernel
theorem dX12_doOrder_38 : decode cX12_doOrder 38 = .ok (.return_, 1) := by decide +kernel
theorem dX12_drive_0 : decode cX12_drive 0 = .ok (.aload_n 0, 1) := by decide +kernel
theorem dX12_drive_1 : decode cX12_drive 1 = .ok (.invokevirtual 445, 3) := by decide +kernel
theorem dX12_drive_4 : decode cX12_drive 4 = .ok (.aload_n 0, 1) := by decide +kernel
theorem dX12_drive_5 : decode cX12_drive 5 = .ok (.iconst 0, 1) := by decide +kernel
theorem dX12_drive_6 : decode cX12_drive 6 = .ok (.putfield 800, 3) := by decide +kernel
theorem dX12_drive_9 : decode cX12_drive 9 = .ok (.aload_n 0, 1) := by decide +kernel
theorem dX12_drive_10 : decode cX12_drive 10 = .ok (.getfield 266, 3) := by decide +kernel
theorem dX12_drive_13 : decode cX12_drive 13 = .ok (.ifCond .ne 17, 3) := by decide +kernel
theorem dX12_drive_16 : decode cX12_drive 16 = .ok (.aload_n 0, 1) := by decide +kernel
theorem dX12_drive_17 : decode cX12_drive 17 = .ok (.getfield 340, 3) := by decide +kernel
theorem dX12_drive_20 : decode cX12_drive 20 = .ok (.ifCond .eq 10, 3) := by decide +kernel
theorem dX12_drive_23 : decode cX12_drive 23 = .ok (.aload_n 0, 1) := by decide +kernel
theorem dX12_drive_24 : decode cX12_drive 24 = .ok (.invokevirtual 827, 3) := by decide +kernel
theorem dX12_drive_27 : decode cX12_drive 27 = .ok (.goto (-18), 3) := by decide +kernel
theorem dX12_drive_30 : decode cX12_drive 30 = .ok (.aload_n 0, 1) := by decide +kernel
theorem dX12_drive_31 : decode cX12_drive 31 = .ok (.invokevirtual 457, 3) := by decide +kernel
theorem dX12_drive_34 : decode cX12_drive 34 = .ok (.aload_n 0, 1) := by decide +kernel
theorem dX12_drive_35 : decode cX12_drive 35 = .ok (.getfield 243, 3) := by decide +kernel
theorem dX12_drive_38 : decode cX12_drive 38 = .ok (.ifCond .le 5, 3) := by decide +kernel
theorem dX12_drive_41 : decode cX12_drive 41 = .ok (.iconst 0, 1) := by decide +kernel
theorem dX12_drive_42 : decode cX12_drive 42 = .ok (.ireturn, 1) := by decide +kernel
theorem dX12_drive_43 : decode cX12_drive 43 = .ok (.aload_n 0, 1) := by decide +kernel
theorem dX12_drive_44 : decode cX12_drive 44 = .ok (.aload_n 0, 1) := by decide +kernel
theorem dX12_drive_45 : decode cX12_drive 45 = .ok (.getfield 800, 3) := by decide +kernel
theorem dX12_drive_48 : decode cX12_drive 48 = .ok (.putfield 830, 3) := by decide +kernel
theorem dX12_drive_51 : decode cX12_drive 51 = .ok (.iconst 0, 1) := by decide +kernel
theorem dX12_drive_52 : decode cX12_drive 52 = .ok (.istore_n 1, 1) := by decide +kernel
theorem dX12_drive_53 : decode cX12_drive 53 = .ok (.iload_n 1, 1) := by decide +kernel
theorem dX12_drive_54 : decode cX12_drive 54 = .ok (.aload_n 0, 1) := by decide +kernel
theorem dX12_drive_55 : decode cX12_drive 55 = .ok (.getfield 830, 3) := by decide +kernel
theorem dX12_drive_58 : decode cX12_drive 58 = .ok (.if_icmp .ge 81, 3) := by decide +kernel
theorem dX12_drive_61 : decode cX12_drive 61 = .ok (.aload_n 0, 1) := by decide +kernel
theorem dX12_drive_62 : decode cX12_drive 62 = .ok (.getfield 204, 3) := by decide +kernel
theorem dX12_drive_65 : decode cX12_drive 65 = .ok (.iload_n 1, 1) := by decide +kernel
theorem dX12_drive_66 : decode cX12_drive 66 = .ok (.aload_n 0, 1) := by decide +kernel
theorem dX12_drive_67 : decode cX12_drive 67 = .ok (.getfield 225, 3) := by decide +kernel
theorem dX12_drive_70 : decode cX12_drive 70 = .ok (.iload_n 1, 1) := by decide +kernel
theorem dX12_drive_71 : decode cX12_drive 71 = .ok (.iaload, 1) := by decide +kernel
theorem dX12_drive_72 : decode cX12_drive 72 = .ok (.iastore, 1) := by decide +kernel
theorem dX12_drive_73 : decode cX12_drive 73 = .ok (.aload_n 0, 1) := by decide +kernel
theorem dX12_drive_74 : decode cX12_drive 74 = .ok (.getfield 207, 3) := by decide +kernel
theorem dX12_drive_77 : decode cX12_drive 77 = .ok (.iload_n 1, 1) := by decide +kernel
theorem dX12_drive_78 : decode cX12_drive 78 = .ok (.aload_n 0, 1) := by decide +kernel
theorem dX12_drive_79 : decode cX12_drive 79 = .ok (.getfield 228, 3) := by decide +kernel
theorem dX12_drive_82 : decode cX12_drive 82 = .ok (.iload_n 1, 1) := by decide +kernel
theorem dX12_drive_83 : decode cX12_drive 83 = .ok (.iaload, 1) := by decide +kernel
theorem dX12_drive_84 : decode cX12_drive 84 = .ok (.iastore, 1) := by decide +kernel
theorem dX12_drive_85 : decode cX12_drive 85 = .ok (.aload_n 0, 1) := by decide +kernel
theorem dX12_drive_86 : decode cX12_drive 86 = .ok (.getfield 210, 3) := by decide +kernel
theorem dX12_drive_89 : decode cX12_drive 89 = .ok (.iload_n 1, 1) := by decide +kernel
theorem dX12_drive_90 : decode cX12_drive 90 = .ok (.aload_n 0, 1) := by decide +kernel
theorem dX12_drive_91 : decode cX12_drive 91 = .ok (.getfield 231, 3) := by decide +kernel
theorem dX12_drive_94 : decode cX12_drive 94 = .ok (.iload_n 1, 1) := by decide +kernel
theorem dX12_drive_95 : decode cX12_drive 95 = .ok (.iaload, 1) := by decide +kernel
theorem dX12_drive_96 : decode cX12_drive 96 = .ok (.iastore, 1) := by decide +kernel
theorem dX12_drive_97 : decode cX12_drive 97 = .ok (.aload_n 0, 1) := by decide +kernel
theorem dX12_drive_98 : decode cX12_drive 98 = .ok (.getfield 213, 3) := by decide +kernel
theorem dX12_drive_101 : decode cX12_drive 101 = .ok (.iload_n 1, 1) := by decide +kernel
theorem dX12_drive_102 : decode cX12_drive 102 = .ok (.aload_n 0, 1) := by decide +kernel
theorem dX12_drive_103 : decode cX12_drive 103 = .ok (.getfield 234, 3) := by decide +kernel
theorem dX12_drive_106 : decode cX12_drive 106 = .ok (.iload_n 1, 1) := by decide +kernel
theorem dX12_drive_107 : decode cX12_drive 107 = .ok (.iaload, 1) := by decide +kernel
theorem dX12_drive_108 : decode cX12_drive 108 = .ok (.iastore, 1) := by decide +kernel
theorem dX12_drive_109 : decode cX12_drive 109 = .ok (.aload_n 0, 1) := by decide +kernel
theorem dX12_drive_110 : decode cX12_drive 110 = .ok (.getfield 216, 3) := by decide +kernel
theorem dX12_drive_113 : decode cX12_drive 113 = .ok (.iload_n 1, 1) := by decide +kernel
theorem dX12_drive_114 : decode cX12_drive 114 = .ok (.aload_n 0, 1) := by decide +kernel
theorem dX12_drive_115 : decode cX12_drive 115 = .ok (.getfield 237, 3) := by decide +kernel
theorem dX12_drive_118 : decode cX12_drive 118 = .ok (.iload_n 1, 1) := by decide +kernel
theorem dX12_drive_119 : decode cX12_drive 119 = .ok (.baload, 1) := by decide +kernel
theorem dX12_drive_120 : decode cX12_drive 120 = .ok (.bastore, 1) := by decide +kernel
theorem dX12_drive_121 : decode cX12_drive 121 = .ok (.aload_n 0, 1) := by decide +kernel
theorem dX12_drive_122 : decode cX12_drive 122 = .ok (.getfield 219, 3) := by decide +kernel
theorem dX12_drive_125 : decode cX12_drive 125 = .ok (.iload_n 1, 1) := by decide +kernel
theorem dX12_drive_126 : decode cX12_drive 126 = .ok (.aload_n 0, 1) := by decide +kernel
theorem dX12_drive_127 : decode cX12_drive 127 = .ok (.getfield 240, 3) := by decide +kernel
theorem dX12_drive_130 : decode cX12_drive 130 = .ok (.iload_n 1, 1) := by decide +kernel
theorem dX12_drive_131 : decode cX12_drive 131 = .ok (.laload, 1) := by decide +kernel
theorem dX12_drive_132 : decode cX12_drive 132 = .ok (.lastore, 1) := by decide +kernel
theorem dX12_drive_133 : decode cX12_drive 133 = .ok (.iinc 1 1, 3) := by decide +kernel
theorem dX12_drive_136 : decode cX12_drive 136 = .ok (.goto (-83), 3) := by decide +kernel
theorem dX12_drive_139 : decode cX12_drive 139 = .ok (.aload_n 0, 1) := by decide +kernel
theorem dX12_drive_140 : decode cX12_drive 140 = .ok (.iconst 0, 1) := by decide +kernel
theorem dX12_drive_141 : decode cX12_drive 141 = .ok (.putfield 815, 3) := by decide +kernel
theorem dX12_drive_144 : decode cX12_drive 144 = .ok (.aload_n 0, 1) := by decide +kernel
theorem dX12_drive_145 : decode cX12_drive 145 = .ok (.iconst 0, 1) := by decide +kernel
theorem dX12_drive_146 : decode cX12_drive 146 = .ok (.putfield 821, 3) := by decide +kernel
theorem dX12_drive_149 : decode cX12_drive 149 = .ok (.aload_n 0, 1) := by decide +kernel
theorem dX12_drive_150 : decode cX12_drive 150 = .ok (.iconst 0, 1) := by decide +kernel
theorem dX12_drive_151 : decode cX12_drive 151 = .ok (.putfield 818, 3) := by decide +kernel
theorem dX12_drive_154 : decode cX12_drive 154 = .ok (.aload_n 0, 1) := by decide +kernel
theorem dX12_drive_155 : decode cX12_drive 155 = .ok (.iconst 0, 1) := by decide +kernel
theorem dX12_drive_156 : decode cX12_drive 156 = .ok (.putfield 809, 3) := by decide +kernel
theorem dX12_drive_159 : decode cX12_drive 159 = .ok (.iconst 0, 1) := by decide +kernel
theorem dX12_drive_160 : decode cX12_drive 160 = .ok (.istore_n 1, 1) := by decide +kernel
theorem dX12_drive_161 : decode cX12_drive 161 = .ok (.iconst 0, 1) := by decide +kernel
theorem dX12_drive_162 : decode cX12_drive 162 = .ok (.istore_n 2, 1) := by decide +kernel
theorem dX12_drive_163 : decode cX12_drive 163 = .ok (.iload_n 2, 1) := by decide +kernel
theorem dX12_drive_164 : decode cX12_drive 164 = .ok (.aload_n 0, 1) := by decide +kernel
theorem dX12_drive_165 : decode cX12_drive 165 = .ok (.getfield 830, 3) := by decide +kernel
theorem dX12_drive_168 : decode cX12_drive 168 = .ok (.if_icmp .ge 84, 3) := by decide +kernel
theorem dX12_drive_171 : decode cX12_drive 171 = .ok (.aload_n 0, 1) := by decide +kernel
theorem dX12_drive_172 : decode cX12_drive 172 = .ok (.getfield 818, 3) := by decide +kernel
theorem dX12_drive_175 : decode cX12_drive 175 = .ok (.ifCond .ne 77, 3) := by decide +kernel
theorem dX12_drive_178 : decode cX12_drive 178 = .ok (.aload_n 0, 1) := by decide +kernel
theorem dX12_drive_179 : decode cX12_drive 179 = .ok (.iload_n 2, 1) := by decide +kernel
theorem dX12_drive_180 : decode cX12_drive 180 = .ok (.invokevirtual 833, 3) := by decide +kernel
theorem dX12_drive_183 : decode cX12_drive 183 = .ok (.aload_n 0, 1) := by decide +kernel
theorem dX12_drive_184 : decode cX12_drive 184 = .ok (.getfield 204, 3) := by decide +kernel
theorem dX12_drive_187 : decode cX12_drive 187 = .ok (.iload_n 2, 1) := by decide +kernel
theorem dX12_drive_188 : decode cX12_drive 188 = .ok (.iaload, 1) := by decide +kernel
theorem dX12_drive_189 : decode cX12_drive 189 = .ok (.iconst 2, 1) := by decide +kernel
theorem dX12_drive_190 : decode cX12_drive 190 = .ok (.if_icmp .eq 6, 3) := by decide +kernel
theorem dX12_drive_193 : decode cX12_drive 193 = .ok (.goto 53, 3) := by decide +kernel
theorem dX12_drive_196 : decode cX12_drive 196 = .ok (.iconst 0, 1) := by decide +kernel
theorem dX12_drive_197 : decode cX12_drive 197 = .ok (.istore_n 3, 1) := by decide +kernel
theorem dX12_drive_198 : decode cX12_drive 198 = .ok (.iload_n 3, 1) := by decide +kernel
theorem dX12_drive_199 : decode cX12_drive 199 = .ok (.aload_n 0, 1) := by decide +kernel
theorem dX12_drive_200 : decode cX12_drive 200 = .ok (.getfield 207, 3) := by decide +kernel
theorem dX12_drive_203 : decode cX12_drive 203 = .ok (.iload_n 2, 1) := by decide +kernel
theorem dX12_drive_204 : decode cX12_drive 204 = .ok (.iaload, 1) := by decide +kernel
theorem dX12_drive_205 : decode cX12_drive 205 = .ok (.if_icmp .ge 37, 3) := by decide +kernel
theorem dX12_drive_208 : decode cX12_drive 208 = .ok (.iload_n 1, 1) := by decide +kernel
theorem dX12_drive_209 : decode cX12_drive 209 = .ok (.istore 4, 2) := by decide +kernel
theorem dX12_drive_211 : decode cX12_drive 211 = .ok (.iload 4, 2) := by decide +kernel
theorem dX12_drive_213 : decode cX12_drive 213 = .ok (.iload_n 2, 1) := by decide +kernel
theorem dX12_drive_214 : decode cX12_drive 214 = .ok (.if_icmp .ge 22, 3) := by decide +kernel
theorem dX12_drive_217 : decode cX12_drive 217 = .ok (.aload_n 0, 1) := by decide +kernel
theorem dX12_drive_218 : decode cX12_drive 218 = .ok (.getfield 818, 3) := by decide +kernel
theorem dX12_drive_221 : decode cX12_drive 221 = .ok (.ifCond .ne 15, 3) := by decide +kernel
theorem dX12_drive_224 : decode cX12_drive 224 = .ok (.aload_n 0, 1) := by decide +kernel
theorem dX12_drive_225 : decode cX12_drive 225 = .ok (.iload 4, 2) := by decide +kernel
theorem dX12_drive_227 : decode cX12_drive 227 = .ok (.invokevirtual 833, 3) := by decide +kernel
theorem dX12_drive_230 : decode cX12_drive 230 = .ok (.iinc 4 1, 3) := by decide +kernel
theorem dX12_drive_233 : decode cX12_drive 233 = .ok (.goto (-22), 3) := by decide +kernel
theorem dX12_drive_236 : decode cX12_drive 236 = .ok (.iinc 3 1, 3) := by decide +kernel
theorem dX12_drive_239 : decode cX12_drive 239 = .ok (.goto (-41), 3) := by decide +kernel
theorem dX12_drive_242 : decode cX12_drive 242 = .ok (.iload_n 2, 1) := by decide +kernel
theorem dX12_drive_243 : decode cX12_drive 243 = .ok (.iconst 1, 1) := by decide +kernel
theorem dX12_drive_244 : decode cX12_drive 244 = .ok (.iadd, 1) := by decide +kernel
theorem dX12_drive_245 : decode cX12_drive 245 = .ok (.istore_n 1, 1) := by decide +kernel
theorem dX12_drive_246 : decode cX12_drive 246 = .ok (.iinc 2 1, 3) := by decide +kernel
theorem dX12_drive_249 : decode cX12_drive 249 = .ok (.goto (-86), 3) := by decide +kernel
theorem dX12_drive_252 : decode cX12_drive 252 = .ok (.aload_n 0, 1) := by decide +kernel
theorem dX12_drive_253 : decode cX12_drive 253 = .ok (.getfield 818, 3) := by decide +kernel
theorem dX12_drive_256 : decode cX12_drive 256 = .ok (.ireturn, 1) := by decide +kernel
theorem dX12_event_0 : decode cX12_event 0 = .ok (.aload_n 0, 1) := by decide +kernel
theorem dX12_event_1 : decode cX12_event 1 = .ok (.iload_n 2, 1) := by decide +kernel
theorem dX12_event_2 : decode cX12_event 2 = .ok (.i2l, 1) := by decide +kernel
theorem dX12_event_3 : decode cX12_event 3 = .ok (.lconst 0, 1) := by decide +kernel
theorem dX12_event_4 : decode cX12_event 4 = .ok (.ldc2_w 325, 3) := by decide +kernel
theorem dX12_event_7 : decode cX12_event 7 = .ok (.invokestatic 262, 3) := by decide +kernel
theorem dX12_event_10 : decode cX12_event 10 = .ok (.ifCond .ne 7, 3) := by decide +kernel
theorem dX12_event_13 : decode cX12_event 13 = .ok (.iconst 1, 1) := by decide +kernel
theorem dX12_event_14 : decode cX12_event 14 = .ok (.goto 38, 3) := by decide +kernel
theorem dX12_event_17 : decode cX12_event 17 = .ok (.iload_n 1, 1) := by decide +kernel
theorem dX12_event_18 : decode cX12_event 18 = .ok (.i2l, 1) := by decide +kernel
theorem dX12_event_19 : decode cX12_event 19 = .ok (.lconst 0, 1) := by decide +kernel
theorem dX12_event_20 : decode cX12_event 20 = .ok (.aload_n 0, 1) := by decide +kernel
theorem dX12_event_21 : decode cX12_event 21 = .ok (.getfield 821, 3) := by decide +kernel
theorem dX12_event_24 : decode cX12_event 24 = .ok (.bipush 100, 2) := by decide +kernel
theorem dX12_event_26 : decode cX12_event 26 = .ok (.if_icmp .ge 10, 3) := by decide +kernel
theorem dX12_event_29 : decode cX12_event 29 = .ok (.aload_n 0, 1) := by decide +kernel
theorem dX12_event_30 : decode cX12_event 30 = .ok (.getfield 821, 3) := by decide +kernel
theorem dX12_event_33 : decode cX12_event 33 = .ok (.goto 5, 3) := by decide +kernel
theorem dX12_event_36 : decode cX12_event 36 = .ok (.bipush 100, 2) := by decide +kernel
theorem dX12_event_38 : decode cX12_event 38 = .ok (.iconst 1, 1) := by decide +kernel
theorem dX12_event_39 : decode cX12_event 39 = .ok (.isub, 1) := by decide +kernel
theorem dX12_event_40 : decode cX12_event 40 = .ok (.i2l, 1) := by decide +kernel
theorem dX12_event_41 : decode cX12_event 41 = .ok (.invokestatic 262, 3) := by decide +kernel
theorem dX12_event_44 : decode cX12_event 44 = .ok (.ifCond .eq 7, 3) := by decide +kernel
theorem dX12_event_47 : decode cX12_event 47 = .ok (.iconst 0, 1) := by decide +kernel
theorem dX12_event_48 : decode cX12_event 48 = .ok (.goto 4, 3) := by decide +kernel
theorem dX12_event_51 : decode cX12_event 51 = .ok (.iconst 2, 1) := by decide +kernel
theorem dX12_event_52 : decode cX12_event 52 = .ok (.putfield 243, 3) := by decide +kernel
theorem dX12_event_55 : decode cX12_event 55 = .ok (.aload_n 0, 1) := by decide +kernel
theorem dX12_event_56 : decode cX12_event 56 = .ok (.getfield 243, 3) := by decide +kernel
theorem dX12_event_59 : decode cX12_event 59 = .ok (.ifCond .le 7, 3) := by decide +kernel
theorem dX12_event_62 : decode cX12_event 62 = .ok (.iconst 0, 1) := by decide +kernel
theorem dX12_event_63 : decode cX12_event 63 = .ok (.goto 13, 3) := by decide +kernel
theorem dX12_event_66 : decode cX12_event 66 = .ok (.aload_n 0, 1) := by decide +kernel
theorem dX12_event_67 : decode cX12_event 67 = .ok (.getfield 222, 3) := by decide +kernel
theorem dX12_event_70 : decode cX12_event 70 = .ok (.iconst 3, 1) := by decide +kernel
theorem dX12_event_71 : decode cX12_event 71 = .ok (.iload_n 1, 1) := by decide +kernel
theorem dX12_event_72 : decode cX12_event 72 = .ok (.imul, 1) := by decide +kernel
theorem dX12_event_73 : decode cX12_event 73 = .ok (.iload_n 2, 1) := by decide +kernel
theorem dX12_event_74 : decode cX12_event 74 = .ok (.iadd, 1) := by decide +kernel
theorem dX12_event_75 : decode cX12_event 75 = .ok (.iaload, 1) := by decide +kernel
theorem dX12_event_76 : decode cX12_event 76 = .ok (.ireturn, 1) := by decide +kernel
theorem dX12_count_0 : decode cX12_count 0 = .ok (.aload_n 0, 1) := by decide +kernel
theorem dX12_count_1 : decode cX12_count 1 = .ok (.iconst 0, 1) := by decide +kernel
theorem dX12_count_2 : decode cX12_count 2 = .ok (.putfield 243, 3) := by decide +kernel
theorem dX12_count_5 : decode cX12_count 5 = .ok (.iload_n 1, 1) := by decide +kernel
theorem dX12_count_6 : decode cX12_count 6 = .ok (.tableswitch 120 0 12 #[66, 71, 76, 76, 76, 76, 85, 90, 95, 100, 105, 110, 115], 66) := by decide +kernel
theorem dX12_count_72 : decode cX12_count 72 = .ok (.aload_n 0, 1) := by decide +kernel
theorem dX12_count_73 : decode cX12_count 73 = .ok (.getfield 460, 3) := by decide +kernel
theorem dX12_count_76 : decode cX12_count 76 = .ok (.ireturn, 1) := by decide +kernel
theorem dX12_count_77 : decode cX12_count 77 = .ok (.aload_n 0, 1) := by decide +kernel
theorem dX12_count_78 : decode cX12_count 78 = .ok (.getfield 463, 3) := by decide +kernel
theorem dX12_count_81 : decode cX12_count 81 = .ok (.ireturn, 1) := by decide +kernel
theorem dX12_count_82 : decode cX12_count 82 = .ok (.aload_n 0, 1) := by decide +kernel
theorem dX12_count_83 : decode cX12_count 83 = .ok (.getfield 63, 3) := by decide +kernel
theorem dX12_count_86 : decode cX12_count 86 = .ok (.iload_n 1, 1) := by decide +kernel
theorem dX12_count_87 : decode cX12_count 87 = .ok (.iconst 2, 1) := by decide +kernel
theorem dX12_count_88 : decode cX12_count 88 = .ok (.isub, 1) := by decide +kernel
theorem dX12_count_89 : decode cX12_count 89 = .ok (.iaload, 1) := by decide +kernel
theorem dX12_count_90 : decode cX12_count 90 = .ok (.ireturn, 1) := by decide +kernel
theorem dX12_count_91 : decode cX12_count 91 = .ok (.aload_n 0, 1) := by decide +kernel
theorem dX12_count_92 : decode cX12_count 92 = .ok (.getfield 615, 3) := by decide +kernel
theorem dX12_count_95 : decode cX12_count 95 = .ok (.ireturn, 1) := by decide +kernel
theorem dX12_count_96 : decode cX12_count 96 = .ok (.aload_n 0, 1) := by decide +kernel
theorem dX12_count_97 : decode cX12_count 97 = .ok (.getfield 623, 3) := by decide +kernel
theorem dX12_count_100 : decode cX12_count 100 = .ok (.ireturn, 1) := by decide +kernel
theorem dX12_count_101 : decode cX12_count 101 = .ok (.aload_n 0, 1) := by decide +kernel
theorem dX12_count_102 : decode cX12_count 102 = .ok (.getfield 815, 3) := by decide +kernel
theorem dX12_count_105 : decode cX12_count 105 = .ok (.ireturn, 1) := by decide +kernel
theorem dX12_count_106 : decode cX12_count 106 = .ok (.aload_n 0, 1) := by decide +kernel
theorem dX12_count_107 : decode cX12_count 107 = .ok (.getfield 821, 3) := by decide +kernel
theorem dX12_count_110 : decode cX12_count 110 = .ok (.ireturn, 1) := by decide +kernel
theorem dX12_count_111 : decode cX12_count 111 = .ok (.aload_n 0, 1) := by decide +kernel
theorem dX12_count_112 : decode cX12_count 112 = .ok (.getfield 255, 3) := by decide +kernel
theorem dX12_count_115 : decode cX12_count 115 = .ok (.ireturn, 1) := by decide +kernel
theorem dX12_count_116 : decode cX12_count 116 = .ok (.aload_n 0, 1) := by decide +kernel
theorem dX12_count_117 : decode cX12_count 117 = .ok (.getfield 665, 3) := by decide +kernel
theorem dX12_count_120 : decode cX12_count 120 = .ok (.ireturn, 1) := by decide +kernel
theorem dX12_count_121 : decode cX12_count 121 = .ok (.aload_n 0, 1) := by decide +kernel
theorem dX12_count_122 : decode cX12_count 122 = .ok (.getfield 780, 3) := by decide +kernel
theorem dX12_count_125 : decode cX12_count 125 = .ok (.ireturn, 1) := by decide +kernel
theorem dX12_count_126 : decode cX12_count 126 = .ok (.iconst (-1), 1) := by decide +kernel
theorem dX12_count_127 : decode cX12_count 127 = .ok (.ireturn, 1) := by decide +kernel
theorem dJ6_bitCount_0f7a4_0 : decode cJ6_bitCount_0f7a4 0 = .ok (.iload_n 0, 1) := by decide +kernel
theorem dJ6_bitCount_0f7a4_1 : decode cJ6_bitCount_0f7a4 1 = .ok (.iload_n 0, 1) := by decide +kernel
theorem dJ6_bitCount_0f7a4_2 : decode cJ6_bitCount_0f7a4 2 = .ok (.iconst 1, 1) := by decide +kernel
theorem dJ6_bitCount_0f7a4_3 : decode cJ6_bitCount_0f7a4 3 = .ok (.iushr, 1) := by decide +kernel
theorem dJ6_bitCount_0f7a4_4 : decode cJ6_bitCount_0f7a4 4 = .ok (.ldc_w 265, 3) := by decide +kernel
theorem dJ6_bitCount_0f7a4_7 : decode cJ6_bitCount_0f7a4 7 = .ok (.iand, 1) := by decide +kernel
theorem dJ6_bitCount_0f7a4_8 : decode cJ6_bitCount_0f7a4 8 = .ok (.isub, 1) := by decide +kernel
theorem dJ6_bitCount_0f7a4_9 : decode cJ6_bitCount_0f7a4 9 = .ok (.istore_n 0, 1) := by decide +kernel
theorem dJ6_bitCount_0f7a4_10 : decode cJ6_bitCount_0f7a4 10 = .ok (.iload_n 0, 1) := by decide +kernel
theorem dJ6_bitCount_0f7a4_11 : decode cJ6_bitCount_0f7a4 11 = .ok (.ldc_w 266, 3) := by decide +kernel
theorem dJ6_bitCount_0f7a4_14 : decode cJ6_bitCount_0f7a4 14 = .ok (.iand, 1) := by decide +kernel
theorem dJ6_bitCount_0f7a4_15 : decode cJ6_bitCount_0f7a4 15 = .ok (.iload_n 0, 1) := by decide +kernel
theorem dJ6_bitCount_0f7a4_16 : decode cJ6_bitCount_0f7a4 16 = .ok (.iconst 2, 1) := by decide +kernel
theorem dJ6_bitCount_0f7a4_17 : decode cJ6_bitCount_0f7a4 17 = .ok (.iushr, 1) := by decide +kernel
theorem dJ6_bitCount_0f7a4_18 : decode cJ6_bitCount_0f7a4 18 = .ok (.ldc_w 266, 3) := by decide +kernel
theorem dJ6_bitCount_0f7a4_21 : decode cJ6_bitCount_0f7a4 21 = .ok (.iand, 1) := by decide +kernel
theorem dJ6_bitCount_0f7a4_22 : decode cJ6_bitCount_0f7a4 22 = .ok (.iadd, 1) := by decide +kernel
theorem dJ6_bitCount_0f7a4_23 : decode cJ6_bitCount_0f7a4 23 = .ok (.istore_n 0, 1) := by decide +kernel
theorem dJ6_bitCount_0f7a4_24 : decode cJ6_bitCount_0f7a4 24 = .ok (.iload_n 0, 1) := by decide +kernel
theorem dJ6_bitCount_0f7a4_25 : decode cJ6_bitCount_0f7a4 25 = .ok (.iload_n 0, 1) := by decide +kernel
theorem dJ6_bitCount_0f7a4_26 : decode cJ6_bitCount_0f7a4 26 = .ok (.iconst 4, 1) := by decide +kernel
theorem dJ6_bitCount_0f7a4_27 : decode cJ6_bitCount_0f7a4 27 = .ok (.iushr, 1) := by decide +kernel
theorem dJ6_bitCount_0f7a4_28 : decode cJ6_bitCount_0f7a4 28 = .ok (.iadd, 1) := by decide +kernel
theorem dJ6_bitCount_0f7a4_29 : decode cJ6_bitCount_0f7a4 29 = .ok (.ldc_w 267, 3) := by decide +kernel
theorem dJ6_bitCount_0f7a4_32 : decode cJ6_bitCount_0f7a4 32 = .ok (.iand, 1) := by decide +kernel
theorem dJ6_bitCount_0f7a4_33 : decode cJ6_bitCount_0f7a4 33 = .ok (.istore_n 0, 1) := by decide +kernel
theorem dJ6_bitCount_0f7a4_34 : decode cJ6_bitCount_0f7a4 34 = .ok (.iload_n 0, 1) := by decide +kernel
theorem dJ6_bitCount_0f7a4_35 : decode cJ6_bitCount_0f7a4 35 = .ok (.iload_n 0, 1) := by decide +kernel
theorem dJ6_bitCount_0f7a4_36 : decode cJ6_bitCount_0f7a4 36 = .ok (.bipush 8, 2) := by decide +kernel
theorem dJ6_bitCount_0f7a4_38 : decode cJ6_bitCount_0f7a4 38 = .ok (.iushr, 1) := by decide +kernel
theorem dJ6_bitCount_0f7a4_39 : decode cJ6_bitCount_0f7a4 39 = .ok (.iadd, 1) := by decide +kernel
theorem dJ6_bitCount_0f7a4_40 : decode cJ6_bitCount_0f7a4 40 = .ok (.istore_n 0, 1) := by decide +kernel
theorem dJ6_bitCount_0f7a4_41 : decode cJ6_bitCount_0f7a4 41 = .ok (.iload_n 0, 1) := by decide +kernel
theorem dJ6_bitCount_0f7a4_42 : decode cJ6_bitCount_0f7a4 42 = .ok (.iload_n 0, 1) := by decide +kernel
theorem dJ6_bitCount_0f7a4_43 : decode cJ6_bitCount_0f7a4 43 = .ok (.bipush 16, 2) := by decide +kernel
theorem dJ6_bitCount_0f7a4_45 : decode cJ6_bitCount_0f7a4 45 = .ok (.iushr, 1) := by decide +kernel
theorem dJ6_bitCount_0f7a4_46 : decode cJ6_bitCount_0f7a4 46 = .ok (.iadd, 1) := by decide +kernel
theorem dJ6_bitCount_0f7a4_47 : decode cJ6_bitCount_0f7a4 47 = .ok (.istore_n 0, 1) := by decide +kernel
theorem dJ6_bitCount_0f7a4_48 : decode cJ6_bitCount_0f7a4 48 = .ok (.iload_n 0, 1) := by decide +kernel
theorem dJ6_bitCount_0f7a4_49 : decode cJ6_bitCount_0f7a4 49 = .ok (.bipush 63, 2) := by decide +kernel
theorem dJ6_bitCount_0f7a4_51 : decode cJ6_bitCount_0f7a4 51 = .ok (.iand, 1) := by decide +kernel
theorem dJ6_bitCount_0f7a4_52 : decode cJ6_bitCount_0f7a4 52 = .ok (.ireturn, 1) := by decide +kernel
theorem dJ9_floorDiv_f86c9_0 : decode cJ9_floorDiv_f86c9 0 = .ok (.lload_n 0, 1) := by decide +kernel
theorem dJ9_floorDiv_f86c9_1 : decode cJ9_floorDiv_f86c9 1 = .ok (.lload_n 2, 1) := by decide +kernel
theorem dJ9_floorDiv_f86c9_2 : decode cJ9_floorDiv_f86c9 2 = .ok (.ldiv, 1) := by decide +kernel
theorem dJ9_floorDiv_f86c9_3 : decode cJ9_floorDiv_f86c9 3 = .ok (.lstore 4, 2) := by decide +kernel
theorem dJ9_floorDiv_f86c9_5 : decode cJ9_floorDiv_f86c9 5 = .ok (.lload_n 0, 1) := by decide +kernel
theorem dJ9_floorDiv_f86c9_6 : decode cJ9_floorDiv_f86c9 6 = .ok (.lload_n 2, 1) := by decide +kernel
theorem dJ9_floorDiv_f86c9_7 : decode cJ9_floorDiv_f86c9 7 = .ok (.lxor, 1) := by decide +kernel
theorem dJ9_floorDiv_f86c9_8 : decode cJ9_floorDiv_f86c9 8 = .ok (.lconst 0, 1) := by decide +kernel
theorem dJ9_floorDiv_f86c9_9 : decode cJ9_floorDiv_f86c9 9 = .ok (.lcmp, 1) := by decide +kernel
theorem dJ9_floorDiv_f86c9_10 : decode cJ9_floorDiv_f86c9 10 = .ok (.ifCond .ge 17, 3) := by decide +kernel
theorem dJ9_floorDiv_f86c9_13 : decode cJ9_floorDiv_f86c9 13 = .ok (.lload 4, 2) := by decide +kernel
theorem dJ9_floorDiv_f86c9_15 : decode cJ9_floorDiv_f86c9 15 = .ok (.lload_n 2, 1) := by decide +kernel
theorem dJ9_floorDiv_f86c9_16 : decode cJ9_floorDiv_f86c9 16 = .ok (.lmul, 1) := by decide +kernel
theorem dJ9_floorDiv_f86c9_17 : decode cJ9_floorDiv_f86c9 17 = .ok (.lload_n 0, 1) := by decide +kernel
theorem dJ9_floorDiv_f86c9_18 : decode cJ9_floorDiv_f86c9 18 = .ok (.lcmp, 1) := by decide +kernel
theorem dJ9_floorDiv_f86c9_19 : decode cJ9_floorDiv_f86c9 19 = .ok (.ifCond .eq 8, 3) := by decide +kernel
theorem dJ9_floorDiv_f86c9_22 : decode cJ9_floorDiv_f86c9 22 = .ok (.lload 4, 2) := by decide +kernel
theorem dJ9_floorDiv_f86c9_24 : decode cJ9_floorDiv_f86c9 24 = .ok (.lconst 1, 1) := by decide +kernel
theorem dJ9_floorDiv_f86c9_25 : decode cJ9_floorDiv_f86c9 25 = .ok (.lsub, 1) := by decide +kernel
theorem dJ9_floorDiv_f86c9_26 : decode cJ9_floorDiv_f86c9 26 = .ok (.lreturn, 1) := by decide +kernel
theorem dJ9_floorDiv_f86c9_27 : decode cJ9_floorDiv_f86c9 27 = .ok (.lload 4, 2) := by decide +kernel
theorem dJ9_floorDiv_f86c9_29 : decode cJ9_floorDiv_f86c9 29 = .ok (.lreturn, 1) := by decide +kernel
theorem dJ9_abs_0f7a4_0 : decode cJ9_abs_0f7a4 0 = .ok (.iload_n 0, 1) := by decide +kernel
theorem dJ9_abs_0f7a4_1 : decode cJ9_abs_0f7a4 1 = .ok (.ifCond .ge 8, 3) := by decide +kernel
theorem dJ9_abs_0f7a4_4 : decode cJ9_abs_0f7a4 4 = .ok (.iload_n 0, 1) := by decide +kernel
theorem dJ9_abs_0f7a4_5 : decode cJ9_abs_0f7a4 5 = .ok (.ineg, 1) := by decide +kernel
theorem dJ9_abs_0f7a4_6 : decode cJ9_abs_0f7a4 6 = .ok (.goto 4, 3) := by decide +kernel
theorem dJ9_abs_0f7a4_9 : decode cJ9_abs_0f7a4 9 = .ok (.iload_n 0, 1) := by decide +kernel
theorem dJ9_abs_0f7a4_10 : decode cJ9_abs_0f7a4 10 = .ok (.ireturn, 1) := by decide +kernel
theorem dJ9_abs_067f4_0 : decode cJ9_abs_067f4 0 = .ok (.lload_n 0, 1) := by decide +kernel
theorem dJ9_abs_067f4_1 : decode cJ9_abs_067f4 1 = .ok (.lconst 0, 1) := by decide +kernel
theorem dJ9_abs_067f4_2 : decode cJ9_abs_067f4 2 = .ok (.lcmp, 1) := by decide +kernel
theorem dJ9_abs_067f4_3 : decode cJ9_abs_067f4 3 = .ok (.ifCond .ge 8, 3) := by decide +kernel
theorem dJ9_abs_067f4_6 : decode cJ9_abs_067f4 6 = .ok (.lload_n 0, 1) := by decide +kernel
theorem dJ9_abs_067f4_7 : decode cJ9_abs_067f4 7 = .ok (.lneg, 1) := by decide +kernel
theorem dJ9_abs_067f4_8 : decode cJ9_abs_067f4 8 = .ok (.goto 4, 3) := by decide +kernel
theorem dJ9_abs_067f4_11 : decode cJ9_abs_067f4 11 = .ok (.lload_n 0, 1) := by decide +kernel
theorem dJ9_abs_067f4_12 : decode cJ9_abs_067f4 12 = .ok (.lreturn, 1) := by decide +kernel
theorem dJ9_max_7cf53_0 : decode cJ9_max_7cf53 0 = .ok (.iload_n 0, 1) := by decide +kernel
theorem dJ9_max_7cf53_1 : decode cJ9_max_7cf53 1 = .ok (.iload_n 1, 1) := by decide +kernel
theorem dJ9_max_7cf53_2 : decode cJ9_max_7cf53 2 = .ok (.if_icmp .lt 7, 3) := by decide +kernel
theorem dJ9_max_7cf53_5 : decode cJ9_max_7cf53 5 = .ok (.iload_n 0, 1) := by decide +kernel
theorem dJ9_max_7cf53_6 : decode cJ9_max_7cf53 6 = .ok (.goto 4, 3) := by decide +kernel
theorem dJ9_max_7cf53_9 : decode cJ9_max_7cf53 9 = .ok (.iload_n 1, 1) := by decide +kernel
theorem dJ9_max_7cf53_10 : decode cJ9_max_7cf53 10 = .ok (.ireturn, 1) := by decide +kernel
theorem dJ9_max_f86c9_0 : decode cJ9_max_f86c9 0 = .ok (.lload_n 0, 1) := by decide +kernel
theorem dJ9_max_f86c9_1 : decode cJ9_max_f86c9 1 = .ok (.lload_n 2, 1) := by decide +kernel
theorem dJ9_max_f86c9_2 : decode cJ9_max_f86c9 2 = .ok (.lcmp, 1) := by decide +kernel
theorem dJ9_max_f86c9_3 : decode cJ9_max_f86c9 3 = .ok (.ifCond .lt 7, 3) := by decide +kernel
theorem dJ9_max_f86c9_6 : decode cJ9_max_f86c9 6 = .ok (.lload_n 0, 1) := by decide +kernel
theorem dJ9_max_f86c9_7 : decode cJ9_max_f86c9 7 = .ok (.goto 4, 3) := by decide +kernel
theorem dJ9_max_f86c9_10 : decode cJ9_max_f86c9 10 = .ok (.lload_n 2, 1) := by decide +kernel
theorem dJ9_max_f86c9_11 : decode cJ9_max_f86c9 11 = .ok (.lreturn, 1) := by decide +kernel
theorem dJ9_min_7cf53_0 : decode cJ9_min_7cf53 0 = .ok (.iload_n 0, 1) := by decide +kernel
theorem dJ9_min_7cf53_1 : decode cJ9_min_7cf53 1 = .ok (.iload_n 1, 1) := by decide +kernel
theorem dJ9_min_7cf53_2 : decode cJ9_min_7cf53 2 = .ok (.if_icmp .gt 7, 3) := by decide +kernel
theorem dJ9_min_7cf53_5 : decode cJ9_min_7cf53 5 = .ok (.iload_n 0, 1) := by decide +kernel
theorem dJ9_min_7cf53_6 : decode cJ9_min_7cf53 6 = .ok (.goto 4, 3) := by decide +kernel
theorem dJ9_min_7cf53_9 : decode cJ9_min_7cf53 9 = .ok (.iload_n 1, 1) := by decide +kernel
theorem dJ9_min_7cf53_10 : decode cJ9_min_7cf53 10 = .ok (.ireturn, 1) := by decide +kernel
theorem dJ9_min_f86c9_0 : decode cJ9_min_f86c9 0 = .ok (.lload_n 0, 1) := by decide +kernel
theorem dJ9_min_f86c9_1 : decode cJ9_min_f86c9 1 = .ok (.lload_n 2, 1) := by decide +kernel
theorem dJ9_min_f86c9_2 : decode cJ9_min_f86c9 2 = .ok (.lcmp, 1) := by decide +kernel
theorem dJ9_min_f86c9_3 : decode cJ9_min_f86c9 3 = .ok (.ifCond .gt 7, 3) := by decide +kernel
theorem dJ9_min_f86c9_6 : decode cJ9_min_f86c9 6 = .ok (.lload_n 0, 1) := by decide +kernel
theorem dJ9_min_f86c9_7 : decode cJ9_min_f86c9 7 = .ok (.goto 4, 3) := by decide +kernel
theorem dJ9_min_f86c9_10 : decode cJ9_min_f86c9 10 = .ok (.lload_n 2, 1) := by decide +kernel
theorem dJ9_min_f86c9_11 : decode cJ9_min_f86c9 11 = .ok (.lreturn, 1) := by decide +kernel
theorem dJ0_length_8abf5_0 : decode cJ0_length_8abf5 0 = .ok (.aload_n 0, 1) := by decide +kernel
theorem dJ0_length_8abf5_1 : decode cJ0_length_8abf5 1 = .ok (.getfield 9, 3) := by decide +kernel
theorem dJ0_length_8abf5_4 : decode cJ0_length_8abf5 4 = .ok (.arraylength, 1) := by decide +kernel
theorem dJ0_length_8abf5_5 : decode cJ0_length_8abf5 5 = .ok (.aload_n 0, 1) := by decide +kernel
theorem dJ0_length_8abf5_6 : decode cJ0_length_8abf5 6 = .ok (.invokevirtual 335, 3) := by decide +kernel
theorem dJ0_length_8abf5_9 : decode cJ0_length_8abf5 9 = .ok (.ishr, 1) := by decide +kernel
theorem dJ0_length_8abf5_10 : decode cJ0_length_8abf5 10 = .ok (.ireturn, 1) := by decide +kernel
theorem dJ0_charAt_5068e_0 : decode cJ0_charAt_5068e 0 = .ok (.aload_n 0, 1) := by decide +kernel
theorem dJ0_charAt_5068e_1 : decode cJ0_charAt_5068e 1 = .ok (.invokevirtual 492, 3) := by decide +kernel
theorem dJ0_charAt_5068e_4 : decode cJ0_charAt_5068e 4 = .ok (.ifCond .eq 12, 3) := by decide +kernel
theorem dJ0_charAt_5068e_7 : decode cJ0_charAt_5068e 7 = .ok (.aload_n 0, 1) := by decide +kernel
theorem dJ0_charAt_5068e_8 : decode cJ0_charAt_5068e 8 = .ok (.getfield 9, 3) := by decide +kernel
theorem dJ0_charAt_5068e_11 : decode cJ0_charAt_5068e 11 = .ok (.iload_n 1, 1) := by decide +kernel
theorem dJ0_charAt_5068e_12 : decode cJ0_charAt_5068e 12 = .ok (.invokestatic 495, 3) := by decide +kernel
theorem dJ0_charAt_5068e_15 : decode cJ0_charAt_5068e 15 = .ok (.ireturn, 1) := by decide +kernel
theorem dJ0_charAt_5068e_16 : decode cJ0_charAt_5068e 16 = .ok (.aload_n 0, 1) := by decide +kernel
theorem dJ0_charAt_5068e_17 : decode cJ0_charAt_5068e 17 = .ok (.getfield 9, 3) := by decide +kernel
theorem dJ0_charAt_5068e_20 : decode cJ0_charAt_5068e 20 = .ok (.iload_n 1, 1) := by decide +kernel
theorem dJ0_charAt_5068e_21 : decode cJ0_charAt_5068e 21 = .ok (.invokestatic 498, 3) := by decide +kernel
theorem dJ0_charAt_5068e_24 : decode cJ0_charAt_5068e 24 = .ok (.ireturn, 1) := by decide +kernel
theorem dJ0_coder_7d493_0 : decode cJ0_coder_7d493 0 = .ok (.getstatic 38, 3) := by decide +kernel
theorem dJ0_coder_7d493_3 : decode cJ0_coder_7d493 3 = .ok (.ifCond .eq 10, 3) := by decide +kernel
theorem dJ0_coder_7d493_6 : decode cJ0_coder_7d493 6 = .ok (.aload_n 0, 1) := by decide +kernel
theorem dJ0_coder_7d493_7 : decode cJ0_coder_7d493 7 = .ok (.getfield 15, 3) := by decide +kernel
theorem dJ0_coder_7d493_10 : decode cJ0_coder_7d493 10 = .ok (.goto 4, 3) := by decide +kernel
theorem dJ0_coder_7d493_13 : decode cJ0_coder_7d493 13 = .ok (.iconst 1, 1) := by decide +kernel
theorem dJ0_coder_7d493_14 : decode cJ0_coder_7d493 14 = .ok (.ireturn, 1) := by decide +kernel
theorem dJ0_isLatin1_aae02_0 : decode cJ0_isLatin1_aae02 0 = .ok (.getstatic 38, 3) := by decide +kernel
theorem dJ0_isLatin1_aae02_3 : decode cJ0_isLatin1_aae02 3 = .ok (.ifCond .eq 14, 3) := by decide +kernel
theorem dJ0_isLatin1_aae02_6 : decode cJ0_isLatin1_aae02 6 = .ok (.aload_n 0, 1) := by decide +kernel
theorem dJ0_isLatin1_aae02_7 : decode cJ0_isLatin1_aae02 7 = .ok (.getfield 15, 3) := by decide +kernel
theorem dJ0_isLatin1_aae02_10 : decode cJ0_isLatin1_aae02 10 = .ok (.ifCond .ne 7, 3) := by decide +kernel
theorem dJ0_isLatin1_aae02_13 : decode cJ0_isLatin1_aae02 13 = .ok (.iconst 1, 1) := by decide +kernel
theorem dJ0_isLatin1_aae02_14 : decode cJ0_isLatin1_aae02 14 = .ok (.goto 4, 3) := by decide +kernel
theorem dJ0_isLatin1_aae02_17 : decode cJ0_isLatin1_aae02 17 = .ok (.iconst 0, 1) := by decide +kernel
theorem dJ0_isLatin1_aae02_18 : decode cJ0_isLatin1_aae02 18 = .ok (.ireturn, 1) := by decide +kernel
theorem dJ0_checkIndex_df160_0 : decode cJ0_checkIndex_df160 0 = .ok (.iload_n 0, 1) := by decide +kernel
theorem dJ0_checkIndex_df160_1 : decode cJ0_checkIndex_df160 1 = .ok (.iload_n 1, 1) := by decide +kernel
theorem dJ0_checkIndex_df160_2 : decode cJ0_checkIndex_df160 2 = .ok (.getstatic 1053, 3) := by decide +kernel
theorem dJ0_checkIndex_df160_5 : decode cJ0_checkIndex_df160 5 = .ok (.invokestatic 1059, 3) := by decide +kernel
theorem dJ0_checkIndex_df160_8 : decode cJ0_checkIndex_df160 8 = .ok (.pop, 1) := by decide +kernel
theorem dJ0_checkIndex_df160_9 : decode cJ0_checkIndex_df160 9 = .ok (.return_, 1) := by decide +kernel
theorem dJ1_charAt_3b067_0 : decode cJ1_charAt_3b067 0 = .ok (.iload_n 1, 1) := by decide +kernel
theorem dJ1_charAt_3b067_1 : decode cJ1_charAt_3b067 1 = .ok (.aload_n 0, 1) := by decide +kernel
theorem dJ1_charAt_3b067_2 : decode cJ1_charAt_3b067 2 = .ok (.arraylength, 1) := by decide +kernel
theorem dJ1_charAt_3b067_3 : decode cJ1_charAt_3b067 3 = .ok (.invokestatic 9, 3) := by decide +kernel
theorem dJ1_charAt_3b067_6 : decode cJ1_charAt_3b067 6 = .ok (.aload_n 0, 1) := by decide +kernel
theorem dJ1_charAt_3b067_7 : decode cJ1_charAt_3b067 7 = .ok (.iload_n 1, 1) := by decide +kernel
theorem dJ1_charAt_3b067_8 : decode cJ1_charAt_3b067 8 = .ok (.baload, 1) := by decide +kernel
theorem dJ1_charAt_3b067_9 : decode cJ1_charAt_3b067 9 = .ok (.sipush 255, 3) := by decide +kernel
theorem dJ1_charAt_3b067_12 : decode cJ1_charAt_3b067 12 = .ok (.iand, 1) := by decide +kernel
theorem dJ1_charAt_3b067_13 : decode cJ1_charAt_3b067 13 = .ok (.i2c, 1) := by decide +kernel
theorem dJ1_charAt_3b067_14 : decode cJ1_charAt_3b067 14 = .ok (.ireturn, 1) := by decide +kernel
theorem dJ2_getChar_3b067_0 : decode cJ2_getChar_3b067 0 = .ok (.getstatic 44, 3) := by decide +kernel
theorem dJ2_getChar_3b067_3 : decode cJ2_getChar_3b067 3 = .ok (.ifCond .ne 25, 3) := by decide +kernel
theorem dJ2_getChar_3b067_6 : decode cJ2_getChar_3b067 6 = .ok (.iload_n 1, 1) := by decide +kernel
theorem dJ2_getChar_3b067_7 : decode cJ2_getChar_3b067 7 = .ok (.ifCond .lt 11, 3) := by decide +kernel
theorem dJ2_getChar_3b067_10 : decode cJ2_getChar_3b067 10 = .ok (.iload_n 1, 1) := by decide +kernel
theorem dJ2_getChar_3b067_11 : decode cJ2_getChar_3b067 11 = .ok (.aload_n 0, 1) := by decide +kernel
theorem dJ2_getChar_3b067_12 : decode cJ2_getChar_3b067 12 = .ok (.invokestatic 48, 3) := by decide +kernel
theorem dJ2_getChar_3b067_15 : decode cJ2_getChar_3b067 15 = .ok (.if_icmp .lt 13, 3) := by decide +kernel
theorem dJ2_getChar_3b067_18 : decode cJ2_getChar_3b067 18 = .ok (.new 52, 3) := by decide +kernel
theorem dJ2_getChar_3b067_21 : decode cJ2_getChar_3b067 21 = .ok (.dup, 1) := by decide +kernel
theorem dJ2_getChar_3b067_22 : decode cJ2_getChar_3b067 22 = .ok (.ldc 54, 2) := by decide +kernel
theorem dJ2_getChar_3b067_24 : decode cJ2_getChar_3b067 24 = .ok (.invokespecial 56, 3) := by decide +kernel
theorem dJ2_getChar_3b067_27 : decode cJ2_getChar_3b067 27 = .ok (.athrow, 1) := by decide +kernel
theorem dJ2_getChar_3b067_28 : decode cJ2_getChar_3b067 28 = .ok (.iload_n 1, 1) := by decide +kernel
theorem dJ2_getChar_3b067_29 : decode cJ2_getChar_3b067 29 = .ok (.iconst 1, 1) := by decide +kernel
theorem dJ2_getChar_3b067_30 : decode cJ2_getChar_3b067 30 = .ok (.ishl, 1) := by decide +kernel
theorem dJ2_getChar_3b067_31 : decode cJ2_getChar_3b067 31 = .ok (.istore_n 1, 1) := by decide +kernel
theorem dJ2_getChar_3b067_32 : decode cJ2_getChar_3b067 32 = .ok (.aload_n 0, 1) := by decide +kernel
theorem dJ2_getChar_3b067_33 : decode cJ2_getChar_3b067 33 = .ok (.iload_n 1, 1) := by decide +kernel
theorem dJ2_getChar_3b067_34 : decode cJ2_getChar_3b067 34 = .ok (.iinc 1 1, 3) := by decide +kernel
theorem dJ2_getChar_3b067_37 : decode cJ2_getChar_3b067 37 = .ok (.baload, 1) := by decide +kernel
theorem dJ2_getChar_3b067_38 : decode cJ2_getChar_3b067 38 = .ok (.sipush 255, 3) := by decide +kernel
theorem dJ2_getChar_3b067_41 : decode cJ2_getChar_3b067 41 = .ok (.iand, 1) := by decide +kernel
theorem dJ2_getChar_3b067_42 : decode cJ2_getChar_3b067 42 = .ok (.getstatic 59, 3) := by decide +kernel
theorem dJ2_getChar_3b067_45 : decode cJ2_getChar_3b067 45 = .ok (.ishl, 1) := by decide +kernel
theorem dJ2_getChar_3b067_46 : decode cJ2_getChar_3b067 46 = .ok (.aload_n 0, 1) := by decide +kernel
theorem dJ2_getChar_3b067_47 : decode cJ2_getChar_3b067 47 = .ok (.iload_n 1, 1) := by decide +kernel
theorem dJ2_getChar_3b067_48 : decode cJ2_getChar_3b067 48 = .ok (.baload, 1) := by decide +kernel
theorem dJ2_getChar_3b067_49 : decode cJ2_getChar_3b067 49 = .ok (.sipush 255, 3) := by decide +kernel
theorem dJ2_getChar_3b067_52 : decode cJ2_getChar_3b067 52 = .ok (.iand, 1) := by decide +kernel
theorem dJ2_getChar_3b067_53 : decode cJ2_getChar_3b067 53 = .ok (.getstatic 63, 3) := by decide +kernel
theorem dJ2_getChar_3b067_56 : decode cJ2_getChar_3b067 56 = .ok (.ishl, 1) := by decide +kernel
theorem dJ2_getChar_3b067_57 : decode cJ2_getChar_3b067 57 = .ok (.ior, 1) := by decide +kernel
theorem dJ2_getChar_3b067_58 : decode cJ2_getChar_3b067 58 = .ok (.i2c, 1) := by decide +kernel
theorem dJ2_getChar_3b067_59 : decode cJ2_getChar_3b067 59 = .ok (.ireturn, 1) := by decide +kernel
theorem dJ2_length_9d52b_0 : decode cJ2_length_9d52b 0 = .ok (.aload_n 0, 1) := by decide +kernel
theorem dJ2_length_9d52b_1 : decode cJ2_length_9d52b 1 = .ok (.arraylength, 1) := by decide +kernel
theorem dJ2_length_9d52b_2 : decode cJ2_length_9d52b 2 = .ok (.iconst 1, 1) := by decide +kernel
theorem dJ2_length_9d52b_3 : decode cJ2_length_9d52b 3 = .ok (.ishr, 1) := by decide +kernel
theorem dJ2_length_9d52b_4 : decode cJ2_length_9d52b 4 = .ok (.ireturn, 1) := by decide +kernel
theorem dJ2_charAt_3b067_0 : decode cJ2_charAt_3b067 0 = .ok (.iload_n 1, 1) := by decide +kernel
theorem dJ2_charAt_3b067_1 : decode cJ2_charAt_3b067 1 = .ok (.aload_n 0, 1) := by decide +kernel
theorem dJ2_charAt_3b067_2 : decode cJ2_charAt_3b067 2 = .ok (.invokestatic 67, 3) := by decide +kernel
theorem dJ2_charAt_3b067_5 : decode cJ2_charAt_3b067 5 = .ok (.aload_n 0, 1) := by decide +kernel
theorem dJ2_charAt_3b067_6 : decode cJ2_charAt_3b067 6 = .ok (.iload_n 1, 1) := by decide +kernel
theorem dJ2_charAt_3b067_7 : decode cJ2_charAt_3b067 7 = .ok (.invokestatic 71, 3) := by decide +kernel
theorem dJ2_charAt_3b067_10 : decode cJ2_charAt_3b067 10 = .ok (.ireturn, 1) := by decide +kernel
theorem dJ2_checkIndex_2214a_0 : decode cJ2_checkIndex_2214a 0 = .ok (.iload_n 0, 1) := by decide +kernel
theorem dJ2_checkIndex_2214a_1 : decode cJ2_checkIndex_2214a 1 = .ok (.aload_n 1, 1) := by decide +kernel
theorem dJ2_checkIndex_2214a_2 : decode cJ2_checkIndex_2214a 2 = .ok (.invokestatic 48, 3) := by decide +kernel
theorem dJ2_checkIndex_2214a_5 : decode cJ2_checkIndex_2214a 5 = .ok (.invokestatic 414, 3) := by decide +kernel
theorem dJ2_checkIndex_2214a_8 : decode cJ2_checkIndex_2214a 8 = .ok (.return_, 1) := by decide +kernel
theorem dJ7_fill_d0a16_0 : decode cJ7_fill_d0a16 0 = .ok (.iconst 0, 1) := by decide +kernel
theorem dJ7_fill_d0a16_1 : decode cJ7_fill_d0a16 1 = .ok (.istore_n 3, 1) := by decide +kernel
theorem dJ7_fill_d0a16_2 : decode cJ7_fill_d0a16 2 = .ok (.aload_n 0, 1) := by decide +kernel
theorem dJ7_fill_d0a16_3 : decode cJ7_fill_d0a16 3 = .ok (.arraylength, 1) := by decide +kernel
theorem dJ7_fill_d0a16_4 : decode cJ7_fill_d0a16 4 = .ok (.istore 4, 2) := by decide +kernel
theorem dJ7_fill_d0a16_6 : decode cJ7_fill_d0a16 6 = .ok (.iload_n 3, 1) := by decide +kernel
theorem dJ7_fill_d0a16_7 : decode cJ7_fill_d0a16 7 = .ok (.iload 4, 2) := by decide +kernel
theorem dJ7_fill_d0a16_9 : decode cJ7_fill_d0a16 9 = .ok (.if_icmp .ge 13, 3) := by decide +kernel
theorem dJ7_fill_d0a16_12 : decode cJ7_fill_d0a16 12 = .ok (.aload_n 0, 1) := by decide +kernel
theorem dJ7_fill_d0a16_13 : decode cJ7_fill_d0a16 13 = .ok (.iload_n 3, 1) := by decide +kernel
theorem dJ7_fill_d0a16_14 : decode cJ7_fill_d0a16 14 = .ok (.lload_n 1, 1) := by decide +kernel
theorem dJ7_fill_d0a16_15 : decode cJ7_fill_d0a16 15 = .ok (.lastore, 1) := by decide +kernel
theorem dJ7_fill_d0a16_16 : decode cJ7_fill_d0a16 16 = .ok (.iinc 3 1, 3) := by decide +kernel
theorem dJ7_fill_d0a16_19 : decode cJ7_fill_d0a16 19 = .ok (.goto (-13), 3) := by decide +kernel
theorem dJ7_fill_d0a16_22 : decode cJ7_fill_d0a16 22 = .ok (.return_, 1) := by decide +kernel
theorem dJ7_fill_53178_0 : decode cJ7_fill_53178 0 = .ok (.iconst 0, 1) := by decide +kernel
theorem dJ7_fill_53178_1 : decode cJ7_fill_53178 1 = .ok (.istore_n 2, 1) := by decide +kernel
theorem dJ7_fill_53178_2 : decode cJ7_fill_53178 2 = .ok (.aload_n 0, 1) := by decide +kernel
theorem dJ7_fill_53178_3 : decode cJ7_fill_53178 3 = .ok (.arraylength, 1) := by decide +kernel
theorem dJ7_fill_53178_4 : decode cJ7_fill_53178 4 = .ok (.istore_n 3, 1) := by decide +kernel
theorem dJ7_fill_53178_5 : decode cJ7_fill_53178 5 = .ok (.iload_n 2, 1) := by decide +kernel
theorem dJ7_fill_53178_6 : decode cJ7_fill_53178 6 = .ok (.iload_n 3, 1) := by decide +kernel
theorem dJ7_fill_53178_7 : decode cJ7_fill_53178 7 = .ok (.if_icmp .ge 13, 3) := by decide +kernel
theorem dJ7_fill_53178_10 : decode cJ7_fill_53178 10 = .ok (.aload_n 0, 1) := by decide +kernel
theorem dJ7_fill_53178_11 : decode cJ7_fill_53178 11 = .ok (.iload_n 2, 1) := by decide +kernel
theorem dJ7_fill_53178_12 : decode cJ7_fill_53178 12 = .ok (.iload_n 1, 1) := by decide +kernel
theorem dJ7_fill_53178_13 : decode cJ7_fill_53178 13 = .ok (.iastore, 1) := by decide +kernel
theorem dJ7_fill_53178_14 : decode cJ7_fill_53178 14 = .ok (.iinc 2 1, 3) := by decide +kernel
theorem dJ7_fill_53178_17 : decode cJ7_fill_53178 17 = .ok (.goto (-12), 3) := by decide +kernel
theorem dJ7_fill_53178_20 : decode cJ7_fill_53178 20 = .ok (.return_, 1) := by decide +kernel
theorem dJ3_checkIndex_8e157_0 : decode cJ3_checkIndex_8e157 0 = .ok (.iload_n 0, 1) := by decide +kernel
theorem dJ3_checkIndex_8e157_1 : decode cJ3_checkIndex_8e157 1 = .ok (.ifCond .lt 8, 3) := by decide +kernel
theorem dJ3_checkIndex_8e157_4 : decode cJ3_checkIndex_8e157 4 = .ok (.iload_n 0, 1) := by decide +kernel
theorem dJ3_checkIndex_8e157_5 : decode cJ3_checkIndex_8e157 5 = .ok (.iload_n 1, 1) := by decide +kernel
theorem dJ3_checkIndex_8e157_6 : decode cJ3_checkIndex_8e157 6 = .ok (.if_icmp .lt 10, 3) := by decide +kernel
theorem dJ3_checkIndex_8e157_9 : decode cJ3_checkIndex_8e157 9 = .ok (.aload_n 2, 1) := by decide +kernel
theorem dJ3_checkIndex_8e157_10 : decode cJ3_checkIndex_8e157 10 = .ok (.iload_n 0, 1) := by decide +kernel
theorem dJ3_checkIndex_8e157_11 : decode cJ3_checkIndex_8e157 11 = .ok (.iload_n 1, 1) := by decide +kernel
theorem dJ3_checkIndex_8e157_12 : decode cJ3_checkIndex_8e157 12 = .ok (.invokestatic 95, 3) := by decide +kernel
theorem dJ3_checkIndex_8e157_15 : decode cJ3_checkIndex_8e157 15 = .ok (.athrow, 1) := by decide +kernel
theorem dJ3_checkIndex_8e157_16 : decode cJ3_checkIndex_8e157 16 = .ok (.iload_n 0, 1) := by decide +kernel
theorem dJ3_checkIndex_8e157_17 : decode cJ3_checkIndex_8e157 17 = .ok (.ireturn, 1) := by decide +kernel
theorem dL_feed_0 : decode cL_feed 0 = .ok (.aload 6, 2) := by decide +kernel
theorem dL_feed_2 : decode cL_feed 2 = .ok (.iconst 0, 1) := by decide +kernel
theorem dL_feed_3 : decode cL_feed 3 = .ok (.aload_n 0, 1) := by decide +kernel
theorem dL_feed_4 : decode cL_feed 4 = .ok (.iload_n 1, 1) := by decide +kernel
theorem dL_feed_5 : decode cL_feed 5 = .ok (.iload_n 2, 1) := by decide +kernel
theorem dL_feed_6 : decode cL_feed 6 = .ok (.iload_n 3, 1) := by decide +kernel
theorem dL_feed_7 : decode cL_feed 7 = .ok (.iload 4, 2) := by decide +kernel
theorem dL_feed_9 : decode cL_feed 9 = .ok (.iload 5, 2) := by decide +kernel
theorem dL_feed_11 : decode cL_feed 11 = .ok (.invokevirtual 7, 3) := by decide +kernel
theorem dL_feed_14 : decode cL_feed 14 = .ok (.i2l, 1) := by decide +kernel
theorem dL_feed_15 : decode cL_feed 15 = .ok (.lastore, 1) := by decide +kernel
theorem dL_feed_16 : decode cL_feed 16 = .ok (.goto 7, 3) := by decide +kernel
theorem dL_feed_19 : decode cL_feed 19 = .ok (.astore 7, 2) := by decide +kernel
theorem dL_feed_21 : decode cL_feed 21 = .ok (.iconst 1, 1) := by decide +kernel
theorem dL_feed_22 : decode cL_feed 22 = .ok (.ireturn, 1) := by decide +kernel
theorem dL_feed_23 : decode cL_feed 23 = .ok (.iconst 0, 1) := by decide +kernel
theorem dL_feed_24 : decode cL_feed 24 = .ok (.ireturn, 1) := by decide +kernel
theorem dL_end_0 : decode cL_end 0 = .ok (.aload_n 2, 1) := by decide +kernel
theorem dL_end_1 : decode cL_end 1 = .ok (.iconst 0, 1) := by decide +kernel
theorem dL_end_2 : decode cL_end 2 = .ok (.aload_n 0, 1) := by decide +kernel
theorem dL_end_3 : decode cL_end 3 = .ok (.iload_n 1, 1) := by decide +kernel
theorem dL_end_4 : decode cL_end 4 = .ok (.invokevirtual 15, 3) := by decide +kernel
theorem dL_end_7 : decode cL_end 7 = .ok (.i2l, 1) := by decide +kernel
theorem dL_end_8 : decode cL_end 8 = .ok (.lastore, 1) := by decide +kernel
theorem dL_end_9 : decode cL_end 9 = .ok (.goto 6, 3) := by decide +kernel
theorem dL_end_12 : decode cL_end 12 = .ok (.astore_n 3, 1) := by decide +kernel
theorem dL_end_13 : decode cL_end 13 = .ok (.iconst 1, 1) := by decide +kernel
theorem dL_end_14 : decode cL_end 14 = .ok (.ireturn, 1) := by decide +kernel
theorem dL_end_15 : decode cL_end 15 = .ok (.iconst 0, 1) := by decide +kernel
theorem dL_end_16 : decode cL_end 16 = .ok (.ireturn, 1) := by decide +kernel
theorem dL_linkage_0 : decode cL_linkage 0 = .ok (.aload_n 1, 1) := by decide +kernel
theorem dL_linkage_1 : decode cL_linkage 1 = .ok (.iconst 0, 1) := by decide +kernel
theorem dL_linkage_2 : decode cL_linkage 2 = .ok (.aload_n 0, 1) := by decide +kernel
theorem dL_linkage_3 : decode cL_linkage 3 = .ok (.invokevirtual 21, 3) := by decide +kernel
theorem dL_linkage_6 : decode cL_linkage 6 = .ok (.i2l, 1) := by decide +kernel
theorem dL_linkage_7 : decode cL_linkage 7 = .ok (.lastore, 1) := by decide +kernel
theorem dL_linkage_8 : decode cL_linkage 8 = .ok (.goto 6, 3) := by decide +kernel
theorem dL_linkage_11 : decode cL_linkage 11 = .ok (.astore_n 2, 1) := by decide +kernel
theorem dL_linkage_12 : decode cL_linkage 12 = .ok (.iconst 1, 1) := by decide +kernel
theorem dL_linkage_13 : decode cL_linkage 13 = .ok (.ireturn, 1) := by decide +kernel
theorem dL_linkage_14 : decode cL_linkage 14 = .ok (.iconst 0, 1) := by decide +kernel
theorem dL_linkage_15 : decode cL_linkage 15 = .ok (.ireturn, 1) := by decide +kernel
theorem dL_input_0 : decode cL_input 0 = .ok (.aload_n 0, 1) := by decide +kernel
theorem dL_input_1 : decode cL_input 1 = .ok (.iload_n 1, 1) := by decide +kernel
theorem dL_input_2 : decode cL_input 2 = .ok (.iload_n 2, 1) := by decide +kernel
theorem dL_input_3 : decode cL_input 3 = .ok (.invokevirtual 27, 3) := by decide +kernel
theorem dL_input_6 : decode cL_input 6 = .ok (.goto 6, 3) := by decide +kernel
theorem dL_input_9 : decode cL_input 9 = .ok (.astore_n 3, 1) := by decide +kernel
theorem dL_input_10 : decode cL_input 10 = .ok (.iconst 1, 1) := by decide +kernel
theorem dL_input_11 : decode cL_input 11 = .ok (.ireturn, 1) := by decide +kernel
theorem dL_input_12 : decode cL_input 12 = .ok (.iconst 0, 1) := by decide +kernel
theorem dL_input_13 : decode cL_input 13 = .ok (.ireturn, 1) := by decide +kernel
theorem dL_way_0 : decode cL_way 0 = .ok (.aload_n 3, 1) := by decide +kernel
theorem dL_way_1 : decode cL_way 1 = .ok (.iconst 0, 1) := by decide +kernel
theorem dL_way_2 : decode cL_way 2 = .ok (.aload_n 0, 1) := by decide +kernel
theorem dL_way_3 : decode cL_way 3 = .ok (.iload_n 1, 1) := by decide +kernel
theorem dL_way_4 : decode cL_way 4 = .ok (.iload_n 2, 1) := by decide +kernel
theorem dL_way_5 : decode cL_way 5 = .ok (.invokevirtual 31, 3) := by decide +kernel
theorem dL_way_8 : decode cL_way 8 = .ok (.i2l, 1) := by decide +kernel
theorem dL_way_9 : decode cL_way 9 = .ok (.lastore, 1) := by decide +kernel
theorem dL_way_10 : decode cL_way 10 = .ok (.goto 11, 3) := by decide +kernel
theorem dL_way_13 : decode cL_way 13 = .ok (.astore 4, 2) := by decide +kernel
theorem dL_way_15 : decode cL_way 15 = .ok (.iconst 1, 1) := by decide +kernel
theorem dL_way_16 : decode cL_way 16 = .ok (.ireturn, 1) := by decide +kernel
theorem dL_way_17 : decode cL_way 17 = .ok (.astore 4, 2) := by decide +kernel
theorem dL_way_19 : decode cL_way 19 = .ok (.iconst 2, 1) := by decide +kernel
theorem dL_way_20 : decode cL_way 20 = .ok (.ireturn, 1) := by decide +kernel
theorem dL_way_21 : decode cL_way 21 = .ok (.iconst 0, 1) := by decide +kernel
theorem dL_way_22 : decode cL_way 22 = .ok (.ireturn, 1) := by decide +kernel
theorem dL_at_0 : decode cL_at 0 = .ok (.aload 5, 2) := by decide +kernel
theorem dL_at_2 : decode cL_at 2 = .ok (.iconst 0, 1) := by decide +kernel
theorem dL_at_3 : decode cL_at 3 = .ok (.aload_n 0, 1) := by decide +kernel
theorem dL_at_4 : decode cL_at 4 = .ok (.iload_n 1, 1) := by decide +kernel
theorem dL_at_5 : decode cL_at 5 = .ok (.iload_n 2, 1) := by decide +kernel
theorem dL_at_6 : decode cL_at 6 = .ok (.iload_n 3, 1) := by decide +kernel
theorem dL_at_7 : decode cL_at 7 = .ok (.iload 4, 2) := by decide +kernel
theorem dL_at_9 : decode cL_at 9 = .ok (.invokevirtual 37, 3) := by decide +kernel
theorem dL_at_12 : decode cL_at 12 = .ok (.lastore, 1) := by decide +kernel
theorem dL_at_13 : decode cL_at 13 = .ok (.goto 11, 3) := by decide +kernel
theorem dL_at_16 : decode cL_at 16 = .ok (.astore 6, 2) := by decide +kernel
theorem dL_at_18 : decode cL_at 18 = .ok (.iconst 1, 1) := by decide +kernel
theorem dL_at_19 : decode cL_at 19 = .ok (.ireturn, 1) := by decide +kernel
theorem dL_at_20 : decode cL_at 20 = .ok (.astore 6, 2) := by decide +kernel
theorem dL_at_22 : decode cL_at 22 = .ok (.iconst 2, 1) := by decide +kernel
theorem dL_at_23 : decode cL_at 23 = .ok (.ireturn, 1) := by decide +kernel
theorem dL_at_24 : decode cL_at 24 = .ok (.iconst 0, 1) := by decide +kernel
theorem dL_at_25 : decode cL_at 25 = .ok (.ireturn, 1) := by decide +kernel
theorem dL_step_0 : decode cL_step 0 = .ok (.aload 4, 2) := by decide +kernel
theorem dL_step_2 : decode cL_step 2 = .ok (.iconst 0, 1) := by decide +kernel
theorem dL_step_3 : decode cL_step 3 = .ok (.aload_n 0, 1) := by decide +kernel
theorem dL_step_4 : decode cL_step 4 = .ok (.iload_n 1, 1) := by decide +kernel
theorem dL_step_5 : decode cL_step 5 = .ok (.iload_n 2, 1) := by decide +kernel
theorem dL_step_6 : decode cL_step 6 = .ok (.iload_n 3, 1) := by decide +kernel
theorem dL_step_7 : decode cL_step 7 = .ok (.invokevirtual 41, 3) := by decide +kernel
theorem dL_step_10 : decode cL_step 10 = .ok (.i2l, 1) := by decide +kernel
theorem dL_step_11 : decode cL_step 11 = .ok (.lastore, 1) := by decide +kernel
theorem dL_step_12 : decode cL_step 12 = .ok (.goto 11, 3) := by decide +kernel
theorem dL_step_15 : decode cL_step 15 = .ok (.astore 5, 2) := by decide +kernel
theorem dL_step_17 : decode cL_step 17 = .ok (.iconst 1, 1) := by decide +kernel
theorem dL_step_18 : decode cL_step 18 = .ok (.ireturn, 1) := by decide +kernel
theorem dL_step_19 : decode cL_step 19 = .ok (.astore 5, 2) := by decide +kernel
theorem dL_step_21 : decode cL_step 21 = .ok (.iconst 2, 1) := by decide +kernel
theorem dL_step_22 : decode cL_step 22 = .ok (.ireturn, 1) := by decide +kernel
theorem dL_step_23 : decode cL_step 23 = .ok (.iconst 0, 1) := by decide +kernel
theorem dL_step_24 : decode cL_step 24 = .ok (.ireturn, 1) := by decide +kernel
theorem dL_range_0 : decode cL_range 0 = .ok (.aload 4, 2) := by decide +kernel
theorem dL_range_2 : decode cL_range 2 = .ok (.iconst 0, 1) := by decide +kernel
theorem dL_range_3 : decode cL_range 3 = .ok (.aload_n 0, 1) := by decide +kernel
theorem dL_range_4 : decode cL_range 4 = .ok (.iload_n 1, 1) := by decide +kernel
theorem dL_range_5 : decode cL_range 5 = .ok (.iload_n 2, 1) := by decide +kernel
theorem dL_range_6 : decode cL_range 6 = .ok (.iload_n 3, 1) := by decide +kernel
theorem dL_range_7 : decode cL_range 7 = .ok (.invokevirtual 47, 3) := by decide +kernel
theorem dL_range_10 : decode cL_range 10 = .ok (.i2l, 1) := by decide +kernel
theorem dL_range_11 : decode cL_range 11 = .ok (.lastore, 1) := by decide +kernel
theorem dL_range_12 : decode cL_range 12 = .ok (.goto 7, 3) := by decide +kernel
theorem dL_range_15 : decode cL_range 15 = .ok (.astore 5, 2) := by decide +kernel
theorem dL_range_17 : decode cL_range 17 = .ok (.iconst 1, 1) := by decide +kernel
theorem dL_range_18 : decode cL_range 18 = .ok (.ireturn, 1) := by decide +kernel
theorem dL_range_19 : decode cL_range 19 = .ok (.iconst 0, 1) := by decide +kernel
theorem dL_range_20 : decode cL_range 20 = .ok (.ireturn, 1) := by decide +kernel
theorem dL_spread_0 : decode cL_spread 0 = .ok (.aload 6, 2) := by decide +kernel
theorem dL_spread_2 : decode cL_spread 2 = .ok (.iconst 0, 1) := by decide +kernel
theorem dL_spread_3 : decode cL_spread 3 = .ok (.aload_n 0, 1) := by decide +kernel
theorem dL_spread_4 : decode cL_spread 4 = .ok (.iload_n 1, 1) := by decide +kernel
theorem dL_spread_5 : decode cL_spread 5 = .ok (.iload_n 2, 1) := by decide +kernel
theorem dL_spread_6 : decode cL_spread 6 = .ok (.iload_n 3, 1) := by decide +kernel
theorem dL_spread_7 : decode cL_spread 7 = .ok (.iload 4, 2) := by decide +kernel
theorem dL_spread_9 : decode cL_spread 9 = .ok (.iload 5, 2) := by decide +kernel
theorem dL_spread_11 : decode cL_spread 11 = .ok (.invokevirtual 50, 3) := by decide +kernel
theorem dL_spread_14 : decode cL_spread 14 = .ok (.lastore, 1) := by decide +kernel
theorem dL_spread_15 : decode cL_spread 15 = .ok (.goto 11, 3) := by decide +kernel
theorem dL_spread_18 : decode cL_spread 18 = .ok (.astore 7, 2) := by decide +kernel
theorem dL_spread_20 : decode cL_spread 20 = .ok (.iconst 1, 1) := by decide +kernel
theorem dL_spread_21 : decode cL_spread 21 = .ok (.ireturn, 1) := by decide +kernel
theorem dL_spread_22 : decode cL_spread 22 = .ok (.astore 7, 2) := by decide +kernel
theorem dL_spread_24 : decode cL_spread 24 = .ok (.iconst 2, 1) := by decide +kernel
theorem dL_spread_25 : decode cL_spread 25 = .ok (.ireturn, 1) := by decide +kernel
theorem dL_spread_26 : decode cL_spread 26 = .ok (.iconst 0, 1) := by decide +kernel
theorem dL_spread_27 : decode cL_spread 27 = .ok (.ireturn, 1) := by decide +kernel
theorem dL_least_0 : decode cL_least 0 = .ok (.aload 6, 2) := by decide +kernel
theorem dL_least_2 : decode cL_least 2 = .ok (.iconst 0, 1) := by decide +kernel
theorem dL_least_3 : decode cL_least 3 = .ok (.aload_n 0, 1) := by decide +kernel
theorem dL_least_4 : decode cL_least 4 = .ok (.iload_n 1, 1) := by decide +kernel
theorem dL_least_5 : decode cL_least 5 = .ok (.iload_n 2, 1) := by decide +kernel
theorem dL_least_6 : decode cL_least 6 = .ok (.iload_n 3, 1) := by decide +kernel
theorem dL_least_7 : decode cL_least 7 = .ok (.iload 4, 2) := by decide +kernel
theorem dL_least_9 : decode cL_least 9 = .ok (.iload 5, 2) := by decide +kernel
theorem dL_least_11 : decode cL_least 11 = .ok (.invokevirtual 54, 3) := by decide +kernel
theorem dL_least_14 : decode cL_least 14 = .ok (.lastore, 1) := by decide +kernel
theorem dL_least_15 : decode cL_least 15 = .ok (.goto 11, 3) := by decide +kernel
theorem dL_least_18 : decode cL_least 18 = .ok (.astore 7, 2) := by decide +kernel
theorem dL_least_20 : decode cL_least 20 = .ok (.iconst 1, 1) := by decide +kernel
theorem dL_least_21 : decode cL_least 21 = .ok (.ireturn, 1) := by decide +kernel
theorem dL_least_22 : decode cL_least 22 = .ok (.astore 7, 2) := by decide +kernel
theorem dL_least_24 : decode cL_least 24 = .ok (.iconst 2, 1) := by decide +kernel
theorem dL_least_25 : decode cL_least 25 = .ok (.ireturn, 1) := by decide +kernel
theorem dL_least_26 : decode cL_least 26 = .ok (.iconst 0, 1) := by decide +kernel
theorem dL_least_27 : decode cL_least 27 = .ok (.ireturn, 1) := by decide +kernel
theorem dL_speed_0 : decode cL_speed 0 = .ok (.aload 6, 2) := by decide +kernel
theorem dL_speed_2 : decode cL_speed 2 = .ok (.iconst 0, 1) := by decide +kernel
theorem dL_speed_3 : decode cL_speed 3 = .ok (.aload_n 0, 1) := by decide +kernel
theorem dL_speed_4 : decode cL_speed 4 = .ok (.iload_n 1, 1) := by decide +kernel
theorem dL_speed_5 : decode cL_speed 5 = .ok (.iload_n 2, 1) := by decide +kernel
theorem dL_speed_6 : decode cL_speed 6 = .ok (.iload_n 3, 1) := by decide +kernel
theorem dL_speed_7 : decode cL_speed 7 = .ok (.iload 4, 2) := by decide +kernel
theorem dL_speed_9 : decode cL_speed 9 = .ok (.iload 5, 2) := by decide +kernel
theorem dL_speed_11 : decode cL_speed 11 = .ok (.invokevirtual 57, 3) := by decide +kernel
theorem dL_speed_14 : decode cL_speed 14 = .ok (.lastore, 1) := by decide +kernel
theorem dL_speed_15 : decode cL_speed 15 = .ok (.goto 15, 3) := by decide +kernel
theorem dL_speed_18 : decode cL_speed 18 = .ok (.astore 7, 2) := by decide +kernel
theorem dL_speed_20 : decode cL_speed 20 = .ok (.iconst 1, 1) := by decide +kernel
theorem dL_speed_21 : decode cL_speed 21 = .ok (.ireturn, 1) := by decide +kernel
theorem dL_speed_22 : decode cL_speed 22 = .ok (.astore 7, 2) := by decide +kernel
theorem dL_speed_24 : decode cL_speed 24 = .ok (.iconst 2, 1) := by decide +kernel
theorem dL_speed_25 : decode cL_speed 25 = .ok (.ireturn, 1) := by decide +kernel
theorem dL_speed_26 : decode cL_speed 26 = .ok (.astore 7, 2) := by decide +kernel
theorem dL_speed_28 : decode cL_speed 28 = .ok (.iconst 3, 1) := by decide +kernel
theorem dL_speed_29 : decode cL_speed 29 = .ok (.ireturn, 1) := by decide +kernel
theorem dL_speed_30 : decode cL_speed 30 = .ok (.iconst 0, 1) := by decide +kernel
theorem dL_speed_31 : decode cL_speed 31 = .ok (.ireturn, 1) := by decide +kernel
theorem dL_pole_0 : decode cL_pole 0 = .ok (.aload 7, 2) := by decide +kernel
theorem dL_pole_2 : decode cL_pole 2 = .ok (.iconst 0, 1) := by decide +kernel
theorem dL_pole_3 : decode cL_pole 3 = .ok (.aload_n 0, 1) := by decide +kernel
theorem dL_pole_4 : decode cL_pole 4 = .ok (.iload_n 1, 1) := by decide +kernel
theorem dL_pole_5 : decode cL_pole 5 = .ok (.iload_n 2, 1) := by decide +kernel
theorem dL_pole_6 : decode cL_pole 6 = .ok (.iload_n 3, 1) := by decide +kernel
theorem dL_pole_7 : decode cL_pole 7 = .ok (.iload 4, 2) := by decide +kernel
theorem dL_pole_9 : decode cL_pole 9 = .ok (.iload 5, 2) := by decide +kernel
theorem dL_pole_11 : decode cL_pole 11 = .ok (.iload 6, 2) := by decide +kernel
theorem dL_pole_13 : decode cL_pole 13 = .ok (.invokevirtual 60, 3) := by decide +kernel
theorem dL_pole_16 : decode cL_pole 16 = .ok (.lastore, 1) := by decide +kernel
theorem dL_pole_17 : decode cL_pole 17 = .ok (.goto 15, 3) := by decide +kernel
theorem dL_pole_20 : decode cL_pole 20 = .ok (.astore 8, 2) := by decide +kernel
theorem dL_pole_22 : decode cL_pole 22 = .ok (.iconst 1, 1) := by decide +kernel
theorem dL_pole_23 : decode cL_pole 23 = .ok (.ireturn, 1) := by decide +kernel
theorem dL_pole_24 : decode cL_pole 24 = .ok (.astore 8, 2) := by decide +kernel
theorem dL_pole_26 : decode cL_pole 26 = .ok (.iconst 2, 1) := by decide +kernel
theorem dL_pole_27 : decode cL_pole 27 = .ok (.ireturn, 1) := by decide +kernel
theorem dL_pole_28 : decode cL_pole 28 = .ok (.astore 8, 2) := by decide +kernel
theorem dL_pole_30 : decode cL_pole 30 = .ok (.iconst 3, 1) := by decide +kernel
theorem dL_pole_31 : decode cL_pole 31 = .ok (.ireturn, 1) := by decide +kernel
theorem dL_pole_32 : decode cL_pole 32 = .ok (.iconst 0, 1) := by decide +kernel
theorem dL_pole_33 : decode cL_pole 33 = .ok (.ireturn, 1) := by decide +kernel
theorem dL_load_0 : decode cL_load 0 = .ok (.aload_n 0, 1) := by decide +kernel
theorem dL_load_1 : decode cL_load 1 = .ok (.iload_n 1, 1) := by decide +kernel
theorem dL_load_2 : decode cL_load 2 = .ok (.iload_n 2, 1) := by decide +kernel
theorem dL_load_3 : decode cL_load 3 = .ok (.iload_n 3, 1) := by decide +kernel
theorem dL_load_4 : decode cL_load 4 = .ok (.invokevirtual 64, 3) := by decide +kernel
theorem dL_load_7 : decode cL_load 7 = .ok (.goto 11, 3) := by decide +kernel
theorem dL_load_10 : decode cL_load 10 = .ok (.astore 4, 2) := by decide +kernel
theorem dL_load_12 : decode cL_load 12 = .ok (.iconst 1, 1) := by decide +kernel
theorem dL_load_13 : decode cL_load 13 = .ok (.ireturn, 1) := by decide +kernel
theorem dL_load_14 : decode cL_load 14 = .ok (.astore 4, 2) := by decide +kernel
theorem dL_load_16 : decode cL_load 16 = .ok (.iconst 2, 1) := by decide +kernel
theorem dL_load_17 : decode cL_load 17 = .ok (.ireturn, 1) := by decide +kernel
theorem dL_load_18 : decode cL_load 18 = .ok (.iconst 0, 1) := by decide +kernel
theorem dL_load_19 : decode cL_load 19 = .ok (.ireturn, 1) := by decide +kernel
theorem dL_mass_0 : decode cL_mass 0 = .ok (.aload_n 0, 1) := by decide +kernel
theorem dL_mass_1 : decode cL_mass 1 = .ok (.iload_n 1, 1) := by decide +kernel
theorem dL_mass_2 : decode cL_mass 2 = .ok (.iload_n 2, 1) := by decide +kernel
theorem dL_mass_3 : decode cL_mass 3 = .ok (.invokevirtual 68, 3) := by decide +kernel
theorem dL_mass_6 : decode cL_mass 6 = .ok (.goto 9, 3) := by decide +kernel
theorem dL_mass_9 : decode cL_mass 9 = .ok (.astore_n 3, 1) := by decide +kernel
theorem dL_mass_10 : decode cL_mass 10 = .ok (.iconst 1, 1) := by decide +kernel
theorem dL_mass_11 : decode cL_mass 11 = .ok (.ireturn, 1) := by decide +kernel
theorem dL_mass_12 : decode cL_mass 12 = .ok (.astore_n 3, 1) := by decide +kernel
theorem dL_mass_13 : decode cL_mass 13 = .ok (.iconst 2, 1) := by decide +kernel
theorem dL_mass_14 : decode cL_mass 14 = .ok (.ireturn, 1) := by decide +kernel
theorem dL_mass_15 : decode cL_mass 15 = .ok (.iconst 0, 1) := by decide +kernel
theorem dL_mass_16 : decode cL_mass 16 = .ok (.ireturn, 1) := by decide +kernel
theorem dL_moment_0 : decode cL_moment 0 = .ok (.aload 4, 2) := by decide +kernel
theorem dL_moment_2 : decode cL_moment 2 = .ok (.iconst 0, 1) := by decide +kernel
theorem dL_moment_3 : decode cL_moment 3 = .ok (.aload_n 0, 1) := by decide +kernel
theorem dL_moment_4 : decode cL_moment 4 = .ok (.iload_n 1, 1) := by decide +kernel
theorem dL_moment_5 : decode cL_moment 5 = .ok (.iload_n 2, 1) := by decide +kernel
theorem dL_moment_6 : decode cL_moment 6 = .ok (.iload_n 3, 1) := by decide +kernel
theorem dL_moment_7 : decode cL_moment 7 = .ok (.invokevirtual 71, 3) := by decide +kernel
theorem dL_moment_10 : decode cL_moment 10 = .ok (.lastore, 1) := by decide +kernel
theorem dL_moment_11 : decode cL_moment 11 = .ok (.goto 15, 3) := by decide +kernel
theorem dL_moment_14 : decode cL_moment 14 = .ok (.astore 5, 2) := by decide +kernel
theorem dL_moment_16 : decode cL_moment 16 = .ok (.iconst 1, 1) := by decide +kernel
theorem dL_moment_17 : decode cL_moment 17 = .ok (.ireturn, 1) := by decide +kernel
theorem dL_moment_18 : decode cL_moment 18 = .ok (.astore 5, 2) := by decide +kernel
theorem dL_moment_20 : decode cL_moment 20 = .ok (.iconst 2, 1) := by decide +kernel
theorem dL_moment_21 : decode cL_moment 21 = .ok (.ireturn, 1) := by decide +kernel
theorem dL_moment_22 : decode cL_moment 22 = .ok (.astore 5, 2) := by decide +kernel
theorem dL_moment_24 : decode cL_moment 24 = .ok (.iconst 3, 1) := by decide +kernel
theorem dL_moment_25 : decode cL_moment 25 = .ok (.ireturn, 1) := by decide +kernel
theorem dL_moment_26 : decode cL_moment 26 = .ok (.iconst 0, 1) := by decide +kernel
theorem dL_moment_27 : decode cL_moment 27 = .ok (.ireturn, 1) := by decide +kernel
theorem dL_middle_0 : decode cL_middle 0 = .ok (.aload 4, 2) := by decide +kernel
theorem dL_middle_2 : decode cL_middle 2 = .ok (.iconst 0, 1) := by decide +kernel
theorem dL_middle_3 : decode cL_middle 3 = .ok (.aload_n 0, 1) := by decide +kernel
theorem dL_middle_4 : decode cL_middle 4 = .ok (.iload_n 1, 1) := by decide +kernel
theorem dL_middle_5 : decode cL_middle 5 = .ok (.iload_n 2, 1) := by decide +kernel
theorem dL_middle_6 : decode cL_middle 6 = .ok (.iload_n 3, 1) := by decide +kernel
theorem dL_middle_7 : decode cL_middle 7 = .ok (.invokevirtual 75, 3) := by decide +kernel
theorem dL_middle_10 : decode cL_middle 10 = .ok (.lastore, 1) := by decide +kernel
theorem dL_middle_11 : decode cL_middle 11 = .ok (.goto 15, 3) := by decide +kernel
theorem dL_middle_14 : decode cL_middle 14 = .ok (.astore 5, 2) := by decide +kernel
theorem dL_middle_16 : decode cL_middle 16 = .ok (.iconst 1, 1) := by decide +kernel
theorem dL_middle_17 : decode cL_middle 17 = .ok (.ireturn, 1) := by decide +kernel
theorem dL_middle_18 : decode cL_middle 18 = .ok (.astore 5, 2) := by decide +kernel
theorem dL_middle_20 : decode cL_middle 20 = .ok (.iconst 2, 1) := by decide +kernel
theorem dL_middle_21 : decode cL_middle 21 = .ok (.ireturn, 1) := by decide +kernel
theorem dL_middle_22 : decode cL_middle 22 = .ok (.astore 5, 2) := by decide +kernel
theorem dL_middle_24 : decode cL_middle 24 = .ok (.iconst 3, 1) := by decide +kernel
theorem dL_middle_25 : decode cL_middle 25 = .ok (.ireturn, 1) := by decide +kernel
theorem dL_middle_26 : decode cL_middle 26 = .ok (.iconst 0, 1) := by decide +kernel
theorem dL_middle_27 : decode cL_middle 27 = .ok (.ireturn, 1) := by decide +kernel
theorem dL_gear_0 : decode cL_gear 0 = .ok (.aload_n 3, 1) := by decide +kernel
theorem dL_gear_1 : decode cL_gear 1 = .ok (.iconst 0, 1) := by decide +kernel
theorem dL_gear_2 : decode cL_gear 2 = .ok (.aload_n 0, 1) := by decide +kernel
theorem dL_gear_3 : decode cL_gear 3 = .ok (.iload_n 1, 1) := by decide +kernel
theorem dL_gear_4 : decode cL_gear 4 = .ok (.iload_n 2, 1) := by decide +kernel
theorem dL_gear_5 : decode cL_gear 5 = .ok (.invokevirtual 78, 3) := by decide +kernel
theorem dL_gear_8 : decode cL_gear 8 = .ok (.i2l, 1) := by decide +kernel
theorem dL_gear_9 : decode cL_gear 9 = .ok (.lastore, 1) := by decide +kernel
theorem dL_gear_10 : decode cL_gear 10 = .ok (.goto 11, 3) := by decide +kernel
theorem dL_gear_13 : decode cL_gear 13 = .ok (.astore 4, 2) := by decide +kernel
theorem dL_gear_15 : decode cL_gear 15 = .ok (.iconst 1, 1) := by decide +kernel
theorem dL_gear_16 : decode cL_gear 16 = .ok (.ireturn, 1) := by decide +kernel
theorem dL_gear_17 : decode cL_gear 17 = .ok (.astore 4, 2) := by decide +kernel
theorem dL_gear_19 : decode cL_gear 19 = .ok (.iconst 2, 1) := by decide +kernel
theorem dL_gear_20 : decode cL_gear 20 = .ok (.ireturn, 1) := by decide +kernel
theorem dL_gear_21 : decode cL_gear 21 = .ok (.iconst 0, 1) := by decide +kernel
theorem dL_gear_22 : decode cL_gear 22 = .ok (.ireturn, 1) := by decide +kernel
theorem dL_mesh_0 : decode cL_mesh 0 = .ok (.aload 5, 2) := by decide +kernel
theorem dL_mesh_2 : decode cL_mesh 2 = .ok (.iconst 0, 1) := by decide +kernel
theorem dL_mesh_3 : decode cL_mesh 3 = .ok (.aload_n 0, 1) := by decide +kernel
theorem dL_mesh_4 : decode cL_mesh 4 = .ok (.iload_n 1, 1) := by decide +kernel
theorem dL_mesh_5 : decode cL_mesh 5 = .ok (.iload_n 2, 1) := by decide +kernel
theorem dL_mesh_6 : decode cL_mesh 6 = .ok (.iload_n 3, 1) := by decide +kernel
theorem dL_mesh_7 : decode cL_mesh 7 = .ok (.iload 4, 2) := by decide +kernel
theorem dL_mesh_9 : decode cL_mesh 9 = .ok (.invokevirtual 81, 3) := by decide +kernel
theorem dL_mesh_12 : decode cL_mesh 12 = .ok (.i2l, 1) := by decide +kernel
theorem dL_mesh_13 : decode cL_mesh 13 = .ok (.lastore, 1) := by decide +kernel
theorem dL_mesh_14 : decode cL_mesh 14 = .ok (.goto 19, 3) := by decide +kernel
theorem dL_mesh_17 : decode cL_mesh 17 = .ok (.astore 6, 2) := by decide +kernel
theorem dL_mesh_19 : decode cL_mesh 19 = .ok (.iconst 1, 1) := by decide +kernel
theorem dL_mesh_20 : decode cL_mesh 20 = .ok (.ireturn, 1) := by decide +kernel
theorem dL_mesh_21 : decode cL_mesh 21 = .ok (.astore 6, 2) := by decide +kernel
theorem dL_mesh_23 : decode cL_mesh 23 = .ok (.iconst 2, 1) := by decide +kernel
theorem dL_mesh_24 : decode cL_mesh 24 = .ok (.ireturn, 1) := by decide +kernel
theorem dL_mesh_25 : decode cL_mesh 25 = .ok (.astore 6, 2) := by decide +kernel
theorem dL_mesh_27 : decode cL_mesh 27 = .ok (.iconst 3, 1) := by decide +kernel
theorem dL_mesh_28 : decode cL_mesh 28 = .ok (.ireturn, 1) := by decide +kernel
theorem dL_mesh_29 : decode cL_mesh 29 = .ok (.astore 6, 2) := by decide +kernel
theorem dL_mesh_31 : decode cL_mesh 31 = .ok (.iconst 4, 1) := by decide +kernel
theorem dL_mesh_32 : decode cL_mesh 32 = .ok (.ireturn, 1) := by decide +kernel
theorem dL_mesh_33 : decode cL_mesh 33 = .ok (.iconst 0, 1) := by decide +kernel
theorem dL_mesh_34 : decode cL_mesh 34 = .ok (.ireturn, 1) := by decide +kernel
theorem dL_shaft_0 : decode cL_shaft 0 = .ok (.aload_n 0, 1) := by decide +kernel
theorem dL_shaft_1 : decode cL_shaft 1 = .ok (.iload_n 1, 1) := by decide +kernel
theorem dL_shaft_2 : decode cL_shaft 2 = .ok (.iload_n 2, 1) := by decide +kernel
theorem dL_shaft_3 : decode cL_shaft 3 = .ok (.iload_n 3, 1) := by decide +kernel
theorem dL_shaft_4 : decode cL_shaft 4 = .ok (.iload 4, 2) := by decide +kernel
theorem dL_shaft_6 : decode cL_shaft 6 = .ok (.invokevirtual 85, 3) := by decide +kernel
theorem dL_shaft_9 : decode cL_shaft 9 = .ok (.goto 7, 3) := by decide +kernel
theorem dL_shaft_12 : decode cL_shaft 12 = .ok (.astore 5, 2) := by decide +kernel
theorem dL_shaft_14 : decode cL_shaft 14 = .ok (.iconst 1, 1) := by decide +kernel
theorem dL_shaft_15 : decode cL_shaft 15 = .ok (.ireturn, 1) := by decide +kernel
theorem dL_shaft_16 : decode cL_shaft 16 = .ok (.iconst 0, 1) := by decide +kernel
theorem dL_shaft_17 : decode cL_shaft 17 = .ok (.ireturn, 1) := by decide +kernel
theorem dL_turns_0 : decode cL_turns 0 = .ok (.aload_n 3, 1) := by decide +kernel
theorem dL_turns_1 : decode cL_turns 1 = .ok (.iconst 0, 1) := by decide +kernel
theorem dL_turns_2 : decode cL_turns 2 = .ok (.aload_n 0, 1) := by decide +kernel
theorem dL_turns_3 : decode cL_turns 3 = .ok (.iload_n 1, 1) := by decide +kernel
theorem dL_turns_4 : decode cL_turns 4 = .ok (.iload_n 2, 1) := by decide +kernel
theorem dL_turns_5 : decode cL_turns 5 = .ok (.invokevirtual 89, 3) := by decide +kernel
theorem dL_turns_8 : decode cL_turns 8 = .ok (.lastore, 1) := by decide +kernel
theorem dL_turns_9 : decode cL_turns 9 = .ok (.goto 15, 3) := by decide +kernel
theorem dL_turns_12 : decode cL_turns 12 = .ok (.astore 4, 2) := by decide +kernel
theorem dL_turns_14 : decode cL_turns 14 = .ok (.iconst 1, 1) := by decide +kernel
theorem dL_turns_15 : decode cL_turns 15 = .ok (.ireturn, 1) := by decide +kernel
theorem dL_turns_16 : decode cL_turns 16 = .ok (.astore 4, 2) := by decide +kernel
theorem dL_turns_18 : decode cL_turns 18 = .ok (.iconst 2, 1) := by decide +kernel
theorem dL_turns_19 : decode cL_turns 19 = .ok (.ireturn, 1) := by decide +kernel
theorem dL_turns_20 : decode cL_turns 20 = .ok (.astore 4, 2) := by decide +kernel
theorem dL_turns_22 : decode cL_turns 22 = .ok (.iconst 3, 1) := by decide +kernel
theorem dL_turns_23 : decode cL_turns 23 = .ok (.ireturn, 1) := by decide +kernel
theorem dL_turns_24 : decode cL_turns 24 = .ok (.iconst 0, 1) := by decide +kernel
theorem dL_turns_25 : decode cL_turns 25 = .ok (.ireturn, 1) := by decide +kernel
theorem dL_interference_0 : decode cL_interference 0 = .ok (.aload 4, 2) := by decide +kernel
theorem dL_interference_2 : decode cL_interference 2 = .ok (.iconst 0, 1) := by decide +kernel
theorem dL_interference_3 : decode cL_interference 3 = .ok (.aload_n 0, 1) := by decide +kernel
theorem dL_interference_4 : decode cL_interference 4 = .ok (.iload_n 1, 1) := by decide +kernel
theorem dL_interference_5 : decode cL_interference 5 = .ok (.iload_n 2, 1) := by decide +kernel
theorem dL_interference_6 : decode cL_interference 6 = .ok (.iload_n 3, 1) := by decide +kernel
theorem dL_interference_7 : decode cL_interference 7 = .ok (.invokevirtual 93, 3) := by decide +kernel
theorem dL_interference_10 : decode cL_interference 10 = .ok (.i2l, 1) := by decide +kernel
theorem dL_interference_11 : decode cL_interference 11 = .ok (.lastore, 1) := by decide +kernel
theorem dL_interference_12 : decode cL_interference 12 = .ok (.goto 7, 3) := by decide +kernel
theorem dL_interference_15 : decode cL_interference 15 = .ok (.astore 5, 2) := by decide +kernel
theorem dL_interference_17 : decode cL_interference 17 = .ok (.iconst 1, 1) := by decide +kernel
theorem dL_interference_18 : decode cL_interference 18 = .ok (.ireturn, 1) := by decide +kernel
theorem dL_interference_19 : decode cL_interference 19 = .ok (.iconst 0, 1) := by decide +kernel
theorem dL_interference_20 : decode cL_interference 20 = .ok (.ireturn, 1) := by decide +kernel
theorem dL_trains_0 : decode cL_trains 0 = .ok (.aload 5, 2) := by decide +kernel
theorem dL_trains_2 : decode cL_trains 2 = .ok (.iconst 0, 1) := by decide +kernel
theorem dL_trains_3 : decode cL_trains 3 = .ok (.aload_n 0, 1) := by decide +kernel
theorem dL_trains_4 : decode cL_trains 4 = .ok (.iload_n 1, 1) := by decide +kernel
theorem dL_trains_5 : decode cL_trains 5 = .ok (.iload_n 2, 1) := by decide +kernel
theorem dL_trains_6 : decode cL_trains 6 = .ok (.iload_n 3, 1) := by decide +kernel
theorem dL_trains_7 : decode cL_trains 7 = .ok (.iload 4, 2) := by decide +kernel
theorem dL_trains_9 : decode cL_trains 9 = .ok (.invokevirtual 97, 3) := by decide +kernel
theorem dL_trains_12 : decode cL_trains 12 = .ok (.i2l, 1) := by decide +kernel
theorem dL_trains_13 : decode cL_trains 13 = .ok (.lastore, 1) := by decide +kernel
theorem dL_trains_14 : decode cL_trains 14 = .ok (.goto 7, 3) := by decide +kernel
theorem dL_trains_17 : decode cL_trains 17 = .ok (.astore 6, 2) := by decide +kernel
theorem dL_trains_19 : decode cL_trains 19 = .ok (.iconst 1, 1) := by decide +kernel
theorem dL_trains_20 : decode cL_trains 20 = .ok (.ireturn, 1) := by decide +kernel
theorem dL_trains_21 : decode cL_trains 21 = .ok (.iconst 0, 1) := by decide +kernel
theorem dL_trains_22 : decode cL_trains 22 = .ok (.ireturn, 1) := by decide +kernel
theorem dL_train_0 : decode cL_train 0 = .ok (.aload_n 3, 1) := by decide +kernel
theorem dL_train_1 : decode cL_train 1 = .ok (.iconst 0, 1) := by decide +kernel
theorem dL_train_2 : decode cL_train 2 = .ok (.aload_n 0, 1) := by decide +kernel
theorem dL_train_3 : decode cL_train 3 = .ok (.iload_n 1, 1) := by decide +kernel
theorem dL_train_4 : decode cL_train 4 = .ok (.iload_n 2, 1) := by decide +kernel
theorem dL_train_5 : decode cL_train 5 = .ok (.invokevirtual 101, 3) := by decide +kernel
theorem dL_train_8 : decode cL_train 8 = .ok (.i2l, 1) := by decide +kernel
theorem dL_train_9 : decode cL_train 9 = .ok (.lastore, 1) := by decide +kernel
theorem dL_train_10 : decode cL_train 10 = .ok (.goto 11, 3) := by decide +kernel
theorem dL_train_13 : decode cL_train 13 = .ok (.astore 4, 2) := by decide +kernel
theorem dL_train_15 : decode cL_train 15 = .ok (.iconst 1, 1) := by decide +kernel
theorem dL_train_16 : decode cL_train 16 = .ok (.ireturn, 1) := by decide +kernel
theorem dL_train_17 : decode cL_train 17 = .ok (.astore 4, 2) := by decide +kernel
theorem dL_train_19 : decode cL_train 19 = .ok (.iconst 2, 1) := by decide +kernel
theorem dL_train_20 : decode cL_train 20 = .ok (.ireturn, 1) := by decide +kernel
theorem dL_train_21 : decode cL_train 21 = .ok (.iconst 0, 1) := by decide +kernel
theorem dL_train_22 : decode cL_train 22 = .ok (.ireturn, 1) := by decide +kernel
theorem dL_cam_0 : decode cL_cam 0 = .ok (.aload_n 1, 1) := by decide +kernel
theorem dL_cam_1 : decode cL_cam 1 = .ok (.iconst 0, 1) := by decide +kernel
theorem dL_cam_2 : decode cL_cam 2 = .ok (.aload_n 0, 1) := by decide +kernel
theorem dL_cam_3 : decode cL_cam 3 = .ok (.invokevirtual 104, 3) := by decide +kernel
theorem dL_cam_6 : decode cL_cam 6 = .ok (.i2l, 1) := by decide +kernel
theorem dL_cam_7 : decode cL_cam 7 = .ok (.lastore, 1) := by decide +kernel
theorem dL_cam_8 : decode cL_cam 8 = .ok (.goto 6, 3) := by decide +kernel
theorem dL_cam_11 : decode cL_cam 11 = .ok (.astore_n 2, 1) := by decide +kernel
theorem dL_cam_12 : decode cL_cam 12 = .ok (.iconst 1, 1) := by decide +kernel
theorem dL_cam_13 : decode cL_cam 13 = .ok (.ireturn, 1) := by decide +kernel
theorem dL_cam_14 : decode cL_cam 14 = .ok (.iconst 0, 1) := by decide +kernel
theorem dL_cam_15 : decode cL_cam 15 = .ok (.ireturn, 1) := by decide +kernel
theorem dL_lift_0 : decode cL_lift 0 = .ok (.aload 4, 2) := by decide +kernel
theorem dL_lift_2 : decode cL_lift 2 = .ok (.iconst 0, 1) := by decide +kernel
theorem dL_lift_3 : decode cL_lift 3 = .ok (.aload_n 0, 1) := by decide +kernel
theorem dL_lift_4 : decode cL_lift 4 = .ok (.iload_n 1, 1) := by decide +kernel
theorem dL_lift_5 : decode cL_lift 5 = .ok (.iload_n 2, 1) := by decide +kernel
theorem dL_lift_6 : decode cL_lift 6 = .ok (.iload_n 3, 1) := by decide +kernel
theorem dL_lift_7 : decode cL_lift 7 = .ok (.invokevirtual 107, 3) := by decide +kernel
theorem dL_lift_10 : decode cL_lift 10 = .ok (.lastore, 1) := by decide +kernel
theorem dL_lift_11 : decode cL_lift 11 = .ok (.goto 15, 3) := by decide +kernel
theorem dL_lift_14 : decode cL_lift 14 = .ok (.astore 5, 2) := by decide +kernel
theorem dL_lift_16 : decode cL_lift 16 = .ok (.iconst 1, 1) := by decide +kernel
theorem dL_lift_17 : decode cL_lift 17 = .ok (.ireturn, 1) := by decide +kernel
theorem dL_lift_18 : decode cL_lift 18 = .ok (.astore 5, 2) := by decide +kernel
theorem dL_lift_20 : decode cL_lift 20 = .ok (.iconst 2, 1) := by decide +kernel
theorem dL_lift_21 : decode cL_lift 21 = .ok (.ireturn, 1) := by decide +kernel
theorem dL_lift_22 : decode cL_lift 22 = .ok (.astore 5, 2) := by decide +kernel
theorem dL_lift_24 : decode cL_lift 24 = .ok (.iconst 3, 1) := by decide +kernel
theorem dL_lift_25 : decode cL_lift 25 = .ok (.ireturn, 1) := by decide +kernel
theorem dL_lift_26 : decode cL_lift 26 = .ok (.iconst 0, 1) := by decide +kernel
theorem dL_lift_27 : decode cL_lift 27 = .ok (.ireturn, 1) := by decide +kernel
theorem dL_camAbout_0 : decode cL_camAbout 0 = .ok (.aload_n 2, 1) := by decide +kernel
theorem dL_camAbout_1 : decode cL_camAbout 1 = .ok (.iconst 0, 1) := by decide +kernel
theorem dL_camAbout_2 : decode cL_camAbout 2 = .ok (.aload_n 0, 1) := by decide +kernel
theorem dL_camAbout_3 : decode cL_camAbout 3 = .ok (.iload_n 1, 1) := by decide +kernel
theorem dL_camAbout_4 : decode cL_camAbout 4 = .ok (.invokevirtual 110, 3) := by decide +kernel
theorem dL_camAbout_7 : decode cL_camAbout 7 = .ok (.lastore, 1) := by decide +kernel
theorem dL_camAbout_8 : decode cL_camAbout 8 = .ok (.goto 9, 3) := by decide +kernel
theorem dL_camAbout_11 : decode cL_camAbout 11 = .ok (.astore_n 3, 1) := by decide +kernel
theorem dL_camAbout_12 : decode cL_camAbout 12 = .ok (.iconst 1, 1) := by decide +kernel
theorem dL_camAbout_13 : decode cL_camAbout 13 = .ok (.ireturn, 1) := by decide +kernel
theorem dL_camAbout_14 : decode cL_camAbout 14 = .ok (.astore_n 3, 1) := by decide +kernel
theorem dL_camAbout_15 : decode cL_camAbout 15 = .ok (.iconst 2, 1) := by decide +kernel
theorem dL_camAbout_16 : decode cL_camAbout 16 = .ok (.ireturn, 1) := by decide +kernel
theorem dL_camAbout_17 : decode cL_camAbout 17 = .ok (.iconst 0, 1) := by decide +kernel
theorem dL_camAbout_18 : decode cL_camAbout 18 = .ok (.ireturn, 1) := by decide +kernel
theorem dL_corner_0 : decode cL_corner 0 = .ok (.aload 4, 2) := by decide +kernel
theorem dL_corner_2 : decode cL_corner 2 = .ok (.iconst 0, 1) := by decide +kernel
theorem dL_corner_3 : decode cL_corner 3 = .ok (.aload_n 0, 1) := by decide +kernel
theorem dL_corner_4 : decode cL_corner 4 = .ok (.iload_n 1, 1) := by decide +kernel
theorem dL_corner_5 : decode cL_corner 5 = .ok (.iload_n 2, 1) := by decide +kernel
theorem dL_corner_6 : decode cL_corner 6 = .ok (.iload_n 3, 1) := by decide +kernel
theorem dL_corner_7 : decode cL_corner 7 = .ok (.invokevirtual 114, 3) := by decide +kernel
theorem dL_corner_10 : decode cL_corner 10 = .ok (.i2l, 1) := by decide +kernel
theorem dL_corner_11 : decode cL_corner 11 = .ok (.lastore, 1) := by decide +kernel
theorem dL_corner_12 : decode cL_corner 12 = .ok (.goto 11, 3) := by decide +kernel
theorem dL_corner_15 : decode cL_corner 15 = .ok (.astore 5, 2) := by decide +kernel
theorem dL_corner_17 : decode cL_corner 17 = .ok (.iconst 1, 1) := by decide +kernel
theorem dL_corner_18 : decode cL_corner 18 = .ok (.ireturn, 1) := by decide +kernel
theorem dL_corner_19 : decode cL_corner 19 = .ok (.astore 5, 2) := by decide +kernel
theorem dL_corner_21 : decode cL_corner 21 = .ok (.iconst 2, 1) := by decide +kernel
theorem dL_corner_22 : decode cL_corner 22 = .ok (.ireturn, 1) := by decide +kernel
theorem dL_corner_23 : decode cL_corner 23 = .ok (.iconst 0, 1) := by decide +kernel
theorem dL_corner_24 : decode cL_corner 24 = .ok (.ireturn, 1) := by decide +kernel
theorem dL_empty_0 : decode cL_empty 0 = .ok (.aload_n 0, 1) := by decide +kernel
theorem dL_empty_1 : decode cL_empty 1 = .ok (.iload_n 1, 1) := by decide +kernel
theorem dL_empty_2 : decode cL_empty 2 = .ok (.invokevirtual 117, 3) := by decide +kernel
theorem dL_empty_5 : decode cL_empty 5 = .ok (.goto 6, 3) := by decide +kernel
theorem dL_empty_8 : decode cL_empty 8 = .ok (.astore_n 2, 1) := by decide +kernel
theorem dL_empty_9 : decode cL_empty 9 = .ok (.iconst 1, 1) := by decide +kernel
theorem dL_empty_10 : decode cL_empty 10 = .ok (.ireturn, 1) := by decide +kernel
theorem dL_empty_11 : decode cL_empty 11 = .ok (.iconst 0, 1) := by decide +kernel
theorem dL_empty_12 : decode cL_empty 12 = .ok (.ireturn, 1) := by decide +kernel
theorem dL_plate_0 : decode cL_plate 0 = .ok (.aload_n 3, 1) := by decide +kernel
theorem dL_plate_1 : decode cL_plate 1 = .ok (.iconst 0, 1) := by decide +kernel
theorem dL_plate_2 : decode cL_plate 2 = .ok (.aload_n 0, 1) := by decide +kernel
theorem dL_plate_3 : decode cL_plate 3 = .ok (.iload_n 1, 1) := by decide +kernel
theorem dL_plate_4 : decode cL_plate 4 = .ok (.iload_n 2, 1) := by decide +kernel
theorem dL_plate_5 : decode cL_plate 5 = .ok (.invokevirtual 121, 3) := by decide +kernel
theorem dL_plate_8 : decode cL_plate 8 = .ok (.lastore, 1) := by decide +kernel
theorem dL_plate_9 : decode cL_plate 9 = .ok (.goto 11, 3) := by decide +kernel
theorem dL_plate_12 : decode cL_plate 12 = .ok (.astore 4, 2) := by decide +kernel
theorem dL_plate_14 : decode cL_plate 14 = .ok (.iconst 1, 1) := by decide +kernel
theorem dL_plate_15 : decode cL_plate 15 = .ok (.ireturn, 1) := by decide +kernel
theorem dL_plate_16 : decode cL_plate 16 = .ok (.astore 4, 2) := by decide +kernel
theorem dL_plate_18 : decode cL_plate 18 = .ok (.iconst 2, 1) := by decide +kernel
theorem dL_plate_19 : decode cL_plate 19 = .ok (.ireturn, 1) := by decide +kernel
theorem dL_plate_20 : decode cL_plate 20 = .ok (.iconst 0, 1) := by decide +kernel
theorem dL_plate_21 : decode cL_plate 21 = .ok (.ireturn, 1) := by decide +kernel
theorem dL_inside_0 : decode cL_inside 0 = .ok (.aload 4, 2) := by decide +kernel
theorem dL_inside_2 : decode cL_inside 2 = .ok (.iconst 0, 1) := by decide +kernel
theorem dL_inside_3 : decode cL_inside 3 = .ok (.aload_n 0, 1) := by decide +kernel
theorem dL_inside_4 : decode cL_inside 4 = .ok (.iload_n 1, 1) := by decide +kernel
theorem dL_inside_5 : decode cL_inside 5 = .ok (.iload_n 2, 1) := by decide +kernel
theorem dL_inside_6 : decode cL_inside 6 = .ok (.iload_n 3, 1) := by decide +kernel
theorem dL_inside_7 : decode cL_inside 7 = .ok (.invokevirtual 124, 3) := by decide +kernel
theorem dL_inside_10 : decode cL_inside 10 = .ok (.i2l, 1) := by decide +kernel
theorem dL_inside_11 : decode cL_inside 11 = .ok (.lastore, 1) := by decide +kernel
theorem dL_inside_12 : decode cL_inside 12 = .ok (.goto 11, 3) := by decide +kernel
theorem dL_inside_15 : decode cL_inside 15 = .ok (.astore 5, 2) := by decide +kernel
theorem dL_inside_17 : decode cL_inside 17 = .ok (.iconst 1, 1) := by decide +kernel
theorem dL_inside_18 : decode cL_inside 18 = .ok (.ireturn, 1) := by decide +kernel
theorem dL_inside_19 : decode cL_inside 19 = .ok (.astore 5, 2) := by decide +kernel
theorem dL_inside_21 : decode cL_inside 21 = .ok (.iconst 2, 1) := by decide +kernel
theorem dL_inside_22 : decode cL_inside 22 = .ok (.ireturn, 1) := by decide +kernel
theorem dL_inside_23 : decode cL_inside 23 = .ok (.iconst 0, 1) := by decide +kernel
theorem dL_inside_24 : decode cL_inside 24 = .ok (.ireturn, 1) := by decide +kernel
theorem dL_distance_0 : decode cL_distance 0 = .ok (.aload 4, 2) := by decide +kernel
theorem dL_distance_2 : decode cL_distance 2 = .ok (.iconst 0, 1) := by decide +kernel
theorem dL_distance_3 : decode cL_distance 3 = .ok (.aload_n 0, 1) := by decide +kernel
theorem dL_distance_4 : decode cL_distance 4 = .ok (.iload_n 1, 1) := by decide +kernel
theorem dL_distance_5 : decode cL_distance 5 = .ok (.iload_n 2, 1) := by decide +kernel
theorem dL_distance_6 : decode cL_distance 6 = .ok (.iload_n 3, 1) := by decide +kernel
theorem dL_distance_7 : decode cL_distance 7 = .ok (.invokevirtual 127, 3) := by decide +kernel
theorem dL_distance_10 : decode cL_distance 10 = .ok (.lastore, 1) := by decide +kernel
theorem dL_distance_11 : decode cL_distance 11 = .ok (.goto 11, 3) := by decide +kernel
theorem dL_distance_14 : decode cL_distance 14 = .ok (.astore 5, 2) := by decide +kernel
theorem dL_distance_16 : decode cL_distance 16 = .ok (.iconst 1, 1) := by decide +kernel
theorem dL_distance_17 : decode cL_distance 17 = .ok (.ireturn, 1) := by decide +kernel
theorem dL_distance_18 : decode cL_distance 18 = .ok (.astore 5, 2) := by decide +kernel
theorem dL_distance_20 : decode cL_distance 20 = .ok (.iconst 2, 1) := by decide +kernel
theorem dL_distance_21 : decode cL_distance 21 = .ok (.ireturn, 1) := by decide +kernel
theorem dL_distance_22 : decode cL_distance 22 = .ok (.iconst 0, 1) := by decide +kernel
theorem dL_distance_23 : decode cL_distance 23 = .ok (.ireturn, 1) := by decide +kernel
theorem dL_kinds_0 : decode cL_kinds 0 = .ok (.aload_n 3, 1) := by decide +kernel
theorem dL_kinds_1 : decode cL_kinds 1 = .ok (.iconst 0, 1) := by decide +kernel
theorem dL_kinds_2 : decode cL_kinds 2 = .ok (.aload_n 0, 1) := by decide +kernel
theorem dL_kinds_3 : decode cL_kinds 3 = .ok (.iload_n 1, 1) := by decide +kernel
theorem dL_kinds_4 : decode cL_kinds 4 = .ok (.iload_n 2, 1) := by decide +kernel
theorem dL_kinds_5 : decode cL_kinds 5 = .ok (.invokevirtual 130, 3) := by decide +kernel
theorem dL_kinds_8 : decode cL_kinds 8 = .ok (.i2l, 1) := by decide +kernel
theorem dL_kinds_9 : decode cL_kinds 9 = .ok (.lastore, 1) := by decide +kernel
theorem dL_kinds_10 : decode cL_kinds 10 = .ok (.goto 7, 3) := by decide +kernel
theorem dL_kinds_13 : decode cL_kinds 13 = .ok (.astore 4, 2) := by decide +kernel
theorem dL_kinds_15 : decode cL_kinds 15 = .ok (.iconst 1, 1) := by decide +kernel
theorem dL_kinds_16 : decode cL_kinds 16 = .ok (.ireturn, 1) := by decide +kernel
theorem dL_kinds_17 : decode cL_kinds 17 = .ok (.iconst 0, 1) := by decide +kernel
theorem dL_kinds_18 : decode cL_kinds 18 = .ok (.ireturn, 1) := by decide +kernel
theorem dL_kind_0 : decode cL_kind 0 = .ok (.aload_n 2, 1) := by decide +kernel
theorem dL_kind_1 : decode cL_kind 1 = .ok (.iconst 0, 1) := by decide +kernel
theorem dL_kind_2 : decode cL_kind 2 = .ok (.aload_n 0, 1) := by decide +kernel
theorem dL_kind_3 : decode cL_kind 3 = .ok (.iload_n 1, 1) := by decide +kernel
theorem dL_kind_4 : decode cL_kind 4 = .ok (.invokevirtual 133, 3) := by decide +kernel
theorem dL_kind_7 : decode cL_kind 7 = .ok (.i2l, 1) := by decide +kernel
theorem dL_kind_8 : decode cL_kind 8 = .ok (.lastore, 1) := by decide +kernel
theorem dL_kind_9 : decode cL_kind 9 = .ok (.goto 6, 3) := by decide +kernel
theorem dL_kind_12 : decode cL_kind 12 = .ok (.astore_n 3, 1) := by decide +kernel
theorem dL_kind_13 : decode cL_kind 13 = .ok (.iconst 1, 1) := by decide +kernel
theorem dL_kind_14 : decode cL_kind 14 = .ok (.ireturn, 1) := by decide +kernel
theorem dL_kind_15 : decode cL_kind 15 = .ok (.iconst 0, 1) := by decide +kernel
theorem dL_kind_16 : decode cL_kind 16 = .ok (.ireturn, 1) := by decide +kernel
theorem dL_drive_0 : decode cL_drive 0 = .ok (.aload_n 1, 1) := by decide +kernel
theorem dL_drive_1 : decode cL_drive 1 = .ok (.iconst 0, 1) := by decide +kernel
theorem dL_drive_2 : decode cL_drive 2 = .ok (.aload_n 0, 1) := by decide +kernel
theorem dL_drive_3 : decode cL_drive 3 = .ok (.invokevirtual 136, 3) := by decide +kernel
theorem dL_drive_6 : decode cL_drive 6 = .ok (.i2l, 1) := by decide +kernel
theorem dL_drive_7 : decode cL_drive 7 = .ok (.lastore, 1) := by decide +kernel
theorem dL_drive_8 : decode cL_drive 8 = .ok (.goto 6, 3) := by decide +kernel
theorem dL_drive_11 : decode cL_drive 11 = .ok (.astore_n 2, 1) := by decide +kernel
theorem dL_drive_12 : decode cL_drive 12 = .ok (.iconst 1, 1) := by decide +kernel
theorem dL_drive_13 : decode cL_drive 13 = .ok (.ireturn, 1) := by decide +kernel
theorem dL_drive_14 : decode cL_drive 14 = .ok (.iconst 0, 1) := by decide +kernel
theorem dL_drive_15 : decode cL_drive 15 = .ok (.ireturn, 1) := by decide +kernel
theorem dL_event_0 : decode cL_event 0 = .ok (.aload_n 3, 1) := by decide +kernel
theorem dL_event_1 : decode cL_event 1 = .ok (.iconst 0, 1) := by decide +kernel
theorem dL_event_2 : decode cL_event 2 = .ok (.aload_n 0, 1) := by decide +kernel
theorem dL_event_3 : decode cL_event 3 = .ok (.iload_n 1, 1) := by decide +kernel
theorem dL_event_4 : decode cL_event 4 = .ok (.iload_n 2, 1) := by decide +kernel
theorem dL_event_5 : decode cL_event 5 = .ok (.invokevirtual 139, 3) := by decide +kernel
theorem dL_event_8 : decode cL_event 8 = .ok (.i2l, 1) := by decide +kernel
theorem dL_event_9 : decode cL_event 9 = .ok (.lastore, 1) := by decide +kernel
theorem dL_event_10 : decode cL_event 10 = .ok (.goto 11, 3) := by decide +kernel
theorem dL_event_13 : decode cL_event 13 = .ok (.astore 4, 2) := by decide +kernel
theorem dL_event_15 : decode cL_event 15 = .ok (.iconst 1, 1) := by decide +kernel
theorem dL_event_16 : decode cL_event 16 = .ok (.ireturn, 1) := by decide +kernel
theorem dL_event_17 : decode cL_event 17 = .ok (.astore 4, 2) := by decide +kernel
theorem dL_event_19 : decode cL_event 19 = .ok (.iconst 2, 1) := by decide +kernel
theorem dL_event_20 : decode cL_event 20 = .ok (.ireturn, 1) := by decide +kernel
theorem dL_event_21 : decode cL_event 21 = .ok (.iconst 0, 1) := by decide +kernel
theorem dL_event_22 : decode cL_event 22 = .ok (.ireturn, 1) := by decide +kernel
theorem dL_law_0 : decode cL_law 0 = .ok (.new 8, 3) := by decide +kernel
theorem dL_law_3 : decode cL_law 3 = .ok (.dup, 1) := by decide +kernel
theorem dL_law_4 : decode cL_law 4 = .ok (.invokespecial 142, 3) := by decide +kernel
theorem dL_law_7 : decode cL_law 7 = .ok (.astore_n 1, 1) := by decide +kernel
theorem dL_law_8 : decode cL_law 8 = .ok (.new 143, 3) := by decide +kernel
theorem dL_law_11 : decode cL_law 11 = .ok (.dup, 1) := by decide +kernel
theorem dL_law_12 : decode cL_law 12 = .ok (.invokespecial 145, 3) := by decide +kernel
theorem dL_law_15 : decode cL_law 15 = .ok (.astore_n 2, 1) := by decide +kernel
theorem dL_law_16 : decode cL_law 16 = .ok (.iconst 1, 1) := by decide +kernel
theorem dL_law_17 : decode cL_law 17 = .ok (.newarray .long, 2) := by decide +kernel
theorem dL_law_19 : decode cL_law 19 = .ok (.astore_n 3, 1) := by decide +kernel
theorem dL_law_20 : decode cL_law 20 = .ok (.iconst 0, 1) := by decide +kernel
theorem dL_law_21 : decode cL_law 21 = .ok (.istore 4, 2) := by decide +kernel
theorem dL_law_23 : decode cL_law 23 = .ok (.iload 4, 2) := by decide +kernel
theorem dL_law_25 : decode cL_law 25 = .ok (.aload_n 0, 1) := by decide +kernel
theorem dL_law_26 : decode cL_law 26 = .ok (.arraylength, 1) := by decide +kernel
theorem dL_law_27 : decode cL_law 27 = .ok (.bipush 7, 2) := by decide +kernel
theorem dL_law_29 : decode cL_law 29 = .ok (.isub, 1) := by decide +kernel
theorem dL_law_30 : decode cL_law 30 = .ok (.if_icmp .gt 2886, 3) := by decide +kernel
theorem dL_law_33 : decode cL_law 33 = .ok (.aload_n 0, 1) := by decide +kernel
theorem dL_law_34 : decode cL_law 34 = .ok (.iload 4, 2) := by decide +kernel
theorem dL_law_36 : decode cL_law 36 = .ok (.iaload, 1) := by decide +kernel
theorem dL_law_37 : decode cL_law 37 = .ok (.bipush 63, 2) := by decide +kernel
theorem dL_law_39 : decode cL_law 39 = .ok (.iand, 1) := by decide +kernel
theorem dL_law_40 : decode cL_law 40 = .ok (.tableswitch 2870 0 40 #[180, 284, 340, 365, 409, 422, 470, 483, 551, 642, 722, 802, 905, 1008, 1111, 1228, 1288, 1336, 1415, 1494, 1562, 1670, 1742, 1753, 1766, 1833, 1929, 2021, 2089, 2133, 2212, 2267, 2347, 2383, 2450, 2530, 2609, 2677, 2733, 2777, 2845], 180) := by decide +kernel
theorem dL_law_220 : decode cL_law 220 = .ok (.aload_n 1, 1) := by decide +kernel
theorem dL_law_221 : decode cL_law 221 = .ok (.aload_n 0, 1) := by decide +kernel
theorem dL_law_222 : decode cL_law 222 = .ok (.iload 4, 2) := by decide +kernel
theorem dL_law_224 : decode cL_law 224 = .ok (.iconst 1, 1) := by decide +kernel
theorem dL_law_225 : decode cL_law 225 = .ok (.iadd, 1) := by decide +kernel
theorem dL_law_226 : decode cL_law 226 = .ok (.iaload, 1) := by decide +kernel
theorem dL_law_227 : decode cL_law 227 = .ok (.aload_n 0, 1) := by decide +kernel
theorem dL_law_228 : decode cL_law 228 = .ok (.iload 4, 2) := by decide +kernel
theorem dL_law_230 : decode cL_law 230 = .ok (.iconst 2, 1) := by decide +kernel
theorem dL_law_231 : decode cL_law 231 = .ok (.iadd, 1) := by decide +kernel
theorem dL_law_232 : decode cL_law 232 = .ok (.iaload, 1) := by decide +kernel
theorem dL_law_233 : decode cL_law 233 = .ok (.aload_n 0, 1) := by decide +kernel
theorem dL_law_234 : decode cL_law 234 = .ok (.iload 4, 2) := by decide +kernel
theorem dL_law_236 : decode cL_law 236 = .ok (.iconst 3, 1) := by decide +kernel
theorem dL_law_237 : decode cL_law 237 = .ok (.iadd, 1) := by decide +kernel
theorem dL_law_238 : decode cL_law 238 = .ok (.iaload, 1) := by decide +kernel
theorem dL_law_239 : decode cL_law 239 = .ok (.aload_n 0, 1) := by decide +kernel
theorem dL_law_240 : decode cL_law 240 = .ok (.iload 4, 2) := by decide +kernel
theorem dL_law_242 : decode cL_law 242 = .ok (.iconst 4, 1) := by decide +kernel
theorem dL_law_243 : decode cL_law 243 = .ok (.iadd, 1) := by decide +kernel
theorem dL_law_244 : decode cL_law 244 = .ok (.iaload, 1) := by decide +kernel
theorem dL_law_245 : decode cL_law 245 = .ok (.aload_n 0, 1) := by decide +kernel
theorem dL_law_246 : decode cL_law 246 = .ok (.iload 4, 2) := by decide +kernel
theorem dL_law_248 : decode cL_law 248 = .ok (.iconst 5, 1) := by decide +kernel
theorem dL_law_249 : decode cL_law 249 = .ok (.iadd, 1) := by decide +kernel
theorem dL_law_250 : decode cL_law 250 = .ok (.iaload, 1) := by decide +kernel
theorem dL_law_251 : decode cL_law 251 = .ok (.aload_n 3, 1) := by decide +kernel
theorem dL_law_252 : decode cL_law 252 = .ok (.invokestatic 146, 3) := by decide +kernel
theorem dL_law_255 : decode cL_law 255 = .ok (.istore 5, 2) := by decide +kernel
theorem dL_law_257 : decode cL_law 257 = .ok (.aload_n 2, 1) := by decide +kernel
theorem dL_law_258 : decode cL_law 258 = .ok (.aload_n 0, 1) := by decide +kernel
theorem dL_law_259 : decode cL_law 259 = .ok (.iload 4, 2) := by decide +kernel
theorem dL_law_261 : decode cL_law 261 = .ok (.iconst 1, 1) := by decide +kernel
theorem dL_law_262 : decode cL_law 262 = .ok (.iadd, 1) := by decide +kernel
theorem dL_law_263 : decode cL_law 263 = .ok (.iaload, 1) := by decide +kernel
theorem dL_law_264 : decode cL_law 264 = .ok (.aload_n 0, 1) := by decide +kernel
theorem dL_law_265 : decode cL_law 265 = .ok (.iload 4, 2) := by decide +kernel
theorem dL_law_267 : decode cL_law 267 = .ok (.iconst 2, 1) := by decide +kernel
theorem dL_law_268 : decode cL_law 268 = .ok (.iadd, 1) := by decide +kernel
theorem dL_law_269 : decode cL_law 269 = .ok (.iaload, 1) := by decide +kernel
theorem dL_law_270 : decode cL_law 270 = .ok (.aload_n 0, 1) := by decide +kernel
theorem dL_law_271 : decode cL_law 271 = .ok (.iload 4, 2) := by decide +kernel
theorem dL_law_273 : decode cL_law 273 = .ok (.iconst 3, 1) := by decide +kernel
theorem dL_law_274 : decode cL_law 274 = .ok (.iadd, 1) := by decide +kernel
theorem dL_law_275 : decode cL_law 275 = .ok (.iaload, 1) := by decide +kernel
theorem dL_law_276 : decode cL_law 276 = .ok (.aload_n 0, 1) := by decide +kernel
theorem dL_law_277 : decode cL_law 277 = .ok (.iload 4, 2) := by decide +kernel
theorem dL_law_279 : decode cL_law 279 = .ok (.iconst 4, 1) := by decide +kernel
theorem dL_law_280 : decode cL_law 280 = .ok (.iadd, 1) := by decide +kernel
theorem dL_law_281 : decode cL_law 281 = .ok (.iaload, 1) := by decide +kernel
theorem dL_law_282 : decode cL_law 282 = .ok (.aload_n 0, 1) := by decide +kernel
theorem dL_law_283 : decode cL_law 283 = .ok (.iload 4, 2) := by decide +kernel
theorem dL_law_285 : decode cL_law 285 = .ok (.iconst 5, 1) := by decide +kernel
theorem dL_law_286 : decode cL_law 286 = .ok (.iadd, 1) := by decide +kernel
theorem dL_law_287 : decode cL_law 287 = .ok (.iaload, 1) := by decide +kernel
theorem dL_law_288 : decode cL_law 288 = .ok (.invokevirtual 151, 3) := by decide +kernel
theorem dL_law_291 : decode cL_law 291 = .ok (.istore 6, 2) := by decide +kernel
theorem dL_law_293 : decode cL_law 293 = .ok (.aload_n 2, 1) := by decide +kernel
theorem dL_law_294 : decode cL_law 294 = .ok (.invokevirtual 152, 3) := by decide +kernel
theorem dL_law_297 : decode cL_law 297 = .ok (.iload 5, 2) := by decide +kernel
theorem dL_law_299 : decode cL_law 299 = .ok (.if_icmp .eq 5, 3) := by decide +kernel
theorem dL_law_302 : decode cL_law 302 = .ok (.iconst 0, 1) := by decide +kernel
theorem dL_law_303 : decode cL_law 303 = .ok (.ireturn, 1) := by decide +kernel
theorem dL_law_304 : decode cL_law 304 = .ok (.iload 5, 2) := by decide +kernel
theorem dL_law_306 : decode cL_law 306 = .ok (.ifCond .ne 15, 3) := by decide +kernel
theorem dL_law_309 : decode cL_law 309 = .ok (.aload_n 3, 1) := by decide +kernel
theorem dL_law_310 : decode cL_law 310 = .ok (.iconst 0, 1) := by decide +kernel
theorem dL_law_311 : decode cL_law 311 = .ok (.laload, 1) := by decide +kernel
theorem dL_law_312 : decode cL_law 312 = .ok (.iload 6, 2) := by decide +kernel
theorem dL_law_314 : decode cL_law 314 = .ok (.i2l, 1) := by decide +kernel
theorem dL_law_315 : decode cL_law 315 = .ok (.lcmp, 1) := by decide +kernel
theorem dL_law_316 : decode cL_law 316 = .ok (.ifCond .eq 5, 3) := by decide +kernel
theorem dL_law_319 : decode cL_law 319 = .ok (.iconst 0, 1) := by decide +kernel
theorem dL_law_320 : decode cL_law 320 = .ok (.ireturn, 1) := by decide +kernel
theorem dL_law_321 : decode cL_law 321 = .ok (.goto 2589, 3) := by decide +kernel
theorem dL_law_324 : decode cL_law 324 = .ok (.aload_n 1, 1) := by decide +kernel
theorem dL_law_325 : decode cL_law 325 = .ok (.aload_n 0, 1) := by decide +kernel
theorem dL_law_326 : decode cL_law 326 = .ok (.iload 4, 2) := by decide +kernel
theorem dL_law_328 : decode cL_law 328 = .ok (.iconst 1, 1) := by decide +kernel
theorem dL_law_329 : decode cL_law 329 = .ok (.iadd, 1) := by decide +kernel
theorem dL_law_330 : decode cL_law 330 = .ok (.iaload, 1) := by decide +kernel
theorem dL_law_331 : decode cL_law 331 = .ok (.aload_n 3, 1) := by decide +kernel
theorem dL_law_332 : decode cL_law 332 = .ok (.invokestatic 155, 3) := by decide +kernel
theorem dL_law_335 : decode cL_law 335 = .ok (.istore 5, 2) := by decide +kernel
theorem dL_law_337 : decode cL_law 337 = .ok (.aload_n 2, 1) := by decide +kernel
theorem dL_law_338 : decode cL_law 338 = .ok (.aload_n 0, 1) := by decide +kernel
theorem dL_law_339 : decode cL_law 339 = .ok (.iload 4, 2) := by decide +kernel
theorem dL_law_341 : decode cL_law 341 = .ok (.iconst 1, 1) := by decide +kernel
theorem dL_law_342 : decode cL_law 342 = .ok (.iadd, 1) := by decide +kernel
theorem dL_law_343 : decode cL_law 343 = .ok (.iaload, 1) := by decide +kernel
theorem dL_law_344 : decode cL_law 344 = .ok (.invokevirtual 158, 3) := by decide +kernel
theorem dL_law_347 : decode cL_law 347 = .ok (.istore 6, 2) := by decide +kernel
theorem dL_law_349 : decode cL_law 349 = .ok (.aload_n 2, 1) := by decide +kernel
theorem dL_law_350 : decode cL_law 350 = .ok (.invokevirtual 152, 3) := by decide +kernel
theorem dL_law_353 : decode cL_law 353 = .ok (.iload 5, 2) := by decide +kernel
theorem dL_law_355 : decode cL_law 355 = .ok (.if_icmp .eq 5, 3) := by decide +kernel
theorem dL_law_358 : decode cL_law 358 = .ok (.iconst 0, 1) := by decide +kernel
theorem dL_law_359 : decode cL_law 359 = .ok (.ireturn, 1) := by decide +kernel
theorem dL_law_360 : decode cL_law 360 = .ok (.iload 5, 2) := by decide +kernel
theorem dL_law_362 : decode cL_law 362 = .ok (.ifCond .ne 15, 3) := by decide +kernel
theorem dL_law_365 : decode cL_law 365 = .ok (.aload_n 3, 1) := by decide +kernel
theorem dL_law_366 : decode cL_law 366 = .ok (.iconst 0, 1) := by decide +kernel
theorem dL_law_367 : decode cL_law 367 = .ok (.laload, 1) := by decide +kernel
theorem dL_law_368 : decode cL_law 368 = .ok (.iload 6, 2) := by decide +kernel
theorem dL_law_370 : decode cL_law 370 = .ok (.i2l, 1) := by decide +kernel
theorem dL_law_371 : decode cL_law 371 = .ok (.lcmp, 1) := by decide +kernel
theorem dL_law_372 : decode cL_law 372 = .ok (.ifCond .eq 5, 3) := by decide +kernel
theorem dL_law_375 : decode cL_law 375 = .ok (.iconst 0, 1) := by decide +kernel
theorem dL_law_376 : decode cL_law 376 = .ok (.ireturn, 1) := by decide +kernel
theorem dL_law_377 : decode cL_law 377 = .ok (.goto 2533, 3) := by decide +kernel
theorem dL_law_380 : decode cL_law 380 = .ok (.aload_n 1, 1) := by decide +kernel
theorem dL_law_381 : decode cL_law 381 = .ok (.aload_n 0, 1) := by decide +kernel
theorem dL_law_382 : decode cL_law 382 = .ok (.iload 4, 2) := by decide +kernel
theorem dL_law_384 : decode cL_law 384 = .ok (.iconst 1, 1) := by decide +kernel
theorem dL_law_385 : decode cL_law 385 = .ok (.iadd, 1) := by decide +kernel
theorem dL_law_386 : decode cL_law 386 = .ok (.iaload, 1) := by decide +kernel
theorem dL_law_387 : decode cL_law 387 = .ok (.invokevirtual 159, 3) := by decide +kernel
theorem dL_law_390 : decode cL_law 390 = .ok (.aload_n 2, 1) := by decide +kernel
theorem dL_law_391 : decode cL_law 391 = .ok (.aload_n 0, 1) := by decide +kernel
theorem dL_law_392 : decode cL_law 392 = .ok (.iload 4, 2) := by decide +kernel
theorem dL_law_394 : decode cL_law 394 = .ok (.iconst 1, 1) := by decide +kernel
theorem dL_law_395 : decode cL_law 395 = .ok (.iadd, 1) := by decide +kernel
theorem dL_law_396 : decode cL_law 396 = .ok (.iaload, 1) := by decide +kernel
theorem dL_law_397 : decode cL_law 397 = .ok (.invokevirtual 162, 3) := by decide +kernel
theorem dL_law_400 : decode cL_law 400 = .ok (.if_icmp .eq 2510, 3) := by decide +kernel
theorem dL_law_403 : decode cL_law 403 = .ok (.iconst 0, 1) := by decide +kernel
theorem dL_law_404 : decode cL_law 404 = .ok (.ireturn, 1) := by decide +kernel
theorem dL_law_405 : decode cL_law 405 = .ok (.aload_n 1, 1) := by decide +kernel
theorem dL_law_406 : decode cL_law 406 = .ok (.aload_n 3, 1) := by decide +kernel
theorem dL_law_407 : decode cL_law 407 = .ok (.invokestatic 163, 3) := by decide +kernel
theorem dL_law_410 : decode cL_law 410 = .ok (.istore 5, 2) := by decide +kernel
theorem dL_law_412 : decode cL_law 412 = .ok (.aload_n 2, 1) := by decide +kernel
theorem dL_law_413 : decode cL_law 413 = .ok (.invokevirtual 166, 3) := by decide +kernel
theorem dL_law_416 : decode cL_law 416 = .ok (.istore 6, 2) := by decide +kernel
theorem dL_law_418 : decode cL_law 418 = .ok (.aload_n 2, 1) := by decide +kernel
theorem dL_law_419 : decode cL_law 419 = .ok (.invokevirtual 152, 3) := by decide +kernel
theorem dL_law_422 : decode cL_law 422 = .ok (.iload 5, 2) := by decide +kernel
theorem dL_law_424 : decode cL_law 424 = .ok (.if_icmp .eq 5, 3) := by decide +kernel
theorem dL_law_427 : decode cL_law 427 = .ok (.iconst 0, 1) := by decide +kernel
theorem dL_law_428 : decode cL_law 428 = .ok (.ireturn, 1) := by decide +kernel
theorem dL_law_429 : decode cL_law 429 = .ok (.iload 5, 2) := by decide +kernel
theorem dL_law_431 : decode cL_law 431 = .ok (.ifCond .ne 15, 3) := by decide +kernel
theorem dL_law_434 : decode cL_law 434 = .ok (.aload_n 3, 1) := by decide +kernel
theorem dL_law_435 : decode cL_law 435 = .ok (.iconst 0, 1) := by decide +kernel
theorem dL_law_436 : decode cL_law 436 = .ok (.laload, 1) := by decide +kernel
theorem dL_law_437 : decode cL_law 437 = .ok (.iload 6, 2) := by decide +kernel
theorem dL_law_439 : decode cL_law 439 = .ok (.i2l, 1) := by decide +kernel
theorem dL_law_440 : decode cL_law 440 = .ok (.lcmp, 1) := by decide +kernel
theorem dL_law_441 : decode cL_law 441 = .ok (.ifCond .eq 5, 3) := by decide +kernel
theorem dL_law_444 : decode cL_law 444 = .ok (.iconst 0, 1) := by decide +kernel
theorem dL_law_445 : decode cL_law 445 = .ok (.ireturn, 1) := by decide +kernel
theorem dL_law_446 : decode cL_law 446 = .ok (.goto 2464, 3) := by decide +kernel
theorem dL_law_449 : decode cL_law 449 = .ok (.aload_n 1, 1) := by decide +kernel
theorem dL_law_450 : decode cL_law 450 = .ok (.invokevirtual 167, 3) := by decide +kernel
theorem dL_law_453 : decode cL_law 453 = .ok (.aload_n 2, 1) := by decide +kernel
theorem dL_law_454 : decode cL_law 454 = .ok (.invokevirtual 170, 3) := by decide +kernel
theorem dL_law_457 : decode cL_law 457 = .ok (.if_icmp .eq 2453, 3) := by decide +kernel
theorem dL_law_460 : decode cL_law 460 = .ok (.iconst 0, 1) := by decide +kernel
theorem dL_law_461 : decode cL_law 461 = .ok (.ireturn, 1) := by decide +kernel
theorem dL_law_462 : decode cL_law 462 = .ok (.aload_n 1, 1) := by decide +kernel
theorem dL_law_463 : decode cL_law 463 = .ok (.aload_n 0, 1) := by decide +kernel
theorem dL_law_464 : decode cL_law 464 = .ok (.iload 4, 2) := by decide +kernel
theorem dL_law_466 : decode cL_law 466 = .ok (.iconst 1, 1) := by decide +kernel
theorem dL_law_467 : decode cL_law 467 = .ok (.iadd, 1) := by decide +kernel
theorem dL_law_468 : decode cL_law 468 = .ok (.iaload, 1) := by decide +kernel
theorem dL_law_469 : decode cL_law 469 = .ok (.aload_n 0, 1) := by decide +kernel
theorem dL_law_470 : decode cL_law 470 = .ok (.iload 4, 2) := by decide +kernel
theorem dL_law_472 : decode cL_law 472 = .ok (.iconst 2, 1) := by decide +kernel
theorem dL_law_473 : decode cL_law 473 = .ok (.iadd, 1) := by decide +kernel
theorem dL_law_474 : decode cL_law 474 = .ok (.iaload, 1) := by decide +kernel
theorem dL_law_475 : decode cL_law 475 = .ok (.invokestatic 171, 3) := by decide +kernel
theorem dL_law_478 : decode cL_law 478 = .ok (.istore 5, 2) := by decide +kernel
theorem dL_law_480 : decode cL_law 480 = .ok (.aload_n 2, 1) := by decide +kernel
theorem dL_law_481 : decode cL_law 481 = .ok (.aload_n 0, 1) := by decide +kernel
theorem dL_law_482 : decode cL_law 482 = .ok (.iload 4, 2) := by decide +kernel
theorem dL_law_484 : decode cL_law 484 = .ok (.iconst 1, 1) := by decide +kernel
theorem dL_law_485 : decode cL_law 485 = .ok (.iadd, 1) := by decide +kernel
theorem dL_law_486 : decode cL_law 486 = .ok (.iaload, 1) := by decide +kernel
theorem dL_law_487 : decode cL_law 487 = .ok (.aload_n 0, 1) := by decide +kernel
theorem dL_law_488 : decode cL_law 488 = .ok (.iload 4, 2) := by decide +kernel
theorem dL_law_490 : decode cL_law 490 = .ok (.iconst 2, 1) := by decide +kernel
theorem dL_law_491 : decode cL_law 491 = .ok (.iadd, 1) := by decide +kernel
theorem dL_law_492 : decode cL_law 492 = .ok (.iaload, 1) := by decide +kernel
theorem dL_law_493 : decode cL_law 493 = .ok (.invokevirtual 174, 3) := by decide +kernel
theorem dL_law_496 : decode cL_law 496 = .ok (.aload_n 2, 1) := by decide +kernel
theorem dL_law_497 : decode cL_law 497 = .ok (.invokevirtual 152, 3) := by decide +kernel
theorem dL_law_500 : decode cL_law 500 = .ok (.iload 5, 2) := by decide +kernel
theorem dL_law_502 : decode cL_law 502 = .ok (.if_icmp .eq 5, 3) := by decide +kernel
theorem dL_law_505 : decode cL_law 505 = .ok (.iconst 0, 1) := by decide +kernel
theorem dL_law_506 : decode cL_law 506 = .ok (.ireturn, 1) := by decide +kernel
theorem dL_law_507 : decode cL_law 507 = .ok (.goto 2403, 3) := by decide +kernel
theorem dL_law_510 : decode cL_law 510 = .ok (.aload_n 1, 1) := by decide +kernel
theorem dL_law_511 : decode cL_law 511 = .ok (.invokevirtual 175, 3) := by decide +kernel
theorem dL_law_514 : decode cL_law 514 = .ok (.aload_n 2, 1) := by decide +kernel
theorem dL_law_515 : decode cL_law 515 = .ok (.invokevirtual 178, 3) := by decide +kernel
theorem dL_law_518 : decode cL_law 518 = .ok (.if_icmp .eq 2392, 3) := by decide +kernel
theorem dL_law_521 : decode cL_law 521 = .ok (.iconst 0, 1) := by decide +kernel
theorem dL_law_522 : decode cL_law 522 = .ok (.ireturn, 1) := by decide +kernel
theorem dL_law_523 : decode cL_law 523 = .ok (.aload_n 1, 1) := by decide +kernel
theorem dL_law_524 : decode cL_law 524 = .ok (.aload_n 0, 1) := by decide +kernel
theorem dL_law_525 : decode cL_law 525 = .ok (.iload 4, 2) := by decide +kernel
theorem dL_law_527 : decode cL_law 527 = .ok (.iconst 1, 1) := by decide +kernel
theorem dL_law_528 : decode cL_law 528 = .ok (.iadd, 1) := by decide +kernel
theorem dL_law_529 : decode cL_law 529 = .ok (.iaload, 1) := by decide +kernel
theorem dL_law_530 : decode cL_law 530 = .ok (.aload_n 0, 1) := by decide +kernel
theorem dL_law_531 : decode cL_law 531 = .ok (.iload 4, 2) := by decide +kernel
theorem dL_law_533 : decode cL_law 533 = .ok (.iconst 2, 1) := by decide +kernel
theorem dL_law_534 : decode cL_law 534 = .ok (.iadd, 1) := by decide +kernel
theorem dL_law_535 : decode cL_law 535 = .ok (.iaload, 1) := by decide +kernel
theorem dL_law_536 : decode cL_law 536 = .ok (.aload_n 3, 1) := by decide +kernel
theorem dL_law_537 : decode cL_law 537 = .ok (.invokestatic 179, 3) := by decide +kernel
theorem dL_law_540 : decode cL_law 540 = .ok (.istore 5, 2) := by decide +kernel
theorem dL_law_542 : decode cL_law 542 = .ok (.aload_n 2, 1) := by decide +kernel
theorem dL_law_543 : decode cL_law 543 = .ok (.aload_n 0, 1) := by decide +kernel
theorem dL_law_544 : decode cL_law 544 = .ok (.iload 4, 2) := by decide +kernel
theorem dL_law_546 : decode cL_law 546 = .ok (.iconst 1, 1) := by decide +kernel
theorem dL_law_547 : decode cL_law 547 = .ok (.iadd, 1) := by decide +kernel
theorem dL_law_548 : decode cL_law 548 = .ok (.iaload, 1) := by decide +kernel
theorem dL_law_549 : decode cL_law 549 = .ok (.aload_n 0, 1) := by decide +kernel
theorem dL_law_550 : decode cL_law 550 = .ok (.iload 4, 2) := by decide +kernel
theorem dL_law_552 : decode cL_law 552 = .ok (.iconst 2, 1) := by decide +kernel
theorem dL_law_553 : decode cL_law 553 = .ok (.iadd, 1) := by decide +kernel
theorem dL_law_554 : decode cL_law 554 = .ok (.iaload, 1) := by decide +kernel
theorem dL_law_555 : decode cL_law 555 = .ok (.invokevirtual 182, 3) := by decide +kernel
theorem dL_law_558 : decode cL_law 558 = .ok (.istore 6, 2) := by decide +kernel
theorem dL_law_560 : decode cL_law 560 = .ok (.aload_n 2, 1) := by decide +kernel
theorem dL_law_561 : decode cL_law 561 = .ok (.invokevirtual 152, 3) := by decide +kernel
theorem dL_law_564 : decode cL_law 564 = .ok (.iload 5, 2) := by decide +kernel
theorem dL_law_566 : decode cL_law 566 = .ok (.if_icmp .eq 5, 3) := by decide +kernel
theorem dL_law_569 : decode cL_law 569 = .ok (.iconst 0, 1) := by decide +kernel
theorem dL_law_570 : decode cL_law 570 = .ok (.ireturn, 1) := by decide +kernel
theorem dL_law_571 : decode cL_law 571 = .ok (.iload 5, 2) := by decide +kernel
theorem dL_law_573 : decode cL_law 573 = .ok (.ifCond .ne 15, 3) := by decide +kernel
theorem dL_law_576 : decode cL_law 576 = .ok (.aload_n 3, 1) := by decide +kernel
theorem dL_law_577 : decode cL_law 577 = .ok (.iconst 0, 1) := by decide +kernel
theorem dL_law_578 : decode cL_law 578 = .ok (.laload, 1) := by decide +kernel
theorem dL_law_579 : decode cL_law 579 = .ok (.iload 6, 2) := by decide +kernel
theorem dL_law_581 : decode cL_law 581 = .ok (.i2l, 1) := by decide +kernel
theorem dL_law_582 : decode cL_law 582 = .ok (.lcmp, 1) := by decide +kernel
theorem dL_law_583 : decode cL_law 583 = .ok (.ifCond .eq 5, 3) := by decide +kernel
theorem dL_law_586 : decode cL_law 586 = .ok (.iconst 0, 1) := by decide +kernel
theorem dL_law_587 : decode cL_law 587 = .ok (.ireturn, 1) := by decide +kernel
theorem dL_law_588 : decode cL_law 588 = .ok (.goto 2322, 3) := by decide +kernel
theorem dL_law_591 : decode cL_law 591 = .ok (.aload_n 1, 1) := by decide +kernel
theorem dL_law_592 : decode cL_law 592 = .ok (.aload_n 0, 1) := by decide +kernel
theorem dL_law_593 : decode cL_law 593 = .ok (.iload 4, 2) := by decide +kernel
theorem dL_law_595 : decode cL_law 595 = .ok (.iconst 1, 1) := by decide +kernel
theorem dL_law_596 : decode cL_law 596 = .ok (.iadd, 1) := by decide +kernel
theorem dL_law_597 : decode cL_law 597 = .ok (.iaload, 1) := by decide +kernel
theorem dL_law_598 : decode cL_law 598 = .ok (.aload_n 0, 1) := by decide +kernel
theorem dL_law_599 : decode cL_law 599 = .ok (.iload 4, 2) := by decide +kernel
theorem dL_law_601 : decode cL_law 601 = .ok (.iconst 2, 1) := by decide +kernel
theorem dL_law_602 : decode cL_law 602 = .ok (.iadd, 1) := by decide +kernel
theorem dL_law_603 : decode cL_law 603 = .ok (.iaload, 1) := by decide +kernel
theorem dL_law_604 : decode cL_law 604 = .ok (.aload_n 0, 1) := by decide +kernel
theorem dL_law_605 : decode cL_law 605 = .ok (.iload 4, 2) := by decide +kernel
theorem dL_law_607 : decode cL_law 607 = .ok (.iconst 3, 1) := by decide +kernel
theorem dL_law_608 : decode cL_law 608 = .ok (.iadd, 1) := by decide +kernel
theorem dL_law_609 : decode cL_law 609 = .ok (.iaload, 1) := by decide +kernel
theorem dL_law_610 : decode cL_law 610 = .ok (.aload_n 0, 1) := by decide +kernel
theorem dL_law_611 : decode cL_law 611 = .ok (.iload 4, 2) := by decide +kernel
theorem dL_law_613 : decode cL_law 613 = .ok (.iconst 4, 1) := by decide +kernel
theorem dL_law_614 : decode cL_law 614 = .ok (.iadd, 1) := by decide +kernel
theorem dL_law_615 : decode cL_law 615 = .ok (.iaload, 1) := by decide +kernel
theorem dL_law_616 : decode cL_law 616 = .ok (.aload_n 3, 1) := by decide +kernel
theorem dL_law_617 : decode cL_law 617 = .ok (.invokestatic 183, 3) := by decide +kernel
theorem dL_law_620 : decode cL_law 620 = .ok (.istore 5, 2) := by decide +kernel
theorem dL_law_622 : decode cL_law 622 = .ok (.aload_n 2, 1) := by decide +kernel
theorem dL_law_623 : decode cL_law 623 = .ok (.aload_n 0, 1) := by decide +kernel
