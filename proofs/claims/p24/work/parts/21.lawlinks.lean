set_option maxRecDepth 20000
theorem dL_cell_0 : decode cL_cell 0 = .ok (.iload_n 1, 1) := by decide +kernel
theorem dL_cell_1 : decode cL_cell 1 = .ok (.aload_n 0, 1) := by decide +kernel
theorem dL_cell_2 : decode cL_cell 2 = .ok (.arraylength, 1) := by decide +kernel
theorem dL_cell_3 : decode cL_cell 3 = .ok (.if_icmp .ge 9, 3) := by decide +kernel
theorem dL_cell_6 : decode cL_cell 6 = .ok (.aload_n 0, 1) := by decide +kernel
theorem dL_cell_7 : decode cL_cell 7 = .ok (.iload_n 1, 1) := by decide +kernel
theorem dL_cell_8 : decode cL_cell 8 = .ok (.iaload, 1) := by decide +kernel
theorem dL_cell_9 : decode cL_cell 9 = .ok (.goto 18, 3) := by decide +kernel
theorem dL_cell_12 : decode cL_cell 12 = .ok (.sipush 7919, 3) := by decide +kernel
theorem dL_cell_15 : decode cL_cell 15 = .ok (.iload_n 1, 1) := by decide +kernel
theorem dL_cell_16 : decode cL_cell 16 = .ok (.sipush 1663, 3) := by decide +kernel
theorem dL_cell_19 : decode cL_cell 19 = .ok (.iadd, 1) := by decide +kernel
theorem dL_cell_20 : decode cL_cell 20 = .ok (.imul, 1) := by decide +kernel
theorem dL_cell_21 : decode cL_cell 21 = .ok (.iload_n 1, 1) := by decide +kernel
theorem dL_cell_22 : decode cL_cell 22 = .ok (.sipush 4177, 3) := by decide +kernel
theorem dL_cell_25 : decode cL_cell 25 = .ok (.iadd, 1) := by decide +kernel
theorem dL_cell_26 : decode cL_cell 26 = .ok (.imul, 1) := by decide +kernel
theorem dL_cell_27 : decode cL_cell 27 = .ok (.ireturn, 1) := by decide +kernel
theorem dL_low_0 : decode cL_low 0 = .ok (.iload_n 0, 1) := by decide +kernel
theorem dL_low_1 : decode cL_low 1 = .ok (.ldc 7, 2) := by decide +kernel
theorem dL_low_3 : decode cL_low 3 = .ok (.iand, 1) := by decide +kernel
theorem dL_low_4 : decode cL_low 4 = .ok (.iload_n 1, 1) := by decide +kernel
theorem dL_low_5 : decode cL_low 5 = .ok (.irem, 1) := by decide +kernel
theorem dL_low_6 : decode cL_low 6 = .ok (.ireturn, 1) := by decide +kernel
theorem dL_does_0 : decode cL_does 0 = .ok (.iload_n 1, 1) := by decide +kernel
theorem dL_does_1 : decode cL_does 1 = .ok (.ifCond .ne 12, 3) := by decide +kernel
theorem dL_does_4 : decode cL_does 4 = .ok (.aload_n 0, 1) := by decide +kernel
theorem dL_does_5 : decode cL_does 5 = .ok (.iload_n 2, 1) := by decide +kernel
theorem dL_does_6 : decode cL_does 6 = .ok (.invokevirtual 8, 3) := by decide +kernel
theorem dL_does_9 : decode cL_does 9 = .ok (.i2l, 1) := by decide +kernel
theorem dL_does_10 : decode cL_does 10 = .ok (.goto 282, 3) := by decide +kernel
theorem dL_does_13 : decode cL_does 13 = .ok (.iload_n 1, 1) := by decide +kernel
theorem dL_does_14 : decode cL_does 14 = .ok (.iconst 1, 1) := by decide +kernel
theorem dL_does_15 : decode cL_does 15 = .ok (.if_icmp .ne 13, 3) := by decide +kernel
theorem dL_does_18 : decode cL_does 18 = .ok (.aload_n 0, 1) := by decide +kernel
theorem dL_does_19 : decode cL_does 19 = .ok (.iload_n 2, 1) := by decide +kernel
theorem dL_does_20 : decode cL_does 20 = .ok (.iload_n 3, 1) := by decide +kernel
theorem dL_does_21 : decode cL_does 21 = .ok (.invokevirtual 14, 3) := by decide +kernel
theorem dL_does_24 : decode cL_does 24 = .ok (.i2l, 1) := by decide +kernel
theorem dL_does_25 : decode cL_does 25 = .ok (.goto 267, 3) := by decide +kernel
theorem dL_does_28 : decode cL_does 28 = .ok (.iload_n 1, 1) := by decide +kernel
theorem dL_does_29 : decode cL_does 29 = .ok (.iconst 2, 1) := by decide +kernel
theorem dL_does_30 : decode cL_does 30 = .ok (.if_icmp .ne 12, 3) := by decide +kernel
theorem dL_does_33 : decode cL_does 33 = .ok (.aload_n 0, 1) := by decide +kernel
theorem dL_does_34 : decode cL_does 34 = .ok (.iload_n 2, 1) := by decide +kernel
theorem dL_does_35 : decode cL_does 35 = .ok (.invokevirtual 18, 3) := by decide +kernel
theorem dL_does_38 : decode cL_does 38 = .ok (.i2l, 1) := by decide +kernel
theorem dL_does_39 : decode cL_does 39 = .ok (.goto 253, 3) := by decide +kernel
theorem dL_does_42 : decode cL_does 42 = .ok (.iload_n 1, 1) := by decide +kernel
theorem dL_does_43 : decode cL_does 43 = .ok (.iconst 3, 1) := by decide +kernel
theorem dL_does_44 : decode cL_does 44 = .ok (.if_icmp .ne 12, 3) := by decide +kernel
theorem dL_does_47 : decode cL_does 47 = .ok (.aload_n 0, 1) := by decide +kernel
theorem dL_does_48 : decode cL_does 48 = .ok (.iload_n 2, 1) := by decide +kernel
theorem dL_does_49 : decode cL_does 49 = .ok (.invokevirtual 21, 3) := by decide +kernel
theorem dL_does_52 : decode cL_does 52 = .ok (.i2l, 1) := by decide +kernel
theorem dL_does_53 : decode cL_does 53 = .ok (.goto 239, 3) := by decide +kernel
theorem dL_does_56 : decode cL_does 56 = .ok (.iload_n 1, 1) := by decide +kernel
theorem dL_does_57 : decode cL_does 57 = .ok (.iconst 4, 1) := by decide +kernel
theorem dL_does_58 : decode cL_does 58 = .ok (.if_icmp .ne 13, 3) := by decide +kernel
theorem dL_does_61 : decode cL_does 61 = .ok (.aload_n 0, 1) := by decide +kernel
theorem dL_does_62 : decode cL_does 62 = .ok (.iload_n 2, 1) := by decide +kernel
theorem dL_does_63 : decode cL_does 63 = .ok (.iload_n 3, 1) := by decide +kernel
theorem dL_does_64 : decode cL_does 64 = .ok (.invokevirtual 24, 3) := by decide +kernel
theorem dL_does_67 : decode cL_does 67 = .ok (.i2l, 1) := by decide +kernel
theorem dL_does_68 : decode cL_does 68 = .ok (.goto 224, 3) := by decide +kernel
theorem dL_does_71 : decode cL_does 71 = .ok (.iload_n 1, 1) := by decide +kernel
theorem dL_does_72 : decode cL_does 72 = .ok (.iconst 5, 1) := by decide +kernel
theorem dL_does_73 : decode cL_does 73 = .ok (.if_icmp .ne 12, 3) := by decide +kernel
theorem dL_does_76 : decode cL_does 76 = .ok (.aload_n 0, 1) := by decide +kernel
theorem dL_does_77 : decode cL_does 77 = .ok (.iload_n 2, 1) := by decide +kernel
theorem dL_does_78 : decode cL_does 78 = .ok (.invokevirtual 27, 3) := by decide +kernel
theorem dL_does_81 : decode cL_does 81 = .ok (.i2l, 1) := by decide +kernel
theorem dL_does_82 : decode cL_does 82 = .ok (.goto 210, 3) := by decide +kernel
theorem dL_does_85 : decode cL_does 85 = .ok (.iload_n 1, 1) := by decide +kernel
theorem dL_does_86 : decode cL_does 86 = .ok (.bipush 6, 2) := by decide +kernel
theorem dL_does_88 : decode cL_does 88 = .ok (.if_icmp .ne 13, 3) := by decide +kernel
theorem dL_does_91 : decode cL_does 91 = .ok (.aload_n 0, 1) := by decide +kernel
theorem dL_does_92 : decode cL_does 92 = .ok (.iload_n 2, 1) := by decide +kernel
theorem dL_does_93 : decode cL_does 93 = .ok (.iload_n 3, 1) := by decide +kernel
theorem dL_does_94 : decode cL_does 94 = .ok (.invokevirtual 30, 3) := by decide +kernel
theorem dL_does_97 : decode cL_does 97 = .ok (.i2l, 1) := by decide +kernel
theorem dL_does_98 : decode cL_does 98 = .ok (.goto 194, 3) := by decide +kernel
theorem dL_does_101 : decode cL_does 101 = .ok (.iload_n 1, 1) := by decide +kernel
theorem dL_does_102 : decode cL_does 102 = .ok (.bipush 7, 2) := by decide +kernel
theorem dL_does_104 : decode cL_does 104 = .ok (.if_icmp .ne 12, 3) := by decide +kernel
theorem dL_does_107 : decode cL_does 107 = .ok (.aload_n 0, 1) := by decide +kernel
theorem dL_does_108 : decode cL_does 108 = .ok (.iload_n 2, 1) := by decide +kernel
theorem dL_does_109 : decode cL_does 109 = .ok (.invokevirtual 33, 3) := by decide +kernel
theorem dL_does_112 : decode cL_does 112 = .ok (.i2l, 1) := by decide +kernel
theorem dL_does_113 : decode cL_does 113 = .ok (.goto 179, 3) := by decide +kernel
theorem dL_does_116 : decode cL_does 116 = .ok (.iload_n 1, 1) := by decide +kernel
theorem dL_does_117 : decode cL_does 117 = .ok (.bipush 8, 2) := by decide +kernel
theorem dL_does_119 : decode cL_does 119 = .ok (.if_icmp .ne 14, 3) := by decide +kernel
theorem dL_does_122 : decode cL_does 122 = .ok (.aload_n 0, 1) := by decide +kernel
theorem dL_does_123 : decode cL_does 123 = .ok (.iload_n 2, 1) := by decide +kernel
theorem dL_does_124 : decode cL_does 124 = .ok (.iload_n 3, 1) := by decide +kernel
theorem dL_does_125 : decode cL_does 125 = .ok (.iload 4, 2) := by decide +kernel
theorem dL_does_127 : decode cL_does 127 = .ok (.invokevirtual 36, 3) := by decide +kernel
theorem dL_does_130 : decode cL_does 130 = .ok (.goto 162, 3) := by decide +kernel
theorem dL_does_133 : decode cL_does 133 = .ok (.iload_n 1, 1) := by decide +kernel
theorem dL_does_134 : decode cL_does 134 = .ok (.bipush 9, 2) := by decide +kernel
theorem dL_does_136 : decode cL_does 136 = .ok (.if_icmp .ne 12, 3) := by decide +kernel
theorem dL_does_139 : decode cL_does 139 = .ok (.aload_n 0, 1) := by decide +kernel
theorem dL_does_140 : decode cL_does 140 = .ok (.iload_n 2, 1) := by decide +kernel
theorem dL_does_141 : decode cL_does 141 = .ok (.iload_n 3, 1) := by decide +kernel
theorem dL_does_142 : decode cL_does 142 = .ok (.invokevirtual 40, 3) := by decide +kernel
theorem dL_does_145 : decode cL_does 145 = .ok (.goto 147, 3) := by decide +kernel
theorem dL_does_148 : decode cL_does 148 = .ok (.iload_n 1, 1) := by decide +kernel
theorem dL_does_149 : decode cL_does 149 = .ok (.bipush 10, 2) := by decide +kernel
theorem dL_does_151 : decode cL_does 151 = .ok (.if_icmp .ne 12, 3) := by decide +kernel
theorem dL_does_154 : decode cL_does 154 = .ok (.aload_n 0, 1) := by decide +kernel
theorem dL_does_155 : decode cL_does 155 = .ok (.iload_n 2, 1) := by decide +kernel
theorem dL_does_156 : decode cL_does 156 = .ok (.iload_n 3, 1) := by decide +kernel
theorem dL_does_157 : decode cL_does 157 = .ok (.invokevirtual 44, 3) := by decide +kernel
theorem dL_does_160 : decode cL_does 160 = .ok (.goto 132, 3) := by decide +kernel
theorem dL_does_163 : decode cL_does 163 = .ok (.iload_n 1, 1) := by decide +kernel
theorem dL_does_164 : decode cL_does 164 = .ok (.bipush 11, 2) := by decide +kernel
theorem dL_does_166 : decode cL_does 166 = .ok (.if_icmp .ne 12, 3) := by decide +kernel
theorem dL_does_169 : decode cL_does 169 = .ok (.aload_n 0, 1) := by decide +kernel
theorem dL_does_170 : decode cL_does 170 = .ok (.iload_n 2, 1) := by decide +kernel
theorem dL_does_171 : decode cL_does 171 = .ok (.invokevirtual 47, 3) := by decide +kernel
theorem dL_does_174 : decode cL_does 174 = .ok (.i2l, 1) := by decide +kernel
theorem dL_does_175 : decode cL_does 175 = .ok (.goto 117, 3) := by decide +kernel
theorem dL_does_178 : decode cL_does 178 = .ok (.iload_n 1, 1) := by decide +kernel
theorem dL_does_179 : decode cL_does 179 = .ok (.bipush 12, 2) := by decide +kernel
theorem dL_does_181 : decode cL_does 181 = .ok (.if_icmp .ne 11, 3) := by decide +kernel
theorem dL_does_184 : decode cL_does 184 = .ok (.aload_n 0, 1) := by decide +kernel
theorem dL_does_185 : decode cL_does 185 = .ok (.iload_n 2, 1) := by decide +kernel
theorem dL_does_186 : decode cL_does 186 = .ok (.invokevirtual 50, 3) := by decide +kernel
theorem dL_does_189 : decode cL_does 189 = .ok (.goto 103, 3) := by decide +kernel
theorem dL_does_192 : decode cL_does 192 = .ok (.iload_n 1, 1) := by decide +kernel
theorem dL_does_193 : decode cL_does 193 = .ok (.bipush 13, 2) := by decide +kernel
theorem dL_does_195 : decode cL_does 195 = .ok (.if_icmp .ne 11, 3) := by decide +kernel
theorem dL_does_198 : decode cL_does 198 = .ok (.aload_n 0, 1) := by decide +kernel
theorem dL_does_199 : decode cL_does 199 = .ok (.iload_n 2, 1) := by decide +kernel
theorem dL_does_200 : decode cL_does 200 = .ok (.invokevirtual 54, 3) := by decide +kernel
theorem dL_does_203 : decode cL_does 203 = .ok (.goto 89, 3) := by decide +kernel
theorem dL_does_206 : decode cL_does 206 = .ok (.iload_n 1, 1) := by decide +kernel
theorem dL_does_207 : decode cL_does 207 = .ok (.bipush 14, 2) := by decide +kernel
theorem dL_does_209 : decode cL_does 209 = .ok (.if_icmp .ne 11, 3) := by decide +kernel
theorem dL_does_212 : decode cL_does 212 = .ok (.aload_n 0, 1) := by decide +kernel
theorem dL_does_213 : decode cL_does 213 = .ok (.iload_n 2, 1) := by decide +kernel
theorem dL_does_214 : decode cL_does 214 = .ok (.invokevirtual 57, 3) := by decide +kernel
theorem dL_does_217 : decode cL_does 217 = .ok (.goto 75, 3) := by decide +kernel
theorem dL_does_220 : decode cL_does 220 = .ok (.iload_n 1, 1) := by decide +kernel
theorem dL_does_221 : decode cL_does 221 = .ok (.bipush 15, 2) := by decide +kernel
theorem dL_does_223 : decode cL_does 223 = .ok (.if_icmp .ne 14, 3) := by decide +kernel
theorem dL_does_226 : decode cL_does 226 = .ok (.aload_n 0, 1) := by decide +kernel
theorem dL_does_227 : decode cL_does 227 = .ok (.iload_n 2, 1) := by decide +kernel
theorem dL_does_228 : decode cL_does 228 = .ok (.iload_n 3, 1) := by decide +kernel
theorem dL_does_229 : decode cL_does 229 = .ok (.iload 4, 2) := by decide +kernel
theorem dL_does_231 : decode cL_does 231 = .ok (.invokevirtual 60, 3) := by decide +kernel
theorem dL_does_234 : decode cL_does 234 = .ok (.goto 58, 3) := by decide +kernel
theorem dL_does_237 : decode cL_does 237 = .ok (.iload_n 1, 1) := by decide +kernel
theorem dL_does_238 : decode cL_does 238 = .ok (.bipush 16, 2) := by decide +kernel
theorem dL_does_240 : decode cL_does 240 = .ok (.if_icmp .ne 15, 3) := by decide +kernel
theorem dL_does_243 : decode cL_does 243 = .ok (.aload_n 0, 1) := by decide +kernel
theorem dL_does_244 : decode cL_does 244 = .ok (.iload_n 2, 1) := by decide +kernel
theorem dL_does_245 : decode cL_does 245 = .ok (.iload_n 3, 1) := by decide +kernel
theorem dL_does_246 : decode cL_does 246 = .ok (.iload 4, 2) := by decide +kernel
theorem dL_does_248 : decode cL_does 248 = .ok (.invokevirtual 63, 3) := by decide +kernel
theorem dL_does_251 : decode cL_does 251 = .ok (.i2l, 1) := by decide +kernel
theorem dL_does_252 : decode cL_does 252 = .ok (.goto 40, 3) := by decide +kernel
theorem dL_does_255 : decode cL_does 255 = .ok (.iload_n 1, 1) := by decide +kernel
theorem dL_does_256 : decode cL_does 256 = .ok (.bipush 17, 2) := by decide +kernel
theorem dL_does_258 : decode cL_does 258 = .ok (.if_icmp .ne 13, 3) := by decide +kernel
theorem dL_does_261 : decode cL_does 261 = .ok (.aload_n 0, 1) := by decide +kernel
theorem dL_does_262 : decode cL_does 262 = .ok (.iload_n 2, 1) := by decide +kernel
theorem dL_does_263 : decode cL_does 263 = .ok (.iload_n 3, 1) := by decide +kernel
theorem dL_does_264 : decode cL_does 264 = .ok (.invokevirtual 67, 3) := by decide +kernel
theorem dL_does_267 : decode cL_does 267 = .ok (.i2l, 1) := by decide +kernel
theorem dL_does_268 : decode cL_does 268 = .ok (.goto 24, 3) := by decide +kernel
theorem dL_does_271 : decode cL_does 271 = .ok (.iload_n 1, 1) := by decide +kernel
theorem dL_does_272 : decode cL_does 272 = .ok (.bipush 18, 2) := by decide +kernel
theorem dL_does_274 : decode cL_does 274 = .ok (.if_icmp .ne 12, 3) := by decide +kernel
theorem dL_does_277 : decode cL_does 277 = .ok (.aload_n 0, 1) := by decide +kernel
theorem dL_does_278 : decode cL_does 278 = .ok (.iload_n 2, 1) := by decide +kernel
theorem dL_does_279 : decode cL_does 279 = .ok (.invokevirtual 70, 3) := by decide +kernel
theorem dL_does_282 : decode cL_does 282 = .ok (.i2l, 1) := by decide +kernel
theorem dL_does_283 : decode cL_does 283 = .ok (.goto 9, 3) := by decide +kernel
theorem dL_does_286 : decode cL_does 286 = .ok (.aload_n 0, 1) := by decide +kernel
theorem dL_does_287 : decode cL_does 287 = .ok (.iload_n 2, 1) := by decide +kernel
theorem dL_does_288 : decode cL_does 288 = .ok (.invokevirtual 73, 3) := by decide +kernel
theorem dL_does_291 : decode cL_does 291 = .ok (.i2l, 1) := by decide +kernel
theorem dL_does_292 : decode cL_does 292 = .ok (.lreturn, 1) := by decide +kernel
theorem dL_does_293 : decode cL_does 293 = .ok (.astore 5, 2) := by decide +kernel
theorem dL_does_295 : decode cL_does 295 = .ok (.ldc2_w 78, 3) := by decide +kernel
theorem dL_does_298 : decode cL_does 298 = .ok (.lreturn, 1) := by decide +kernel
theorem dL_does_299 : decode cL_does 299 = .ok (.astore 5, 2) := by decide +kernel
theorem dL_does_301 : decode cL_does 301 = .ok (.ldc2_w 78, 3) := by decide +kernel
theorem dL_does_304 : decode cL_does 304 = .ok (.lreturn, 1) := by decide +kernel
theorem dL_does_305 : decode cL_does 305 = .ok (.astore 5, 2) := by decide +kernel
theorem dL_does_307 : decode cL_does 307 = .ok (.ldc2_w 78, 3) := by decide +kernel
theorem dL_does_310 : decode cL_does 310 = .ok (.lreturn, 1) := by decide +kernel
theorem dL_act_0 : decode cL_act 0 = .ok (.iload_n 1, 1) := by decide +kernel
theorem dL_act_1 : decode cL_act 1 = .ok (.bipush 18, 2) := by decide +kernel
theorem dL_act_3 : decode cL_act 3 = .ok (.ishr, 1) := by decide +kernel
theorem dL_act_4 : decode cL_act 4 = .ok (.bipush 7, 2) := by decide +kernel
theorem dL_act_6 : decode cL_act 6 = .ok (.iand, 1) := by decide +kernel
theorem dL_act_7 : decode cL_act 7 = .ok (.bipush 7, 2) := by decide +kernel
theorem dL_act_9 : decode cL_act 9 = .ok (.if_icmp .ne 7, 3) := by decide +kernel
theorem dL_act_12 : decode cL_act 12 = .ok (.iconst 1, 1) := by decide +kernel
theorem dL_act_13 : decode cL_act 13 = .ok (.goto 4, 3) := by decide +kernel
theorem dL_act_16 : decode cL_act 16 = .ok (.iconst 0, 1) := by decide +kernel
theorem dL_act_17 : decode cL_act 17 = .ok (.istore_n 2, 1) := by decide +kernel
theorem dL_act_18 : decode cL_act 18 = .ok (.iload_n 1, 1) := by decide +kernel
theorem dL_act_19 : decode cL_act 19 = .ok (.bipush 40, 2) := by decide +kernel
theorem dL_act_21 : decode cL_act 21 = .ok (.invokestatic 84, 3) := by decide +kernel
theorem dL_act_24 : decode cL_act 24 = .ok (.istore_n 3, 1) := by decide +kernel
theorem dL_act_25 : decode cL_act 25 = .ok (.iload_n 1, 1) := by decide +kernel
theorem dL_act_26 : decode cL_act 26 = .ok (.bipush 6, 2) := by decide +kernel
theorem dL_act_28 : decode cL_act 28 = .ok (.ishr, 1) := by decide +kernel
theorem dL_act_29 : decode cL_act 29 = .ok (.istore 4, 2) := by decide +kernel
theorem dL_act_31 : decode cL_act 31 = .ok (.iload_n 2, 1) := by decide +kernel
theorem dL_act_32 : decode cL_act 32 = .ok (.ifCond .eq 15, 3) := by decide +kernel
theorem dL_act_35 : decode cL_act 35 = .ok (.iload 4, 2) := by decide +kernel
theorem dL_act_37 : decode cL_act 37 = .ok (.bipush 8, 2) := by decide +kernel
theorem dL_act_39 : decode cL_act 39 = .ok (.invokestatic 84, 3) := by decide +kernel
theorem dL_act_42 : decode cL_act 42 = .ok (.iconst 1, 1) := by decide +kernel
theorem dL_act_43 : decode cL_act 43 = .ok (.isub, 1) := by decide +kernel
theorem dL_act_44 : decode cL_act 44 = .ok (.goto 9, 3) := by decide +kernel
theorem dL_act_47 : decode cL_act 47 = .ok (.iload 4, 2) := by decide +kernel
theorem dL_act_49 : decode cL_act 49 = .ok (.iconst 4, 1) := by decide +kernel
theorem dL_act_50 : decode cL_act 50 = .ok (.invokestatic 84, 3) := by decide +kernel
theorem dL_act_53 : decode cL_act 53 = .ok (.istore 5, 2) := by decide +kernel
theorem dL_act_55 : decode cL_act 55 = .ok (.iload_n 2, 1) := by decide +kernel
theorem dL_act_56 : decode cL_act 56 = .ok (.ifCond .eq 15, 3) := by decide +kernel
theorem dL_act_59 : decode cL_act 59 = .ok (.iload 4, 2) := by decide +kernel
theorem dL_act_61 : decode cL_act 61 = .ok (.bipush 14, 2) := by decide +kernel
theorem dL_act_63 : decode cL_act 63 = .ok (.invokestatic 84, 3) := by decide +kernel
theorem dL_act_66 : decode cL_act 66 = .ok (.iconst 1, 1) := by decide +kernel
theorem dL_act_67 : decode cL_act 67 = .ok (.isub, 1) := by decide +kernel
theorem dL_act_68 : decode cL_act 68 = .ok (.goto 10, 3) := by decide +kernel
theorem dL_act_71 : decode cL_act 71 = .ok (.iload 4, 2) := by decide +kernel
theorem dL_act_73 : decode cL_act 73 = .ok (.bipush 6, 2) := by decide +kernel
theorem dL_act_75 : decode cL_act 75 = .ok (.invokestatic 84, 3) := by decide +kernel
theorem dL_act_78 : decode cL_act 78 = .ok (.istore 6, 2) := by decide +kernel
theorem dL_act_80 : decode cL_act 80 = .ok (.iload_n 2, 1) := by decide +kernel
theorem dL_act_81 : decode cL_act 81 = .ok (.ifCond .eq 17, 3) := by decide +kernel
theorem dL_act_84 : decode cL_act 84 = .ok (.iload 4, 2) := by decide +kernel
theorem dL_act_86 : decode cL_act 86 = .ok (.iconst 3, 1) := by decide +kernel
theorem dL_act_87 : decode cL_act 87 = .ok (.ishr, 1) := by decide +kernel
theorem dL_act_88 : decode cL_act 88 = .ok (.bipush 30, 2) := by decide +kernel
theorem dL_act_90 : decode cL_act 90 = .ok (.invokestatic 84, 3) := by decide +kernel
theorem dL_act_93 : decode cL_act 93 = .ok (.iconst 1, 1) := by decide +kernel
theorem dL_act_94 : decode cL_act 94 = .ok (.isub, 1) := by decide +kernel
theorem dL_act_95 : decode cL_act 95 = .ok (.goto 12, 3) := by decide +kernel
theorem dL_act_98 : decode cL_act 98 = .ok (.iload 4, 2) := by decide +kernel
theorem dL_act_100 : decode cL_act 100 = .ok (.iconst 3, 1) := by decide +kernel
theorem dL_act_101 : decode cL_act 101 = .ok (.ishr, 1) := by decide +kernel
theorem dL_act_102 : decode cL_act 102 = .ok (.bipush 9, 2) := by decide +kernel
theorem dL_act_104 : decode cL_act 104 = .ok (.invokestatic 84, 3) := by decide +kernel
theorem dL_act_107 : decode cL_act 107 = .ok (.istore 7, 2) := by decide +kernel
theorem dL_act_109 : decode cL_act 109 = .ok (.iload_n 3, 1) := by decide +kernel
theorem dL_act_110 : decode cL_act 110 = .ok (.bipush 12, 2) := by decide +kernel
theorem dL_act_112 : decode cL_act 112 = .ok (.if_icmp .ge 181, 3) := by decide +kernel
theorem dL_act_115 : decode cL_act 115 = .ok (.iload_n 3, 1) := by decide +kernel
theorem dL_act_116 : decode cL_act 116 = .ok (.iconst 3, 1) := by decide +kernel
theorem dL_act_117 : decode cL_act 117 = .ok (.if_icmp .ge 53, 3) := by decide +kernel
theorem dL_act_120 : decode cL_act 120 = .ok (.aload_n 0, 1) := by decide +kernel
theorem dL_act_121 : decode cL_act 121 = .ok (.iconst 1, 1) := by decide +kernel
theorem dL_act_122 : decode cL_act 122 = .ok (.iload 5, 2) := by decide +kernel
theorem dL_act_124 : decode cL_act 124 = .ok (.iload_n 2, 1) := by decide +kernel
theorem dL_act_125 : decode cL_act 125 = .ok (.ifCond .eq 8, 3) := by decide +kernel
theorem dL_act_128 : decode cL_act 128 = .ok (.iload 4, 2) := by decide +kernel
theorem dL_act_130 : decode cL_act 130 = .ok (.goto 33, 3) := by decide +kernel
theorem dL_act_133 : decode cL_act 133 = .ok (.iload 4, 2) := by decide +kernel
theorem dL_act_135 : decode cL_act 135 = .ok (.iconst 3, 1) := by decide +kernel
theorem dL_act_136 : decode cL_act 136 = .ok (.ishr, 1) := by decide +kernel
theorem dL_act_137 : decode cL_act 137 = .ok (.iconst 3, 1) := by decide +kernel
theorem dL_act_138 : decode cL_act 138 = .ok (.iand, 1) := by decide +kernel
theorem dL_act_139 : decode cL_act 139 = .ok (.ifCond .ne 15, 3) := by decide +kernel
theorem dL_act_142 : decode cL_act 142 = .ok (.iload 4, 2) := by decide +kernel
theorem dL_act_144 : decode cL_act 144 = .ok (.iconst 5, 1) := by decide +kernel
theorem dL_act_145 : decode cL_act 145 = .ok (.ishr, 1) := by decide +kernel
theorem dL_act_146 : decode cL_act 146 = .ok (.ldc 89, 2) := by decide +kernel
theorem dL_act_148 : decode cL_act 148 = .ok (.invokestatic 84, 3) := by decide +kernel
theorem dL_act_151 : decode cL_act 151 = .ok (.goto 12, 3) := by decide +kernel
theorem dL_act_154 : decode cL_act 154 = .ok (.iload 4, 2) := by decide +kernel
theorem dL_act_156 : decode cL_act 156 = .ok (.iconst 5, 1) := by decide +kernel
theorem dL_act_157 : decode cL_act 157 = .ok (.ishr, 1) := by decide +kernel
theorem dL_act_158 : decode cL_act 158 = .ok (.ldc 90, 2) := by decide +kernel
theorem dL_act_160 : decode cL_act 160 = .ok (.invokestatic 84, 3) := by decide +kernel
theorem dL_act_163 : decode cL_act 163 = .ok (.iconst 0, 1) := by decide +kernel
theorem dL_act_164 : decode cL_act 164 = .ok (.invokestatic 91, 3) := by decide +kernel
theorem dL_act_167 : decode cL_act 167 = .ok (.goto 125, 3) := by decide +kernel
theorem dL_act_170 : decode cL_act 170 = .ok (.iload_n 3, 1) := by decide +kernel
theorem dL_act_171 : decode cL_act 171 = .ok (.iconst 3, 1) := by decide +kernel
theorem dL_act_172 : decode cL_act 172 = .ok (.if_icmp .ne 15, 3) := by decide +kernel
theorem dL_act_175 : decode cL_act 175 = .ok (.aload_n 0, 1) := by decide +kernel
theorem dL_act_176 : decode cL_act 176 = .ok (.iconst 2, 1) := by decide +kernel
theorem dL_act_177 : decode cL_act 177 = .ok (.iload 6, 2) := by decide +kernel
theorem dL_act_179 : decode cL_act 179 = .ok (.iconst 0, 1) := by decide +kernel
theorem dL_act_180 : decode cL_act 180 = .ok (.iconst 0, 1) := by decide +kernel
theorem dL_act_181 : decode cL_act 181 = .ok (.invokestatic 91, 3) := by decide +kernel
theorem dL_act_184 : decode cL_act 184 = .ok (.goto 108, 3) := by decide +kernel
theorem dL_act_187 : decode cL_act 187 = .ok (.iload_n 3, 1) := by decide +kernel
theorem dL_act_188 : decode cL_act 188 = .ok (.iconst 4, 1) := by decide +kernel
theorem dL_act_189 : decode cL_act 189 = .ok (.if_icmp .ne 34, 3) := by decide +kernel
theorem dL_act_192 : decode cL_act 192 = .ok (.aload_n 0, 1) := by decide +kernel
theorem dL_act_193 : decode cL_act 193 = .ok (.iconst 3, 1) := by decide +kernel
theorem dL_act_194 : decode cL_act 194 = .ok (.bipush 50, 2) := by decide +kernel
theorem dL_act_196 : decode cL_act 196 = .ok (.iload 4, 2) := by decide +kernel
theorem dL_act_198 : decode cL_act 198 = .ok (.iload_n 2, 1) := by decide +kernel
theorem dL_act_199 : decode cL_act 199 = .ok (.ifCond .eq 9, 3) := by decide +kernel
theorem dL_act_202 : decode cL_act 202 = .ok (.sipush 190, 3) := by decide +kernel
theorem dL_act_205 : decode cL_act 205 = .ok (.goto 6, 3) := by decide +kernel
theorem dL_act_208 : decode cL_act 208 = .ok (.sipush 151, 3) := by decide +kernel
theorem dL_act_211 : decode cL_act 211 = .ok (.invokestatic 84, 3) := by decide +kernel
theorem dL_act_214 : decode cL_act 214 = .ok (.iadd, 1) := by decide +kernel
theorem dL_act_215 : decode cL_act 215 = .ok (.iconst 0, 1) := by decide +kernel
theorem dL_act_216 : decode cL_act 216 = .ok (.iconst 0, 1) := by decide +kernel
theorem dL_act_217 : decode cL_act 217 = .ok (.invokestatic 91, 3) := by decide +kernel
theorem dL_act_220 : decode cL_act 220 = .ok (.goto 72, 3) := by decide +kernel
theorem dL_act_223 : decode cL_act 223 = .ok (.iload_n 3, 1) := by decide +kernel
theorem dL_act_224 : decode cL_act 224 = .ok (.bipush 9, 2) := by decide +kernel
theorem dL_act_226 : decode cL_act 226 = .ok (.if_icmp .ge 24, 3) := by decide +kernel
theorem dL_act_229 : decode cL_act 229 = .ok (.aload_n 0, 1) := by decide +kernel
theorem dL_act_230 : decode cL_act 230 = .ok (.iconst 4, 1) := by decide +kernel
theorem dL_act_231 : decode cL_act 231 = .ok (.iload 5, 2) := by decide +kernel
theorem dL_act_233 : decode cL_act 233 = .ok (.iload 4, 2) := by decide +kernel
theorem dL_act_235 : decode cL_act 235 = .ok (.iconst 2, 1) := by decide +kernel
theorem dL_act_236 : decode cL_act 236 = .ok (.ishr, 1) := by decide +kernel
theorem dL_act_237 : decode cL_act 237 = .ok (.sipush 400, 3) := by decide +kernel
theorem dL_act_240 : decode cL_act 240 = .ok (.invokestatic 84, 3) := by decide +kernel
theorem dL_act_243 : decode cL_act 243 = .ok (.iconst 0, 1) := by decide +kernel
theorem dL_act_244 : decode cL_act 244 = .ok (.invokestatic 91, 3) := by decide +kernel
theorem dL_act_247 : decode cL_act 247 = .ok (.goto 45, 3) := by decide +kernel
theorem dL_act_250 : decode cL_act 250 = .ok (.aload_n 0, 1) := by decide +kernel
theorem dL_act_251 : decode cL_act 251 = .ok (.iconst 5, 1) := by decide +kernel
theorem dL_act_252 : decode cL_act 252 = .ok (.iload_n 2, 1) := by decide +kernel
theorem dL_act_253 : decode cL_act 253 = .ok (.ifCond .eq 8, 3) := by decide +kernel
theorem dL_act_256 : decode cL_act 256 = .ok (.iload 4, 2) := by decide +kernel
theorem dL_act_258 : decode cL_act 258 = .ok (.goto 29, 3) := by decide +kernel
theorem dL_act_261 : decode cL_act 261 = .ok (.iconst 1, 1) := by decide +kernel
theorem dL_act_262 : decode cL_act 262 = .ok (.iload 4, 2) := by decide +kernel
theorem dL_act_264 : decode cL_act 264 = .ok (.iconst 2, 1) := by decide +kernel
theorem dL_act_265 : decode cL_act 265 = .ok (.ishr, 1) := by decide +kernel
theorem dL_act_266 : decode cL_act 266 = .ok (.iload 4, 2) := by decide +kernel
theorem dL_act_268 : decode cL_act 268 = .ok (.bipush 9, 2) := by decide +kernel
theorem dL_act_270 : decode cL_act 270 = .ok (.ishr, 1) := by decide +kernel
theorem dL_act_271 : decode cL_act 271 = .ok (.iconst 1, 1) := by decide +kernel
theorem dL_act_272 : decode cL_act 272 = .ok (.iand, 1) := by decide +kernel
theorem dL_act_273 : decode cL_act 273 = .ok (.ifCond .ne 8, 3) := by decide +kernel
theorem dL_act_276 : decode cL_act 276 = .ok (.ldc 95, 2) := by decide +kernel
theorem dL_act_278 : decode cL_act 278 = .ok (.goto 5, 3) := by decide +kernel
theorem dL_act_281 : decode cL_act 281 = .ok (.bipush 50, 2) := by decide +kernel
theorem dL_act_283 : decode cL_act 283 = .ok (.invokestatic 84, 3) := by decide +kernel
theorem dL_act_286 : decode cL_act 286 = .ok (.iadd, 1) := by decide +kernel
theorem dL_act_287 : decode cL_act 287 = .ok (.iconst 0, 1) := by decide +kernel
theorem dL_act_288 : decode cL_act 288 = .ok (.iconst 0, 1) := by decide +kernel
theorem dL_act_289 : decode cL_act 289 = .ok (.invokestatic 91, 3) := by decide +kernel
theorem dL_act_292 : decode cL_act 292 = .ok (.lreturn, 1) := by decide +kernel
theorem dL_act_293 : decode cL_act 293 = .ok (.iload_n 3, 1) := by decide +kernel
theorem dL_act_294 : decode cL_act 294 = .ok (.bipush 28, 2) := by decide +kernel
theorem dL_act_296 : decode cL_act 296 = .ok (.if_icmp .ge 202, 3) := by decide +kernel
theorem dL_act_299 : decode cL_act 299 = .ok (.iload_n 3, 1) := by decide +kernel
theorem dL_act_300 : decode cL_act 300 = .ok (.bipush 15, 2) := by decide +kernel
theorem dL_act_302 : decode cL_act 302 = .ok (.if_icmp .ge 31, 3) := by decide +kernel
theorem dL_act_305 : decode cL_act 305 = .ok (.aload_n 0, 1) := by decide +kernel
theorem dL_act_306 : decode cL_act 306 = .ok (.bipush 6, 2) := by decide +kernel
theorem dL_act_308 : decode cL_act 308 = .ok (.iload 5, 2) := by decide +kernel
theorem dL_act_310 : decode cL_act 310 = .ok (.iload 4, 2) := by decide +kernel
theorem dL_act_312 : decode cL_act 312 = .ok (.iconst 2, 1) := by decide +kernel
theorem dL_act_313 : decode cL_act 313 = .ok (.ishr, 1) := by decide +kernel
theorem dL_act_314 : decode cL_act 314 = .ok (.iload_n 2, 1) := by decide +kernel
theorem dL_act_315 : decode cL_act 315 = .ok (.ifCond .eq 7, 3) := by decide +kernel
theorem dL_act_318 : decode cL_act 318 = .ok (.iconst 5, 1) := by decide +kernel
theorem dL_act_319 : decode cL_act 319 = .ok (.goto 4, 3) := by decide +kernel
theorem dL_act_322 : decode cL_act 322 = .ok (.iconst 3, 1) := by decide +kernel
theorem dL_act_323 : decode cL_act 323 = .ok (.invokestatic 84, 3) := by decide +kernel
theorem dL_act_326 : decode cL_act 326 = .ok (.iconst 0, 1) := by decide +kernel
theorem dL_act_327 : decode cL_act 327 = .ok (.invokestatic 91, 3) := by decide +kernel
theorem dL_act_330 : decode cL_act 330 = .ok (.goto 167, 3) := by decide +kernel
theorem dL_act_333 : decode cL_act 333 = .ok (.iload_n 3, 1) := by decide +kernel
theorem dL_act_334 : decode cL_act 334 = .ok (.bipush 17, 2) := by decide +kernel
theorem dL_act_336 : decode cL_act 336 = .ok (.if_icmp .ge 21, 3) := by decide +kernel
theorem dL_act_339 : decode cL_act 339 = .ok (.aload_n 0, 1) := by decide +kernel
theorem dL_act_340 : decode cL_act 340 = .ok (.bipush 7, 2) := by decide +kernel
theorem dL_act_342 : decode cL_act 342 = .ok (.iload 4, 2) := by decide +kernel
theorem dL_act_344 : decode cL_act 344 = .ok (.bipush 12, 2) := by decide +kernel
theorem dL_act_346 : decode cL_act 346 = .ok (.invokestatic 84, 3) := by decide +kernel
theorem dL_act_349 : decode cL_act 349 = .ok (.iconst 0, 1) := by decide +kernel
theorem dL_act_350 : decode cL_act 350 = .ok (.iconst 0, 1) := by decide +kernel
theorem dL_act_351 : decode cL_act 351 = .ok (.invokestatic 91, 3) := by decide +kernel
theorem dL_act_354 : decode cL_act 354 = .ok (.goto 143, 3) := by decide +kernel
theorem dL_act_357 : decode cL_act 357 = .ok (.iload_n 3, 1) := by decide +kernel
theorem dL_act_358 : decode cL_act 358 = .ok (.bipush 22, 2) := by decide +kernel
theorem dL_act_360 : decode cL_act 360 = .ok (.if_icmp .ge 49, 3) := by decide +kernel
theorem dL_act_363 : decode cL_act 363 = .ok (.aload_n 0, 1) := by decide +kernel
theorem dL_act_364 : decode cL_act 364 = .ok (.bipush 8, 2) := by decide +kernel
theorem dL_act_366 : decode cL_act 366 = .ok (.iload 6, 2) := by decide +kernel
theorem dL_act_368 : decode cL_act 368 = .ok (.iload 7, 2) := by decide +kernel
theorem dL_act_370 : decode cL_act 370 = .ok (.iload_n 2, 1) := by decide +kernel
theorem dL_act_371 : decode cL_act 371 = .ok (.ifCond .eq 8, 3) := by decide +kernel
theorem dL_act_374 : decode cL_act 374 = .ok (.iload 4, 2) := by decide +kernel
theorem dL_act_376 : decode cL_act 376 = .ok (.goto 27, 3) := by decide +kernel
theorem dL_act_379 : decode cL_act 379 = .ok (.iload 4, 2) := by decide +kernel
theorem dL_act_381 : decode cL_act 381 = .ok (.bipush 6, 2) := by decide +kernel
theorem dL_act_383 : decode cL_act 383 = .ok (.ishr, 1) := by decide +kernel
theorem dL_act_384 : decode cL_act 384 = .ok (.iload 4, 2) := by decide +kernel
theorem dL_act_386 : decode cL_act 386 = .ok (.iconst 4, 1) := by decide +kernel
theorem dL_act_387 : decode cL_act 387 = .ok (.ishr, 1) := by decide +kernel
theorem dL_act_388 : decode cL_act 388 = .ok (.iconst 3, 1) := by decide +kernel
theorem dL_act_389 : decode cL_act 389 = .ok (.iand, 1) := by decide +kernel
theorem dL_act_390 : decode cL_act 390 = .ok (.ifCond .ne 8, 3) := by decide +kernel
theorem dL_act_393 : decode cL_act 393 = .ok (.ldc 96, 2) := by decide +kernel
theorem dL_act_395 : decode cL_act 395 = .ok (.goto 5, 3) := by decide +kernel
theorem dL_act_398 : decode cL_act 398 = .ok (.ldc 97, 2) := by decide +kernel
theorem dL_act_400 : decode cL_act 400 = .ok (.invokestatic 84, 3) := by decide +kernel
theorem dL_act_403 : decode cL_act 403 = .ok (.invokestatic 91, 3) := by decide +kernel
theorem dL_act_406 : decode cL_act 406 = .ok (.goto 91, 3) := by decide +kernel
theorem dL_act_409 : decode cL_act 409 = .ok (.iload_n 3, 1) := by decide +kernel
theorem dL_act_410 : decode cL_act 410 = .ok (.bipush 26, 2) := by decide +kernel
theorem dL_act_412 : decode cL_act 412 = .ok (.if_icmp .ge 51, 3) := by decide +kernel
theorem dL_act_415 : decode cL_act 415 = .ok (.aload_n 0, 1) := by decide +kernel
theorem dL_act_416 : decode cL_act 416 = .ok (.bipush 9, 2) := by decide +kernel
theorem dL_act_418 : decode cL_act 418 = .ok (.iload 6, 2) := by decide +kernel
theorem dL_act_420 : decode cL_act 420 = .ok (.iload_n 2, 1) := by decide +kernel
theorem dL_act_421 : decode cL_act 421 = .ok (.ifCond .eq 8, 3) := by decide +kernel
theorem dL_act_424 : decode cL_act 424 = .ok (.iload 4, 2) := by decide +kernel
theorem dL_act_426 : decode cL_act 426 = .ok (.goto 30, 3) := by decide +kernel
theorem dL_act_429 : decode cL_act 429 = .ok (.iconst 1, 1) := by decide +kernel
theorem dL_act_430 : decode cL_act 430 = .ok (.iload 4, 2) := by decide +kernel
theorem dL_act_432 : decode cL_act 432 = .ok (.iconst 2, 1) := by decide +kernel
theorem dL_act_433 : decode cL_act 433 = .ok (.ishr, 1) := by decide +kernel
theorem dL_act_434 : decode cL_act 434 = .ok (.iload 4, 2) := by decide +kernel
theorem dL_act_436 : decode cL_act 436 = .ok (.bipush 9, 2) := by decide +kernel
theorem dL_act_438 : decode cL_act 438 = .ok (.ishr, 1) := by decide +kernel
theorem dL_act_439 : decode cL_act 439 = .ok (.iconst 1, 1) := by decide +kernel
theorem dL_act_440 : decode cL_act 440 = .ok (.iand, 1) := by decide +kernel
theorem dL_act_441 : decode cL_act 441 = .ok (.ifCond .ne 8, 3) := by decide +kernel
theorem dL_act_444 : decode cL_act 444 = .ok (.ldc 97, 2) := by decide +kernel
theorem dL_act_446 : decode cL_act 446 = .ok (.goto 6, 3) := by decide +kernel
theorem dL_act_449 : decode cL_act 449 = .ok (.sipush 9000, 3) := by decide +kernel
theorem dL_act_452 : decode cL_act 452 = .ok (.invokestatic 84, 3) := by decide +kernel
theorem dL_act_455 : decode cL_act 455 = .ok (.iadd, 1) := by decide +kernel
theorem dL_act_456 : decode cL_act 456 = .ok (.iconst 0, 1) := by decide +kernel
theorem dL_act_457 : decode cL_act 457 = .ok (.invokestatic 91, 3) := by decide +kernel
theorem dL_act_460 : decode cL_act 460 = .ok (.goto 37, 3) := by decide +kernel
theorem dL_act_463 : decode cL_act 463 = .ok (.aload_n 0, 1) := by decide +kernel
theorem dL_act_464 : decode cL_act 464 = .ok (.bipush 10, 2) := by decide +kernel
theorem dL_act_466 : decode cL_act 466 = .ok (.iload 6, 2) := by decide +kernel
theorem dL_act_468 : decode cL_act 468 = .ok (.iload_n 2, 1) := by decide +kernel
theorem dL_act_469 : decode cL_act 469 = .ok (.ifCond .eq 13, 3) := by decide +kernel
theorem dL_act_472 : decode cL_act 472 = .ok (.iload 4, 2) := by decide +kernel
theorem dL_act_474 : decode cL_act 474 = .ok (.bipush 16, 2) := by decide +kernel
theorem dL_act_476 : decode cL_act 476 = .ok (.invokestatic 84, 3) := by decide +kernel
theorem dL_act_479 : decode cL_act 479 = .ok (.goto 14, 3) := by decide +kernel
theorem dL_act_482 : decode cL_act 482 = .ok (.iconst 1, 1) := by decide +kernel
theorem dL_act_483 : decode cL_act 483 = .ok (.iload 4, 2) := by decide +kernel
theorem dL_act_485 : decode cL_act 485 = .ok (.iconst 3, 1) := by decide +kernel
theorem dL_act_486 : decode cL_act 486 = .ok (.ishr, 1) := by decide +kernel
theorem dL_act_487 : decode cL_act 487 = .ok (.bipush 12, 2) := by decide +kernel
theorem dL_act_489 : decode cL_act 489 = .ok (.invokestatic 84, 3) := by decide +kernel
theorem dL_act_492 : decode cL_act 492 = .ok (.iadd, 1) := by decide +kernel
theorem dL_act_493 : decode cL_act 493 = .ok (.iconst 0, 1) := by decide +kernel
theorem dL_act_494 : decode cL_act 494 = .ok (.invokestatic 91, 3) := by decide +kernel
theorem dL_act_497 : decode cL_act 497 = .ok (.lreturn, 1) := by decide +kernel
theorem dL_act_498 : decode cL_act 498 = .ok (.aload_n 0, 1) := by decide +kernel
theorem dL_act_499 : decode cL_act 499 = .ok (.bipush 11, 2) := by decide +kernel
theorem dL_act_501 : decode cL_act 501 = .ok (.iload_n 2, 1) := by decide +kernel
theorem dL_act_502 : decode cL_act 502 = .ok (.ifCond .eq 13, 3) := by decide +kernel
theorem dL_act_505 : decode cL_act 505 = .ok (.iload 4, 2) := by decide +kernel
theorem dL_act_507 : decode cL_act 507 = .ok (.bipush 80, 2) := by decide +kernel
theorem dL_act_509 : decode cL_act 509 = .ok (.invokestatic 84, 3) := by decide +kernel
theorem dL_act_512 : decode cL_act 512 = .ok (.goto 27, 3) := by decide +kernel
theorem dL_act_515 : decode cL_act 515 = .ok (.iconst 1, 1) := by decide +kernel
theorem dL_act_516 : decode cL_act 516 = .ok (.iload 4, 2) := by decide +kernel
theorem dL_act_518 : decode cL_act 518 = .ok (.iload 4, 2) := by decide +kernel
theorem dL_act_520 : decode cL_act 520 = .ok (.bipush 6, 2) := by decide +kernel
theorem dL_act_522 : decode cL_act 522 = .ok (.ishr, 1) := by decide +kernel
theorem dL_act_523 : decode cL_act 523 = .ok (.iconst 1, 1) := by decide +kernel
theorem dL_act_524 : decode cL_act 524 = .ok (.iand, 1) := by decide +kernel
theorem dL_act_525 : decode cL_act 525 = .ok (.ifCond .ne 8, 3) := by decide +kernel
theorem dL_act_528 : decode cL_act 528 = .ok (.bipush 12, 2) := by decide +kernel
theorem dL_act_530 : decode cL_act 530 = .ok (.goto 5, 3) := by decide +kernel
theorem dL_act_533 : decode cL_act 533 = .ok (.bipush 32, 2) := by decide +kernel
theorem dL_act_535 : decode cL_act 535 = .ok (.invokestatic 84, 3) := by decide +kernel
theorem dL_act_538 : decode cL_act 538 = .ok (.iadd, 1) := by decide +kernel
theorem dL_act_539 : decode cL_act 539 = .ok (.iconst 0, 1) := by decide +kernel
theorem dL_act_540 : decode cL_act 540 = .ok (.iconst 0, 1) := by decide +kernel
theorem dL_act_541 : decode cL_act 541 = .ok (.invokestatic 91, 3) := by decide +kernel
theorem dL_act_544 : decode cL_act 544 = .ok (.lreturn, 1) := by decide +kernel
theorem dL_areAlike_0 : decode cL_areAlike 0 = .ok (.aload_n 0, 1) := by decide +kernel
theorem dL_areAlike_1 : decode cL_areAlike 1 = .ok (.invokevirtual 98, 3) := by decide +kernel
theorem dL_areAlike_4 : decode cL_areAlike 4 = .ok (.aload_n 1, 1) := by decide +kernel
theorem dL_areAlike_5 : decode cL_areAlike 5 = .ok (.invokevirtual 98, 3) := by decide +kernel
theorem dL_areAlike_8 : decode cL_areAlike 8 = .ok (.lcmp, 1) := by decide +kernel
theorem dL_areAlike_9 : decode cL_areAlike 9 = .ok (.ifCond .ne 7, 3) := by decide +kernel
theorem dL_areAlike_12 : decode cL_areAlike 12 = .ok (.iconst 1, 1) := by decide +kernel
theorem dL_areAlike_13 : decode cL_areAlike 13 = .ok (.goto 4, 3) := by decide +kernel
theorem dL_areAlike_16 : decode cL_areAlike 16 = .ok (.iconst 0, 1) := by decide +kernel
theorem dL_areAlike_17 : decode cL_areAlike 17 = .ok (.istore_n 3, 1) := by decide +kernel
theorem dL_areAlike_18 : decode cL_areAlike 18 = .ok (.iload_n 2, 1) := by decide +kernel
theorem dL_areAlike_19 : decode cL_areAlike 19 = .ok (.bipush 20, 2) := by decide +kernel
theorem dL_areAlike_21 : decode cL_areAlike 21 = .ok (.invokestatic 84, 3) := by decide +kernel
theorem dL_areAlike_24 : decode cL_areAlike 24 = .ok (.istore 4, 2) := by decide +kernel
theorem dL_areAlike_26 : decode cL_areAlike 26 = .ok (.iconst 0, 1) := by decide +kernel
theorem dL_areAlike_27 : decode cL_areAlike 27 = .ok (.istore 5, 2) := by decide +kernel
theorem dL_areAlike_29 : decode cL_areAlike 29 = .ok (.iload 5, 2) := by decide +kernel
theorem dL_areAlike_31 : decode cL_areAlike 31 = .ok (.bipush 12, 2) := by decide +kernel
theorem dL_areAlike_33 : decode cL_areAlike 33 = .ok (.if_icmp .ge 242, 3) := by decide +kernel
theorem dL_areAlike_36 : decode cL_areAlike 36 = .ok (.iload_n 3, 1) := by decide +kernel
theorem dL_areAlike_37 : decode cL_areAlike 37 = .ok (.ifCond .eq 238, 3) := by decide +kernel
theorem dL_areAlike_40 : decode cL_areAlike 40 = .ok (.aload_n 0, 1) := by decide +kernel
theorem dL_areAlike_41 : decode cL_areAlike 41 = .ok (.bipush 12, 2) := by decide +kernel
theorem dL_areAlike_43 : decode cL_areAlike 43 = .ok (.iload 5, 2) := by decide +kernel
theorem dL_areAlike_45 : decode cL_areAlike 45 = .ok (.iconst 0, 1) := by decide +kernel
theorem dL_areAlike_46 : decode cL_areAlike 46 = .ok (.iconst 0, 1) := by decide +kernel
theorem dL_areAlike_47 : decode cL_areAlike 47 = .ok (.invokestatic 91, 3) := by decide +kernel
theorem dL_areAlike_50 : decode cL_areAlike 50 = .ok (.aload_n 1, 1) := by decide +kernel
theorem dL_areAlike_51 : decode cL_areAlike 51 = .ok (.bipush 12, 2) := by decide +kernel
theorem dL_areAlike_53 : decode cL_areAlike 53 = .ok (.iload 5, 2) := by decide +kernel
theorem dL_areAlike_55 : decode cL_areAlike 55 = .ok (.iconst 0, 1) := by decide +kernel
theorem dL_areAlike_56 : decode cL_areAlike 56 = .ok (.iconst 0, 1) := by decide +kernel
theorem dL_areAlike_57 : decode cL_areAlike 57 = .ok (.invokestatic 91, 3) := by decide +kernel
theorem dL_areAlike_60 : decode cL_areAlike 60 = .ok (.lcmp, 1) := by decide +kernel
theorem dL_areAlike_61 : decode cL_areAlike 61 = .ok (.ifCond .ne 105, 3) := by decide +kernel
theorem dL_areAlike_64 : decode cL_areAlike 64 = .ok (.aload_n 0, 1) := by decide +kernel
theorem dL_areAlike_65 : decode cL_areAlike 65 = .ok (.bipush 14, 2) := by decide +kernel
theorem dL_areAlike_67 : decode cL_areAlike 67 = .ok (.iload 5, 2) := by decide +kernel
theorem dL_areAlike_69 : decode cL_areAlike 69 = .ok (.iconst 0, 1) := by decide +kernel
theorem dL_areAlike_70 : decode cL_areAlike 70 = .ok (.iconst 0, 1) := by decide +kernel
theorem dL_areAlike_71 : decode cL_areAlike 71 = .ok (.invokestatic 91, 3) := by decide +kernel
theorem dL_areAlike_74 : decode cL_areAlike 74 = .ok (.aload_n 1, 1) := by decide +kernel
theorem dL_areAlike_75 : decode cL_areAlike 75 = .ok (.bipush 14, 2) := by decide +kernel
theorem dL_areAlike_77 : decode cL_areAlike 77 = .ok (.iload 5, 2) := by decide +kernel
theorem dL_areAlike_79 : decode cL_areAlike 79 = .ok (.iconst 0, 1) := by decide +kernel
theorem dL_areAlike_80 : decode cL_areAlike 80 = .ok (.iconst 0, 1) := by decide +kernel
theorem dL_areAlike_81 : decode cL_areAlike 81 = .ok (.invokestatic 91, 3) := by decide +kernel
theorem dL_areAlike_84 : decode cL_areAlike 84 = .ok (.lcmp, 1) := by decide +kernel
theorem dL_areAlike_85 : decode cL_areAlike 85 = .ok (.ifCond .ne 81, 3) := by decide +kernel
theorem dL_areAlike_88 : decode cL_areAlike 88 = .ok (.aload_n 0, 1) := by decide +kernel
theorem dL_areAlike_89 : decode cL_areAlike 89 = .ok (.bipush 19, 2) := by decide +kernel
theorem dL_areAlike_91 : decode cL_areAlike 91 = .ok (.iload 5, 2) := by decide +kernel
theorem dL_areAlike_93 : decode cL_areAlike 93 = .ok (.iconst 0, 1) := by decide +kernel
theorem dL_areAlike_94 : decode cL_areAlike 94 = .ok (.iconst 0, 1) := by decide +kernel
theorem dL_areAlike_95 : decode cL_areAlike 95 = .ok (.invokestatic 91, 3) := by decide +kernel
theorem dL_areAlike_98 : decode cL_areAlike 98 = .ok (.aload_n 1, 1) := by decide +kernel
theorem dL_areAlike_99 : decode cL_areAlike 99 = .ok (.bipush 19, 2) := by decide +kernel
theorem dL_areAlike_101 : decode cL_areAlike 101 = .ok (.iload 5, 2) := by decide +kernel
theorem dL_areAlike_103 : decode cL_areAlike 103 = .ok (.iconst 0, 1) := by decide +kernel
theorem dL_areAlike_104 : decode cL_areAlike 104 = .ok (.iconst 0, 1) := by decide +kernel
theorem dL_areAlike_105 : decode cL_areAlike 105 = .ok (.invokestatic 91, 3) := by decide +kernel
theorem dL_areAlike_108 : decode cL_areAlike 108 = .ok (.lcmp, 1) := by decide +kernel
theorem dL_areAlike_109 : decode cL_areAlike 109 = .ok (.ifCond .ne 57, 3) := by decide +kernel
theorem dL_areAlike_112 : decode cL_areAlike 112 = .ok (.aload_n 0, 1) := by decide +kernel
theorem dL_areAlike_113 : decode cL_areAlike 113 = .ok (.bipush 17, 2) := by decide +kernel
theorem dL_areAlike_115 : decode cL_areAlike 115 = .ok (.iload 5, 2) := by decide +kernel
theorem dL_areAlike_117 : decode cL_areAlike 117 = .ok (.iload 4, 2) := by decide +kernel
theorem dL_areAlike_119 : decode cL_areAlike 119 = .ok (.iconst 0, 1) := by decide +kernel
theorem dL_areAlike_120 : decode cL_areAlike 120 = .ok (.invokestatic 91, 3) := by decide +kernel
theorem dL_areAlike_123 : decode cL_areAlike 123 = .ok (.aload_n 1, 1) := by decide +kernel
theorem dL_areAlike_124 : decode cL_areAlike 124 = .ok (.bipush 17, 2) := by decide +kernel
theorem dL_areAlike_126 : decode cL_areAlike 126 = .ok (.iload 5, 2) := by decide +kernel
theorem dL_areAlike_128 : decode cL_areAlike 128 = .ok (.iload 4, 2) := by decide +kernel
theorem dL_areAlike_130 : decode cL_areAlike 130 = .ok (.iconst 0, 1) := by decide +kernel
theorem dL_areAlike_131 : decode cL_areAlike 131 = .ok (.invokestatic 91, 3) := by decide +kernel
theorem dL_areAlike_134 : decode cL_areAlike 134 = .ok (.lcmp, 1) := by decide +kernel
theorem dL_areAlike_135 : decode cL_areAlike 135 = .ok (.ifCond .ne 31, 3) := by decide +kernel
theorem dL_areAlike_138 : decode cL_areAlike 138 = .ok (.aload_n 0, 1) := by decide +kernel
theorem dL_areAlike_139 : decode cL_areAlike 139 = .ok (.bipush 18, 2) := by decide +kernel
theorem dL_areAlike_141 : decode cL_areAlike 141 = .ok (.iload 5, 2) := by decide +kernel
theorem dL_areAlike_143 : decode cL_areAlike 143 = .ok (.iconst 0, 1) := by decide +kernel
theorem dL_areAlike_144 : decode cL_areAlike 144 = .ok (.iconst 0, 1) := by decide +kernel
theorem dL_areAlike_145 : decode cL_areAlike 145 = .ok (.invokestatic 91, 3) := by decide +kernel
theorem dL_areAlike_148 : decode cL_areAlike 148 = .ok (.aload_n 1, 1) := by decide +kernel
theorem dL_areAlike_149 : decode cL_areAlike 149 = .ok (.bipush 18, 2) := by decide +kernel
theorem dL_areAlike_151 : decode cL_areAlike 151 = .ok (.iload 5, 2) := by decide +kernel
theorem dL_areAlike_153 : decode cL_areAlike 153 = .ok (.iconst 0, 1) := by decide +kernel
theorem dL_areAlike_154 : decode cL_areAlike 154 = .ok (.iconst 0, 1) := by decide +kernel
theorem dL_areAlike_155 : decode cL_areAlike 155 = .ok (.invokestatic 91, 3) := by decide +kernel
theorem dL_areAlike_158 : decode cL_areAlike 158 = .ok (.lcmp, 1) := by decide +kernel
theorem dL_areAlike_159 : decode cL_areAlike 159 = .ok (.ifCond .ne 7, 3) := by decide +kernel
theorem dL_areAlike_162 : decode cL_areAlike 162 = .ok (.iconst 1, 1) := by decide +kernel
theorem dL_areAlike_163 : decode cL_areAlike 163 = .ok (.goto 4, 3) := by decide +kernel
theorem dL_areAlike_166 : decode cL_areAlike 166 = .ok (.iconst 0, 1) := by decide +kernel
theorem dL_areAlike_167 : decode cL_areAlike 167 = .ok (.istore_n 3, 1) := by decide +kernel
theorem dL_areAlike_168 : decode cL_areAlike 168 = .ok (.iconst 0, 1) := by decide +kernel
theorem dL_areAlike_169 : decode cL_areAlike 169 = .ok (.istore 6, 2) := by decide +kernel
theorem dL_areAlike_171 : decode cL_areAlike 171 = .ok (.iload 6, 2) := by decide +kernel
theorem dL_areAlike_173 : decode cL_areAlike 173 = .ok (.iconst 4, 1) := by decide +kernel
theorem dL_areAlike_174 : decode cL_areAlike 174 = .ok (.if_icmp .ge 95, 3) := by decide +kernel
theorem dL_areAlike_177 : decode cL_areAlike 177 = .ok (.iload_n 3, 1) := by decide +kernel
theorem dL_areAlike_178 : decode cL_areAlike 178 = .ok (.ifCond .eq 91, 3) := by decide +kernel
theorem dL_areAlike_181 : decode cL_areAlike 181 = .ok (.aload_n 0, 1) := by decide +kernel
theorem dL_areAlike_182 : decode cL_areAlike 182 = .ok (.bipush 15, 2) := by decide +kernel
theorem dL_areAlike_184 : decode cL_areAlike 184 = .ok (.iload 5, 2) := by decide +kernel
theorem dL_areAlike_186 : decode cL_areAlike 186 = .ok (.iload 4, 2) := by decide +kernel
theorem dL_areAlike_188 : decode cL_areAlike 188 = .ok (.iload 6, 2) := by decide +kernel
theorem dL_areAlike_190 : decode cL_areAlike 190 = .ok (.invokestatic 91, 3) := by decide +kernel
theorem dL_areAlike_193 : decode cL_areAlike 193 = .ok (.aload_n 1, 1) := by decide +kernel
theorem dL_areAlike_194 : decode cL_areAlike 194 = .ok (.bipush 15, 2) := by decide +kernel
theorem dL_areAlike_196 : decode cL_areAlike 196 = .ok (.iload 5, 2) := by decide +kernel
theorem dL_areAlike_198 : decode cL_areAlike 198 = .ok (.iload 4, 2) := by decide +kernel
theorem dL_areAlike_200 : decode cL_areAlike 200 = .ok (.iload 6, 2) := by decide +kernel
theorem dL_areAlike_202 : decode cL_areAlike 202 = .ok (.invokestatic 91, 3) := by decide +kernel
theorem dL_areAlike_205 : decode cL_areAlike 205 = .ok (.lcmp, 1) := by decide +kernel
theorem dL_areAlike_206 : decode cL_areAlike 206 = .ok (.ifCond .ne 55, 3) := by decide +kernel
theorem dL_areAlike_209 : decode cL_areAlike 209 = .ok (.aload_n 0, 1) := by decide +kernel
theorem dL_areAlike_210 : decode cL_areAlike 210 = .ok (.bipush 16, 2) := by decide +kernel
theorem dL_areAlike_212 : decode cL_areAlike 212 = .ok (.iload 5, 2) := by decide +kernel
theorem dL_areAlike_214 : decode cL_areAlike 214 = .ok (.iload 4, 2) := by decide +kernel
theorem dL_areAlike_216 : decode cL_areAlike 216 = .ok (.iload_n 2, 1) := by decide +kernel
theorem dL_areAlike_217 : decode cL_areAlike 217 = .ok (.bipush 7, 2) := by decide +kernel
theorem dL_areAlike_219 : decode cL_areAlike 219 = .ok (.iload 6, 2) := by decide +kernel
theorem dL_areAlike_221 : decode cL_areAlike 221 = .ok (.imul, 1) := by decide +kernel
theorem dL_areAlike_222 : decode cL_areAlike 222 = .ok (.iadd, 1) := by decide +kernel
theorem dL_areAlike_223 : decode cL_areAlike 223 = .ok (.bipush 60, 2) := by decide +kernel
theorem dL_areAlike_225 : decode cL_areAlike 225 = .ok (.invokestatic 84, 3) := by decide +kernel
theorem dL_areAlike_228 : decode cL_areAlike 228 = .ok (.invokestatic 91, 3) := by decide +kernel
theorem dL_areAlike_231 : decode cL_areAlike 231 = .ok (.aload_n 1, 1) := by decide +kernel
theorem dL_areAlike_232 : decode cL_areAlike 232 = .ok (.bipush 16, 2) := by decide +kernel
theorem dL_areAlike_234 : decode cL_areAlike 234 = .ok (.iload 5, 2) := by decide +kernel
theorem dL_areAlike_236 : decode cL_areAlike 236 = .ok (.iload 4, 2) := by decide +kernel
theorem dL_areAlike_238 : decode cL_areAlike 238 = .ok (.iload_n 2, 1) := by decide +kernel
theorem dL_areAlike_239 : decode cL_areAlike 239 = .ok (.bipush 7, 2) := by decide +kernel
theorem dL_areAlike_241 : decode cL_areAlike 241 = .ok (.iload 6, 2) := by decide +kernel
theorem dL_areAlike_243 : decode cL_areAlike 243 = .ok (.imul, 1) := by decide +kernel
theorem dL_areAlike_244 : decode cL_areAlike 244 = .ok (.iadd, 1) := by decide +kernel
theorem dL_areAlike_245 : decode cL_areAlike 245 = .ok (.bipush 60, 2) := by decide +kernel
theorem dL_areAlike_247 : decode cL_areAlike 247 = .ok (.invokestatic 84, 3) := by decide +kernel
theorem dL_areAlike_250 : decode cL_areAlike 250 = .ok (.invokestatic 91, 3) := by decide +kernel
theorem dL_areAlike_253 : decode cL_areAlike 253 = .ok (.lcmp, 1) := by decide +kernel
theorem dL_areAlike_254 : decode cL_areAlike 254 = .ok (.ifCond .ne 7, 3) := by decide +kernel
theorem dL_areAlike_257 : decode cL_areAlike 257 = .ok (.iconst 1, 1) := by decide +kernel
theorem dL_areAlike_258 : decode cL_areAlike 258 = .ok (.goto 4, 3) := by decide +kernel
theorem dL_areAlike_261 : decode cL_areAlike 261 = .ok (.iconst 0, 1) := by decide +kernel
theorem dL_areAlike_262 : decode cL_areAlike 262 = .ok (.istore_n 3, 1) := by decide +kernel
theorem dL_areAlike_263 : decode cL_areAlike 263 = .ok (.iinc 6 1, 3) := by decide +kernel
theorem dL_areAlike_266 : decode cL_areAlike 266 = .ok (.goto (-95), 3) := by decide +kernel
theorem dL_areAlike_269 : decode cL_areAlike 269 = .ok (.iinc 5 1, 3) := by decide +kernel
theorem dL_areAlike_272 : decode cL_areAlike 272 = .ok (.goto (-243), 3) := by decide +kernel
theorem dL_areAlike_275 : decode cL_areAlike 275 = .ok (.iload_n 3, 1) := by decide +kernel
theorem dL_areAlike_276 : decode cL_areAlike 276 = .ok (.ireturn, 1) := by decide +kernel
theorem dL_isInOrder_0 : decode cL_isInOrder 0 = .ok (.lconst 0, 1) := by decide +kernel
theorem dL_isInOrder_1 : decode cL_isInOrder 1 = .ok (.lstore_n 2, 1) := by decide +kernel
theorem dL_isInOrder_2 : decode cL_isInOrder 2 = .ok (.iconst 1, 1) := by decide +kernel
theorem dL_isInOrder_3 : decode cL_isInOrder 3 = .ok (.istore 4, 2) := by decide +kernel
theorem dL_isInOrder_5 : decode cL_isInOrder 5 = .ok (.iconst 0, 1) := by decide +kernel
theorem dL_isInOrder_6 : decode cL_isInOrder 6 = .ok (.istore 5, 2) := by decide +kernel
theorem dL_isInOrder_8 : decode cL_isInOrder 8 = .ok (.iload 5, 2) := by decide +kernel
theorem dL_isInOrder_10 : decode cL_isInOrder 10 = .ok (.bipush 12, 2) := by decide +kernel
theorem dL_isInOrder_12 : decode cL_isInOrder 12 = .ok (.if_icmp .ge 318, 3) := by decide +kernel
theorem dL_isInOrder_15 : decode cL_isInOrder 15 = .ok (.iload 4, 2) := by decide +kernel
theorem dL_isInOrder_17 : decode cL_isInOrder 17 = .ok (.ifCond .eq 313, 3) := by decide +kernel
theorem dL_isInOrder_20 : decode cL_isInOrder 20 = .ok (.aload_n 0, 1) := by decide +kernel
theorem dL_isInOrder_21 : decode cL_isInOrder 21 = .ok (.bipush 12, 2) := by decide +kernel
theorem dL_isInOrder_23 : decode cL_isInOrder 23 = .ok (.iload 5, 2) := by decide +kernel
theorem dL_isInOrder_25 : decode cL_isInOrder 25 = .ok (.iconst 0, 1) := by decide +kernel
theorem dL_isInOrder_26 : decode cL_isInOrder 26 = .ok (.iconst 0, 1) := by decide +kernel
theorem dL_isInOrder_27 : decode cL_isInOrder 27 = .ok (.invokestatic 91, 3) := by decide +kernel
theorem dL_isInOrder_30 : decode cL_isInOrder 30 = .ok (.lstore 6, 2) := by decide +kernel
theorem dL_isInOrder_32 : decode cL_isInOrder 32 = .ok (.lload 6, 2) := by decide +kernel
theorem dL_isInOrder_34 : decode cL_isInOrder 34 = .ok (.ldc2_w 78, 3) := by decide +kernel
theorem dL_isInOrder_37 : decode cL_isInOrder 37 = .ok (.lcmp, 1) := by decide +kernel
theorem dL_isInOrder_38 : decode cL_isInOrder 38 = .ok (.ifCond .eq 286, 3) := by decide +kernel
theorem dL_isInOrder_41 : decode cL_isInOrder 41 = .ok (.aload_n 1, 1) := by decide +kernel
theorem dL_isInOrder_42 : decode cL_isInOrder 42 = .ok (.iload 5, 2) := by decide +kernel
theorem dL_isInOrder_44 : decode cL_isInOrder 44 = .ok (.laload, 1) := by decide +kernel
theorem dL_isInOrder_45 : decode cL_isInOrder 45 = .ok (.lneg, 1) := by decide +kernel
theorem dL_isInOrder_46 : decode cL_isInOrder 46 = .ok (.lstore 8, 2) := by decide +kernel
theorem dL_isInOrder_48 : decode cL_isInOrder 48 = .ok (.iconst 0, 1) := by decide +kernel
theorem dL_isInOrder_49 : decode cL_isInOrder 49 = .ok (.istore 10, 2) := by decide +kernel
theorem dL_isInOrder_51 : decode cL_isInOrder 51 = .ok (.aload_n 0, 1) := by decide +kernel
theorem dL_isInOrder_52 : decode cL_isInOrder 52 = .ok (.bipush 15, 2) := by decide +kernel
theorem dL_isInOrder_54 : decode cL_isInOrder 54 = .ok (.iload 5, 2) := by decide +kernel
theorem dL_isInOrder_56 : decode cL_isInOrder 56 = .ok (.iload 10, 2) := by decide +kernel
theorem dL_isInOrder_58 : decode cL_isInOrder 58 = .ok (.iconst 0, 1) := by decide +kernel
theorem dL_isInOrder_59 : decode cL_isInOrder 59 = .ok (.invokestatic 91, 3) := by decide +kernel
theorem dL_isInOrder_62 : decode cL_isInOrder 62 = .ok (.ldc2_w 78, 3) := by decide +kernel
theorem dL_isInOrder_65 : decode cL_isInOrder 65 = .ok (.lcmp, 1) := by decide +kernel
theorem dL_isInOrder_66 : decode cL_isInOrder 66 = .ok (.ifCond .eq 214, 3) := by decide +kernel
theorem dL_isInOrder_69 : decode cL_isInOrder 69 = .ok (.iload 4, 2) := by decide +kernel
theorem dL_isInOrder_71 : decode cL_isInOrder 71 = .ok (.ifCond .eq 209, 3) := by decide +kernel
theorem dL_isInOrder_74 : decode cL_isInOrder 74 = .ok (.aload_n 0, 1) := by decide +kernel
theorem dL_isInOrder_75 : decode cL_isInOrder 75 = .ok (.iload 5, 2) := by decide +kernel
theorem dL_isInOrder_77 : decode cL_isInOrder 77 = .ok (.iload 10, 2) := by decide +kernel
theorem dL_isInOrder_79 : decode cL_isInOrder 79 = .ok (.iconst 0, 1) := by decide +kernel
theorem dL_isInOrder_80 : decode cL_isInOrder 80 = .ok (.invokevirtual 60, 3) := by decide +kernel
theorem dL_isInOrder_83 : decode cL_isInOrder 83 = .ok (.lstore 11, 2) := by decide +kernel
theorem dL_isInOrder_85 : decode cL_isInOrder 85 = .ok (.aload_n 0, 1) := by decide +kernel
theorem dL_isInOrder_86 : decode cL_isInOrder 86 = .ok (.iload 5, 2) := by decide +kernel
theorem dL_isInOrder_88 : decode cL_isInOrder 88 = .ok (.iload 10, 2) := by decide +kernel
theorem dL_isInOrder_90 : decode cL_isInOrder 90 = .ok (.iconst 1, 1) := by decide +kernel
theorem dL_isInOrder_91 : decode cL_isInOrder 91 = .ok (.invokevirtual 60, 3) := by decide +kernel
theorem dL_isInOrder_94 : decode cL_isInOrder 94 = .ok (.lstore 13, 2) := by decide +kernel
theorem dL_isInOrder_96 : decode cL_isInOrder 96 = .ok (.aload_n 0, 1) := by decide +kernel
theorem dL_isInOrder_97 : decode cL_isInOrder 97 = .ok (.iload 5, 2) := by decide +kernel
theorem dL_isInOrder_99 : decode cL_isInOrder 99 = .ok (.iload 10, 2) := by decide +kernel
theorem dL_isInOrder_101 : decode cL_isInOrder 101 = .ok (.iconst 2, 1) := by decide +kernel
theorem dL_isInOrder_102 : decode cL_isInOrder 102 = .ok (.invokevirtual 60, 3) := by decide +kernel
theorem dL_isInOrder_105 : decode cL_isInOrder 105 = .ok (.lstore 15, 2) := by decide +kernel
theorem dL_isInOrder_107 : decode cL_isInOrder 107 = .ok (.aload_n 0, 1) := by decide +kernel
theorem dL_isInOrder_108 : decode cL_isInOrder 108 = .ok (.iload 5, 2) := by decide +kernel
theorem dL_isInOrder_110 : decode cL_isInOrder 110 = .ok (.iload 10, 2) := by decide +kernel
theorem dL_isInOrder_112 : decode cL_isInOrder 112 = .ok (.iconst 3, 1) := by decide +kernel
theorem dL_isInOrder_113 : decode cL_isInOrder 113 = .ok (.invokevirtual 60, 3) := by decide +kernel
theorem dL_isInOrder_116 : decode cL_isInOrder 116 = .ok (.lstore 17, 2) := by decide +kernel
theorem dL_isInOrder_118 : decode cL_isInOrder 118 = .ok (.lload 11, 2) := by decide +kernel
theorem dL_isInOrder_120 : decode cL_isInOrder 120 = .ok (.ldc2_w 102, 3) := by decide +kernel
theorem dL_isInOrder_123 : decode cL_isInOrder 123 = .ok (.lcmp, 1) := by decide +kernel
theorem dL_isInOrder_124 : decode cL_isInOrder 124 = .ok (.ifCond .ne 52, 3) := by decide +kernel
theorem dL_isInOrder_127 : decode cL_isInOrder 127 = .ok (.lload 13, 2) := by decide +kernel
theorem dL_isInOrder_129 : decode cL_isInOrder 129 = .ok (.ldc2_w 102, 3) := by decide +kernel
theorem dL_isInOrder_132 : decode cL_isInOrder 132 = .ok (.lcmp, 1) := by decide +kernel
theorem dL_isInOrder_133 : decode cL_isInOrder 133 = .ok (.ifCond .ne 39, 3) := by decide +kernel
theorem dL_isInOrder_136 : decode cL_isInOrder 136 = .ok (.lload 15, 2) := by decide +kernel
theorem dL_isInOrder_138 : decode cL_isInOrder 138 = .ok (.ldc2_w 102, 3) := by decide +kernel
theorem dL_isInOrder_141 : decode cL_isInOrder 141 = .ok (.lcmp, 1) := by decide +kernel
theorem dL_isInOrder_142 : decode cL_isInOrder 142 = .ok (.ifCond .ne 30, 3) := by decide +kernel
theorem dL_isInOrder_145 : decode cL_isInOrder 145 = .ok (.lload 17, 2) := by decide +kernel
theorem dL_isInOrder_147 : decode cL_isInOrder 147 = .ok (.ldc2_w 102, 3) := by decide +kernel
theorem dL_isInOrder_150 : decode cL_isInOrder 150 = .ok (.lcmp, 1) := by decide +kernel
theorem dL_isInOrder_151 : decode cL_isInOrder 151 = .ok (.ifCond .ne 21, 3) := by decide +kernel
theorem dL_isInOrder_154 : decode cL_isInOrder 154 = .ok (.aload_n 0, 1) := by decide +kernel
theorem dL_isInOrder_155 : decode cL_isInOrder 155 = .ok (.iload 5, 2) := by decide +kernel
theorem dL_isInOrder_157 : decode cL_isInOrder 157 = .ok (.iload 10, 2) := by decide +kernel
theorem dL_isInOrder_159 : decode cL_isInOrder 159 = .ok (.iconst 0, 1) := by decide +kernel
theorem dL_isInOrder_160 : decode cL_isInOrder 160 = .ok (.invokevirtual 63, 3) := by decide +kernel
theorem dL_isInOrder_163 : decode cL_isInOrder 163 = .ok (.bipush 32, 2) := by decide +kernel
theorem dL_isInOrder_165 : decode cL_isInOrder 165 = .ok (.if_icmp .ne 7, 3) := by decide +kernel
theorem dL_isInOrder_168 : decode cL_isInOrder 168 = .ok (.iconst 1, 1) := by decide +kernel
theorem dL_isInOrder_169 : decode cL_isInOrder 169 = .ok (.goto 74, 3) := by decide +kernel
theorem dL_isInOrder_172 : decode cL_isInOrder 172 = .ok (.iconst 0, 1) := by decide +kernel
theorem dL_isInOrder_173 : decode cL_isInOrder 173 = .ok (.goto 70, 3) := by decide +kernel
theorem dL_isInOrder_176 : decode cL_isInOrder 176 = .ok (.lload 13, 2) := by decide +kernel
theorem dL_isInOrder_178 : decode cL_isInOrder 178 = .ok (.lconst 0, 1) := by decide +kernel
theorem dL_isInOrder_179 : decode cL_isInOrder 179 = .ok (.lcmp, 1) := by decide +kernel
theorem dL_isInOrder_180 : decode cL_isInOrder 180 = .ok (.ifCond .lt 62, 3) := by decide +kernel
theorem dL_isInOrder_183 : decode cL_isInOrder 183 = .ok (.lload 13, 2) := by decide +kernel
theorem dL_isInOrder_185 : decode cL_isInOrder 185 = .ok (.lload 11, 2) := by decide +kernel
theorem dL_isInOrder_187 : decode cL_isInOrder 187 = .ok (.lcmp, 1) := by decide +kernel
theorem dL_isInOrder_188 : decode cL_isInOrder 188 = .ok (.ifCond .gt 54, 3) := by decide +kernel
theorem dL_isInOrder_191 : decode cL_isInOrder 191 = .ok (.lload 15, 2) := by decide +kernel
theorem dL_isInOrder_193 : decode cL_isInOrder 193 = .ok (.lconst 0, 1) := by decide +kernel
theorem dL_isInOrder_194 : decode cL_isInOrder 194 = .ok (.lcmp, 1) := by decide +kernel
theorem dL_isInOrder_195 : decode cL_isInOrder 195 = .ok (.ifCond .lt 47, 3) := by decide +kernel
theorem dL_isInOrder_198 : decode cL_isInOrder 198 = .ok (.lload 15, 2) := by decide +kernel
theorem dL_isInOrder_200 : decode cL_isInOrder 200 = .ok (.lload 11, 2) := by decide +kernel
theorem dL_isInOrder_202 : decode cL_isInOrder 202 = .ok (.lload 13, 2) := by decide +kernel
theorem dL_isInOrder_204 : decode cL_isInOrder 204 = .ok (.lsub, 1) := by decide +kernel
theorem dL_isInOrder_205 : decode cL_isInOrder 205 = .ok (.ldc2_w 104, 3) := by decide +kernel
theorem dL_isInOrder_208 : decode cL_isInOrder 208 = .ok (.lmul, 1) := by decide +kernel
theorem dL_isInOrder_209 : decode cL_isInOrder 209 = .ok (.ldc2_w 106, 3) := by decide +kernel
theorem dL_isInOrder_212 : decode cL_isInOrder 212 = .ok (.ldiv, 1) := by decide +kernel
theorem dL_isInOrder_213 : decode cL_isInOrder 213 = .ok (.lcmp, 1) := by decide +kernel
theorem dL_isInOrder_214 : decode cL_isInOrder 214 = .ok (.ifCond .gt 28, 3) := by decide +kernel
theorem dL_isInOrder_217 : decode cL_isInOrder 217 = .ok (.lload 17, 2) := by decide +kernel
theorem dL_isInOrder_219 : decode cL_isInOrder 219 = .ok (.lconst 0, 1) := by decide +kernel
theorem dL_isInOrder_220 : decode cL_isInOrder 220 = .ok (.lcmp, 1) := by decide +kernel
theorem dL_isInOrder_221 : decode cL_isInOrder 221 = .ok (.ifCond .lt 21, 3) := by decide +kernel
theorem dL_isInOrder_224 : decode cL_isInOrder 224 = .ok (.aload_n 0, 1) := by decide +kernel
theorem dL_isInOrder_225 : decode cL_isInOrder 225 = .ok (.iload 5, 2) := by decide +kernel
theorem dL_isInOrder_227 : decode cL_isInOrder 227 = .ok (.iload 10, 2) := by decide +kernel
theorem dL_isInOrder_229 : decode cL_isInOrder 229 = .ok (.iconst 0, 1) := by decide +kernel
theorem dL_isInOrder_230 : decode cL_isInOrder 230 = .ok (.invokevirtual 63, 3) := by decide +kernel
theorem dL_isInOrder_233 : decode cL_isInOrder 233 = .ok (.bipush 76, 2) := by decide +kernel
theorem dL_isInOrder_235 : decode cL_isInOrder 235 = .ok (.if_icmp .ne 7, 3) := by decide +kernel
theorem dL_isInOrder_238 : decode cL_isInOrder 238 = .ok (.iconst 1, 1) := by decide +kernel
theorem dL_isInOrder_239 : decode cL_isInOrder 239 = .ok (.goto 4, 3) := by decide +kernel
theorem dL_isInOrder_242 : decode cL_isInOrder 242 = .ok (.iconst 0, 1) := by decide +kernel
theorem dL_isInOrder_243 : decode cL_isInOrder 243 = .ok (.istore 4, 2) := by decide +kernel
theorem dL_isInOrder_245 : decode cL_isInOrder 245 = .ok (.lload 8, 2) := by decide +kernel
theorem dL_isInOrder_247 : decode cL_isInOrder 247 = .ok (.lload 11, 2) := by decide +kernel
theorem dL_isInOrder_249 : decode cL_isInOrder 249 = .ok (.ldc2_w 102, 3) := by decide +kernel
theorem dL_isInOrder_252 : decode cL_isInOrder 252 = .ok (.lcmp, 1) := by decide +kernel
theorem dL_isInOrder_253 : decode cL_isInOrder 253 = .ok (.ifCond .ne 7, 3) := by decide +kernel
theorem dL_isInOrder_256 : decode cL_isInOrder 256 = .ok (.lconst 0, 1) := by decide +kernel
theorem dL_isInOrder_257 : decode cL_isInOrder 257 = .ok (.goto 14, 3) := by decide +kernel
theorem dL_isInOrder_260 : decode cL_isInOrder 260 = .ok (.lload 11, 2) := by decide +kernel
theorem dL_isInOrder_262 : decode cL_isInOrder 262 = .ok (.lload 13, 2) := by decide +kernel
theorem dL_isInOrder_264 : decode cL_isInOrder 264 = .ok (.lsub, 1) := by decide +kernel
theorem dL_isInOrder_265 : decode cL_isInOrder 265 = .ok (.lload 15, 2) := by decide +kernel
theorem dL_isInOrder_267 : decode cL_isInOrder 267 = .ok (.lsub, 1) := by decide +kernel
theorem dL_isInOrder_268 : decode cL_isInOrder 268 = .ok (.lload 17, 2) := by decide +kernel
theorem dL_isInOrder_270 : decode cL_isInOrder 270 = .ok (.ladd, 1) := by decide +kernel
theorem dL_isInOrder_271 : decode cL_isInOrder 271 = .ok (.ladd, 1) := by decide +kernel
theorem dL_isInOrder_272 : decode cL_isInOrder 272 = .ok (.lstore 8, 2) := by decide +kernel
theorem dL_isInOrder_274 : decode cL_isInOrder 274 = .ok (.iinc 10 1, 3) := by decide +kernel
theorem dL_isInOrder_277 : decode cL_isInOrder 277 = .ok (.goto (-226), 3) := by decide +kernel
theorem dL_isInOrder_280 : decode cL_isInOrder 280 = .ok (.iload 4, 2) := by decide +kernel
theorem dL_isInOrder_282 : decode cL_isInOrder 282 = .ok (.ifCond .eq 27, 3) := by decide +kernel
theorem dL_isInOrder_285 : decode cL_isInOrder 285 = .ok (.lload 8, 2) := by decide +kernel
theorem dL_isInOrder_287 : decode cL_isInOrder 287 = .ok (.lload 6, 2) := by decide +kernel
theorem dL_isInOrder_289 : decode cL_isInOrder 289 = .ok (.lcmp, 1) := by decide +kernel
theorem dL_isInOrder_290 : decode cL_isInOrder 290 = .ok (.ifCond .ne 19, 3) := by decide +kernel
theorem dL_isInOrder_293 : decode cL_isInOrder 293 = .ok (.aload_n 0, 1) := by decide +kernel
theorem dL_isInOrder_294 : decode cL_isInOrder 294 = .ok (.iload 5, 2) := by decide +kernel
theorem dL_isInOrder_296 : decode cL_isInOrder 296 = .ok (.invokevirtual 54, 3) := by decide +kernel
theorem dL_isInOrder_299 : decode cL_isInOrder 299 = .ok (.lload 6, 2) := by decide +kernel
theorem dL_isInOrder_301 : decode cL_isInOrder 301 = .ok (.lcmp, 1) := by decide +kernel
theorem dL_isInOrder_302 : decode cL_isInOrder 302 = .ok (.ifCond .ne 7, 3) := by decide +kernel
theorem dL_isInOrder_305 : decode cL_isInOrder 305 = .ok (.iconst 1, 1) := by decide +kernel
theorem dL_isInOrder_306 : decode cL_isInOrder 306 = .ok (.goto 4, 3) := by decide +kernel
theorem dL_isInOrder_309 : decode cL_isInOrder 309 = .ok (.iconst 0, 1) := by decide +kernel
theorem dL_isInOrder_310 : decode cL_isInOrder 310 = .ok (.istore 4, 2) := by decide +kernel
theorem dL_isInOrder_312 : decode cL_isInOrder 312 = .ok (.lload_n 2, 1) := by decide +kernel
theorem dL_isInOrder_313 : decode cL_isInOrder 313 = .ok (.lload 6, 2) := by decide +kernel
theorem dL_isInOrder_315 : decode cL_isInOrder 315 = .ok (.aload_n 0, 1) := by decide +kernel
theorem dL_isInOrder_316 : decode cL_isInOrder 316 = .ok (.iload 5, 2) := by decide +kernel
theorem dL_isInOrder_318 : decode cL_isInOrder 318 = .ok (.invokevirtual 57, 3) := by decide +kernel
theorem dL_isInOrder_321 : decode cL_isInOrder 321 = .ok (.ladd, 1) := by decide +kernel
theorem dL_isInOrder_322 : decode cL_isInOrder 322 = .ok (.ladd, 1) := by decide +kernel
theorem dL_isInOrder_323 : decode cL_isInOrder 323 = .ok (.lstore_n 2, 1) := by decide +kernel
theorem dL_isInOrder_324 : decode cL_isInOrder 324 = .ok (.iinc 5 1, 3) := by decide +kernel
theorem dL_isInOrder_327 : decode cL_isInOrder 327 = .ok (.goto (-319), 3) := by decide +kernel
theorem dL_isInOrder_330 : decode cL_isInOrder 330 = .ok (.iload 4, 2) := by decide +kernel
theorem dL_isInOrder_332 : decode cL_isInOrder 332 = .ok (.ifCond .eq 17, 3) := by decide +kernel
theorem dL_isInOrder_335 : decode cL_isInOrder 335 = .ok (.aload_n 0, 1) := by decide +kernel
theorem dL_isInOrder_336 : decode cL_isInOrder 336 = .ok (.invokevirtual 98, 3) := by decide +kernel
theorem dL_isInOrder_339 : decode cL_isInOrder 339 = .ok (.lload_n 2, 1) := by decide +kernel
theorem dL_isInOrder_340 : decode cL_isInOrder 340 = .ok (.lneg, 1) := by decide +kernel
theorem dL_isInOrder_341 : decode cL_isInOrder 341 = .ok (.lcmp, 1) := by decide +kernel
theorem dL_isInOrder_342 : decode cL_isInOrder 342 = .ok (.ifCond .ne 7, 3) := by decide +kernel
theorem dL_isInOrder_345 : decode cL_isInOrder 345 = .ok (.iconst 1, 1) := by decide +kernel
theorem dL_isInOrder_346 : decode cL_isInOrder 346 = .ok (.goto 4, 3) := by decide +kernel
theorem dL_isInOrder_349 : decode cL_isInOrder 349 = .ok (.iconst 0, 1) := by decide +kernel
theorem dL_isInOrder_350 : decode cL_isInOrder 350 = .ok (.ireturn, 1) := by decide +kernel
theorem dL_isBack_0 : decode cL_isBack 0 = .ok (.iload_n 2, 1) := by decide +kernel
theorem dL_isBack_1 : decode cL_isBack 1 = .ok (.iconst 4, 1) := by decide +kernel
theorem dL_isBack_2 : decode cL_isBack 2 = .ok (.invokestatic 84, 3) := by decide +kernel
theorem dL_isBack_5 : decode cL_isBack 5 = .ok (.istore_n 3, 1) := by decide +kernel
theorem dL_isBack_6 : decode cL_isBack 6 = .ok (.iload_n 2, 1) := by decide +kernel
theorem dL_isBack_7 : decode cL_isBack 7 = .ok (.iconst 2, 1) := by decide +kernel
theorem dL_isBack_8 : decode cL_isBack 8 = .ok (.ishr, 1) := by decide +kernel
theorem dL_isBack_9 : decode cL_isBack 9 = .ok (.bipush 6, 2) := by decide +kernel
theorem dL_isBack_11 : decode cL_isBack 11 = .ok (.invokestatic 84, 3) := by decide +kernel
theorem dL_isBack_14 : decode cL_isBack 14 = .ok (.istore 4, 2) := by decide +kernel
theorem dL_isBack_16 : decode cL_isBack 16 = .ok (.aload_n 0, 1) := by decide +kernel
theorem dL_isBack_17 : decode cL_isBack 17 = .ok (.bipush 8, 2) := by decide +kernel
theorem dL_isBack_19 : decode cL_isBack 19 = .ok (.iload_n 3, 1) := by decide +kernel
theorem dL_isBack_20 : decode cL_isBack 20 = .ok (.iload 4, 2) := by decide +kernel
theorem dL_isBack_22 : decode cL_isBack 22 = .ok (.iload_n 2, 1) := by decide +kernel
theorem dL_isBack_23 : decode cL_isBack 23 = .ok (.iconst 3, 1) := by decide +kernel
theorem dL_isBack_24 : decode cL_isBack 24 = .ok (.ishr, 1) := by decide +kernel
theorem dL_isBack_25 : decode cL_isBack 25 = .ok (.ldc 97, 2) := by decide +kernel
theorem dL_isBack_27 : decode cL_isBack 27 = .ok (.invokestatic 84, 3) := by decide +kernel
theorem dL_isBack_30 : decode cL_isBack 30 = .ok (.invokestatic 91, 3) := by decide +kernel
theorem dL_isBack_33 : decode cL_isBack 33 = .ok (.lstore 5, 2) := by decide +kernel
theorem dL_isBack_35 : decode cL_isBack 35 = .ok (.aload_n 0, 1) := by decide +kernel
theorem dL_isBack_36 : decode cL_isBack 36 = .ok (.bipush 12, 2) := by decide +kernel
theorem dL_isBack_38 : decode cL_isBack 38 = .ok (.iload_n 3, 1) := by decide +kernel
theorem dL_isBack_39 : decode cL_isBack 39 = .ok (.iconst 0, 1) := by decide +kernel
theorem dL_isBack_40 : decode cL_isBack 40 = .ok (.iconst 0, 1) := by decide +kernel
theorem dL_isBack_41 : decode cL_isBack 41 = .ok (.invokestatic 91, 3) := by decide +kernel
theorem dL_isBack_44 : decode cL_isBack 44 = .ok (.lstore 7, 2) := by decide +kernel
theorem dL_isBack_46 : decode cL_isBack 46 = .ok (.aload_n 0, 1) := by decide +kernel
theorem dL_isBack_47 : decode cL_isBack 47 = .ok (.bipush 14, 2) := by decide +kernel
theorem dL_isBack_49 : decode cL_isBack 49 = .ok (.iload_n 3, 1) := by decide +kernel
theorem dL_isBack_50 : decode cL_isBack 50 = .ok (.iconst 0, 1) := by decide +kernel
theorem dL_isBack_51 : decode cL_isBack 51 = .ok (.iconst 0, 1) := by decide +kernel
theorem dL_isBack_52 : decode cL_isBack 52 = .ok (.invokestatic 91, 3) := by decide +kernel
theorem dL_isBack_55 : decode cL_isBack 55 = .ok (.lstore 9, 2) := by decide +kernel
theorem dL_isBack_57 : decode cL_isBack 57 = .ok (.aload_n 0, 1) := by decide +kernel
theorem dL_isBack_58 : decode cL_isBack 58 = .ok (.bipush 8, 2) := by decide +kernel
theorem dL_isBack_60 : decode cL_isBack 60 = .ok (.iload_n 3, 1) := by decide +kernel
theorem dL_isBack_61 : decode cL_isBack 61 = .ok (.iload 4, 2) := by decide +kernel
theorem dL_isBack_63 : decode cL_isBack 63 = .ok (.iload_n 2, 1) := by decide +kernel
theorem dL_isBack_64 : decode cL_isBack 64 = .ok (.iconst 5, 1) := by decide +kernel
theorem dL_isBack_65 : decode cL_isBack 65 = .ok (.ishr, 1) := by decide +kernel
theorem dL_isBack_66 : decode cL_isBack 66 = .ok (.ldc 108, 2) := by decide +kernel
theorem dL_isBack_68 : decode cL_isBack 68 = .ok (.invokestatic 84, 3) := by decide +kernel
theorem dL_isBack_71 : decode cL_isBack 71 = .ok (.invokestatic 91, 3) := by decide +kernel
theorem dL_isBack_74 : decode cL_isBack 74 = .ok (.lstore 11, 2) := by decide +kernel
theorem dL_isBack_76 : decode cL_isBack 76 = .ok (.lload 5, 2) := by decide +kernel
theorem dL_isBack_78 : decode cL_isBack 78 = .ok (.ldc2_w 78, 3) := by decide +kernel
theorem dL_isBack_81 : decode cL_isBack 81 = .ok (.lcmp, 1) := by decide +kernel
theorem dL_isBack_82 : decode cL_isBack 82 = .ok (.ifCond .eq 39, 3) := by decide +kernel
theorem dL_isBack_85 : decode cL_isBack 85 = .ok (.aload_n 0, 1) := by decide +kernel
theorem dL_isBack_86 : decode cL_isBack 86 = .ok (.bipush 12, 2) := by decide +kernel
theorem dL_isBack_88 : decode cL_isBack 88 = .ok (.iload_n 3, 1) := by decide +kernel
theorem dL_isBack_89 : decode cL_isBack 89 = .ok (.iconst 0, 1) := by decide +kernel
theorem dL_isBack_90 : decode cL_isBack 90 = .ok (.iconst 0, 1) := by decide +kernel
theorem dL_isBack_91 : decode cL_isBack 91 = .ok (.invokestatic 91, 3) := by decide +kernel
theorem dL_isBack_94 : decode cL_isBack 94 = .ok (.lload 7, 2) := by decide +kernel
theorem dL_isBack_96 : decode cL_isBack 96 = .ok (.lload 11, 2) := by decide +kernel
theorem dL_isBack_98 : decode cL_isBack 98 = .ok (.ladd, 1) := by decide +kernel
theorem dL_isBack_99 : decode cL_isBack 99 = .ok (.lcmp, 1) := by decide +kernel
theorem dL_isBack_100 : decode cL_isBack 100 = .ok (.ifCond .ne 25, 3) := by decide +kernel
theorem dL_isBack_103 : decode cL_isBack 103 = .ok (.aload_n 0, 1) := by decide +kernel
theorem dL_isBack_104 : decode cL_isBack 104 = .ok (.bipush 14, 2) := by decide +kernel
theorem dL_isBack_106 : decode cL_isBack 106 = .ok (.iload_n 3, 1) := by decide +kernel
theorem dL_isBack_107 : decode cL_isBack 107 = .ok (.iconst 0, 1) := by decide +kernel
theorem dL_isBack_108 : decode cL_isBack 108 = .ok (.iconst 0, 1) := by decide +kernel
theorem dL_isBack_109 : decode cL_isBack 109 = .ok (.invokestatic 91, 3) := by decide +kernel
theorem dL_isBack_112 : decode cL_isBack 112 = .ok (.lload 9, 2) := by decide +kernel
theorem dL_isBack_114 : decode cL_isBack 114 = .ok (.lload 11, 2) := by decide +kernel
theorem dL_isBack_116 : decode cL_isBack 116 = .ok (.lsub, 1) := by decide +kernel
theorem dL_isBack_117 : decode cL_isBack 117 = .ok (.lcmp, 1) := by decide +kernel
theorem dL_isBack_118 : decode cL_isBack 118 = .ok (.ifCond .ne 7, 3) := by decide +kernel
theorem dL_isBack_121 : decode cL_isBack 121 = .ok (.iconst 1, 1) := by decide +kernel
theorem dL_isBack_122 : decode cL_isBack 122 = .ok (.goto 4, 3) := by decide +kernel
theorem dL_isBack_125 : decode cL_isBack 125 = .ok (.iconst 0, 1) := by decide +kernel
theorem dL_isBack_126 : decode cL_isBack 126 = .ok (.istore 13, 2) := by decide +kernel
theorem dL_isBack_128 : decode cL_isBack 128 = .ok (.iload 13, 2) := by decide +kernel
theorem dL_isBack_130 : decode cL_isBack 130 = .ok (.ifCond .eq 40, 3) := by decide +kernel
theorem dL_isBack_133 : decode cL_isBack 133 = .ok (.lload 5, 2) := by decide +kernel
theorem dL_isBack_135 : decode cL_isBack 135 = .ok (.ldc2_w 78, 3) := by decide +kernel
theorem dL_isBack_138 : decode cL_isBack 138 = .ok (.lcmp, 1) := by decide +kernel
theorem dL_isBack_139 : decode cL_isBack 139 = .ok (.ifCond .eq 27, 3) := by decide +kernel
theorem dL_isBack_142 : decode cL_isBack 142 = .ok (.aload_n 0, 1) := by decide +kernel
theorem dL_isBack_143 : decode cL_isBack 143 = .ok (.bipush 8, 2) := by decide +kernel
theorem dL_isBack_145 : decode cL_isBack 145 = .ok (.iload_n 3, 1) := by decide +kernel
theorem dL_isBack_146 : decode cL_isBack 146 = .ok (.iload 4, 2) := by decide +kernel
theorem dL_isBack_148 : decode cL_isBack 148 = .ok (.iload_n 2, 1) := by decide +kernel
theorem dL_isBack_149 : decode cL_isBack 149 = .ok (.iconst 3, 1) := by decide +kernel
theorem dL_isBack_150 : decode cL_isBack 150 = .ok (.ishr, 1) := by decide +kernel
theorem dL_isBack_151 : decode cL_isBack 151 = .ok (.ldc 97, 2) := by decide +kernel
theorem dL_isBack_153 : decode cL_isBack 153 = .ok (.invokestatic 84, 3) := by decide +kernel
theorem dL_isBack_156 : decode cL_isBack 156 = .ok (.invokestatic 91, 3) := by decide +kernel
theorem dL_isBack_159 : decode cL_isBack 159 = .ok (.lload 11, 2) := by decide +kernel
theorem dL_isBack_161 : decode cL_isBack 161 = .ok (.lneg, 1) := by decide +kernel
theorem dL_isBack_162 : decode cL_isBack 162 = .ok (.lcmp, 1) := by decide +kernel
theorem dL_isBack_163 : decode cL_isBack 163 = .ok (.ifCond .ne 7, 3) := by decide +kernel
theorem dL_isBack_166 : decode cL_isBack 166 = .ok (.iconst 1, 1) := by decide +kernel
theorem dL_isBack_167 : decode cL_isBack 167 = .ok (.goto 4, 3) := by decide +kernel
theorem dL_isBack_170 : decode cL_isBack 170 = .ok (.iconst 0, 1) := by decide +kernel
theorem dL_isBack_171 : decode cL_isBack 171 = .ok (.istore 13, 2) := by decide +kernel
theorem dL_isBack_173 : decode cL_isBack 173 = .ok (.iload 13, 2) := by decide +kernel
theorem dL_isBack_175 : decode cL_isBack 175 = .ok (.ifCond .eq 30, 3) := by decide +kernel
theorem dL_isBack_178 : decode cL_isBack 178 = .ok (.aload_n 1, 1) := by decide +kernel
theorem dL_isBack_179 : decode cL_isBack 179 = .ok (.bipush 8, 2) := by decide +kernel
theorem dL_isBack_181 : decode cL_isBack 181 = .ok (.iload_n 3, 1) := by decide +kernel
theorem dL_isBack_182 : decode cL_isBack 182 = .ok (.iload 4, 2) := by decide +kernel
theorem dL_isBack_184 : decode cL_isBack 184 = .ok (.iload_n 2, 1) := by decide +kernel
theorem dL_isBack_185 : decode cL_isBack 185 = .ok (.iconst 3, 1) := by decide +kernel
theorem dL_isBack_186 : decode cL_isBack 186 = .ok (.ishr, 1) := by decide +kernel
theorem dL_isBack_187 : decode cL_isBack 187 = .ok (.ldc 97, 2) := by decide +kernel
theorem dL_isBack_189 : decode cL_isBack 189 = .ok (.invokestatic 84, 3) := by decide +kernel
theorem dL_isBack_192 : decode cL_isBack 192 = .ok (.invokestatic 91, 3) := by decide +kernel
theorem dL_isBack_195 : decode cL_isBack 195 = .ok (.lload 5, 2) := by decide +kernel
theorem dL_isBack_197 : decode cL_isBack 197 = .ok (.lcmp, 1) := by decide +kernel
theorem dL_isBack_198 : decode cL_isBack 198 = .ok (.ifCond .ne 7, 3) := by decide +kernel
theorem dL_isBack_201 : decode cL_isBack 201 = .ok (.iconst 1, 1) := by decide +kernel
theorem dL_isBack_202 : decode cL_isBack 202 = .ok (.goto 4, 3) := by decide +kernel
theorem dL_isBack_205 : decode cL_isBack 205 = .ok (.iconst 0, 1) := by decide +kernel
theorem dL_isBack_206 : decode cL_isBack 206 = .ok (.ireturn, 1) := by decide +kernel
theorem dL_law_0 : decode cL_law 0 = .ok (.new 9, 3) := by decide +kernel
theorem dL_law_3 : decode cL_law 3 = .ok (.dup, 1) := by decide +kernel
theorem dL_law_4 : decode cL_law 4 = .ok (.invokespecial 109, 3) := by decide +kernel
theorem dL_law_7 : decode cL_law 7 = .ok (.astore_n 1, 1) := by decide +kernel
theorem dL_law_8 : decode cL_law 8 = .ok (.new 9, 3) := by decide +kernel
theorem dL_law_11 : decode cL_law 11 = .ok (.dup, 1) := by decide +kernel
theorem dL_law_12 : decode cL_law 12 = .ok (.invokespecial 109, 3) := by decide +kernel
theorem dL_law_15 : decode cL_law 15 = .ok (.astore_n 2, 1) := by decide +kernel
theorem dL_law_16 : decode cL_law 16 = .ok (.bipush 12, 2) := by decide +kernel
theorem dL_law_18 : decode cL_law 18 = .ok (.newarray .long, 2) := by decide +kernel
theorem dL_law_20 : decode cL_law 20 = .ok (.astore_n 3, 1) := by decide +kernel
theorem dL_law_21 : decode cL_law 21 = .ok (.aload_n 0, 1) := by decide +kernel
theorem dL_law_22 : decode cL_law 22 = .ok (.iconst 0, 1) := by decide +kernel
theorem dL_law_23 : decode cL_law 23 = .ok (.invokestatic 110, 3) := by decide +kernel
theorem dL_law_26 : decode cL_law 26 = .ok (.istore 4, 2) := by decide +kernel
theorem dL_law_28 : decode cL_law 28 = .ok (.iconst 1, 1) := by decide +kernel
theorem dL_law_29 : decode cL_law 29 = .ok (.istore 5, 2) := by decide +kernel
theorem dL_law_31 : decode cL_law 31 = .ok (.iconst 0, 1) := by decide +kernel
theorem dL_law_32 : decode cL_law 32 = .ok (.istore 6, 2) := by decide +kernel
theorem dL_law_34 : decode cL_law 34 = .ok (.iload 6, 2) := by decide +kernel
theorem dL_law_36 : decode cL_law 36 = .ok (.iconst 4, 1) := by decide +kernel
theorem dL_law_37 : decode cL_law 37 = .ok (.if_icmp .ge 67, 3) := by decide +kernel
theorem dL_law_40 : decode cL_law 40 = .ok (.iload 5, 2) := by decide +kernel
theorem dL_law_42 : decode cL_law 42 = .ok (.ifCond .eq 62, 3) := by decide +kernel
theorem dL_law_45 : decode cL_law 45 = .ok (.aload_n 1, 1) := by decide +kernel
theorem dL_law_46 : decode cL_law 46 = .ok (.iconst 1, 1) := by decide +kernel
theorem dL_law_47 : decode cL_law 47 = .ok (.iload 4, 2) := by decide +kernel
theorem dL_law_49 : decode cL_law 49 = .ok (.iconst 4, 1) := by decide +kernel
theorem dL_law_50 : decode cL_law 50 = .ok (.iload 6, 2) := by decide +kernel
theorem dL_law_52 : decode cL_law 52 = .ok (.imul, 1) := by decide +kernel
theorem dL_law_53 : decode cL_law 53 = .ok (.ishr, 1) := by decide +kernel
theorem dL_law_54 : decode cL_law 54 = .ok (.bipush 9, 2) := by decide +kernel
theorem dL_law_56 : decode cL_law 56 = .ok (.invokestatic 84, 3) := by decide +kernel
theorem dL_law_59 : decode cL_law 59 = .ok (.iadd, 1) := by decide +kernel
theorem dL_law_60 : decode cL_law 60 = .ok (.invokevirtual 8, 3) := by decide +kernel
theorem dL_law_63 : decode cL_law 63 = .ok (.iload 6, 2) := by decide +kernel
theorem dL_law_65 : decode cL_law 65 = .ok (.if_icmp .ne 30, 3) := by decide +kernel
theorem dL_law_68 : decode cL_law 68 = .ok (.aload_n 2, 1) := by decide +kernel
theorem dL_law_69 : decode cL_law 69 = .ok (.iconst 1, 1) := by decide +kernel
theorem dL_law_70 : decode cL_law 70 = .ok (.iload 4, 2) := by decide +kernel
theorem dL_law_72 : decode cL_law 72 = .ok (.iconst 4, 1) := by decide +kernel
theorem dL_law_73 : decode cL_law 73 = .ok (.iload 6, 2) := by decide +kernel
theorem dL_law_75 : decode cL_law 75 = .ok (.imul, 1) := by decide +kernel
theorem dL_law_76 : decode cL_law 76 = .ok (.ishr, 1) := by decide +kernel
theorem dL_law_77 : decode cL_law 77 = .ok (.bipush 9, 2) := by decide +kernel
theorem dL_law_79 : decode cL_law 79 = .ok (.invokestatic 84, 3) := by decide +kernel
theorem dL_law_82 : decode cL_law 82 = .ok (.iadd, 1) := by decide +kernel
theorem dL_law_83 : decode cL_law 83 = .ok (.invokevirtual 8, 3) := by decide +kernel
theorem dL_law_86 : decode cL_law 86 = .ok (.iload 6, 2) := by decide +kernel
theorem dL_law_88 : decode cL_law 88 = .ok (.if_icmp .ne 7, 3) := by decide +kernel
theorem dL_law_91 : decode cL_law 91 = .ok (.iconst 1, 1) := by decide +kernel
theorem dL_law_92 : decode cL_law 92 = .ok (.goto 4, 3) := by decide +kernel
theorem dL_law_95 : decode cL_law 95 = .ok (.iconst 0, 1) := by decide +kernel
theorem dL_law_96 : decode cL_law 96 = .ok (.istore 5, 2) := by decide +kernel
theorem dL_law_98 : decode cL_law 98 = .ok (.iinc 6 1, 3) := by decide +kernel
theorem dL_law_101 : decode cL_law 101 = .ok (.goto (-67), 3) := by decide +kernel
theorem dL_law_104 : decode cL_law 104 = .ok (.iload 5, 2) := by decide +kernel
theorem dL_law_106 : decode cL_law 106 = .ok (.ifCond .eq 49, 3) := by decide +kernel
theorem dL_law_109 : decode cL_law 109 = .ok (.aload_n 1, 1) := by decide +kernel
theorem dL_law_110 : decode cL_law 110 = .ok (.iconst 0, 1) := by decide +kernel
theorem dL_law_111 : decode cL_law 111 = .ok (.ldc 114, 2) := by decide +kernel
theorem dL_law_113 : decode cL_law 113 = .ok (.invokevirtual 14, 3) := by decide +kernel
theorem dL_law_116 : decode cL_law 116 = .ok (.ifCond .ne 39, 3) := by decide +kernel
theorem dL_law_119 : decode cL_law 119 = .ok (.aload_n 2, 1) := by decide +kernel
theorem dL_law_120 : decode cL_law 120 = .ok (.iconst 0, 1) := by decide +kernel
theorem dL_law_121 : decode cL_law 121 = .ok (.ldc 114, 2) := by decide +kernel
theorem dL_law_123 : decode cL_law 123 = .ok (.invokevirtual 14, 3) := by decide +kernel
theorem dL_law_126 : decode cL_law 126 = .ok (.ifCond .ne 29, 3) := by decide +kernel
theorem dL_law_129 : decode cL_law 129 = .ok (.aload_n 1, 1) := by decide +kernel
theorem dL_law_130 : decode cL_law 130 = .ok (.iconst 2, 1) := by decide +kernel
theorem dL_law_131 : decode cL_law 131 = .ok (.ldc 115, 2) := by decide +kernel
theorem dL_law_133 : decode cL_law 133 = .ok (.invokevirtual 14, 3) := by decide +kernel
theorem dL_law_136 : decode cL_law 136 = .ok (.iconst 1, 1) := by decide +kernel
theorem dL_law_137 : decode cL_law 137 = .ok (.if_icmp .ne 18, 3) := by decide +kernel
theorem dL_law_140 : decode cL_law 140 = .ok (.aload_n 2, 1) := by decide +kernel
theorem dL_law_141 : decode cL_law 141 = .ok (.iconst 2, 1) := by decide +kernel
theorem dL_law_142 : decode cL_law 142 = .ok (.ldc 115, 2) := by decide +kernel
theorem dL_law_144 : decode cL_law 144 = .ok (.invokevirtual 14, 3) := by decide +kernel
theorem dL_law_147 : decode cL_law 147 = .ok (.iconst 1, 1) := by decide +kernel
theorem dL_law_148 : decode cL_law 148 = .ok (.if_icmp .ne 7, 3) := by decide +kernel
theorem dL_law_151 : decode cL_law 151 = .ok (.iconst 1, 1) := by decide +kernel
theorem dL_law_152 : decode cL_law 152 = .ok (.goto 4, 3) := by decide +kernel
theorem dL_law_155 : decode cL_law 155 = .ok (.iconst 0, 1) := by decide +kernel
theorem dL_law_156 : decode cL_law 156 = .ok (.istore 5, 2) := by decide +kernel
theorem dL_law_158 : decode cL_law 158 = .ok (.iconst 0, 1) := by decide +kernel
theorem dL_law_159 : decode cL_law 159 = .ok (.istore 6, 2) := by decide +kernel
theorem dL_law_161 : decode cL_law 161 = .ok (.iconst 0, 1) := by decide +kernel
theorem dL_law_162 : decode cL_law 162 = .ok (.istore 7, 2) := by decide +kernel
theorem dL_law_164 : decode cL_law 164 = .ok (.iload 7, 2) := by decide +kernel
theorem dL_law_166 : decode cL_law 166 = .ok (.sipush 140, 3) := by decide +kernel
theorem dL_law_169 : decode cL_law 169 = .ok (.if_icmp .ge 379, 3) := by decide +kernel
theorem dL_law_172 : decode cL_law 172 = .ok (.iload 5, 2) := by decide +kernel
theorem dL_law_174 : decode cL_law 174 = .ok (.ifCond .eq 374, 3) := by decide +kernel
theorem dL_law_177 : decode cL_law 177 = .ok (.aload_n 0, 1) := by decide +kernel
theorem dL_law_178 : decode cL_law 178 = .ok (.iconst 1, 1) := by decide +kernel
theorem dL_law_179 : decode cL_law 179 = .ok (.iload 7, 2) := by decide +kernel
theorem dL_law_181 : decode cL_law 181 = .ok (.bipush 60, 2) := by decide +kernel
theorem dL_law_183 : decode cL_law 183 = .ok (.irem, 1) := by decide +kernel
theorem dL_law_184 : decode cL_law 184 = .ok (.iadd, 1) := by decide +kernel
theorem dL_law_185 : decode cL_law 185 = .ok (.invokestatic 110, 3) := by decide +kernel
theorem dL_law_188 : decode cL_law 188 = .ok (.sipush 1949, 3) := by decide +kernel
theorem dL_law_191 : decode cL_law 191 = .ok (.iload 7, 2) := by decide +kernel
theorem dL_law_193 : decode cL_law 193 = .ok (.bipush 60, 2) := by decide +kernel
theorem dL_law_195 : decode cL_law 195 = .ok (.idiv, 1) := by decide +kernel
theorem dL_law_196 : decode cL_law 196 = .ok (.imul, 1) := by decide +kernel
theorem dL_law_197 : decode cL_law 197 = .ok (.iadd, 1) := by decide +kernel
theorem dL_law_198 : decode cL_law 198 = .ok (.istore 8, 2) := by decide +kernel
theorem dL_law_200 : decode cL_law 200 = .ok (.iload 8, 2) := by decide +kernel
theorem dL_law_202 : decode cL_law 202 = .ok (.bipush 40, 2) := by decide +kernel
theorem dL_law_204 : decode cL_law 204 = .ok (.invokestatic 84, 3) := by decide +kernel
theorem dL_law_207 : decode cL_law 207 = .ok (.bipush 28, 2) := by decide +kernel
theorem dL_law_209 : decode cL_law 209 = .ok (.if_icmp .lt 7, 3) := by decide +kernel
theorem dL_law_212 : decode cL_law 212 = .ok (.iconst 1, 1) := by decide +kernel
theorem dL_law_213 : decode cL_law 213 = .ok (.goto 4, 3) := by decide +kernel
theorem dL_law_216 : decode cL_law 216 = .ok (.iconst 0, 1) := by decide +kernel
theorem dL_law_217 : decode cL_law 217 = .ok (.istore 9, 2) := by decide +kernel
theorem dL_law_219 : decode cL_law 219 = .ok (.iload 9, 2) := by decide +kernel
theorem dL_law_221 : decode cL_law 221 = .ok (.ifCond .eq 14, 3) := by decide +kernel
theorem dL_law_224 : decode cL_law 224 = .ok (.iload 6, 2) := by decide +kernel
theorem dL_law_226 : decode cL_law 226 = .ok (.sipush 399, 3) := by decide +kernel
theorem dL_law_229 : decode cL_law 229 = .ok (.if_icmp .le 6, 3) := by decide +kernel
theorem dL_law_232 : decode cL_law 232 = .ok (.goto 310, 3) := by decide +kernel
theorem dL_law_235 : decode cL_law 235 = .ok (.iload 8, 2) := by decide +kernel
theorem dL_law_237 : decode cL_law 237 = .ok (.bipush 40, 2) := by decide +kernel
theorem dL_law_239 : decode cL_law 239 = .ok (.invokestatic 84, 3) := by decide +kernel
theorem dL_law_242 : decode cL_law 242 = .ok (.bipush 22, 2) := by decide +kernel
theorem dL_law_244 : decode cL_law 244 = .ok (.if_icmp .lt 32, 3) := by decide +kernel
theorem dL_law_247 : decode cL_law 247 = .ok (.iload 8, 2) := by decide +kernel
theorem dL_law_249 : decode cL_law 249 = .ok (.bipush 40, 2) := by decide +kernel
theorem dL_law_251 : decode cL_law 251 = .ok (.invokestatic 84, 3) := by decide +kernel
theorem dL_law_254 : decode cL_law 254 = .ok (.bipush 26, 2) := by decide +kernel
theorem dL_law_256 : decode cL_law 256 = .ok (.if_icmp .ge 20, 3) := by decide +kernel
theorem dL_law_259 : decode cL_law 259 = .ok (.iload 8, 2) := by decide +kernel
theorem dL_law_261 : decode cL_law 261 = .ok (.bipush 18, 2) := by decide +kernel
theorem dL_law_263 : decode cL_law 263 = .ok (.ishr, 1) := by decide +kernel
theorem dL_law_264 : decode cL_law 264 = .ok (.bipush 7, 2) := by decide +kernel
theorem dL_law_266 : decode cL_law 266 = .ok (.iand, 1) := by decide +kernel
theorem dL_law_267 : decode cL_law 267 = .ok (.bipush 7, 2) := by decide +kernel
theorem dL_law_269 : decode cL_law 269 = .ok (.if_icmp .eq 7, 3) := by decide +kernel
theorem dL_law_272 : decode cL_law 272 = .ok (.iconst 1, 1) := by decide +kernel
theorem dL_law_273 : decode cL_law 273 = .ok (.goto 4, 3) := by decide +kernel
theorem dL_law_276 : decode cL_law 276 = .ok (.iconst 0, 1) := by decide +kernel
theorem dL_law_277 : decode cL_law 277 = .ok (.istore 10, 2) := by decide +kernel
theorem dL_law_279 : decode cL_law 279 = .ok (.iload 8, 2) := by decide +kernel
theorem dL_law_281 : decode cL_law 281 = .ok (.bipush 6, 2) := by decide +kernel
theorem dL_law_283 : decode cL_law 283 = .ok (.ishr, 1) := by decide +kernel
theorem dL_law_284 : decode cL_law 284 = .ok (.bipush 6, 2) := by decide +kernel
theorem dL_law_286 : decode cL_law 286 = .ok (.invokestatic 84, 3) := by decide +kernel
theorem dL_law_289 : decode cL_law 289 = .ok (.istore 11, 2) := by decide +kernel
theorem dL_law_291 : decode cL_law 291 = .ok (.iload 10, 2) := by decide +kernel
theorem dL_law_293 : decode cL_law 293 = .ok (.ifCond .eq 16, 3) := by decide +kernel
theorem dL_law_296 : decode cL_law 296 = .ok (.aload_n 1, 1) := by decide +kernel
theorem dL_law_297 : decode cL_law 297 = .ok (.bipush 12, 2) := by decide +kernel
theorem dL_law_299 : decode cL_law 299 = .ok (.iload 11, 2) := by decide +kernel
theorem dL_law_301 : decode cL_law 301 = .ok (.iconst 0, 1) := by decide +kernel
theorem dL_law_302 : decode cL_law 302 = .ok (.iconst 0, 1) := by decide +kernel
theorem dL_law_303 : decode cL_law 303 = .ok (.invokestatic 91, 3) := by decide +kernel
theorem dL_law_306 : decode cL_law 306 = .ok (.goto 4, 3) := by decide +kernel
theorem dL_law_309 : decode cL_law 309 = .ok (.lconst 0, 1) := by decide +kernel
theorem dL_law_310 : decode cL_law 310 = .ok (.lstore 12, 2) := by decide +kernel
theorem dL_law_312 : decode cL_law 312 = .ok (.aload_n 1, 1) := by decide +kernel
theorem dL_law_313 : decode cL_law 313 = .ok (.iload 8, 2) := by decide +kernel
theorem dL_law_315 : decode cL_law 315 = .ok (.invokestatic 116, 3) := by decide +kernel
theorem dL_law_318 : decode cL_law 318 = .ok (.lstore 14, 2) := by decide +kernel
theorem dL_law_320 : decode cL_law 320 = .ok (.lload 14, 2) := by decide +kernel
theorem dL_law_322 : decode cL_law 322 = .ok (.ldc2_w 78, 3) := by decide +kernel
theorem dL_law_325 : decode cL_law 325 = .ok (.lcmp, 1) := by decide +kernel
theorem dL_law_326 : decode cL_law 326 = .ok (.ifCond .eq 15, 3) := by decide +kernel
theorem dL_law_329 : decode cL_law 329 = .ok (.aload_n 2, 1) := by decide +kernel
theorem dL_law_330 : decode cL_law 330 = .ok (.iload 8, 2) := by decide +kernel
theorem dL_law_332 : decode cL_law 332 = .ok (.invokestatic 116, 3) := by decide +kernel
theorem dL_law_335 : decode cL_law 335 = .ok (.lload 14, 2) := by decide +kernel
theorem dL_law_337 : decode cL_law 337 = .ok (.lcmp, 1) := by decide +kernel
theorem dL_law_338 : decode cL_law 338 = .ok (.ifCond .ne 7, 3) := by decide +kernel
theorem dL_law_341 : decode cL_law 341 = .ok (.iconst 1, 1) := by decide +kernel
theorem dL_law_342 : decode cL_law 342 = .ok (.goto 4, 3) := by decide +kernel
theorem dL_law_345 : decode cL_law 345 = .ok (.iconst 0, 1) := by decide +kernel
theorem dL_law_346 : decode cL_law 346 = .ok (.istore 5, 2) := by decide +kernel
theorem dL_law_348 : decode cL_law 348 = .ok (.iload 9, 2) := by decide +kernel
theorem dL_law_350 : decode cL_law 350 = .ok (.ifCond .eq 16, 3) := by decide +kernel
theorem dL_law_353 : decode cL_law 353 = .ok (.lload 14, 2) := by decide +kernel
theorem dL_law_355 : decode cL_law 355 = .ok (.lconst 0, 1) := by decide +kernel
theorem dL_law_356 : decode cL_law 356 = .ok (.lcmp, 1) := by decide +kernel
theorem dL_law_357 : decode cL_law 357 = .ok (.ifCond .le 9, 3) := by decide +kernel
theorem dL_law_360 : decode cL_law 360 = .ok (.lload 14, 2) := by decide +kernel
theorem dL_law_362 : decode cL_law 362 = .ok (.l2i, 1) := by decide +kernel
theorem dL_law_363 : decode cL_law 363 = .ok (.goto 5, 3) := by decide +kernel
theorem dL_law_366 : decode cL_law 366 = .ok (.iload 6, 2) := by decide +kernel
theorem dL_law_368 : decode cL_law 368 = .ok (.istore 6, 2) := by decide +kernel
theorem dL_law_370 : decode cL_law 370 = .ok (.iload 10, 2) := by decide +kernel
theorem dL_law_372 : decode cL_law 372 = .ok (.ifCond .eq 24, 3) := by decide +kernel
theorem dL_law_375 : decode cL_law 375 = .ok (.lload 14, 2) := by decide +kernel
theorem dL_law_377 : decode cL_law 377 = .ok (.ldc2_w 78, 3) := by decide +kernel
theorem dL_law_380 : decode cL_law 380 = .ok (.lcmp, 1) := by decide +kernel
theorem dL_law_381 : decode cL_law 381 = .ok (.ifCond .eq 15, 3) := by decide +kernel
theorem dL_law_384 : decode cL_law 384 = .ok (.aload_n 3, 1) := by decide +kernel
theorem dL_law_385 : decode cL_law 385 = .ok (.iload 11, 2) := by decide +kernel
theorem dL_law_387 : decode cL_law 387 = .ok (.dup2, 1) := by decide +kernel
theorem dL_law_388 : decode cL_law 388 = .ok (.laload, 1) := by decide +kernel
theorem dL_law_389 : decode cL_law 389 = .ok (.lload 12, 2) := by decide +kernel
theorem dL_law_391 : decode cL_law 391 = .ok (.lload 14, 2) := by decide +kernel
theorem dL_law_393 : decode cL_law 393 = .ok (.lsub, 1) := by decide +kernel
theorem dL_law_394 : decode cL_law 394 = .ok (.ladd, 1) := by decide +kernel
theorem dL_law_395 : decode cL_law 395 = .ok (.lastore, 1) := by decide +kernel
theorem dL_law_396 : decode cL_law 396 = .ok (.iload 8, 2) := by decide +kernel
theorem dL_law_398 : decode cL_law 398 = .ok (.bipush 18, 2) := by decide +kernel
theorem dL_law_400 : decode cL_law 400 = .ok (.ishr, 1) := by decide +kernel
theorem dL_law_401 : decode cL_law 401 = .ok (.bipush 7, 2) := by decide +kernel
theorem dL_law_403 : decode cL_law 403 = .ok (.iand, 1) := by decide +kernel
theorem dL_law_404 : decode cL_law 404 = .ok (.bipush 7, 2) := by decide +kernel
theorem dL_law_406 : decode cL_law 406 = .ok (.if_icmp .ne 59, 3) := by decide +kernel
theorem dL_law_409 : decode cL_law 409 = .ok (.iload 8, 2) := by decide +kernel
theorem dL_law_411 : decode cL_law 411 = .ok (.bipush 40, 2) := by decide +kernel
theorem dL_law_413 : decode cL_law 413 = .ok (.invokestatic 84, 3) := by decide +kernel
theorem dL_law_416 : decode cL_law 416 = .ok (.bipush 22, 2) := by decide +kernel
theorem dL_law_418 : decode cL_law 418 = .ok (.if_icmp .lt 47, 3) := by decide +kernel
theorem dL_law_421 : decode cL_law 421 = .ok (.iload 8, 2) := by decide +kernel
theorem dL_law_423 : decode cL_law 423 = .ok (.bipush 40, 2) := by decide +kernel
theorem dL_law_425 : decode cL_law 425 = .ok (.invokestatic 84, 3) := by decide +kernel
theorem dL_law_428 : decode cL_law 428 = .ok (.bipush 26, 2) := by decide +kernel
theorem dL_law_430 : decode cL_law 430 = .ok (.if_icmp .ge 35, 3) := by decide +kernel
theorem dL_law_433 : decode cL_law 433 = .ok (.lload 14, 2) := by decide +kernel
theorem dL_law_435 : decode cL_law 435 = .ok (.ldc2_w 78, 3) := by decide +kernel
theorem dL_law_438 : decode cL_law 438 = .ok (.lcmp, 1) := by decide +kernel
theorem dL_law_439 : decode cL_law 439 = .ok (.ifCond .eq 26, 3) := by decide +kernel
theorem dL_law_442 : decode cL_law 442 = .ok (.aload_n 3, 1) := by decide +kernel
theorem dL_law_443 : decode cL_law 443 = .ok (.iload 8, 2) := by decide +kernel
theorem dL_law_445 : decode cL_law 445 = .ok (.bipush 6, 2) := by decide +kernel
theorem dL_law_447 : decode cL_law 447 = .ok (.ishr, 1) := by decide +kernel
theorem dL_law_448 : decode cL_law 448 = .ok (.bipush 14, 2) := by decide +kernel
theorem dL_law_450 : decode cL_law 450 = .ok (.invokestatic 84, 3) := by decide +kernel
theorem dL_law_453 : decode cL_law 453 = .ok (.iconst 1, 1) := by decide +kernel
theorem dL_law_454 : decode cL_law 454 = .ok (.isub, 1) := by decide +kernel
theorem dL_law_455 : decode cL_law 455 = .ok (.dup2, 1) := by decide +kernel
theorem dL_law_456 : decode cL_law 456 = .ok (.laload, 1) := by decide +kernel
theorem dL_law_457 : decode cL_law 457 = .ok (.iload 8, 2) := by decide +kernel
theorem dL_law_459 : decode cL_law 459 = .ok (.bipush 6, 2) := by decide +kernel
theorem dL_law_461 : decode cL_law 461 = .ok (.ishr, 1) := by decide +kernel
theorem dL_law_462 : decode cL_law 462 = .ok (.i2l, 1) := by decide +kernel
theorem dL_law_463 : decode cL_law 463 = .ok (.ladd, 1) := by decide +kernel
theorem dL_law_464 : decode cL_law 464 = .ok (.lastore, 1) := by decide +kernel
theorem dL_law_465 : decode cL_law 465 = .ok (.iload 5, 2) := by decide +kernel
theorem dL_law_467 : decode cL_law 467 = .ok (.ifCond .eq 72, 3) := by decide +kernel
theorem dL_law_470 : decode cL_law 470 = .ok (.iload 7, 2) := by decide +kernel
theorem dL_law_472 : decode cL_law 472 = .ok (.bipush 10, 2) := by decide +kernel
theorem dL_law_474 : decode cL_law 474 = .ok (.irem, 1) := by decide +kernel
theorem dL_law_475 : decode cL_law 475 = .ok (.bipush 9, 2) := by decide +kernel
theorem dL_law_477 : decode cL_law 477 = .ok (.if_icmp .ne 19, 3) := by decide +kernel
theorem dL_law_480 : decode cL_law 480 = .ok (.aload_n 1, 1) := by decide +kernel
theorem dL_law_481 : decode cL_law 481 = .ok (.aload_n 2, 1) := by decide +kernel
theorem dL_law_482 : decode cL_law 482 = .ok (.iload 8, 2) := by decide +kernel
theorem dL_law_484 : decode cL_law 484 = .ok (.iconst 3, 1) := by decide +kernel
theorem dL_law_485 : decode cL_law 485 = .ok (.ishr, 1) := by decide +kernel
theorem dL_law_486 : decode cL_law 486 = .ok (.sipush 1023, 3) := by decide +kernel
theorem dL_law_489 : decode cL_law 489 = .ok (.iand, 1) := by decide +kernel
theorem dL_law_490 : decode cL_law 490 = .ok (.invokestatic 120, 3) := by decide +kernel
theorem dL_law_493 : decode cL_law 493 = .ok (.ifCond .eq 46, 3) := by decide +kernel
theorem dL_law_496 : decode cL_law 496 = .ok (.iload 7, 2) := by decide +kernel
theorem dL_law_498 : decode cL_law 498 = .ok (.bipush 9, 2) := by decide +kernel
theorem dL_law_500 : decode cL_law 500 = .ok (.irem, 1) := by decide +kernel
theorem dL_law_501 : decode cL_law 501 = .ok (.iconst 4, 1) := by decide +kernel
theorem dL_law_502 : decode cL_law 502 = .ok (.if_icmp .ne 11, 3) := by decide +kernel
theorem dL_law_505 : decode cL_law 505 = .ok (.aload_n 1, 1) := by decide +kernel
theorem dL_law_506 : decode cL_law 506 = .ok (.aload_n 3, 1) := by decide +kernel
theorem dL_law_507 : decode cL_law 507 = .ok (.invokestatic 124, 3) := by decide +kernel
theorem dL_law_510 : decode cL_law 510 = .ok (.ifCond .eq 29, 3) := by decide +kernel
theorem dL_law_513 : decode cL_law 513 = .ok (.iload 7, 2) := by decide +kernel
theorem dL_law_515 : decode cL_law 515 = .ok (.bipush 12, 2) := by decide +kernel
theorem dL_law_517 : decode cL_law 517 = .ok (.irem, 1) := by decide +kernel
theorem dL_law_518 : decode cL_law 518 = .ok (.bipush 7, 2) := by decide +kernel
theorem dL_law_520 : decode cL_law 520 = .ok (.if_icmp .ne 15, 3) := by decide +kernel
theorem dL_law_523 : decode cL_law 523 = .ok (.aload_n 1, 1) := by decide +kernel
theorem dL_law_524 : decode cL_law 524 = .ok (.aload_n 2, 1) := by decide +kernel
theorem dL_law_525 : decode cL_law 525 = .ok (.iload 8, 2) := by decide +kernel
theorem dL_law_527 : decode cL_law 527 = .ok (.iconst 5, 1) := by decide +kernel
theorem dL_law_528 : decode cL_law 528 = .ok (.ishr, 1) := by decide +kernel
theorem dL_law_529 : decode cL_law 529 = .ok (.invokestatic 128, 3) := by decide +kernel
theorem dL_law_532 : decode cL_law 532 = .ok (.ifCond .eq 7, 3) := by decide +kernel
theorem dL_law_535 : decode cL_law 535 = .ok (.iconst 1, 1) := by decide +kernel
theorem dL_law_536 : decode cL_law 536 = .ok (.goto 4, 3) := by decide +kernel
theorem dL_law_539 : decode cL_law 539 = .ok (.iconst 0, 1) := by decide +kernel
theorem dL_law_540 : decode cL_law 540 = .ok (.istore 5, 2) := by decide +kernel
theorem dL_law_542 : decode cL_law 542 = .ok (.iinc 7 1, 3) := by decide +kernel
theorem dL_law_545 : decode cL_law 545 = .ok (.goto (-381), 3) := by decide +kernel
theorem dL_law_548 : decode cL_law 548 = .ok (.iload 5, 2) := by decide +kernel
theorem dL_law_550 : decode cL_law 550 = .ok (.ifCond .eq 24, 3) := by decide +kernel
theorem dL_law_553 : decode cL_law 553 = .ok (.aload_n 1, 1) := by decide +kernel
theorem dL_law_554 : decode cL_law 554 = .ok (.aload_n 2, 1) := by decide +kernel
theorem dL_law_555 : decode cL_law 555 = .ok (.iconst 5, 1) := by decide +kernel
theorem dL_law_556 : decode cL_law 556 = .ok (.invokestatic 120, 3) := by decide +kernel
theorem dL_law_559 : decode cL_law 559 = .ok (.ifCond .eq 15, 3) := by decide +kernel
theorem dL_law_562 : decode cL_law 562 = .ok (.aload_n 2, 1) := by decide +kernel
theorem dL_law_563 : decode cL_law 563 = .ok (.aload_n 3, 1) := by decide +kernel
theorem dL_law_564 : decode cL_law 564 = .ok (.invokestatic 124, 3) := by decide +kernel
theorem dL_law_567 : decode cL_law 567 = .ok (.ifCond .eq 7, 3) := by decide +kernel
theorem dL_law_570 : decode cL_law 570 = .ok (.iconst 1, 1) := by decide +kernel
theorem dL_law_571 : decode cL_law 571 = .ok (.goto 4, 3) := by decide +kernel
theorem dL_law_574 : decode cL_law 574 = .ok (.iconst 0, 1) := by decide +kernel
theorem dL_law_575 : decode cL_law 575 = .ok (.ireturn, 1) := by decide +kernel
theorem xw1128 : Cond.methodLink RL 73 yX7_planOf ∈ xBW := xbw 1128 (by decide +kernel) (by decide +kernel)
theorem xw1129 : Cond.instanceMethod yX7_planOf ∈ xBW := xbw 1129 (by decide +kernel) (by decide +kernel)
theorem xw1130 : Cond.selects RX7 yX7_planOf yX7_planOf ∈ xBW := xbw 1130 (by decide +kernel) (by decide +kernel)
theorem xw1131 : Cond.code yX7_planOf cX7_planOf 2 (some .int) ∈ xBW := xbw 1131 (by decide +kernel) (by decide +kernel)
theorem xw1132 : Cond.constantLong RL 78 (-9000000000000 : Int64) ∈ xBW := xbw 1132 (by decide +kernel) (by decide +kernel)
theorem xw534 : Cond.classLink RL 76 "java/lang/IndexOutOfBoundsException" ∈ xBW := xbw 534 (by decide +kernel) (by decide +kernel)
theorem xw535 : Cond.classLink RL 80 "java/lang/IllegalArgumentException" ∈ xBW := xbw 535 (by decide +kernel) (by decide +kernel)
theorem xw536 : Cond.classLink RL 82 "java/lang/IllegalStateException" ∈ xBW := xbw 536 (by decide +kernel) (by decide +kernel)
theorem xw1124 : Cond.methodLink RL 70 yX7_points ∈ xBW := xbw 1124 (by decide +kernel) (by decide +kernel)
theorem xw1125 : Cond.instanceMethod yX7_points ∈ xBW := xbw 1125 (by decide +kernel) (by decide +kernel)
theorem xw1126 : Cond.selects RX7 yX7_points yX7_points ∈ xBW := xbw 1126 (by decide +kernel) (by decide +kernel)
theorem xw1127 : Cond.code yX7_points cX7_points 2 (some .int) ∈ xBW := xbw 1127 (by decide +kernel) (by decide +kernel)
theorem xw1120 : Cond.methodLink RL 67 yX7_use ∈ xBW := xbw 1120 (by decide +kernel) (by decide +kernel)
theorem xw1121 : Cond.instanceMethod yX7_use ∈ xBW := xbw 1121 (by decide +kernel) (by decide +kernel)
theorem xw1122 : Cond.selects RX7 yX7_use yX7_use ∈ xBW := xbw 1122 (by decide +kernel) (by decide +kernel)
theorem xw1123 : Cond.code yX7_use cX7_use 4 (some .int) ∈ xBW := xbw 1123 (by decide +kernel) (by decide +kernel)
theorem xw809 : Cond.methodLink RL 63 yX7_line ∈ xBW := xbw 809 (by decide +kernel) (by decide +kernel)
theorem xw810 : Cond.instanceMethod yX7_line ∈ xBW := xbw 810 (by decide +kernel) (by decide +kernel)
theorem xw811 : Cond.selects RX7 yX7_line yX7_line ∈ xBW := xbw 811 (by decide +kernel) (by decide +kernel)
theorem xw812 : Cond.code yX7_line cX7_line 6 (some .char) ∈ xBW := xbw 812 (by decide +kernel) (by decide +kernel)
theorem xw798 : Cond.methodLink RL 60 yX7_bill ∈ xBW := xbw 798 (by decide +kernel) (by decide +kernel)
theorem xw799 : Cond.instanceMethod yX7_bill ∈ xBW := xbw 799 (by decide +kernel) (by decide +kernel)
theorem xw800 : Cond.selects RX7 yX7_bill yX7_bill ∈ xBW := xbw 800 (by decide +kernel) (by decide +kernel)
theorem xw801 : Cond.code yX7_bill cX7_bill 6 (some .long) ∈ xBW := xbw 801 (by decide +kernel) (by decide +kernel)
theorem xw794 : Cond.methodLink RL 57 yX7_desk ∈ xBW := xbw 794 (by decide +kernel) (by decide +kernel)
theorem xw795 : Cond.instanceMethod yX7_desk ∈ xBW := xbw 795 (by decide +kernel) (by decide +kernel)
theorem xw796 : Cond.selects RX7 yX7_desk yX7_desk ∈ xBW := xbw 796 (by decide +kernel) (by decide +kernel)
theorem xw797 : Cond.code yX7_desk cX7_desk 2 (some .long) ∈ xBW := xbw 797 (by decide +kernel) (by decide +kernel)
theorem xw790 : Cond.methodLink RL 54 yX7_owesAnew ∈ xBW := xbw 790 (by decide +kernel) (by decide +kernel)
theorem xw791 : Cond.instanceMethod yX7_owesAnew ∈ xBW := xbw 791 (by decide +kernel) (by decide +kernel)
theorem xw792 : Cond.selects RX7 yX7_owesAnew yX7_owesAnew ∈ xBW := xbw 792 (by decide +kernel) (by decide +kernel)
theorem xw793 : Cond.code yX7_owesAnew cX7_owesAnew 7 (some .long) ∈ xBW := xbw 793 (by decide +kernel) (by decide +kernel)
theorem xw786 : Cond.methodLink RL 50 yX7_owes ∈ xBW := xbw 786 (by decide +kernel) (by decide +kernel)
theorem xw787 : Cond.instanceMethod yX7_owes ∈ xBW := xbw 787 (by decide +kernel) (by decide +kernel)
theorem xw788 : Cond.selects RX7 yX7_owes yX7_owes ∈ xBW := xbw 788 (by decide +kernel) (by decide +kernel)
theorem xw789 : Cond.code yX7_owes cX7_owes 2 (some .long) ∈ xBW := xbw 789 (by decide +kernel) (by decide +kernel)
theorem xw662 : Cond.methodLink RL 47 yX7_pass ∈ xBW := xbw 662 (by decide +kernel) (by decide +kernel)
theorem xw663 : Cond.instanceMethod yX7_pass ∈ xBW := xbw 663 (by decide +kernel) (by decide +kernel)
theorem xw664 : Cond.selects RX7 yX7_pass yX7_pass ∈ xBW := xbw 664 (by decide +kernel) (by decide +kernel)
theorem xw665 : Cond.code yX7_pass cX7_pass 3 (some .int) ∈ xBW := xbw 665 (by decide +kernel) (by decide +kernel)
theorem xw652 : Cond.methodLink RL 44 yX7_plan ∈ xBW := xbw 652 (by decide +kernel) (by decide +kernel)
theorem xw653 : Cond.instanceMethod yX7_plan ∈ xBW := xbw 653 (by decide +kernel) (by decide +kernel)
theorem xw654 : Cond.selects RX7 yX7_plan yX7_plan ∈ xBW := xbw 654 (by decide +kernel) (by decide +kernel)
theorem xw655 : Cond.code yX7_plan cX7_plan 6 (some .long) ∈ xBW := xbw 655 (by decide +kernel) (by decide +kernel)
theorem xw648 : Cond.methodLink RL 40 yX7_pay ∈ xBW := xbw 648 (by decide +kernel) (by decide +kernel)
theorem xw649 : Cond.instanceMethod yX7_pay ∈ xBW := xbw 649 (by decide +kernel) (by decide +kernel)
theorem xw650 : Cond.selects RX7 yX7_pay yX7_pay ∈ xBW := xbw 650 (by decide +kernel) (by decide +kernel)
theorem xw651 : Cond.code yX7_pay cX7_pay 4 (some .long) ∈ xBW := xbw 651 (by decide +kernel) (by decide +kernel)
theorem xw613 : Cond.methodLink RL 36 yX7_income ∈ xBW := xbw 613 (by decide +kernel) (by decide +kernel)
theorem xw614 : Cond.instanceMethod yX7_income ∈ xBW := xbw 614 (by decide +kernel) (by decide +kernel)
theorem xw615 : Cond.selects RX7 yX7_income yX7_income ∈ xBW := xbw 615 (by decide +kernel) (by decide +kernel)
theorem xw616 : Cond.code yX7_income cX7_income 7 (some .long) ∈ xBW := xbw 616 (by decide +kernel) (by decide +kernel)
theorem xw607 : Cond.methodLink RL 33 yX7_mend ∈ xBW := xbw 607 (by decide +kernel) (by decide +kernel)
theorem xw608 : Cond.instanceMethod yX7_mend ∈ xBW := xbw 608 (by decide +kernel) (by decide +kernel)
theorem xw609 : Cond.selects RX7 yX7_mend yX7_mend ∈ xBW := xbw 609 (by decide +kernel) (by decide +kernel)
theorem xw610 : Cond.code yX7_mend cX7_mend 3 (some .int) ∈ xBW := xbw 610 (by decide +kernel) (by decide +kernel)
theorem xw577 : Cond.methodLink RL 30 yX7_report ∈ xBW := xbw 577 (by decide +kernel) (by decide +kernel)
theorem xw578 : Cond.instanceMethod yX7_report ∈ xBW := xbw 578 (by decide +kernel) (by decide +kernel)
theorem xw579 : Cond.selects RX7 yX7_report yX7_report ∈ xBW := xbw 579 (by decide +kernel) (by decide +kernel)
theorem xw580 : Cond.code yX7_report cX7_report 4 (some .int) ∈ xBW := xbw 580 (by decide +kernel) (by decide +kernel)
theorem xw566 : Cond.methodLink RL 27 yX7_heat ∈ xBW := xbw 566 (by decide +kernel) (by decide +kernel)
theorem xw567 : Cond.instanceMethod yX7_heat ∈ xBW := xbw 567 (by decide +kernel) (by decide +kernel)
theorem xw568 : Cond.selects RX7 yX7_heat yX7_heat ∈ xBW := xbw 568 (by decide +kernel) (by decide +kernel)
theorem xw569 : Cond.code yX7_heat cX7_heat 4 (some .int) ∈ xBW := xbw 569 (by decide +kernel) (by decide +kernel)
theorem xw556 : Cond.methodLink RL 24 yX7_read ∈ xBW := xbw 556 (by decide +kernel) (by decide +kernel)
theorem xw557 : Cond.instanceMethod yX7_read ∈ xBW := xbw 557 (by decide +kernel) (by decide +kernel)
theorem xw558 : Cond.selects RX7 yX7_read yX7_read ∈ xBW := xbw 558 (by decide +kernel) (by decide +kernel)
theorem xw559 : Cond.code yX7_read cX7_read 4 (some .int) ∈ xBW := xbw 559 (by decide +kernel) (by decide +kernel)
theorem xw547 : Cond.methodLink RL 21 yX7_index ∈ xBW := xbw 547 (by decide +kernel) (by decide +kernel)
theorem xw548 : Cond.instanceMethod yX7_index ∈ xBW := xbw 548 (by decide +kernel) (by decide +kernel)
theorem xw549 : Cond.selects RX7 yX7_index yX7_index ∈ xBW := xbw 549 (by decide +kernel) (by decide +kernel)
theorem xw550 : Cond.code yX7_index cX7_index 2 (some .int) ∈ xBW := xbw 550 (by decide +kernel) (by decide +kernel)
theorem xw537 : Cond.methodLink RL 18 yX7_end ∈ xBW := xbw 537 (by decide +kernel) (by decide +kernel)
theorem xw538 : Cond.instanceMethod yX7_end ∈ xBW := xbw 538 (by decide +kernel) (by decide +kernel)
theorem xw539 : Cond.selects RX7 yX7_end yX7_end ∈ xBW := xbw 539 (by decide +kernel) (by decide +kernel)
theorem xw540 : Cond.code yX7_end cX7_end 3 (some .int) ∈ xBW := xbw 540 (by decide +kernel) (by decide +kernel)
theorem xw385 : Cond.methodLink RL 14 yX7_lease ∈ xBW := xbw 385 (by decide +kernel) (by decide +kernel)
theorem xw386 : Cond.instanceMethod yX7_lease ∈ xBW := xbw 386 (by decide +kernel) (by decide +kernel)
theorem xw387 : Cond.selects RX7 yX7_lease yX7_lease ∈ xBW := xbw 387 (by decide +kernel) (by decide +kernel)
theorem xw388 : Cond.code yX7_lease cX7_lease 4 (some .int) ∈ xBW := xbw 388 (by decide +kernel) (by decide +kernel)
theorem xw196 : Cond.methodLink RL 8 yX7_flat ∈ xBW := xbw 196 (by decide +kernel) (by decide +kernel)
theorem xw197 : Cond.instanceMethod yX7_flat ∈ xBW := xbw 197 (by decide +kernel) (by decide +kernel)
theorem xw198 : Cond.selects RX7 yX7_flat yX7_flat ∈ xBW := xbw 198 (by decide +kernel) (by decide +kernel)
theorem xw199 : Cond.code yX7_flat cX7_flat 2 (some .int) ∈ xBW := xbw 199 (by decide +kernel) (by decide +kernel)
theorem xw530 : Cond.constant RL 7 (2147483647 : Int32) ∈ xBW := xbw 530 (by decide +kernel) (by decide +kernel)
theorem xw527 : Cond.methodLink RL 84 yL_low ∈ xBW := xbw 527 (by decide +kernel) (by decide +kernel)
theorem xw528 : Cond.static yL_low ∈ xBW := xbw 528 (by decide +kernel) (by decide +kernel)
theorem xw28 : Cond.initialized RL ∈ xBW := xbw 28 (by decide +kernel) (by decide +kernel)
theorem xw529 : Cond.code yL_low cL_low 2 (some .int) ∈ xBW := xbw 529 (by decide +kernel) (by decide +kernel)
theorem xw531 : Cond.methodLink RL 91 yL_does ∈ xBW := xbw 531 (by decide +kernel) (by decide +kernel)
theorem xw532 : Cond.static yL_does ∈ xBW := xbw 532 (by decide +kernel) (by decide +kernel)
theorem xw533 : Cond.codeWith yL_does cL_does 6 (some .long) [(0, 292, 293, 76), (0, 292, 299, 80), (0, 292, 305, 82)] ∈ xBW := xbw 533 (by decide +kernel) (by decide +kernel)
theorem xw1140 : Cond.constant RL 97 (200000 : Int32) ∈ xBW := xbw 1140 (by decide +kernel) (by decide +kernel)
theorem xw1139 : Cond.constant RL 96 (1000001 : Int32) ∈ xBW := xbw 1139 (by decide +kernel) (by decide +kernel)
theorem xw1138 : Cond.constant RL 95 (100000 : Int32) ∈ xBW := xbw 1138 (by decide +kernel) (by decide +kernel)
theorem xw1137 : Cond.constant RL 90 (90000 : Int32) ∈ xBW := xbw 1137 (by decide +kernel) (by decide +kernel)
theorem xw1136 : Cond.constant RL 89 (500001 : Int32) ∈ xBW := xbw 1136 (by decide +kernel) (by decide +kernel)
theorem xw1144 : Cond.methodLink RL 98 yX7_owner ∈ xBW := xbw 1144 (by decide +kernel) (by decide +kernel)
theorem xw1145 : Cond.instanceMethod yX7_owner ∈ xBW := xbw 1145 (by decide +kernel) (by decide +kernel)
theorem xw1146 : Cond.selects RX7 yX7_owner yX7_owner ∈ xBW := xbw 1146 (by decide +kernel) (by decide +kernel)
theorem xw1147 : Cond.code yX7_owner cX7_owner 1 (some .long) ∈ xBW := xbw 1147 (by decide +kernel) (by decide +kernel)
theorem xw1157 : Cond.constant RL 108 (300000 : Int32) ∈ xBW := xbw 1157 (by decide +kernel) (by decide +kernel)
theorem xw1151 : Cond.constantLong RL 102 (-1 : Int64) ∈ xBW := xbw 1151 (by decide +kernel) (by decide +kernel)
theorem xw1152 : Cond.constantLong RL 104 (8 : Int64) ∈ xBW := xbw 1152 (by decide +kernel) (by decide +kernel)
theorem xw1153 : Cond.constantLong RL 106 (10 : Int64) ∈ xBW := xbw 1153 (by decide +kernel) (by decide +kernel)
theorem xw1141 : Cond.methodLink RL 120 yL_areAlike ∈ xBW := xbw 1141 (by decide +kernel) (by decide +kernel)
theorem xw1142 : Cond.static yL_areAlike ∈ xBW := xbw 1142 (by decide +kernel) (by decide +kernel)
theorem xw1143 : Cond.code yL_areAlike cL_areAlike 7 (some .boolean) ∈ xBW := xbw 1143 (by decide +kernel) (by decide +kernel)
theorem xw1148 : Cond.methodLink RL 124 yL_isInOrder ∈ xBW := xbw 1148 (by decide +kernel) (by decide +kernel)
theorem xw1149 : Cond.static yL_isInOrder ∈ xBW := xbw 1149 (by decide +kernel) (by decide +kernel)
theorem xw1150 : Cond.code yL_isInOrder cL_isInOrder 19 (some .boolean) ∈ xBW := xbw 1150 (by decide +kernel) (by decide +kernel)
theorem xw1154 : Cond.methodLink RL 128 yL_isBack ∈ xBW := xbw 1154 (by decide +kernel) (by decide +kernel)
theorem xw1155 : Cond.static yL_isBack ∈ xBW := xbw 1155 (by decide +kernel) (by decide +kernel)
theorem xw1156 : Cond.code yL_isBack cL_isBack 14 (some .boolean) ∈ xBW := xbw 1156 (by decide +kernel) (by decide +kernel)
theorem xw1133 : Cond.methodLink RL 116 yL_act ∈ xBW := xbw 1133 (by decide +kernel) (by decide +kernel)
theorem xw1134 : Cond.static yL_act ∈ xBW := xbw 1134 (by decide +kernel) (by decide +kernel)
theorem xw1135 : Cond.code yL_act cL_act 8 (some .long) ∈ xBW := xbw 1135 (by decide +kernel) (by decide +kernel)
theorem xw524 : Cond.methodLink RL 110 yL_cell ∈ xBW := xbw 524 (by decide +kernel) (by decide +kernel)
theorem xw525 : Cond.static yL_cell ∈ xBW := xbw 525 (by decide +kernel) (by decide +kernel)
theorem xw526 : Cond.code yL_cell cL_cell 2 (some .int) ∈ xBW := xbw 526 (by decide +kernel) (by decide +kernel)
theorem xw1158 : Cond.constant RL 114 (40000 : Int32) ∈ xBW := xbw 1158 (by decide +kernel) (by decide +kernel)
theorem xw1159 : Cond.constant RL 115 (70003 : Int32) ∈ xBW := xbw 1159 (by decide +kernel) (by decide +kernel)
theorem xw61 : Cond.classLink RL 9 "RentStream" ∈ xBW := xbw 61 (by decide +kernel) (by decide +kernel)
theorem xw62 : Cond.instantiable RX7 10 ∈ xBW := xbw 62 (by decide +kernel) (by decide +kernel)
theorem xw63 : Cond.methodLink RL 109 yX7_init ∈ xBW := xbw 63 (by decide +kernel) (by decide +kernel)
theorem xw64 : Cond.instanceMethod yX7_init ∈ xBW := xbw 64 (by decide +kernel) (by decide +kernel)
theorem xw65 : Cond.code yX7_init cX7_init 1 none ∈ xBW := xbw 65 (by decide +kernel) (by decide +kernel)
theorem xw1160 : Cond.arrayClass .long ∈ xBW := xbw 1160 (by decide +kernel) (by decide +kernel)
abbrev k_L_does : xκ := (RL, cL_does, 6, 11, 289)
abbrev k_L_low : xκ := (RL, cL_low, 2, 0, 0)
abbrev k_L_act : xκ := (RL, cL_act, 8, 12, 314)
abbrev k_L_areAlike : xκ := (RL, cL_areAlike, 7, 12, 314)
abbrev k_L_cell : xκ := (RL, cL_cell, 2, 0, 0)
abbrev k_L_isBack : xκ := (RL, cL_isBack, 14, 12, 314)
abbrev k_L_isInOrder : xκ := (RL, cL_isInOrder, 19, 12, 314)
abbrev k_L_law : xκ := (RL, cL_law, 16, 13, 352)
theorem xc_L_does_73 : xLV k_L_does k_X7_planOf 73 RX7 yX7_planOf (some .int) 1 := ⟨List.forall_mem_cons.mpr ⟨xw1128, List.forall_mem_cons.mpr ⟨xw1129, List.forall_mem_cons.mpr ⟨xw1130, List.forall_mem_cons.mpr ⟨xw29, fun _ h => absurd h List.not_mem_nil⟩⟩⟩⟩, xw1131, ⟨⟨by decide +kernel, by decide +kernel, by decide +kernel⟩, by decide, by decide⟩⟩
theorem xc_L_does_70 : xLV k_L_does k_X7_points 70 RX7 yX7_points (some .int) 1 := ⟨List.forall_mem_cons.mpr ⟨xw1124, List.forall_mem_cons.mpr ⟨xw1125, List.forall_mem_cons.mpr ⟨xw1126, List.forall_mem_cons.mpr ⟨xw29, fun _ h => absurd h List.not_mem_nil⟩⟩⟩⟩, xw1127, ⟨⟨by decide +kernel, by decide +kernel, by decide +kernel⟩, by decide, by decide⟩⟩
theorem xc_L_does_67 : xLV k_L_does k_X7_use 67 RX7 yX7_use (some .int) 2 := ⟨List.forall_mem_cons.mpr ⟨xw1120, List.forall_mem_cons.mpr ⟨xw1121, List.forall_mem_cons.mpr ⟨xw1122, List.forall_mem_cons.mpr ⟨xw29, fun _ h => absurd h List.not_mem_nil⟩⟩⟩⟩, xw1123, ⟨⟨by decide +kernel, by decide +kernel, by decide +kernel⟩, by decide, by decide⟩⟩
theorem xc_L_does_63 : xLV k_L_does k_X7_line 63 RX7 yX7_line (some .char) 3 := ⟨List.forall_mem_cons.mpr ⟨xw809, List.forall_mem_cons.mpr ⟨xw810, List.forall_mem_cons.mpr ⟨xw811, List.forall_mem_cons.mpr ⟨xw29, fun _ h => absurd h List.not_mem_nil⟩⟩⟩⟩, xw812, ⟨⟨by decide +kernel, by decide +kernel, by decide +kernel⟩, by decide, by decide⟩⟩
theorem xc_L_does_60 : xLV k_L_does k_X7_bill 60 RX7 yX7_bill (some .long) 3 := ⟨List.forall_mem_cons.mpr ⟨xw798, List.forall_mem_cons.mpr ⟨xw799, List.forall_mem_cons.mpr ⟨xw800, List.forall_mem_cons.mpr ⟨xw29, fun _ h => absurd h List.not_mem_nil⟩⟩⟩⟩, xw801, ⟨⟨by decide +kernel, by decide +kernel, by decide +kernel⟩, by decide, by decide⟩⟩
theorem xc_L_does_57 : xLV k_L_does k_X7_desk 57 RX7 yX7_desk (some .long) 1 := ⟨List.forall_mem_cons.mpr ⟨xw794, List.forall_mem_cons.mpr ⟨xw795, List.forall_mem_cons.mpr ⟨xw796, List.forall_mem_cons.mpr ⟨xw29, fun _ h => absurd h List.not_mem_nil⟩⟩⟩⟩, xw797, ⟨⟨by decide +kernel, by decide +kernel, by decide +kernel⟩, by decide, by decide⟩⟩
theorem xc_L_does_54 : xLV k_L_does k_X7_owesAnew 54 RX7 yX7_owesAnew (some .long) 1 := ⟨List.forall_mem_cons.mpr ⟨xw790, List.forall_mem_cons.mpr ⟨xw791, List.forall_mem_cons.mpr ⟨xw792, List.forall_mem_cons.mpr ⟨xw29, fun _ h => absurd h List.not_mem_nil⟩⟩⟩⟩, xw793, ⟨⟨by decide +kernel, by decide +kernel, by decide +kernel⟩, by decide, by decide⟩⟩
theorem xc_L_does_50 : xLV k_L_does k_X7_owes 50 RX7 yX7_owes (some .long) 1 := ⟨List.forall_mem_cons.mpr ⟨xw786, List.forall_mem_cons.mpr ⟨xw787, List.forall_mem_cons.mpr ⟨xw788, List.forall_mem_cons.mpr ⟨xw29, fun _ h => absurd h List.not_mem_nil⟩⟩⟩⟩, xw789, ⟨⟨by decide +kernel, by decide +kernel, by decide +kernel⟩, by decide, by decide⟩⟩
theorem xc_L_does_47 : xLV k_L_does k_X7_pass 47 RX7 yX7_pass (some .int) 1 := ⟨List.forall_mem_cons.mpr ⟨xw662, List.forall_mem_cons.mpr ⟨xw663, List.forall_mem_cons.mpr ⟨xw664, List.forall_mem_cons.mpr ⟨xw29, fun _ h => absurd h List.not_mem_nil⟩⟩⟩⟩, xw665, ⟨⟨by decide +kernel, by decide +kernel, by decide +kernel⟩, by decide, by decide⟩⟩
theorem xc_L_does_44 : xLV k_L_does k_X7_plan 44 RX7 yX7_plan (some .long) 2 := ⟨List.forall_mem_cons.mpr ⟨xw652, List.forall_mem_cons.mpr ⟨xw653, List.forall_mem_cons.mpr ⟨xw654, List.forall_mem_cons.mpr ⟨xw29, fun _ h => absurd h List.not_mem_nil⟩⟩⟩⟩, xw655, ⟨⟨by decide +kernel, by decide +kernel, by decide +kernel⟩, by decide, by decide⟩⟩
theorem xc_L_does_40 : xLV k_L_does k_X7_pay 40 RX7 yX7_pay (some .long) 2 := ⟨List.forall_mem_cons.mpr ⟨xw648, List.forall_mem_cons.mpr ⟨xw649, List.forall_mem_cons.mpr ⟨xw650, List.forall_mem_cons.mpr ⟨xw29, fun _ h => absurd h List.not_mem_nil⟩⟩⟩⟩, xw651, ⟨⟨by decide +kernel, by decide +kernel, by decide +kernel⟩, by decide, by decide⟩⟩
theorem xc_L_does_36 : xLV k_L_does k_X7_income 36 RX7 yX7_income (some .long) 3 := ⟨List.forall_mem_cons.mpr ⟨xw613, List.forall_mem_cons.mpr ⟨xw614, List.forall_mem_cons.mpr ⟨xw615, List.forall_mem_cons.mpr ⟨xw29, fun _ h => absurd h List.not_mem_nil⟩⟩⟩⟩, xw616, ⟨⟨by decide +kernel, by decide +kernel, by decide +kernel⟩, by decide, by decide⟩⟩
theorem xc_L_does_33 : xLV k_L_does k_X7_mend 33 RX7 yX7_mend (some .int) 1 := ⟨List.forall_mem_cons.mpr ⟨xw607, List.forall_mem_cons.mpr ⟨xw608, List.forall_mem_cons.mpr ⟨xw609, List.forall_mem_cons.mpr ⟨xw29, fun _ h => absurd h List.not_mem_nil⟩⟩⟩⟩, xw610, ⟨⟨by decide +kernel, by decide +kernel, by decide +kernel⟩, by decide, by decide⟩⟩
theorem xc_L_does_30 : xLV k_L_does k_X7_report 30 RX7 yX7_report (some .int) 2 := ⟨List.forall_mem_cons.mpr ⟨xw577, List.forall_mem_cons.mpr ⟨xw578, List.forall_mem_cons.mpr ⟨xw579, List.forall_mem_cons.mpr ⟨xw29, fun _ h => absurd h List.not_mem_nil⟩⟩⟩⟩, xw580, ⟨⟨by decide +kernel, by decide +kernel, by decide +kernel⟩, by decide, by decide⟩⟩
theorem xc_L_does_27 : xLV k_L_does k_X7_heat 27 RX7 yX7_heat (some .int) 1 := ⟨List.forall_mem_cons.mpr ⟨xw566, List.forall_mem_cons.mpr ⟨xw567, List.forall_mem_cons.mpr ⟨xw568, List.forall_mem_cons.mpr ⟨xw29, fun _ h => absurd h List.not_mem_nil⟩⟩⟩⟩, xw569, ⟨⟨by decide +kernel, by decide +kernel, by decide +kernel⟩, by decide, by decide⟩⟩
theorem xc_L_does_24 : xLV k_L_does k_X7_read 24 RX7 yX7_read (some .int) 2 := ⟨List.forall_mem_cons.mpr ⟨xw556, List.forall_mem_cons.mpr ⟨xw557, List.forall_mem_cons.mpr ⟨xw558, List.forall_mem_cons.mpr ⟨xw29, fun _ h => absurd h List.not_mem_nil⟩⟩⟩⟩, xw559, ⟨⟨by decide +kernel, by decide +kernel, by decide +kernel⟩, by decide, by decide⟩⟩
theorem xc_L_does_21 : xLV k_L_does k_X7_index 21 RX7 yX7_index (some .int) 1 := ⟨List.forall_mem_cons.mpr ⟨xw547, List.forall_mem_cons.mpr ⟨xw548, List.forall_mem_cons.mpr ⟨xw549, List.forall_mem_cons.mpr ⟨xw29, fun _ h => absurd h List.not_mem_nil⟩⟩⟩⟩, xw550, ⟨⟨by decide +kernel, by decide +kernel, by decide +kernel⟩, by decide, by decide⟩⟩
theorem xc_L_does_18 : xLV k_L_does k_X7_end 18 RX7 yX7_end (some .int) 1 := ⟨List.forall_mem_cons.mpr ⟨xw537, List.forall_mem_cons.mpr ⟨xw538, List.forall_mem_cons.mpr ⟨xw539, List.forall_mem_cons.mpr ⟨xw29, fun _ h => absurd h List.not_mem_nil⟩⟩⟩⟩, xw540, ⟨⟨by decide +kernel, by decide +kernel, by decide +kernel⟩, by decide, by decide⟩⟩
theorem xc_L_does_14 : xLV k_L_does k_X7_lease 14 RX7 yX7_lease (some .int) 2 := ⟨List.forall_mem_cons.mpr ⟨xw385, List.forall_mem_cons.mpr ⟨xw386, List.forall_mem_cons.mpr ⟨xw387, List.forall_mem_cons.mpr ⟨xw29, fun _ h => absurd h List.not_mem_nil⟩⟩⟩⟩, xw388, ⟨⟨by decide +kernel, by decide +kernel, by decide +kernel⟩, by decide, by decide⟩⟩
theorem xc_L_does_8 : xLV k_L_does k_X7_flat 8 RX7 yX7_flat (some .int) 1 := ⟨List.forall_mem_cons.mpr ⟨xw196, List.forall_mem_cons.mpr ⟨xw197, List.forall_mem_cons.mpr ⟨xw198, List.forall_mem_cons.mpr ⟨xw29, fun _ h => absurd h List.not_mem_nil⟩⟩⟩⟩, xw199, ⟨⟨by decide +kernel, by decide +kernel, by decide +kernel⟩, by decide, by decide⟩⟩
theorem xc_L_act_84 : xLS k_L_act k_L_low 84 yL_low (some .int) 2 := ⟨List.forall_mem_cons.mpr ⟨xw527, List.forall_mem_cons.mpr ⟨xw528, List.forall_mem_cons.mpr ⟨xw28, fun _ h => absurd h List.not_mem_nil⟩⟩⟩, xw529, ⟨⟨by decide +kernel, by decide +kernel, by decide +kernel⟩, by decide, by decide⟩⟩
theorem xc_L_act_91 : xLSH k_L_act k_L_does 91 yL_does (some .long) [(0, 292, 293, 76), (0, 292, 299, 80), (0, 292, 305, 82)] 5 := ⟨List.forall_mem_cons.mpr ⟨xw531, List.forall_mem_cons.mpr ⟨xw532, List.forall_mem_cons.mpr ⟨xw28, fun _ h => absurd h List.not_mem_nil⟩⟩⟩, xw533, ⟨⟨by decide +kernel, by decide +kernel, by decide +kernel⟩, by decide, by decide⟩⟩
theorem xc_L_areAlike_91 : xLSH k_L_areAlike k_L_does 91 yL_does (some .long) [(0, 292, 293, 76), (0, 292, 299, 80), (0, 292, 305, 82)] 5 := ⟨List.forall_mem_cons.mpr ⟨xw531, List.forall_mem_cons.mpr ⟨xw532, List.forall_mem_cons.mpr ⟨xw28, fun _ h => absurd h List.not_mem_nil⟩⟩⟩, xw533, ⟨⟨by decide +kernel, by decide +kernel, by decide +kernel⟩, by decide, by decide⟩⟩
theorem xc_L_areAlike_84 : xLS k_L_areAlike k_L_low 84 yL_low (some .int) 2 := ⟨List.forall_mem_cons.mpr ⟨xw527, List.forall_mem_cons.mpr ⟨xw528, List.forall_mem_cons.mpr ⟨xw28, fun _ h => absurd h List.not_mem_nil⟩⟩⟩, xw529, ⟨⟨by decide +kernel, by decide +kernel, by decide +kernel⟩, by decide, by decide⟩⟩
theorem xc_L_areAlike_98 : xLV k_L_areAlike k_X7_owner 98 RX7 yX7_owner (some .long) 0 := ⟨List.forall_mem_cons.mpr ⟨xw1144, List.forall_mem_cons.mpr ⟨xw1145, List.forall_mem_cons.mpr ⟨xw1146, List.forall_mem_cons.mpr ⟨xw29, fun _ h => absurd h List.not_mem_nil⟩⟩⟩⟩, xw1147, ⟨⟨by decide +kernel, by decide +kernel, by decide +kernel⟩, by decide, by decide⟩⟩
theorem xc_L_isBack_84 : xLS k_L_isBack k_L_low 84 yL_low (some .int) 2 := ⟨List.forall_mem_cons.mpr ⟨xw527, List.forall_mem_cons.mpr ⟨xw528, List.forall_mem_cons.mpr ⟨xw28, fun _ h => absurd h List.not_mem_nil⟩⟩⟩, xw529, ⟨⟨by decide +kernel, by decide +kernel, by decide +kernel⟩, by decide, by decide⟩⟩
theorem xc_L_isBack_91 : xLSH k_L_isBack k_L_does 91 yL_does (some .long) [(0, 292, 293, 76), (0, 292, 299, 80), (0, 292, 305, 82)] 5 := ⟨List.forall_mem_cons.mpr ⟨xw531, List.forall_mem_cons.mpr ⟨xw532, List.forall_mem_cons.mpr ⟨xw28, fun _ h => absurd h List.not_mem_nil⟩⟩⟩, xw533, ⟨⟨by decide +kernel, by decide +kernel, by decide +kernel⟩, by decide, by decide⟩⟩
theorem xc_L_isInOrder_98 : xLV k_L_isInOrder k_X7_owner 98 RX7 yX7_owner (some .long) 0 := ⟨List.forall_mem_cons.mpr ⟨xw1144, List.forall_mem_cons.mpr ⟨xw1145, List.forall_mem_cons.mpr ⟨xw1146, List.forall_mem_cons.mpr ⟨xw29, fun _ h => absurd h List.not_mem_nil⟩⟩⟩⟩, xw1147, ⟨⟨by decide +kernel, by decide +kernel, by decide +kernel⟩, by decide, by decide⟩⟩
theorem xc_L_isInOrder_57 : xLV k_L_isInOrder k_X7_desk 57 RX7 yX7_desk (some .long) 1 := ⟨List.forall_mem_cons.mpr ⟨xw794, List.forall_mem_cons.mpr ⟨xw795, List.forall_mem_cons.mpr ⟨xw796, List.forall_mem_cons.mpr ⟨xw29, fun _ h => absurd h List.not_mem_nil⟩⟩⟩⟩, xw797, ⟨⟨by decide +kernel, by decide +kernel, by decide +kernel⟩, by decide, by decide⟩⟩
theorem xc_L_isInOrder_54 : xLV k_L_isInOrder k_X7_owesAnew 54 RX7 yX7_owesAnew (some .long) 1 := ⟨List.forall_mem_cons.mpr ⟨xw790, List.forall_mem_cons.mpr ⟨xw791, List.forall_mem_cons.mpr ⟨xw792, List.forall_mem_cons.mpr ⟨xw29, fun _ h => absurd h List.not_mem_nil⟩⟩⟩⟩, xw793, ⟨⟨by decide +kernel, by decide +kernel, by decide +kernel⟩, by decide, by decide⟩⟩
theorem xc_L_isInOrder_91 : xLSH k_L_isInOrder k_L_does 91 yL_does (some .long) [(0, 292, 293, 76), (0, 292, 299, 80), (0, 292, 305, 82)] 5 := ⟨List.forall_mem_cons.mpr ⟨xw531, List.forall_mem_cons.mpr ⟨xw532, List.forall_mem_cons.mpr ⟨xw28, fun _ h => absurd h List.not_mem_nil⟩⟩⟩, xw533, ⟨⟨by decide +kernel, by decide +kernel, by decide +kernel⟩, by decide, by decide⟩⟩
theorem xc_L_isInOrder_60 : xLV k_L_isInOrder k_X7_bill 60 RX7 yX7_bill (some .long) 3 := ⟨List.forall_mem_cons.mpr ⟨xw798, List.forall_mem_cons.mpr ⟨xw799, List.forall_mem_cons.mpr ⟨xw800, List.forall_mem_cons.mpr ⟨xw29, fun _ h => absurd h List.not_mem_nil⟩⟩⟩⟩, xw801, ⟨⟨by decide +kernel, by decide +kernel, by decide +kernel⟩, by decide, by decide⟩⟩
theorem xc_L_isInOrder_63 : xLV k_L_isInOrder k_X7_line 63 RX7 yX7_line (some .char) 3 := ⟨List.forall_mem_cons.mpr ⟨xw809, List.forall_mem_cons.mpr ⟨xw810, List.forall_mem_cons.mpr ⟨xw811, List.forall_mem_cons.mpr ⟨xw29, fun _ h => absurd h List.not_mem_nil⟩⟩⟩⟩, xw812, ⟨⟨by decide +kernel, by decide +kernel, by decide +kernel⟩, by decide, by decide⟩⟩
theorem xc_L_law_120 : xLS k_L_law k_L_areAlike 120 yL_areAlike (some .boolean) 3 := ⟨List.forall_mem_cons.mpr ⟨xw1141, List.forall_mem_cons.mpr ⟨xw1142, List.forall_mem_cons.mpr ⟨xw28, fun _ h => absurd h List.not_mem_nil⟩⟩⟩, xw1143, ⟨⟨by decide +kernel, by decide +kernel, by decide +kernel⟩, by decide, by decide⟩⟩
theorem xc_L_law_124 : xLS k_L_law k_L_isInOrder 124 yL_isInOrder (some .boolean) 2 := ⟨List.forall_mem_cons.mpr ⟨xw1148, List.forall_mem_cons.mpr ⟨xw1149, List.forall_mem_cons.mpr ⟨xw28, fun _ h => absurd h List.not_mem_nil⟩⟩⟩, xw1150, ⟨⟨by decide +kernel, by decide +kernel, by decide +kernel⟩, by decide, by decide⟩⟩
theorem xc_L_law_128 : xLS k_L_law k_L_isBack 128 yL_isBack (some .boolean) 3 := ⟨List.forall_mem_cons.mpr ⟨xw1154, List.forall_mem_cons.mpr ⟨xw1155, List.forall_mem_cons.mpr ⟨xw28, fun _ h => absurd h List.not_mem_nil⟩⟩⟩, xw1156, ⟨⟨by decide +kernel, by decide +kernel, by decide +kernel⟩, by decide, by decide⟩⟩
theorem xc_L_law_84 : xLS k_L_law k_L_low 84 yL_low (some .int) 2 := ⟨List.forall_mem_cons.mpr ⟨xw527, List.forall_mem_cons.mpr ⟨xw528, List.forall_mem_cons.mpr ⟨xw28, fun _ h => absurd h List.not_mem_nil⟩⟩⟩, xw529, ⟨⟨by decide +kernel, by decide +kernel, by decide +kernel⟩, by decide, by decide⟩⟩
theorem xc_L_law_116 : xLS k_L_law k_L_act 116 yL_act (some .long) 2 := ⟨List.forall_mem_cons.mpr ⟨xw1133, List.forall_mem_cons.mpr ⟨xw1134, List.forall_mem_cons.mpr ⟨xw28, fun _ h => absurd h List.not_mem_nil⟩⟩⟩, xw1135, ⟨⟨by decide +kernel, by decide +kernel, by decide +kernel⟩, by decide, by decide⟩⟩
theorem xc_L_law_91 : xLSH k_L_law k_L_does 91 yL_does (some .long) [(0, 292, 293, 76), (0, 292, 299, 80), (0, 292, 305, 82)] 5 := ⟨List.forall_mem_cons.mpr ⟨xw531, List.forall_mem_cons.mpr ⟨xw532, List.forall_mem_cons.mpr ⟨xw28, fun _ h => absurd h List.not_mem_nil⟩⟩⟩, xw533, ⟨⟨by decide +kernel, by decide +kernel, by decide +kernel⟩, by decide, by decide⟩⟩
theorem xc_L_law_110 : xLS k_L_law k_L_cell 110 yL_cell (some .int) 2 := ⟨List.forall_mem_cons.mpr ⟨xw524, List.forall_mem_cons.mpr ⟨xw525, List.forall_mem_cons.mpr ⟨xw28, fun _ h => absurd h List.not_mem_nil⟩⟩⟩, xw526, ⟨⟨by decide +kernel, by decide +kernel, by decide +kernel⟩, by decide, by decide⟩⟩
theorem xc_L_law_14 : xLV k_L_law k_X7_lease 14 RX7 yX7_lease (some .int) 2 := ⟨List.forall_mem_cons.mpr ⟨xw385, List.forall_mem_cons.mpr ⟨xw386, List.forall_mem_cons.mpr ⟨xw387, List.forall_mem_cons.mpr ⟨xw29, fun _ h => absurd h List.not_mem_nil⟩⟩⟩⟩, xw388, ⟨⟨by decide +kernel, by decide +kernel, by decide +kernel⟩, by decide, by decide⟩⟩
theorem xc_L_law_8 : xLV k_L_law k_X7_flat 8 RX7 yX7_flat (some .int) 1 := ⟨List.forall_mem_cons.mpr ⟨xw196, List.forall_mem_cons.mpr ⟨xw197, List.forall_mem_cons.mpr ⟨xw198, List.forall_mem_cons.mpr ⟨xw29, fun _ h => absurd h List.not_mem_nil⟩⟩⟩⟩, xw199, ⟨⟨by decide +kernel, by decide +kernel, by decide +kernel⟩, by decide, by decide⟩⟩
theorem xn_L_9 : xNL RL 9 7 [.null, .null, .null, .null, .null, .null, .null, .int 0, .int 0, .long 0] := ⟨RX7, TX7, 10, tyX7, rfl, xin7, xw61, xw62, xw29, tyX7_ok, by decide +kernel, rfl⟩
theorem xc_L_law_109 : xLI k_L_law k_X7_init 109 yX7_init 0 := ⟨List.forall_mem_cons.mpr ⟨xw63, List.forall_mem_cons.mpr ⟨xw64, List.forall_mem_cons.mpr ⟨xw29, fun _ h => absurd h List.not_mem_nil⟩⟩⟩, xw65, rfl, ⟨⟨by decide +kernel, by decide +kernel, by decide +kernel⟩, by decide, by decide⟩⟩
