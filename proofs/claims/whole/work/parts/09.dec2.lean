theorem dX12_init_0 : decode cX12_init 0 = .ok (.aload_n 0, 1) := by decide +kernel
theorem dX12_init_1 : decode cX12_init 1 = .ok (.invokespecial 1, 3) := by decide +kernel
theorem dX12_init_4 : decode cX12_init 4 = .ok (.aload_n 0, 1) := by decide +kernel
theorem dX12_init_5 : decode cX12_init 5 = .ok (.iconst 4, 1) := by decide +kernel
theorem dX12_init_6 : decode cX12_init 6 = .ok (.putfield 7, 3) := by decide +kernel
theorem dX12_init_9 : decode cX12_init 9 = .ok (.aload_n 0, 1) := by decide +kernel
theorem dX12_init_10 : decode cX12_init 10 = .ok (.iconst 5, 1) := by decide +kernel
theorem dX12_init_11 : decode cX12_init 11 = .ok (.putfield 13, 3) := by decide +kernel
theorem dX12_init_14 : decode cX12_init 14 = .ok (.aload_n 0, 1) := by decide +kernel
theorem dX12_init_15 : decode cX12_init 15 = .ok (.bipush 10, 2) := by decide +kernel
theorem dX12_init_17 : decode cX12_init 17 = .ok (.newarray .int, 2) := by decide +kernel
theorem dX12_init_19 : decode cX12_init 19 = .ok (.putfield 16, 3) := by decide +kernel
theorem dX12_init_22 : decode cX12_init 22 = .ok (.aload_n 0, 1) := by decide +kernel
theorem dX12_init_23 : decode cX12_init 23 = .ok (.bipush 10, 2) := by decide +kernel
theorem dX12_init_25 : decode cX12_init 25 = .ok (.newarray .int, 2) := by decide +kernel
theorem dX12_init_27 : decode cX12_init 27 = .ok (.putfield 20, 3) := by decide +kernel
theorem dX12_init_30 : decode cX12_init 30 = .ok (.aload_n 0, 1) := by decide +kernel
theorem dX12_init_31 : decode cX12_init 31 = .ok (.bipush 10, 2) := by decide +kernel
theorem dX12_init_33 : decode cX12_init 33 = .ok (.newarray .int, 2) := by decide +kernel
theorem dX12_init_35 : decode cX12_init 35 = .ok (.putfield 23, 3) := by decide +kernel
theorem dX12_init_38 : decode cX12_init 38 = .ok (.aload_n 0, 1) := by decide +kernel
theorem dX12_init_39 : decode cX12_init 39 = .ok (.bipush 10, 2) := by decide +kernel
theorem dX12_init_41 : decode cX12_init 41 = .ok (.newarray .int, 2) := by decide +kernel
theorem dX12_init_43 : decode cX12_init 43 = .ok (.putfield 26, 3) := by decide +kernel
theorem dX12_init_46 : decode cX12_init 46 = .ok (.aload_n 0, 1) := by decide +kernel
theorem dX12_init_47 : decode cX12_init 47 = .ok (.bipush 20, 2) := by decide +kernel
theorem dX12_init_49 : decode cX12_init 49 = .ok (.newarray .int, 2) := by decide +kernel
theorem dX12_init_51 : decode cX12_init 51 = .ok (.putfield 29, 3) := by decide +kernel
theorem dX12_init_54 : decode cX12_init 54 = .ok (.aload_n 0, 1) := by decide +kernel
theorem dX12_init_55 : decode cX12_init 55 = .ok (.bipush 20, 2) := by decide +kernel
theorem dX12_init_57 : decode cX12_init 57 = .ok (.newarray .int, 2) := by decide +kernel
theorem dX12_init_59 : decode cX12_init 59 = .ok (.putfield 32, 3) := by decide +kernel
theorem dX12_init_62 : decode cX12_init 62 = .ok (.aload_n 0, 1) := by decide +kernel
theorem dX12_init_63 : decode cX12_init 63 = .ok (.bipush 8, 2) := by decide +kernel
theorem dX12_init_65 : decode cX12_init 65 = .ok (.newarray .int, 2) := by decide +kernel
theorem dX12_init_67 : decode cX12_init 67 = .ok (.putfield 35, 3) := by decide +kernel
theorem dX12_init_70 : decode cX12_init 70 = .ok (.aload_n 0, 1) := by decide +kernel
theorem dX12_init_71 : decode cX12_init 71 = .ok (.bipush 8, 2) := by decide +kernel
theorem dX12_init_73 : decode cX12_init 73 = .ok (.newarray .int, 2) := by decide +kernel
theorem dX12_init_75 : decode cX12_init 75 = .ok (.putfield 38, 3) := by decide +kernel
theorem dX12_init_78 : decode cX12_init 78 = .ok (.aload_n 0, 1) := by decide +kernel
theorem dX12_init_79 : decode cX12_init 79 = .ok (.bipush 8, 2) := by decide +kernel
theorem dX12_init_81 : decode cX12_init 81 = .ok (.newarray .int, 2) := by decide +kernel
theorem dX12_init_83 : decode cX12_init 83 = .ok (.putfield 41, 3) := by decide +kernel
theorem dX12_init_86 : decode cX12_init 86 = .ok (.aload_n 0, 1) := by decide +kernel
theorem dX12_init_87 : decode cX12_init 87 = .ok (.iconst (-1), 1) := by decide +kernel
theorem dX12_init_88 : decode cX12_init 88 = .ok (.putfield 44, 3) := by decide +kernel
theorem dX12_init_91 : decode cX12_init 91 = .ok (.aload_n 0, 1) := by decide +kernel
theorem dX12_init_92 : decode cX12_init 92 = .ok (.iconst 1, 1) := by decide +kernel
theorem dX12_init_93 : decode cX12_init 93 = .ok (.putfield 47, 3) := by decide +kernel
theorem dX12_init_96 : decode cX12_init 96 = .ok (.aload_n 0, 1) := by decide +kernel
theorem dX12_init_97 : decode cX12_init 97 = .ok (.bipush 10, 2) := by decide +kernel
theorem dX12_init_99 : decode cX12_init 99 = .ok (.newarray .int, 2) := by decide +kernel
theorem dX12_init_101 : decode cX12_init 101 = .ok (.putfield 50, 3) := by decide +kernel
theorem dX12_init_104 : decode cX12_init 104 = .ok (.aload_n 0, 1) := by decide +kernel
theorem dX12_init_105 : decode cX12_init 105 = .ok (.sipush 160, 3) := by decide +kernel
theorem dX12_init_108 : decode cX12_init 108 = .ok (.newarray .int, 2) := by decide +kernel
theorem dX12_init_110 : decode cX12_init 110 = .ok (.putfield 53, 3) := by decide +kernel
theorem dX12_init_113 : decode cX12_init 113 = .ok (.aload_n 0, 1) := by decide +kernel
theorem dX12_init_114 : decode cX12_init 114 = .ok (.sipush 160, 3) := by decide +kernel
theorem dX12_init_117 : decode cX12_init 117 = .ok (.newarray .int, 2) := by decide +kernel
theorem dX12_init_119 : decode cX12_init 119 = .ok (.putfield 56, 3) := by decide +kernel
theorem dX12_init_122 : decode cX12_init 122 = .ok (.aload_n 0, 1) := by decide +kernel
theorem dX12_init_123 : decode cX12_init 123 = .ok (.sipush 160, 3) := by decide +kernel
theorem dX12_init_126 : decode cX12_init 126 = .ok (.newarray .int, 2) := by decide +kernel
theorem dX12_init_128 : decode cX12_init 128 = .ok (.putfield 59, 3) := by decide +kernel
theorem dX12_init_131 : decode cX12_init 131 = .ok (.aload_n 0, 1) := by decide +kernel
theorem dX12_init_132 : decode cX12_init 132 = .ok (.sipush 160, 3) := by decide +kernel
theorem dX12_init_135 : decode cX12_init 135 = .ok (.newarray .int, 2) := by decide +kernel
theorem dX12_init_137 : decode cX12_init 137 = .ok (.putfield 62, 3) := by decide +kernel
theorem dX12_init_140 : decode cX12_init 140 = .ok (.aload_n 0, 1) := by decide +kernel
theorem dX12_init_141 : decode cX12_init 141 = .ok (.sipush 5000, 3) := by decide +kernel
theorem dX12_init_144 : decode cX12_init 144 = .ok (.newarray .int, 2) := by decide +kernel
theorem dX12_init_146 : decode cX12_init 146 = .ok (.putfield 65, 3) := by decide +kernel
theorem dX12_init_149 : decode cX12_init 149 = .ok (.aload_n 0, 1) := by decide +kernel
theorem dX12_init_150 : decode cX12_init 150 = .ok (.sipush 5000, 3) := by decide +kernel
theorem dX12_init_153 : decode cX12_init 153 = .ok (.newarray .int, 2) := by decide +kernel
theorem dX12_init_155 : decode cX12_init 155 = .ok (.putfield 68, 3) := by decide +kernel
theorem dX12_init_158 : decode cX12_init 158 = .ok (.aload_n 0, 1) := by decide +kernel
theorem dX12_init_159 : decode cX12_init 159 = .ok (.bipush 64, 2) := by decide +kernel
theorem dX12_init_161 : decode cX12_init 161 = .ok (.newarray .long, 2) := by decide +kernel
theorem dX12_init_163 : decode cX12_init 163 = .ok (.putfield 71, 3) := by decide +kernel
theorem dX12_init_166 : decode cX12_init 166 = .ok (.aload_n 0, 1) := by decide +kernel
theorem dX12_init_167 : decode cX12_init 167 = .ok (.bipush 6, 2) := by decide +kernel
theorem dX12_init_169 : decode cX12_init 169 = .ok (.newarray .long, 2) := by decide +kernel
theorem dX12_init_171 : decode cX12_init 171 = .ok (.putfield 75, 3) := by decide +kernel
theorem dX12_init_174 : decode cX12_init 174 = .ok (.aload_n 0, 1) := by decide +kernel
theorem dX12_init_175 : decode cX12_init 175 = .ok (.sipush 400, 3) := by decide +kernel
theorem dX12_init_178 : decode cX12_init 178 = .ok (.newarray .byte, 2) := by decide +kernel
theorem dX12_init_180 : decode cX12_init 180 = .ok (.putfield 78, 3) := by decide +kernel
theorem dX12_init_183 : decode cX12_init 183 = .ok (.aload_n 0, 1) := by decide +kernel
theorem dX12_init_184 : decode cX12_init 184 = .ok (.sipush 400, 3) := by decide +kernel
theorem dX12_init_187 : decode cX12_init 187 = .ok (.newarray .byte, 2) := by decide +kernel
theorem dX12_init_189 : decode cX12_init 189 = .ok (.putfield 82, 3) := by decide +kernel
theorem dX12_init_192 : decode cX12_init 192 = .ok (.aload_n 0, 1) := by decide +kernel
theorem dX12_init_193 : decode cX12_init 193 = .ok (.sipush 9216, 3) := by decide +kernel
theorem dX12_init_196 : decode cX12_init 196 = .ok (.newarray .boolean, 2) := by decide +kernel
theorem dX12_init_198 : decode cX12_init 198 = .ok (.putfield 85, 3) := by decide +kernel
theorem dX12_init_201 : decode cX12_init 201 = .ok (.aload_n 0, 1) := by decide +kernel
theorem dX12_init_202 : decode cX12_init 202 = .ok (.sipush 9216, 3) := by decide +kernel
theorem dX12_init_205 : decode cX12_init 205 = .ok (.newarray .int, 2) := by decide +kernel
theorem dX12_init_207 : decode cX12_init 207 = .ok (.putfield 89, 3) := by decide +kernel
theorem dX12_init_210 : decode cX12_init 210 = .ok (.aload_n 0, 1) := by decide +kernel
theorem dX12_init_211 : decode cX12_init 211 = .ok (.iconst (-1), 1) := by decide +kernel
theorem dX12_init_212 : decode cX12_init 212 = .ok (.putfield 92, 3) := by decide +kernel
theorem dX12_init_215 : decode cX12_init 215 = .ok (.aload_n 0, 1) := by decide +kernel
theorem dX12_init_216 : decode cX12_init 216 = .ok (.bipush 10, 2) := by decide +kernel
theorem dX12_init_218 : decode cX12_init 218 = .ok (.newarray .int, 2) := by decide +kernel
theorem dX12_init_220 : decode cX12_init 220 = .ok (.putfield 95, 3) := by decide +kernel
theorem dX12_init_223 : decode cX12_init 223 = .ok (.aload_n 0, 1) := by decide +kernel
theorem dX12_init_224 : decode cX12_init 224 = .ok (.bipush 8, 2) := by decide +kernel
theorem dX12_init_226 : decode cX12_init 226 = .ok (.newarray .int, 2) := by decide +kernel
theorem dX12_init_228 : decode cX12_init 228 = .ok (.putfield 98, 3) := by decide +kernel
theorem dX12_init_231 : decode cX12_init 231 = .ok (.aload_n 0, 1) := by decide +kernel
theorem dX12_init_232 : decode cX12_init 232 = .ok (.bipush 10, 2) := by decide +kernel
theorem dX12_init_234 : decode cX12_init 234 = .ok (.newarray .int, 2) := by decide +kernel
theorem dX12_init_236 : decode cX12_init 236 = .ok (.putfield 101, 3) := by decide +kernel
theorem dX12_init_239 : decode cX12_init 239 = .ok (.aload_n 0, 1) := by decide +kernel
theorem dX12_init_240 : decode cX12_init 240 = .ok (.sipush 610, 3) := by decide +kernel
theorem dX12_init_243 : decode cX12_init 243 = .ok (.newarray .int, 2) := by decide +kernel
theorem dX12_init_245 : decode cX12_init 245 = .ok (.putfield 104, 3) := by decide +kernel
theorem dX12_init_248 : decode cX12_init 248 = .ok (.aload_n 0, 1) := by decide +kernel
theorem dX12_init_249 : decode cX12_init 249 = .ok (.bipush 10, 2) := by decide +kernel
theorem dX12_init_251 : decode cX12_init 251 = .ok (.newarray .int, 2) := by decide +kernel
theorem dX12_init_253 : decode cX12_init 253 = .ok (.putfield 107, 3) := by decide +kernel
theorem dX12_init_256 : decode cX12_init 256 = .ok (.aload_n 0, 1) := by decide +kernel
theorem dX12_init_257 : decode cX12_init 257 = .ok (.bipush 10, 2) := by decide +kernel
theorem dX12_init_259 : decode cX12_init 259 = .ok (.newarray .int, 2) := by decide +kernel
theorem dX12_init_261 : decode cX12_init 261 = .ok (.putfield 110, 3) := by decide +kernel
theorem dX12_init_264 : decode cX12_init 264 = .ok (.aload_n 0, 1) := by decide +kernel
theorem dX12_init_265 : decode cX12_init 265 = .ok (.bipush 10, 2) := by decide +kernel
theorem dX12_init_267 : decode cX12_init 267 = .ok (.newarray .int, 2) := by decide +kernel
theorem dX12_init_269 : decode cX12_init 269 = .ok (.putfield 113, 3) := by decide +kernel
theorem dX12_init_272 : decode cX12_init 272 = .ok (.aload_n 0, 1) := by decide +kernel
theorem dX12_init_273 : decode cX12_init 273 = .ok (.bipush 10, 2) := by decide +kernel
theorem dX12_init_275 : decode cX12_init 275 = .ok (.newarray .int, 2) := by decide +kernel
theorem dX12_init_277 : decode cX12_init 277 = .ok (.putfield 116, 3) := by decide +kernel
theorem dX12_init_280 : decode cX12_init 280 = .ok (.aload_n 0, 1) := by decide +kernel
theorem dX12_init_281 : decode cX12_init 281 = .ok (.bipush 8, 2) := by decide +kernel
theorem dX12_init_283 : decode cX12_init 283 = .ok (.newarray .int, 2) := by decide +kernel
theorem dX12_init_285 : decode cX12_init 285 = .ok (.putfield 119, 3) := by decide +kernel
theorem dX12_init_288 : decode cX12_init 288 = .ok (.aload_n 0, 1) := by decide +kernel
theorem dX12_init_289 : decode cX12_init 289 = .ok (.bipush 80, 2) := by decide +kernel
theorem dX12_init_291 : decode cX12_init 291 = .ok (.newarray .boolean, 2) := by decide +kernel
theorem dX12_init_293 : decode cX12_init 293 = .ok (.putfield 122, 3) := by decide +kernel
theorem dX12_init_296 : decode cX12_init 296 = .ok (.aload_n 0, 1) := by decide +kernel
theorem dX12_init_297 : decode cX12_init 297 = .ok (.bipush 64, 2) := by decide +kernel
theorem dX12_init_299 : decode cX12_init 299 = .ok (.newarray .int, 2) := by decide +kernel
theorem dX12_init_301 : decode cX12_init 301 = .ok (.putfield 125, 3) := by decide +kernel
theorem dX12_init_304 : decode cX12_init 304 = .ok (.aload_n 0, 1) := by decide +kernel
theorem dX12_init_305 : decode cX12_init 305 = .ok (.bipush 8, 2) := by decide +kernel
theorem dX12_init_307 : decode cX12_init 307 = .ok (.newarray .int, 2) := by decide +kernel
theorem dX12_init_309 : decode cX12_init 309 = .ok (.putfield 128, 3) := by decide +kernel
theorem dX12_init_312 : decode cX12_init 312 = .ok (.return_, 1) := by decide +kernel
theorem dX12_isIn_0 : decode cX12_isIn 0 = .ok (.iload_n 0, 1) := by decide +kernel
theorem dX12_isIn_1 : decode cX12_isIn 1 = .ok (.iload_n 1, 1) := by decide +kernel
theorem dX12_isIn_2 : decode cX12_isIn 2 = .ok (.if_icmp .lt 12, 3) := by decide +kernel
theorem dX12_isIn_5 : decode cX12_isIn 5 = .ok (.iload_n 0, 1) := by decide +kernel
theorem dX12_isIn_6 : decode cX12_isIn 6 = .ok (.iload_n 2, 1) := by decide +kernel
theorem dX12_isIn_7 : decode cX12_isIn 7 = .ok (.if_icmp .gt 7, 3) := by decide +kernel
theorem dX12_isIn_10 : decode cX12_isIn 10 = .ok (.iconst 1, 1) := by decide +kernel
theorem dX12_isIn_11 : decode cX12_isIn 11 = .ok (.goto 4, 3) := by decide +kernel
theorem dX12_isIn_14 : decode cX12_isIn 14 = .ok (.iconst 0, 1) := by decide +kernel
theorem dX12_isIn_15 : decode cX12_isIn 15 = .ok (.ireturn, 1) := by decide +kernel
theorem dX12_one_0 : decode cX12_one 0 = .ok (.iload_n 0, 1) := by decide +kernel
theorem dX12_one_1 : decode cX12_one 1 = .ok (.ifCond .eq 7, 3) := by decide +kernel
theorem dX12_one_4 : decode cX12_one 4 = .ok (.iconst 1, 1) := by decide +kernel
theorem dX12_one_5 : decode cX12_one 5 = .ok (.goto 4, 3) := by decide +kernel
theorem dX12_one_8 : decode cX12_one 8 = .ok (.iconst 0, 1) := by decide +kernel
theorem dX12_one_9 : decode cX12_one 9 = .ok (.ireturn, 1) := by decide +kernel
theorem dX12_holds_0 : decode cX12_holds 0 = .ok (.iload_n 0, 1) := by decide +kernel
theorem dX12_holds_1 : decode cX12_holds 1 = .ok (.iload_n 1, 1) := by decide +kernel
theorem dX12_holds_2 : decode cX12_holds 2 = .ok (.ishr, 1) := by decide +kernel
theorem dX12_holds_3 : decode cX12_holds 3 = .ok (.iconst 1, 1) := by decide +kernel
theorem dX12_holds_4 : decode cX12_holds 4 = .ok (.iand, 1) := by decide +kernel
theorem dX12_holds_5 : decode cX12_holds 5 = .ok (.iconst 1, 1) := by decide +kernel
theorem dX12_holds_6 : decode cX12_holds 6 = .ok (.if_icmp .ne 7, 3) := by decide +kernel
theorem dX12_holds_9 : decode cX12_holds 9 = .ok (.iconst 1, 1) := by decide +kernel
theorem dX12_holds_10 : decode cX12_holds 10 = .ok (.goto 4, 3) := by decide +kernel
theorem dX12_holds_13 : decode cX12_holds 13 = .ok (.iconst 0, 1) := by decide +kernel
theorem dX12_holds_14 : decode cX12_holds 14 = .ok (.ireturn, 1) := by decide +kernel
theorem dX12_bits_0 : decode cX12_bits 0 = .ok (.iconst 0, 1) := by decide +kernel
theorem dX12_bits_1 : decode cX12_bits 1 = .ok (.istore_n 1, 1) := by decide +kernel
theorem dX12_bits_2 : decode cX12_bits 2 = .ok (.iload_n 0, 1) := by decide +kernel
theorem dX12_bits_3 : decode cX12_bits 3 = .ok (.istore_n 2, 1) := by decide +kernel
theorem dX12_bits_4 : decode cX12_bits 4 = .ok (.iload_n 2, 1) := by decide +kernel
theorem dX12_bits_5 : decode cX12_bits 5 = .ok (.ifCond .le 16, 3) := by decide +kernel
theorem dX12_bits_8 : decode cX12_bits 8 = .ok (.iload_n 1, 1) := by decide +kernel
theorem dX12_bits_9 : decode cX12_bits 9 = .ok (.iload_n 2, 1) := by decide +kernel
theorem dX12_bits_10 : decode cX12_bits 10 = .ok (.iconst 1, 1) := by decide +kernel
theorem dX12_bits_11 : decode cX12_bits 11 = .ok (.iand, 1) := by decide +kernel
theorem dX12_bits_12 : decode cX12_bits 12 = .ok (.iadd, 1) := by decide +kernel
theorem dX12_bits_13 : decode cX12_bits 13 = .ok (.istore_n 1, 1) := by decide +kernel
theorem dX12_bits_14 : decode cX12_bits 14 = .ok (.iload_n 2, 1) := by decide +kernel
theorem dX12_bits_15 : decode cX12_bits 15 = .ok (.iconst 1, 1) := by decide +kernel
theorem dX12_bits_16 : decode cX12_bits 16 = .ok (.ishr, 1) := by decide +kernel
theorem dX12_bits_17 : decode cX12_bits 17 = .ok (.istore_n 2, 1) := by decide +kernel
theorem dX12_bits_18 : decode cX12_bits 18 = .ok (.goto (-14), 3) := by decide +kernel
theorem dX12_bits_21 : decode cX12_bits 21 = .ok (.iload_n 1, 1) := by decide +kernel
theorem dX12_bits_22 : decode cX12_bits 22 = .ok (.ireturn, 1) := by decide +kernel
theorem dX12_isLesson_0 : decode cX12_isLesson 0 = .ok (.iload_n 1, 1) := by decide +kernel
theorem dX12_isLesson_1 : decode cX12_isLesson 1 = .ok (.iconst 0, 1) := by decide +kernel
theorem dX12_isLesson_2 : decode cX12_isLesson 2 = .ok (.aload_n 0, 1) := by decide +kernel
theorem dX12_isLesson_3 : decode cX12_isLesson 3 = .ok (.getfield 131, 3) := by decide +kernel
theorem dX12_isLesson_6 : decode cX12_isLesson 6 = .ok (.iconst 1, 1) := by decide +kernel
theorem dX12_isLesson_7 : decode cX12_isLesson 7 = .ok (.isub, 1) := by decide +kernel
theorem dX12_isLesson_8 : decode cX12_isLesson 8 = .ok (.invokestatic 134, 3) := by decide +kernel
theorem dX12_isLesson_11 : decode cX12_isLesson 11 = .ok (.ireturn, 1) := by decide +kernel
theorem dX12_isPerson_0 : decode cX12_isPerson 0 = .ok (.iload_n 1, 1) := by decide +kernel
theorem dX12_isPerson_1 : decode cX12_isPerson 1 = .ok (.iconst 0, 1) := by decide +kernel
theorem dX12_isPerson_2 : decode cX12_isPerson 2 = .ok (.aload_n 0, 1) := by decide +kernel
theorem dX12_isPerson_3 : decode cX12_isPerson 3 = .ok (.getfield 138, 3) := by decide +kernel
theorem dX12_isPerson_6 : decode cX12_isPerson 6 = .ok (.iconst 1, 1) := by decide +kernel
theorem dX12_isPerson_7 : decode cX12_isPerson 7 = .ok (.isub, 1) := by decide +kernel
theorem dX12_isPerson_8 : decode cX12_isPerson 8 = .ok (.invokestatic 134, 3) := by decide +kernel
theorem dX12_isPerson_11 : decode cX12_isPerson 11 = .ok (.ireturn, 1) := by decide +kernel
theorem dX12_isBundle_0 : decode cX12_isBundle 0 = .ok (.iload_n 0, 1) := by decide +kernel
theorem dX12_isBundle_1 : decode cX12_isBundle 1 = .ok (.iconst 0, 1) := by decide +kernel
theorem dX12_isBundle_2 : decode cX12_isBundle 2 = .ok (.sipush 1023, 3) := by decide +kernel
theorem dX12_isBundle_5 : decode cX12_isBundle 5 = .ok (.invokestatic 134, 3) := by decide +kernel
theorem dX12_isBundle_8 : decode cX12_isBundle 8 = .ok (.ireturn, 1) := by decide +kernel
theorem dX12_lesson_0 : decode cX12_lesson 0 = .ok (.iload_n 1, 1) := by decide +kernel
theorem dX12_lesson_1 : decode cX12_lesson 1 = .ok (.iconst 0, 1) := by decide +kernel
theorem dX12_lesson_2 : decode cX12_lesson 2 = .ok (.bipush 9, 2) := by decide +kernel
theorem dX12_lesson_4 : decode cX12_lesson 4 = .ok (.invokestatic 134, 3) := by decide +kernel
theorem dX12_lesson_7 : decode cX12_lesson 7 = .ok (.ifCond .eq 34, 3) := by decide +kernel
theorem dX12_lesson_10 : decode cX12_lesson 10 = .ok (.iload_n 2, 1) := by decide +kernel
theorem dX12_lesson_11 : decode cX12_lesson 11 = .ok (.iconst 0, 1) := by decide +kernel
theorem dX12_lesson_12 : decode cX12_lesson 12 = .ok (.bipush 39, 2) := by decide +kernel
theorem dX12_lesson_14 : decode cX12_lesson 14 = .ok (.invokestatic 134, 3) := by decide +kernel
theorem dX12_lesson_17 : decode cX12_lesson 17 = .ok (.ifCond .eq 24, 3) := by decide +kernel
theorem dX12_lesson_20 : decode cX12_lesson 20 = .ok (.iload_n 3, 1) := by decide +kernel
theorem dX12_lesson_21 : decode cX12_lesson 21 = .ok (.iload_n 2, 1) := by decide +kernel
theorem dX12_lesson_22 : decode cX12_lesson 22 = .ok (.iconst 1, 1) := by decide +kernel
theorem dX12_lesson_23 : decode cX12_lesson 23 = .ok (.iadd, 1) := by decide +kernel
theorem dX12_lesson_24 : decode cX12_lesson 24 = .ok (.bipush 40, 2) := by decide +kernel
theorem dX12_lesson_26 : decode cX12_lesson 26 = .ok (.invokestatic 134, 3) := by decide +kernel
theorem dX12_lesson_29 : decode cX12_lesson 29 = .ok (.ifCond .eq 12, 3) := by decide +kernel
theorem dX12_lesson_32 : decode cX12_lesson 32 = .ok (.aload_n 0, 1) := by decide +kernel
theorem dX12_lesson_33 : decode cX12_lesson 33 = .ok (.getfield 131, 3) := by decide +kernel
theorem dX12_lesson_36 : decode cX12_lesson 36 = .ok (.bipush 10, 2) := by decide +kernel
theorem dX12_lesson_38 : decode cX12_lesson 38 = .ok (.if_icmp .ne 5, 3) := by decide +kernel
theorem dX12_lesson_41 : decode cX12_lesson 41 = .ok (.iconst (-1), 1) := by decide +kernel
theorem dX12_lesson_42 : decode cX12_lesson 42 = .ok (.ireturn, 1) := by decide +kernel
theorem dX12_lesson_43 : decode cX12_lesson 43 = .ok (.aload_n 0, 1) := by decide +kernel
theorem dX12_lesson_44 : decode cX12_lesson 44 = .ok (.getfield 16, 3) := by decide +kernel
theorem dX12_lesson_47 : decode cX12_lesson 47 = .ok (.aload_n 0, 1) := by decide +kernel
theorem dX12_lesson_48 : decode cX12_lesson 48 = .ok (.getfield 131, 3) := by decide +kernel
theorem dX12_lesson_51 : decode cX12_lesson 51 = .ok (.iload_n 1, 1) := by decide +kernel
theorem dX12_lesson_52 : decode cX12_lesson 52 = .ok (.iastore, 1) := by decide +kernel
theorem dX12_lesson_53 : decode cX12_lesson 53 = .ok (.aload_n 0, 1) := by decide +kernel
theorem dX12_lesson_54 : decode cX12_lesson 54 = .ok (.getfield 20, 3) := by decide +kernel
theorem dX12_lesson_57 : decode cX12_lesson 57 = .ok (.aload_n 0, 1) := by decide +kernel
theorem dX12_lesson_58 : decode cX12_lesson 58 = .ok (.getfield 131, 3) := by decide +kernel
theorem dX12_lesson_61 : decode cX12_lesson 61 = .ok (.iload_n 2, 1) := by decide +kernel
theorem dX12_lesson_62 : decode cX12_lesson 62 = .ok (.iastore, 1) := by decide +kernel
theorem dX12_lesson_63 : decode cX12_lesson 63 = .ok (.aload_n 0, 1) := by decide +kernel
theorem dX12_lesson_64 : decode cX12_lesson 64 = .ok (.getfield 23, 3) := by decide +kernel
theorem dX12_lesson_67 : decode cX12_lesson 67 = .ok (.aload_n 0, 1) := by decide +kernel
theorem dX12_lesson_68 : decode cX12_lesson 68 = .ok (.getfield 131, 3) := by decide +kernel
theorem dX12_lesson_71 : decode cX12_lesson 71 = .ok (.iload_n 3, 1) := by decide +kernel
theorem dX12_lesson_72 : decode cX12_lesson 72 = .ok (.iastore, 1) := by decide +kernel
theorem dX12_lesson_73 : decode cX12_lesson 73 = .ok (.aload_n 0, 1) := by decide +kernel
theorem dX12_lesson_74 : decode cX12_lesson 74 = .ok (.dup, 1) := by decide +kernel
theorem dX12_lesson_75 : decode cX12_lesson 75 = .ok (.getfield 131, 3) := by decide +kernel
theorem dX12_lesson_78 : decode cX12_lesson 78 = .ok (.iconst 1, 1) := by decide +kernel
theorem dX12_lesson_79 : decode cX12_lesson 79 = .ok (.iadd, 1) := by decide +kernel
theorem dX12_lesson_80 : decode cX12_lesson 80 = .ok (.putfield 131, 3) := by decide +kernel
theorem dX12_lesson_83 : decode cX12_lesson 83 = .ok (.aload_n 0, 1) := by decide +kernel
theorem dX12_lesson_84 : decode cX12_lesson 84 = .ok (.dup, 1) := by decide +kernel
theorem dX12_lesson_85 : decode cX12_lesson 85 = .ok (.getfield 47, 3) := by decide +kernel
theorem dX12_lesson_88 : decode cX12_lesson 88 = .ok (.iconst 1, 1) := by decide +kernel
theorem dX12_lesson_89 : decode cX12_lesson 89 = .ok (.iadd, 1) := by decide +kernel
theorem dX12_lesson_90 : decode cX12_lesson 90 = .ok (.putfield 47, 3) := by decide +kernel
theorem dX12_lesson_93 : decode cX12_lesson 93 = .ok (.aload_n 0, 1) := by decide +kernel
theorem dX12_lesson_94 : decode cX12_lesson 94 = .ok (.getfield 131, 3) := by decide +kernel
theorem dX12_lesson_97 : decode cX12_lesson 97 = .ok (.iconst 1, 1) := by decide +kernel
theorem dX12_lesson_98 : decode cX12_lesson 98 = .ok (.isub, 1) := by decide +kernel
theorem dX12_lesson_99 : decode cX12_lesson 99 = .ok (.ireturn, 1) := by decide +kernel
theorem dX12_places_0 : decode cX12_places 0 = .ok (.aload_n 0, 1) := by decide +kernel
theorem dX12_places_1 : decode cX12_places 1 = .ok (.iload_n 1, 1) := by decide +kernel
theorem dX12_places_2 : decode cX12_places 2 = .ok (.invokevirtual 141, 3) := by decide +kernel
theorem dX12_places_5 : decode cX12_places 5 = .ok (.ifCond .eq 13, 3) := by decide +kernel
theorem dX12_places_8 : decode cX12_places 8 = .ok (.iload_n 2, 1) := by decide +kernel
theorem dX12_places_9 : decode cX12_places 9 = .ok (.iconst 0, 1) := by decide +kernel
theorem dX12_places_10 : decode cX12_places 10 = .ok (.bipush 9, 2) := by decide +kernel
theorem dX12_places_12 : decode cX12_places 12 = .ok (.invokestatic 134, 3) := by decide +kernel
theorem dX12_places_15 : decode cX12_places 15 = .ok (.ifCond .ne 5, 3) := by decide +kernel
theorem dX12_places_18 : decode cX12_places 18 = .ok (.iconst 0, 1) := by decide +kernel
theorem dX12_places_19 : decode cX12_places 19 = .ok (.ireturn, 1) := by decide +kernel
theorem dX12_places_20 : decode cX12_places 20 = .ok (.aload_n 0, 1) := by decide +kernel
theorem dX12_places_21 : decode cX12_places 21 = .ok (.getfield 16, 3) := by decide +kernel
theorem dX12_places_24 : decode cX12_places 24 = .ok (.iload_n 1, 1) := by decide +kernel
theorem dX12_places_25 : decode cX12_places 25 = .ok (.iload_n 2, 1) := by decide +kernel
theorem dX12_places_26 : decode cX12_places 26 = .ok (.iastore, 1) := by decide +kernel
theorem dX12_places_27 : decode cX12_places 27 = .ok (.iconst 1, 1) := by decide +kernel
theorem dX12_places_28 : decode cX12_places 28 = .ok (.ireturn, 1) := by decide +kernel
theorem dX12_after_0 : decode cX12_after 0 = .ok (.aload_n 0, 1) := by decide +kernel
theorem dX12_after_1 : decode cX12_after 1 = .ok (.iload_n 1, 1) := by decide +kernel
theorem dX12_after_2 : decode cX12_after 2 = .ok (.invokevirtual 141, 3) := by decide +kernel
theorem dX12_after_5 : decode cX12_after 5 = .ok (.ifCond .eq 25, 3) := by decide +kernel
theorem dX12_after_8 : decode cX12_after 8 = .ok (.aload_n 0, 1) := by decide +kernel
theorem dX12_after_9 : decode cX12_after 9 = .ok (.iload_n 2, 1) := by decide +kernel
theorem dX12_after_10 : decode cX12_after 10 = .ok (.invokevirtual 141, 3) := by decide +kernel
theorem dX12_after_13 : decode cX12_after 13 = .ok (.ifCond .eq 17, 3) := by decide +kernel
theorem dX12_after_16 : decode cX12_after 16 = .ok (.iload_n 1, 1) := by decide +kernel
theorem dX12_after_17 : decode cX12_after 17 = .ok (.iload_n 2, 1) := by decide +kernel
theorem dX12_after_18 : decode cX12_after 18 = .ok (.if_icmp .eq 12, 3) := by decide +kernel
theorem dX12_after_21 : decode cX12_after 21 = .ok (.aload_n 0, 1) := by decide +kernel
theorem dX12_after_22 : decode cX12_after 22 = .ok (.getfield 145, 3) := by decide +kernel
theorem dX12_after_25 : decode cX12_after 25 = .ok (.bipush 20, 2) := by decide +kernel
theorem dX12_after_27 : decode cX12_after 27 = .ok (.if_icmp .ne 5, 3) := by decide +kernel
theorem dX12_after_30 : decode cX12_after 30 = .ok (.iconst (-1), 1) := by decide +kernel
theorem dX12_after_31 : decode cX12_after 31 = .ok (.ireturn, 1) := by decide +kernel
theorem dX12_after_32 : decode cX12_after 32 = .ok (.iconst 0, 1) := by decide +kernel
theorem dX12_after_33 : decode cX12_after 33 = .ok (.istore_n 3, 1) := by decide +kernel
theorem dX12_after_34 : decode cX12_after 34 = .ok (.iload_n 3, 1) := by decide +kernel
theorem dX12_after_35 : decode cX12_after 35 = .ok (.aload_n 0, 1) := by decide +kernel
theorem dX12_after_36 : decode cX12_after 36 = .ok (.getfield 145, 3) := by decide +kernel
theorem dX12_after_39 : decode cX12_after 39 = .ok (.if_icmp .ge 31, 3) := by decide +kernel
theorem dX12_after_42 : decode cX12_after 42 = .ok (.aload_n 0, 1) := by decide +kernel
theorem dX12_after_43 : decode cX12_after 43 = .ok (.getfield 29, 3) := by decide +kernel
theorem dX12_after_46 : decode cX12_after 46 = .ok (.iload_n 3, 1) := by decide +kernel
theorem dX12_after_47 : decode cX12_after 47 = .ok (.iaload, 1) := by decide +kernel
theorem dX12_after_48 : decode cX12_after 48 = .ok (.iload_n 1, 1) := by decide +kernel
theorem dX12_after_49 : decode cX12_after 49 = .ok (.if_icmp .ne 15, 3) := by decide +kernel
theorem dX12_after_52 : decode cX12_after 52 = .ok (.aload_n 0, 1) := by decide +kernel
theorem dX12_after_53 : decode cX12_after 53 = .ok (.getfield 32, 3) := by decide +kernel
theorem dX12_after_56 : decode cX12_after 56 = .ok (.iload_n 3, 1) := by decide +kernel
theorem dX12_after_57 : decode cX12_after 57 = .ok (.iaload, 1) := by decide +kernel
theorem dX12_after_58 : decode cX12_after 58 = .ok (.iload_n 2, 1) := by decide +kernel
theorem dX12_after_59 : decode cX12_after 59 = .ok (.if_icmp .ne 5, 3) := by decide +kernel
theorem dX12_after_62 : decode cX12_after 62 = .ok (.iconst (-1), 1) := by decide +kernel
theorem dX12_after_63 : decode cX12_after 63 = .ok (.ireturn, 1) := by decide +kernel
theorem dX12_after_64 : decode cX12_after 64 = .ok (.iinc 3 1, 3) := by decide +kernel
theorem dX12_after_67 : decode cX12_after 67 = .ok (.goto (-33), 3) := by decide +kernel
theorem dX12_after_70 : decode cX12_after 70 = .ok (.aload_n 0, 1) := by decide +kernel
theorem dX12_after_71 : decode cX12_after 71 = .ok (.getfield 29, 3) := by decide +kernel
theorem dX12_after_74 : decode cX12_after 74 = .ok (.aload_n 0, 1) := by decide +kernel
theorem dX12_after_75 : decode cX12_after 75 = .ok (.getfield 145, 3) := by decide +kernel
theorem dX12_after_78 : decode cX12_after 78 = .ok (.iload_n 1, 1) := by decide +kernel
theorem dX12_after_79 : decode cX12_after 79 = .ok (.iastore, 1) := by decide +kernel
theorem dX12_after_80 : decode cX12_after 80 = .ok (.aload_n 0, 1) := by decide +kernel
theorem dX12_after_81 : decode cX12_after 81 = .ok (.getfield 32, 3) := by decide +kernel
theorem dX12_after_84 : decode cX12_after 84 = .ok (.aload_n 0, 1) := by decide +kernel
theorem dX12_after_85 : decode cX12_after 85 = .ok (.getfield 145, 3) := by decide +kernel
theorem dX12_after_88 : decode cX12_after 88 = .ok (.iload_n 2, 1) := by decide +kernel
theorem dX12_after_89 : decode cX12_after 89 = .ok (.iastore, 1) := by decide +kernel
theorem dX12_after_90 : decode cX12_after 90 = .ok (.aload_n 0, 1) := by decide +kernel
theorem dX12_after_91 : decode cX12_after 91 = .ok (.dup, 1) := by decide +kernel
theorem dX12_after_92 : decode cX12_after 92 = .ok (.getfield 145, 3) := by decide +kernel
theorem dX12_after_95 : decode cX12_after 95 = .ok (.iconst 1, 1) := by decide +kernel
theorem dX12_after_96 : decode cX12_after 96 = .ok (.iadd, 1) := by decide +kernel
theorem dX12_after_97 : decode cX12_after 97 = .ok (.putfield 145, 3) := by decide +kernel
theorem dX12_after_100 : decode cX12_after 100 = .ok (.aload_n 0, 1) := by decide +kernel
theorem dX12_after_101 : decode cX12_after 101 = .ok (.dup, 1) := by decide +kernel
theorem dX12_after_102 : decode cX12_after 102 = .ok (.getfield 47, 3) := by decide +kernel
theorem dX12_after_105 : decode cX12_after 105 = .ok (.iconst 1, 1) := by decide +kernel
theorem dX12_after_106 : decode cX12_after 106 = .ok (.iadd, 1) := by decide +kernel
theorem dX12_after_107 : decode cX12_after 107 = .ok (.putfield 47, 3) := by decide +kernel
theorem dX12_after_110 : decode cX12_after 110 = .ok (.aload_n 0, 1) := by decide +kernel
theorem dX12_after_111 : decode cX12_after 111 = .ok (.getfield 145, 3) := by decide +kernel
theorem dX12_after_114 : decode cX12_after 114 = .ok (.ireturn, 1) := by decide +kernel
theorem dX12_most_0 : decode cX12_most 0 = .ok (.iload_n 1, 1) := by decide +kernel
theorem dX12_most_1 : decode cX12_most 1 = .ok (.iconst 1, 1) := by decide +kernel
theorem dX12_most_2 : decode cX12_most 2 = .ok (.bipush 6, 2) := by decide +kernel
theorem dX12_most_4 : decode cX12_most 4 = .ok (.invokestatic 134, 3) := by decide +kernel
theorem dX12_most_7 : decode cX12_most 7 = .ok (.ifCond .ne 5, 3) := by decide +kernel
theorem dX12_most_10 : decode cX12_most 10 = .ok (.iconst 0, 1) := by decide +kernel
theorem dX12_most_11 : decode cX12_most 11 = .ok (.ireturn, 1) := by decide +kernel
theorem dX12_most_12 : decode cX12_most 12 = .ok (.aload_n 0, 1) := by decide +kernel
theorem dX12_most_13 : decode cX12_most 13 = .ok (.iload_n 1, 1) := by decide +kernel
theorem dX12_most_14 : decode cX12_most 14 = .ok (.putfield 7, 3) := by decide +kernel
theorem dX12_most_17 : decode cX12_most 17 = .ok (.aload_n 0, 1) := by decide +kernel
theorem dX12_most_18 : decode cX12_most 18 = .ok (.dup, 1) := by decide +kernel
theorem dX12_most_19 : decode cX12_most 19 = .ok (.getfield 47, 3) := by decide +kernel
theorem dX12_most_22 : decode cX12_most 22 = .ok (.iconst 1, 1) := by decide +kernel
theorem dX12_most_23 : decode cX12_most 23 = .ok (.iadd, 1) := by decide +kernel
theorem dX12_most_24 : decode cX12_most 24 = .ok (.putfield 47, 3) := by decide +kernel
theorem dX12_most_27 : decode cX12_most 27 = .ok (.iconst 1, 1) := by decide +kernel
theorem dX12_most_28 : decode cX12_most 28 = .ok (.ireturn, 1) := by decide +kernel
theorem dX12_person_0 : decode cX12_person 0 = .ok (.iload_n 1, 1) := by decide +kernel
theorem dX12_person_1 : decode cX12_person 1 = .ok (.iconst 0, 1) := by decide +kernel
theorem dX12_person_2 : decode cX12_person 2 = .ok (.sipush 200, 3) := by decide +kernel
theorem dX12_person_5 : decode cX12_person 5 = .ok (.invokestatic 134, 3) := by decide +kernel
theorem dX12_person_8 : decode cX12_person 8 = .ok (.ifCond .eq 19, 3) := by decide +kernel
theorem dX12_person_11 : decode cX12_person 11 = .ok (.iload_n 2, 1) := by decide +kernel
theorem dX12_person_12 : decode cX12_person 12 = .ok (.invokestatic 148, 3) := by decide +kernel
theorem dX12_person_15 : decode cX12_person 15 = .ok (.ifCond .eq 12, 3) := by decide +kernel
theorem dX12_person_18 : decode cX12_person 18 = .ok (.aload_n 0, 1) := by decide +kernel
theorem dX12_person_19 : decode cX12_person 19 = .ok (.getfield 138, 3) := by decide +kernel
theorem dX12_person_22 : decode cX12_person 22 = .ok (.bipush 8, 2) := by decide +kernel
theorem dX12_person_24 : decode cX12_person 24 = .ok (.if_icmp .ne 5, 3) := by decide +kernel
theorem dX12_person_27 : decode cX12_person 27 = .ok (.iconst (-1), 1) := by decide +kernel
theorem dX12_person_28 : decode cX12_person 28 = .ok (.ireturn, 1) := by decide +kernel
theorem dX12_person_29 : decode cX12_person 29 = .ok (.aload_n 0, 1) := by decide +kernel
theorem dX12_person_30 : decode cX12_person 30 = .ok (.getfield 35, 3) := by decide +kernel
theorem dX12_person_33 : decode cX12_person 33 = .ok (.aload_n 0, 1) := by decide +kernel
theorem dX12_person_34 : decode cX12_person 34 = .ok (.getfield 138, 3) := by decide +kernel
theorem dX12_person_37 : decode cX12_person 37 = .ok (.iload_n 1, 1) := by decide +kernel
theorem dX12_person_38 : decode cX12_person 38 = .ok (.iastore, 1) := by decide +kernel
theorem dX12_person_39 : decode cX12_person 39 = .ok (.aload_n 0, 1) := by decide +kernel
theorem dX12_person_40 : decode cX12_person 40 = .ok (.getfield 38, 3) := by decide +kernel
theorem dX12_person_43 : decode cX12_person 43 = .ok (.aload_n 0, 1) := by decide +kernel
theorem dX12_person_44 : decode cX12_person 44 = .ok (.getfield 138, 3) := by decide +kernel
theorem dX12_person_47 : decode cX12_person 47 = .ok (.iload_n 2, 1) := by decide +kernel
theorem dX12_person_48 : decode cX12_person 48 = .ok (.iastore, 1) := by decide +kernel
theorem dX12_person_49 : decode cX12_person 49 = .ok (.aload_n 0, 1) := by decide +kernel
theorem dX12_person_50 : decode cX12_person 50 = .ok (.getfield 50, 3) := by decide +kernel
theorem dX12_person_53 : decode cX12_person 53 = .ok (.aload_n 0, 1) := by decide +kernel
theorem dX12_person_54 : decode cX12_person 54 = .ok (.getfield 138, 3) := by decide +kernel
theorem dX12_person_57 : decode cX12_person 57 = .ok (.iconst 0, 1) := by decide +kernel
theorem dX12_person_58 : decode cX12_person 58 = .ok (.iastore, 1) := by decide +kernel
theorem dX12_person_59 : decode cX12_person 59 = .ok (.aload_n 0, 1) := by decide +kernel
theorem dX12_person_60 : decode cX12_person 60 = .ok (.dup, 1) := by decide +kernel
theorem dX12_person_61 : decode cX12_person 61 = .ok (.getfield 138, 3) := by decide +kernel
theorem dX12_person_64 : decode cX12_person 64 = .ok (.iconst 1, 1) := by decide +kernel
theorem dX12_person_65 : decode cX12_person 65 = .ok (.iadd, 1) := by decide +kernel
theorem dX12_person_66 : decode cX12_person 66 = .ok (.putfield 138, 3) := by decide +kernel
theorem dX12_person_69 : decode cX12_person 69 = .ok (.aload_n 0, 1) := by decide +kernel
theorem dX12_person_70 : decode cX12_person 70 = .ok (.dup, 1) := by decide +kernel
theorem dX12_person_71 : decode cX12_person 71 = .ok (.getfield 47, 3) := by decide +kernel
theorem dX12_person_74 : decode cX12_person 74 = .ok (.iconst 1, 1) := by decide +kernel
theorem dX12_person_75 : decode cX12_person 75 = .ok (.iadd, 1) := by decide +kernel
theorem dX12_person_76 : decode cX12_person 76 = .ok (.putfield 47, 3) := by decide +kernel
theorem dX12_person_79 : decode cX12_person 79 = .ok (.aload_n 0, 1) := by decide +kernel
theorem dX12_person_80 : decode cX12_person 80 = .ok (.getfield 138, 3) := by decide +kernel
theorem dX12_person_83 : decode cX12_person 83 = .ok (.iconst 1, 1) := by decide +kernel
theorem dX12_person_84 : decode cX12_person 84 = .ok (.isub, 1) := by decide +kernel
theorem dX12_person_85 : decode cX12_person 85 = .ok (.ireturn, 1) := by decide +kernel
theorem dX12_purse_0 : decode cX12_purse 0 = .ok (.aload_n 0, 1) := by decide +kernel
theorem dX12_purse_1 : decode cX12_purse 1 = .ok (.iload_n 1, 1) := by decide +kernel
theorem dX12_purse_2 : decode cX12_purse 2 = .ok (.invokevirtual 151, 3) := by decide +kernel
theorem dX12_purse_5 : decode cX12_purse 5 = .ok (.ifCond .eq 14, 3) := by decide +kernel
theorem dX12_purse_8 : decode cX12_purse 8 = .ok (.iload_n 2, 1) := by decide +kernel
theorem dX12_purse_9 : decode cX12_purse 9 = .ok (.iconst 0, 1) := by decide +kernel
theorem dX12_purse_10 : decode cX12_purse 10 = .ok (.sipush 200, 3) := by decide +kernel
theorem dX12_purse_13 : decode cX12_purse 13 = .ok (.invokestatic 134, 3) := by decide +kernel
theorem dX12_purse_16 : decode cX12_purse 16 = .ok (.ifCond .ne 5, 3) := by decide +kernel
theorem dX12_purse_19 : decode cX12_purse 19 = .ok (.iconst 0, 1) := by decide +kernel
theorem dX12_purse_20 : decode cX12_purse 20 = .ok (.ireturn, 1) := by decide +kernel
theorem dX12_purse_21 : decode cX12_purse 21 = .ok (.aload_n 0, 1) := by decide +kernel
theorem dX12_purse_22 : decode cX12_purse 22 = .ok (.getfield 35, 3) := by decide +kernel
theorem dX12_purse_25 : decode cX12_purse 25 = .ok (.iload_n 1, 1) := by decide +kernel
theorem dX12_purse_26 : decode cX12_purse 26 = .ok (.iload_n 2, 1) := by decide +kernel
theorem dX12_purse_27 : decode cX12_purse 27 = .ok (.iastore, 1) := by decide +kernel
theorem dX12_purse_28 : decode cX12_purse 28 = .ok (.aload_n 0, 1) := by decide +kernel
theorem dX12_purse_29 : decode cX12_purse 29 = .ok (.dup, 1) := by decide +kernel
theorem dX12_purse_30 : decode cX12_purse 30 = .ok (.getfield 47, 3) := by decide +kernel
theorem dX12_purse_33 : decode cX12_purse 33 = .ok (.iconst 1, 1) := by decide +kernel
theorem dX12_purse_34 : decode cX12_purse 34 = .ok (.iadd, 1) := by decide +kernel
theorem dX12_purse_35 : decode cX12_purse 35 = .ok (.putfield 47, 3) := by decide +kernel
theorem dX12_purse_38 : decode cX12_purse 38 = .ok (.iconst 1, 1) := by decide +kernel
theorem dX12_purse_39 : decode cX12_purse 39 = .ok (.ireturn, 1) := by decide +kernel
theorem dX12_price_0 : decode cX12_price 0 = .ok (.aload_n 0, 1) := by decide +kernel
theorem dX12_price_1 : decode cX12_price 1 = .ok (.iload_n 1, 1) := by decide +kernel
theorem dX12_price_2 : decode cX12_price 2 = .ok (.invokevirtual 141, 3) := by decide +kernel
theorem dX12_price_5 : decode cX12_price 5 = .ok (.ifCond .eq 14, 3) := by decide +kernel
theorem dX12_price_8 : decode cX12_price 8 = .ok (.iload_n 2, 1) := by decide +kernel
theorem dX12_price_9 : decode cX12_price 9 = .ok (.iconst 0, 1) := by decide +kernel
theorem dX12_price_10 : decode cX12_price 10 = .ok (.sipush 250, 3) := by decide +kernel
theorem dX12_price_13 : decode cX12_price 13 = .ok (.invokestatic 134, 3) := by decide +kernel
theorem dX12_price_16 : decode cX12_price 16 = .ok (.ifCond .ne 5, 3) := by decide +kernel
theorem dX12_price_19 : decode cX12_price 19 = .ok (.iconst 0, 1) := by decide +kernel
theorem dX12_price_20 : decode cX12_price 20 = .ok (.ireturn, 1) := by decide +kernel
theorem dX12_price_21 : decode cX12_price 21 = .ok (.aload_n 0, 1) := by decide +kernel
theorem dX12_price_22 : decode cX12_price 22 = .ok (.getfield 26, 3) := by decide +kernel
theorem dX12_price_25 : decode cX12_price 25 = .ok (.iload_n 1, 1) := by decide +kernel
theorem dX12_price_26 : decode cX12_price 26 = .ok (.iload_n 2, 1) := by decide +kernel
theorem dX12_price_27 : decode cX12_price 27 = .ok (.iastore, 1) := by decide +kernel
theorem dX12_price_28 : decode cX12_price 28 = .ok (.iconst 1, 1) := by decide +kernel
theorem dX12_price_29 : decode cX12_price 29 = .ok (.ireturn, 1) := by decide +kernel
theorem dX12_step_0 : decode cX12_step 0 = .ok (.iload_n 1, 1) := by decide +kernel
theorem dX12_step_1 : decode cX12_step 1 = .ok (.iconst 1, 1) := by decide +kernel
theorem dX12_step_2 : decode cX12_step 2 = .ok (.bipush 50, 2) := by decide +kernel
theorem dX12_step_4 : decode cX12_step 4 = .ok (.invokestatic 134, 3) := by decide +kernel
theorem dX12_step_7 : decode cX12_step 7 = .ok (.ifCond .ne 5, 3) := by decide +kernel
theorem dX12_step_10 : decode cX12_step 10 = .ok (.iconst 0, 1) := by decide +kernel
theorem dX12_step_11 : decode cX12_step 11 = .ok (.ireturn, 1) := by decide +kernel
theorem dX12_step_12 : decode cX12_step 12 = .ok (.aload_n 0, 1) := by decide +kernel
theorem dX12_step_13 : decode cX12_step 13 = .ok (.iload_n 1, 1) := by decide +kernel
theorem dX12_step_14 : decode cX12_step 14 = .ok (.putfield 13, 3) := by decide +kernel
theorem dX12_step_17 : decode cX12_step 17 = .ok (.iconst 1, 1) := by decide +kernel
theorem dX12_step_18 : decode cX12_step 18 = .ok (.ireturn, 1) := by decide +kernel
theorem dX12_feed_0 : decode cX12_feed 0 = .ok (.aload_n 0, 1) := by decide +kernel
theorem dX12_feed_1 : decode cX12_feed 1 = .ok (.getfield 154, 3) := by decide +kernel
theorem dX12_feed_4 : decode cX12_feed 4 = .ok (.bipush 20, 2) := by decide +kernel
theorem dX12_feed_6 : decode cX12_feed 6 = .ok (.iadd, 1) := by decide +kernel
theorem dX12_feed_7 : decode cX12_feed 7 = .ok (.sipush 400, 3) := by decide +kernel
theorem dX12_feed_10 : decode cX12_feed 10 = .ok (.if_icmp .le 5, 3) := by decide +kernel
theorem dX12_feed_13 : decode cX12_feed 13 = .ok (.iconst (-1), 1) := by decide +kernel
theorem dX12_feed_14 : decode cX12_feed 14 = .ok (.ireturn, 1) := by decide +kernel
theorem dX12_feed_15 : decode cX12_feed 15 = .ok (.aload_n 0, 1) := by decide +kernel
theorem dX12_feed_16 : decode cX12_feed 16 = .ok (.iload_n 1, 1) := by decide +kernel
theorem dX12_feed_17 : decode cX12_feed 17 = .ok (.invokevirtual 157, 3) := by decide +kernel
theorem dX12_feed_20 : decode cX12_feed 20 = .ok (.aload_n 0, 1) := by decide +kernel
theorem dX12_feed_21 : decode cX12_feed 21 = .ok (.iload_n 2, 1) := by decide +kernel
theorem dX12_feed_22 : decode cX12_feed 22 = .ok (.invokevirtual 157, 3) := by decide +kernel
theorem dX12_feed_25 : decode cX12_feed 25 = .ok (.aload_n 0, 1) := by decide +kernel
theorem dX12_feed_26 : decode cX12_feed 26 = .ok (.iload_n 3, 1) := by decide +kernel
theorem dX12_feed_27 : decode cX12_feed 27 = .ok (.invokevirtual 157, 3) := by decide +kernel
theorem dX12_feed_30 : decode cX12_feed 30 = .ok (.aload_n 0, 1) := by decide +kernel
theorem dX12_feed_31 : decode cX12_feed 31 = .ok (.iload 4, 2) := by decide +kernel
theorem dX12_feed_33 : decode cX12_feed 33 = .ok (.invokevirtual 157, 3) := by decide +kernel
theorem dX12_feed_36 : decode cX12_feed 36 = .ok (.aload_n 0, 1) := by decide +kernel
theorem dX12_feed_37 : decode cX12_feed 37 = .ok (.iload 5, 2) := by decide +kernel
theorem dX12_feed_39 : decode cX12_feed 39 = .ok (.invokevirtual 157, 3) := by decide +kernel
theorem dX12_feed_42 : decode cX12_feed 42 = .ok (.aload_n 0, 1) := by decide +kernel
theorem dX12_feed_43 : decode cX12_feed 43 = .ok (.getfield 154, 3) := by decide +kernel
theorem dX12_feed_46 : decode cX12_feed 46 = .ok (.ireturn, 1) := by decide +kernel
theorem dX12_four_0 : decode cX12_four 0 = .ok (.bipush 24, 2) := by decide +kernel
theorem dX12_four_2 : decode cX12_four 2 = .ok (.istore_n 2, 1) := by decide +kernel
theorem dX12_four_3 : decode cX12_four 3 = .ok (.iload_n 2, 1) := by decide +kernel
theorem dX12_four_4 : decode cX12_four 4 = .ok (.ifCond .lt 32, 3) := by decide +kernel
theorem dX12_four_7 : decode cX12_four 7 = .ok (.aload_n 0, 1) := by decide +kernel
theorem dX12_four_8 : decode cX12_four 8 = .ok (.getfield 78, 3) := by decide +kernel
theorem dX12_four_11 : decode cX12_four 11 = .ok (.aload_n 0, 1) := by decide +kernel
theorem dX12_four_12 : decode cX12_four 12 = .ok (.getfield 154, 3) := by decide +kernel
theorem dX12_four_15 : decode cX12_four 15 = .ok (.iload_n 1, 1) := by decide +kernel
theorem dX12_four_16 : decode cX12_four 16 = .ok (.iload_n 2, 1) := by decide +kernel
theorem dX12_four_17 : decode cX12_four 17 = .ok (.ishr, 1) := by decide +kernel
theorem dX12_four_18 : decode cX12_four 18 = .ok (.i2b, 1) := by decide +kernel
theorem dX12_four_19 : decode cX12_four 19 = .ok (.bastore, 1) := by decide +kernel
theorem dX12_four_20 : decode cX12_four 20 = .ok (.aload_n 0, 1) := by decide +kernel
theorem dX12_four_21 : decode cX12_four 21 = .ok (.dup, 1) := by decide +kernel
theorem dX12_four_22 : decode cX12_four 22 = .ok (.getfield 154, 3) := by decide +kernel
theorem dX12_four_25 : decode cX12_four 25 = .ok (.iconst 1, 1) := by decide +kernel
theorem dX12_four_26 : decode cX12_four 26 = .ok (.iadd, 1) := by decide +kernel
theorem dX12_four_27 : decode cX12_four 27 = .ok (.putfield 154, 3) := by decide +kernel
theorem dX12_four_30 : decode cX12_four 30 = .ok (.iinc 2 (-8), 3) := by decide +kernel
theorem dX12_four_33 : decode cX12_four 33 = .ok (.goto (-30), 3) := by decide +kernel
theorem dX12_four_36 : decode cX12_four 36 = .ok (.return_, 1) := by decide +kernel
theorem dX12_blanks_0 : decode cX12_blanks 0 = .ok (.aload_n 0, 1) := by decide +kernel
theorem dX12_blanks_1 : decode cX12_blanks 1 = .ok (.getfield 161, 3) := by decide +kernel
theorem dX12_blanks_4 : decode cX12_blanks 4 = .ok (.aload_n 0, 1) := by decide +kernel
theorem dX12_blanks_5 : decode cX12_blanks 5 = .ok (.getfield 164, 3) := by decide +kernel
theorem dX12_blanks_8 : decode cX12_blanks 8 = .ok (.if_icmp .ge 44, 3) := by decide +kernel
theorem dX12_blanks_11 : decode cX12_blanks 11 = .ok (.aload_n 0, 1) := by decide +kernel
theorem dX12_blanks_12 : decode cX12_blanks 12 = .ok (.getfield 82, 3) := by decide +kernel
theorem dX12_blanks_15 : decode cX12_blanks 15 = .ok (.aload_n 0, 1) := by decide +kernel
theorem dX12_blanks_16 : decode cX12_blanks 16 = .ok (.getfield 161, 3) := by decide +kernel
theorem dX12_blanks_19 : decode cX12_blanks 19 = .ok (.baload, 1) := by decide +kernel
theorem dX12_blanks_20 : decode cX12_blanks 20 = .ok (.bipush 32, 2) := by decide +kernel
theorem dX12_blanks_22 : decode cX12_blanks 22 = .ok (.if_icmp .eq 17, 3) := by decide +kernel
theorem dX12_blanks_25 : decode cX12_blanks 25 = .ok (.aload_n 0, 1) := by decide +kernel
theorem dX12_blanks_26 : decode cX12_blanks 26 = .ok (.getfield 82, 3) := by decide +kernel
theorem dX12_blanks_29 : decode cX12_blanks 29 = .ok (.aload_n 0, 1) := by decide +kernel
theorem dX12_blanks_30 : decode cX12_blanks 30 = .ok (.getfield 161, 3) := by decide +kernel
theorem dX12_blanks_33 : decode cX12_blanks 33 = .ok (.baload, 1) := by decide +kernel
theorem dX12_blanks_34 : decode cX12_blanks 34 = .ok (.bipush 10, 2) := by decide +kernel
theorem dX12_blanks_36 : decode cX12_blanks 36 = .ok (.if_icmp .ne 16, 3) := by decide +kernel
theorem dX12_blanks_39 : decode cX12_blanks 39 = .ok (.aload_n 0, 1) := by decide +kernel
theorem dX12_blanks_40 : decode cX12_blanks 40 = .ok (.dup, 1) := by decide +kernel
theorem dX12_blanks_41 : decode cX12_blanks 41 = .ok (.getfield 161, 3) := by decide +kernel
theorem dX12_blanks_44 : decode cX12_blanks 44 = .ok (.iconst 1, 1) := by decide +kernel
theorem dX12_blanks_45 : decode cX12_blanks 45 = .ok (.iadd, 1) := by decide +kernel
theorem dX12_blanks_46 : decode cX12_blanks 46 = .ok (.putfield 161, 3) := by decide +kernel
theorem dX12_blanks_49 : decode cX12_blanks 49 = .ok (.goto (-49), 3) := by decide +kernel
theorem dX12_blanks_52 : decode cX12_blanks 52 = .ok (.return_, 1) := by decide +kernel
theorem dX12_word_0 : decode cX12_word 0 = .ok (.aload_n 0, 1) := by decide +kernel
theorem dX12_word_1 : decode cX12_word 1 = .ok (.invokevirtual 167, 3) := by decide +kernel
theorem dX12_word_4 : decode cX12_word 4 = .ok (.aload_n 0, 1) := by decide +kernel
theorem dX12_word_5 : decode cX12_word 5 = .ok (.aload_n 0, 1) := by decide +kernel
theorem dX12_word_6 : decode cX12_word 6 = .ok (.getfield 161, 3) := by decide +kernel
theorem dX12_word_9 : decode cX12_word 9 = .ok (.putfield 170, 3) := by decide +kernel
theorem dX12_word_12 : decode cX12_word 12 = .ok (.lconst 0, 1) := by decide +kernel
theorem dX12_word_13 : decode cX12_word 13 = .ok (.lstore_n 1, 1) := by decide +kernel
theorem dX12_word_14 : decode cX12_word 14 = .ok (.aload_n 0, 1) := by decide +kernel
theorem dX12_word_15 : decode cX12_word 15 = .ok (.getfield 170, 3) := by decide +kernel
theorem dX12_word_18 : decode cX12_word 18 = .ok (.aload_n 0, 1) := by decide +kernel
theorem dX12_word_19 : decode cX12_word 19 = .ok (.getfield 164, 3) := by decide +kernel
theorem dX12_word_22 : decode cX12_word 22 = .ok (.if_icmp .ge 78, 3) := by decide +kernel
theorem dX12_word_25 : decode cX12_word 25 = .ok (.aload_n 0, 1) := by decide +kernel
theorem dX12_word_26 : decode cX12_word 26 = .ok (.getfield 82, 3) := by decide +kernel
theorem dX12_word_29 : decode cX12_word 29 = .ok (.aload_n 0, 1) := by decide +kernel
theorem dX12_word_30 : decode cX12_word 30 = .ok (.getfield 170, 3) := by decide +kernel
theorem dX12_word_33 : decode cX12_word 33 = .ok (.baload, 1) := by decide +kernel
theorem dX12_word_34 : decode cX12_word 34 = .ok (.bipush 97, 2) := by decide +kernel
theorem dX12_word_36 : decode cX12_word 36 = .ok (.if_icmp .lt 64, 3) := by decide +kernel
theorem dX12_word_39 : decode cX12_word 39 = .ok (.aload_n 0, 1) := by decide +kernel
theorem dX12_word_40 : decode cX12_word 40 = .ok (.getfield 82, 3) := by decide +kernel
theorem dX12_word_43 : decode cX12_word 43 = .ok (.aload_n 0, 1) := by decide +kernel
theorem dX12_word_44 : decode cX12_word 44 = .ok (.getfield 170, 3) := by decide +kernel
theorem dX12_word_47 : decode cX12_word 47 = .ok (.baload, 1) := by decide +kernel
theorem dX12_word_48 : decode cX12_word 48 = .ok (.bipush 122, 2) := by decide +kernel
theorem dX12_word_50 : decode cX12_word 50 = .ok (.if_icmp .gt 50, 3) := by decide +kernel
theorem dX12_word_53 : decode cX12_word 53 = .ok (.aload_n 0, 1) := by decide +kernel
theorem dX12_word_54 : decode cX12_word 54 = .ok (.getfield 170, 3) := by decide +kernel
theorem dX12_word_57 : decode cX12_word 57 = .ok (.aload_n 0, 1) := by decide +kernel
theorem dX12_word_58 : decode cX12_word 58 = .ok (.getfield 161, 3) := by decide +kernel
theorem dX12_word_61 : decode cX12_word 61 = .ok (.isub, 1) := by decide +kernel
theorem dX12_word_62 : decode cX12_word 62 = .ok (.bipush 7, 2) := by decide +kernel
theorem dX12_word_64 : decode cX12_word 64 = .ok (.if_icmp .ge 21, 3) := by decide +kernel
theorem dX12_word_67 : decode cX12_word 67 = .ok (.lload_n 1, 1) := by decide +kernel
theorem dX12_word_68 : decode cX12_word 68 = .ok (.bipush 8, 2) := by decide +kernel
theorem dX12_word_70 : decode cX12_word 70 = .ok (.lshl, 1) := by decide +kernel
theorem dX12_word_71 : decode cX12_word 71 = .ok (.aload_n 0, 1) := by decide +kernel
theorem dX12_word_72 : decode cX12_word 72 = .ok (.getfield 82, 3) := by decide +kernel
theorem dX12_word_75 : decode cX12_word 75 = .ok (.aload_n 0, 1) := by decide +kernel
theorem dX12_word_76 : decode cX12_word 76 = .ok (.getfield 170, 3) := by decide +kernel
theorem dX12_word_79 : decode cX12_word 79 = .ok (.baload, 1) := by decide +kernel
theorem dX12_word_80 : decode cX12_word 80 = .ok (.i2l, 1) := by decide +kernel
theorem dX12_word_81 : decode cX12_word 81 = .ok (.lor, 1) := by decide +kernel
theorem dX12_word_82 : decode cX12_word 82 = .ok (.goto 4, 3) := by decide +kernel
theorem dX12_word_85 : decode cX12_word 85 = .ok (.lconst 0, 1) := by decide +kernel
theorem dX12_word_86 : decode cX12_word 86 = .ok (.lstore_n 1, 1) := by decide +kernel
theorem dX12_word_87 : decode cX12_word 87 = .ok (.aload_n 0, 1) := by decide +kernel
theorem dX12_word_88 : decode cX12_word 88 = .ok (.dup, 1) := by decide +kernel
theorem dX12_word_89 : decode cX12_word 89 = .ok (.getfield 170, 3) := by decide +kernel
theorem dX12_word_92 : decode cX12_word 92 = .ok (.iconst 1, 1) := by decide +kernel
theorem dX12_word_93 : decode cX12_word 93 = .ok (.iadd, 1) := by decide +kernel
theorem dX12_word_94 : decode cX12_word 94 = .ok (.putfield 170, 3) := by decide +kernel
theorem dX12_word_97 : decode cX12_word 97 = .ok (.goto (-83), 3) := by decide +kernel
theorem dX12_word_100 : decode cX12_word 100 = .ok (.aload_n 0, 1) := by decide +kernel
theorem dX12_word_101 : decode cX12_word 101 = .ok (.getfield 170, 3) := by decide +kernel
theorem dX12_word_104 : decode cX12_word 104 = .ok (.aload_n 0, 1) := by decide +kernel
theorem dX12_word_105 : decode cX12_word 105 = .ok (.getfield 161, 3) := by decide +kernel
theorem dX12_word_108 : decode cX12_word 108 = .ok (.isub, 1) := by decide +kernel
theorem dX12_word_109 : decode cX12_word 109 = .ok (.bipush 7, 2) := by decide +kernel
theorem dX12_word_111 : decode cX12_word 111 = .ok (.if_icmp .le 7, 3) := by decide +kernel
theorem dX12_word_114 : decode cX12_word 114 = .ok (.lconst 0, 1) := by decide +kernel
theorem dX12_word_115 : decode cX12_word 115 = .ok (.goto 4, 3) := by decide +kernel
theorem dX12_word_118 : decode cX12_word 118 = .ok (.lload_n 1, 1) := by decide +kernel
theorem dX12_word_119 : decode cX12_word 119 = .ok (.lreturn, 1) := by decide +kernel
theorem dX12_takes_0 : decode cX12_takes 0 = .ok (.aload_n 0, 1) := by decide +kernel
theorem dX12_takes_1 : decode cX12_takes 1 = .ok (.invokevirtual 173, 3) := by decide +kernel
theorem dX12_takes_4 : decode cX12_takes 4 = .ok (.lload_n 1, 1) := by decide +kernel
theorem dX12_takes_5 : decode cX12_takes 5 = .ok (.lcmp, 1) := by decide +kernel
theorem dX12_takes_6 : decode cX12_takes 6 = .ok (.ifCond .eq 5, 3) := by decide +kernel
theorem dX12_takes_9 : decode cX12_takes 9 = .ok (.iconst 0, 1) := by decide +kernel
theorem dX12_takes_10 : decode cX12_takes 10 = .ok (.ireturn, 1) := by decide +kernel
theorem dX12_takes_11 : decode cX12_takes 11 = .ok (.aload_n 0, 1) := by decide +kernel
theorem dX12_takes_12 : decode cX12_takes 12 = .ok (.aload_n 0, 1) := by decide +kernel
theorem dX12_takes_13 : decode cX12_takes 13 = .ok (.getfield 170, 3) := by decide +kernel
theorem dX12_takes_16 : decode cX12_takes 16 = .ok (.putfield 161, 3) := by decide +kernel
theorem dX12_takes_19 : decode cX12_takes 19 = .ok (.iconst 1, 1) := by decide +kernel
theorem dX12_takes_20 : decode cX12_takes 20 = .ok (.ireturn, 1) := by decide +kernel
theorem dX12_takesSign_0 : decode cX12_takesSign 0 = .ok (.aload_n 0, 1) := by decide +kernel
theorem dX12_takesSign_1 : decode cX12_takesSign 1 = .ok (.invokevirtual 167, 3) := by decide +kernel
theorem dX12_takesSign_4 : decode cX12_takesSign 4 = .ok (.aload_n 0, 1) := by decide +kernel
theorem dX12_takesSign_5 : decode cX12_takesSign 5 = .ok (.getfield 161, 3) := by decide +kernel
theorem dX12_takesSign_8 : decode cX12_takesSign 8 = .ok (.aload_n 0, 1) := by decide +kernel
theorem dX12_takesSign_9 : decode cX12_takesSign 9 = .ok (.getfield 164, 3) := by decide +kernel
theorem dX12_takesSign_12 : decode cX12_takesSign 12 = .ok (.if_icmp .eq 16, 3) := by decide +kernel
theorem dX12_takesSign_15 : decode cX12_takesSign 15 = .ok (.aload_n 0, 1) := by decide +kernel
theorem dX12_takesSign_16 : decode cX12_takesSign 16 = .ok (.getfield 82, 3) := by decide +kernel
theorem dX12_takesSign_19 : decode cX12_takesSign 19 = .ok (.aload_n 0, 1) := by decide +kernel
theorem dX12_takesSign_20 : decode cX12_takesSign 20 = .ok (.getfield 161, 3) := by decide +kernel
theorem dX12_takesSign_23 : decode cX12_takesSign 23 = .ok (.baload, 1) := by decide +kernel
theorem dX12_takesSign_24 : decode cX12_takesSign 24 = .ok (.iload_n 1, 1) := by decide +kernel
theorem dX12_takesSign_25 : decode cX12_takesSign 25 = .ok (.if_icmp .eq 5, 3) := by decide +kernel
theorem dX12_takesSign_28 : decode cX12_takesSign 28 = .ok (.iconst 0, 1) := by decide +kernel
theorem dX12_takesSign_29 : decode cX12_takesSign 29 = .ok (.ireturn, 1) := by decide +kernel
theorem dX12_takesSign_30 : decode cX12_takesSign 30 = .ok (.aload_n 0, 1) := by decide +kernel
theorem dX12_takesSign_31 : decode cX12_takesSign 31 = .ok (.dup, 1) := by decide +kernel
theorem dX12_takesSign_32 : decode cX12_takesSign 32 = .ok (.getfield 161, 3) := by decide +kernel
theorem dX12_takesSign_35 : decode cX12_takesSign 35 = .ok (.iconst 1, 1) := by decide +kernel
theorem dX12_takesSign_36 : decode cX12_takesSign 36 = .ok (.iadd, 1) := by decide +kernel
theorem dX12_takesSign_37 : decode cX12_takesSign 37 = .ok (.putfield 161, 3) := by decide +kernel
theorem dX12_takesSign_40 : decode cX12_takesSign 40 = .ok (.iconst 1, 1) := by decide +kernel
theorem dX12_takesSign_41 : decode cX12_takesSign 41 = .ok (.ireturn, 1) := by decide +kernel
theorem dX12_takesNumber_0 : decode cX12_takesNumber 0 = .ok (.aload_n 0, 1) := by decide +kernel
theorem dX12_takesNumber_1 : decode cX12_takesNumber 1 = .ok (.invokevirtual 167, 3) := by decide +kernel
theorem dX12_takesNumber_4 : decode cX12_takesNumber 4 = .ok (.aload_n 0, 1) := by decide +kernel
theorem dX12_takesNumber_5 : decode cX12_takesNumber 5 = .ok (.getfield 161, 3) := by decide +kernel
theorem dX12_takesNumber_8 : decode cX12_takesNumber 8 = .ok (.istore_n 2, 1) := by decide +kernel
theorem dX12_takesNumber_9 : decode cX12_takesNumber 9 = .ok (.aload_n 0, 1) := by decide +kernel
theorem dX12_takesNumber_10 : decode cX12_takesNumber 10 = .ok (.iconst 0, 1) := by decide +kernel
theorem dX12_takesNumber_11 : decode cX12_takesNumber 11 = .ok (.putfield 177, 3) := by decide +kernel
theorem dX12_takesNumber_14 : decode cX12_takesNumber 14 = .ok (.iload_n 2, 1) := by decide +kernel
theorem dX12_takesNumber_15 : decode cX12_takesNumber 15 = .ok (.aload_n 0, 1) := by decide +kernel
theorem dX12_takesNumber_16 : decode cX12_takesNumber 16 = .ok (.getfield 164, 3) := by decide +kernel
theorem dX12_takesNumber_19 : decode cX12_takesNumber 19 = .ok (.if_icmp .ge 62, 3) := by decide +kernel
theorem dX12_takesNumber_22 : decode cX12_takesNumber 22 = .ok (.aload_n 0, 1) := by decide +kernel
theorem dX12_takesNumber_23 : decode cX12_takesNumber 23 = .ok (.getfield 82, 3) := by decide +kernel
theorem dX12_takesNumber_26 : decode cX12_takesNumber 26 = .ok (.iload_n 2, 1) := by decide +kernel
theorem dX12_takesNumber_27 : decode cX12_takesNumber 27 = .ok (.baload, 1) := by decide +kernel
theorem dX12_takesNumber_28 : decode cX12_takesNumber 28 = .ok (.bipush 48, 2) := by decide +kernel
theorem dX12_takesNumber_30 : decode cX12_takesNumber 30 = .ok (.if_icmp .lt 51, 3) := by decide +kernel
theorem dX12_takesNumber_33 : decode cX12_takesNumber 33 = .ok (.aload_n 0, 1) := by decide +kernel
theorem dX12_takesNumber_34 : decode cX12_takesNumber 34 = .ok (.getfield 82, 3) := by decide +kernel
theorem dX12_takesNumber_37 : decode cX12_takesNumber 37 = .ok (.iload_n 2, 1) := by decide +kernel
theorem dX12_takesNumber_38 : decode cX12_takesNumber 38 = .ok (.baload, 1) := by decide +kernel
theorem dX12_takesNumber_39 : decode cX12_takesNumber 39 = .ok (.bipush 57, 2) := by decide +kernel
theorem dX12_takesNumber_41 : decode cX12_takesNumber 41 = .ok (.if_icmp .gt 40, 3) := by decide +kernel
theorem dX12_takesNumber_44 : decode cX12_takesNumber 44 = .ok (.iload_n 2, 1) := by decide +kernel
theorem dX12_takesNumber_45 : decode cX12_takesNumber 45 = .ok (.aload_n 0, 1) := by decide +kernel
theorem dX12_takesNumber_46 : decode cX12_takesNumber 46 = .ok (.getfield 161, 3) := by decide +kernel
theorem dX12_takesNumber_49 : decode cX12_takesNumber 49 = .ok (.isub, 1) := by decide +kernel
theorem dX12_takesNumber_50 : decode cX12_takesNumber 50 = .ok (.iconst 5, 1) := by decide +kernel
theorem dX12_takesNumber_51 : decode cX12_takesNumber 51 = .ok (.if_icmp .ge 24, 3) := by decide +kernel
theorem dX12_takesNumber_54 : decode cX12_takesNumber 54 = .ok (.aload_n 0, 1) := by decide +kernel
theorem dX12_takesNumber_55 : decode cX12_takesNumber 55 = .ok (.bipush 10, 2) := by decide +kernel
theorem dX12_takesNumber_57 : decode cX12_takesNumber 57 = .ok (.aload_n 0, 1) := by decide +kernel
theorem dX12_takesNumber_58 : decode cX12_takesNumber 58 = .ok (.getfield 177, 3) := by decide +kernel
theorem dX12_takesNumber_61 : decode cX12_takesNumber 61 = .ok (.imul, 1) := by decide +kernel
theorem dX12_takesNumber_62 : decode cX12_takesNumber 62 = .ok (.aload_n 0, 1) := by decide +kernel
theorem dX12_takesNumber_63 : decode cX12_takesNumber 63 = .ok (.getfield 82, 3) := by decide +kernel
theorem dX12_takesNumber_66 : decode cX12_takesNumber 66 = .ok (.iload_n 2, 1) := by decide +kernel
theorem dX12_takesNumber_67 : decode cX12_takesNumber 67 = .ok (.baload, 1) := by decide +kernel
theorem dX12_takesNumber_68 : decode cX12_takesNumber 68 = .ok (.iadd, 1) := by decide +kernel
theorem dX12_takesNumber_69 : decode cX12_takesNumber 69 = .ok (.bipush 48, 2) := by decide +kernel
theorem dX12_takesNumber_71 : decode cX12_takesNumber 71 = .ok (.isub, 1) := by decide +kernel
theorem dX12_takesNumber_72 : decode cX12_takesNumber 72 = .ok (.putfield 177, 3) := by decide +kernel
theorem dX12_takesNumber_75 : decode cX12_takesNumber 75 = .ok (.iinc 2 1, 3) := by decide +kernel
theorem dX12_takesNumber_78 : decode cX12_takesNumber 78 = .ok (.goto (-64), 3) := by decide +kernel
theorem dX12_takesNumber_81 : decode cX12_takesNumber 81 = .ok (.iload_n 2, 1) := by decide +kernel
theorem dX12_takesNumber_82 : decode cX12_takesNumber 82 = .ok (.aload_n 0, 1) := by decide +kernel
theorem dX12_takesNumber_83 : decode cX12_takesNumber 83 = .ok (.getfield 161, 3) := by decide +kernel
theorem dX12_takesNumber_86 : decode cX12_takesNumber 86 = .ok (.if_icmp .eq 21, 3) := by decide +kernel
theorem dX12_takesNumber_89 : decode cX12_takesNumber 89 = .ok (.iload_n 2, 1) := by decide +kernel
theorem dX12_takesNumber_90 : decode cX12_takesNumber 90 = .ok (.aload_n 0, 1) := by decide +kernel
theorem dX12_takesNumber_91 : decode cX12_takesNumber 91 = .ok (.getfield 161, 3) := by decide +kernel
theorem dX12_takesNumber_94 : decode cX12_takesNumber 94 = .ok (.isub, 1) := by decide +kernel
theorem dX12_takesNumber_95 : decode cX12_takesNumber 95 = .ok (.iconst 5, 1) := by decide +kernel
theorem dX12_takesNumber_96 : decode cX12_takesNumber 96 = .ok (.if_icmp .gt 11, 3) := by decide +kernel
theorem dX12_takesNumber_99 : decode cX12_takesNumber 99 = .ok (.aload_n 0, 1) := by decide +kernel
theorem dX12_takesNumber_100 : decode cX12_takesNumber 100 = .ok (.getfield 177, 3) := by decide +kernel
theorem dX12_takesNumber_103 : decode cX12_takesNumber 103 = .ok (.iload_n 1, 1) := by decide +kernel
theorem dX12_takesNumber_104 : decode cX12_takesNumber 104 = .ok (.if_icmp .le 5, 3) := by decide +kernel
theorem dX12_takesNumber_107 : decode cX12_takesNumber 107 = .ok (.iconst 0, 1) := by decide +kernel
theorem dX12_takesNumber_108 : decode cX12_takesNumber 108 = .ok (.ireturn, 1) := by decide +kernel
theorem dX12_takesNumber_109 : decode cX12_takesNumber 109 = .ok (.aload_n 0, 1) := by decide +kernel
theorem dX12_takesNumber_110 : decode cX12_takesNumber 110 = .ok (.iload_n 2, 1) := by decide +kernel
theorem dX12_takesNumber_111 : decode cX12_takesNumber 111 = .ok (.putfield 161, 3) := by decide +kernel
theorem dX12_takesNumber_114 : decode cX12_takesNumber 114 = .ok (.iconst 1, 1) := by decide +kernel
theorem dX12_takesNumber_115 : decode cX12_takesNumber 115 = .ok (.ireturn, 1) := by decide +kernel
theorem dX12_asked_0 : decode cX12_asked 0 = .ok (.lload_n 0, 1) := by decide +kernel
theorem dX12_asked_1 : decode cX12_asked 1 = .ok (.ldc2_w 180, 3) := by decide +kernel
theorem dX12_asked_4 : decode cX12_asked 4 = .ok (.lcmp, 1) := by decide +kernel
theorem dX12_asked_5 : decode cX12_asked 5 = .ok (.ifCond .ne 7, 3) := by decide +kernel
theorem dX12_asked_8 : decode cX12_asked 8 = .ok (.iconst 0, 1) := by decide +kernel
theorem dX12_asked_9 : decode cX12_asked 9 = .ok (.goto 64, 3) := by decide +kernel
theorem dX12_asked_12 : decode cX12_asked 12 = .ok (.lload_n 0, 1) := by decide +kernel
theorem dX12_asked_13 : decode cX12_asked 13 = .ok (.ldc2_w 182, 3) := by decide +kernel
theorem dX12_asked_16 : decode cX12_asked 16 = .ok (.lcmp, 1) := by decide +kernel
theorem dX12_asked_17 : decode cX12_asked 17 = .ok (.ifCond .ne 7, 3) := by decide +kernel
theorem dX12_asked_20 : decode cX12_asked 20 = .ok (.iconst 1, 1) := by decide +kernel
theorem dX12_asked_21 : decode cX12_asked 21 = .ok (.goto 52, 3) := by decide +kernel
theorem dX12_asked_24 : decode cX12_asked 24 = .ok (.lload_n 0, 1) := by decide +kernel
theorem dX12_asked_25 : decode cX12_asked 25 = .ok (.ldc2_w 184, 3) := by decide +kernel
theorem dX12_asked_28 : decode cX12_asked 28 = .ok (.lcmp, 1) := by decide +kernel
theorem dX12_asked_29 : decode cX12_asked 29 = .ok (.ifCond .ne 7, 3) := by decide +kernel
theorem dX12_asked_32 : decode cX12_asked 32 = .ok (.iconst 2, 1) := by decide +kernel
theorem dX12_asked_33 : decode cX12_asked 33 = .ok (.goto 40, 3) := by decide +kernel
theorem dX12_asked_36 : decode cX12_asked 36 = .ok (.lload_n 0, 1) := by decide +kernel
theorem dX12_asked_37 : decode cX12_asked 37 = .ok (.ldc2_w 186, 3) := by decide +kernel
theorem dX12_asked_40 : decode cX12_asked 40 = .ok (.lcmp, 1) := by decide +kernel
theorem dX12_asked_41 : decode cX12_asked 41 = .ok (.ifCond .ne 7, 3) := by decide +kernel
theorem dX12_asked_44 : decode cX12_asked 44 = .ok (.iconst 3, 1) := by decide +kernel
theorem dX12_asked_45 : decode cX12_asked 45 = .ok (.goto 28, 3) := by decide +kernel
theorem dX12_asked_48 : decode cX12_asked 48 = .ok (.lload_n 0, 1) := by decide +kernel
theorem dX12_asked_49 : decode cX12_asked 49 = .ok (.ldc2_w 188, 3) := by decide +kernel
theorem dX12_asked_52 : decode cX12_asked 52 = .ok (.lcmp, 1) := by decide +kernel
theorem dX12_asked_53 : decode cX12_asked 53 = .ok (.ifCond .ne 7, 3) := by decide +kernel
theorem dX12_asked_56 : decode cX12_asked 56 = .ok (.iconst 4, 1) := by decide +kernel
theorem dX12_asked_57 : decode cX12_asked 57 = .ok (.goto 16, 3) := by decide +kernel
theorem dX12_asked_60 : decode cX12_asked 60 = .ok (.lload_n 0, 1) := by decide +kernel
theorem dX12_asked_61 : decode cX12_asked 61 = .ok (.ldc2_w 190, 3) := by decide +kernel
theorem dX12_asked_64 : decode cX12_asked 64 = .ok (.lcmp, 1) := by decide +kernel
theorem dX12_asked_65 : decode cX12_asked 65 = .ok (.ifCond .ne 7, 3) := by decide +kernel
theorem dX12_asked_68 : decode cX12_asked 68 = .ok (.iconst 5, 1) := by decide +kernel
theorem dX12_asked_69 : decode cX12_asked 69 = .ok (.goto 4, 3) := by decide +kernel
theorem dX12_asked_72 : decode cX12_asked 72 = .ok (.iconst (-1), 1) := by decide +kernel
theorem dX12_asked_73 : decode cX12_asked 73 = .ok (.ireturn, 1) := by decide +kernel
theorem dX12_puts_0 : decode cX12_puts 0 = .ok (.aload_n 0, 1) := by decide +kernel
theorem dX12_puts_1 : decode cX12_puts 1 = .ok (.getfield 65, 3) := by decide +kernel
theorem dX12_puts_4 : decode cX12_puts 4 = .ok (.aload_n 0, 1) := by decide +kernel
theorem dX12_puts_5 : decode cX12_puts 5 = .ok (.getfield 192, 3) := by decide +kernel
theorem dX12_puts_8 : decode cX12_puts 8 = .ok (.iload_n 1, 1) := by decide +kernel
theorem dX12_puts_9 : decode cX12_puts 9 = .ok (.iastore, 1) := by decide +kernel
theorem dX12_puts_10 : decode cX12_puts 10 = .ok (.aload_n 0, 1) := by decide +kernel
theorem dX12_puts_11 : decode cX12_puts 11 = .ok (.getfield 68, 3) := by decide +kernel
theorem dX12_puts_14 : decode cX12_puts 14 = .ok (.aload_n 0, 1) := by decide +kernel
theorem dX12_puts_15 : decode cX12_puts 15 = .ok (.getfield 192, 3) := by decide +kernel
theorem dX12_puts_18 : decode cX12_puts 18 = .ok (.iload_n 2, 1) := by decide +kernel
theorem dX12_puts_19 : decode cX12_puts 19 = .ok (.iastore, 1) := by decide +kernel
theorem dX12_puts_20 : decode cX12_puts 20 = .ok (.aload_n 0, 1) := by decide +kernel
theorem dX12_puts_21 : decode cX12_puts 21 = .ok (.dup, 1) := by decide +kernel
theorem dX12_puts_22 : decode cX12_puts 22 = .ok (.getfield 192, 3) := by decide +kernel
theorem dX12_puts_25 : decode cX12_puts 25 = .ok (.iconst 1, 1) := by decide +kernel
theorem dX12_puts_26 : decode cX12_puts 26 = .ok (.iadd, 1) := by decide +kernel
theorem dX12_puts_27 : decode cX12_puts 27 = .ok (.putfield 192, 3) := by decide +kernel
theorem dX12_puts_30 : decode cX12_puts 30 = .ok (.return_, 1) := by decide +kernel
theorem dX12_opens_0 : decode cX12_opens 0 = .ok (.aload_n 0, 1) := by decide +kernel
theorem dX12_opens_1 : decode cX12_opens 1 = .ok (.getfield 195, 3) := by decide +kernel
theorem dX12_opens_4 : decode cX12_opens 4 = .ok (.bipush 9, 2) := by decide +kernel
theorem dX12_opens_6 : decode cX12_opens 6 = .ok (.if_icmp .ne 5, 3) := by decide +kernel
theorem dX12_opens_9 : decode cX12_opens 9 = .ok (.iconst 0, 1) := by decide +kernel
theorem dX12_opens_10 : decode cX12_opens 10 = .ok (.ireturn, 1) := by decide +kernel
theorem dX12_opens_11 : decode cX12_opens 11 = .ok (.aload_n 0, 1) := by decide +kernel
theorem dX12_opens_12 : decode cX12_opens 12 = .ok (.dup, 1) := by decide +kernel
theorem dX12_opens_13 : decode cX12_opens 13 = .ok (.getfield 195, 3) := by decide +kernel
theorem dX12_opens_16 : decode cX12_opens 16 = .ok (.iconst 1, 1) := by decide +kernel
theorem dX12_opens_17 : decode cX12_opens 17 = .ok (.iadd, 1) := by decide +kernel
theorem dX12_opens_18 : decode cX12_opens 18 = .ok (.putfield 195, 3) := by decide +kernel
theorem dX12_opens_21 : decode cX12_opens 21 = .ok (.iconst 1, 1) := by decide +kernel
theorem dX12_opens_22 : decode cX12_opens 22 = .ok (.ireturn, 1) := by decide +kernel
theorem dX12_atom_0 : decode cX12_atom 0 = .ok (.aload_n 0, 1) := by decide +kernel
theorem dX12_atom_1 : decode cX12_atom 1 = .ok (.ldc 198, 2) := by decide +kernel
theorem dX12_atom_3 : decode cX12_atom 3 = .ok (.invokevirtual 199, 3) := by decide +kernel
theorem dX12_atom_6 : decode cX12_atom 6 = .ok (.ifCond .eq 14, 3) := by decide +kernel
theorem dX12_atom_9 : decode cX12_atom 9 = .ok (.aload_n 0, 1) := by decide +kernel
theorem dX12_atom_10 : decode cX12_atom 10 = .ok (.iconst 0, 1) := by decide +kernel
theorem dX12_atom_11 : decode cX12_atom 11 = .ok (.aload_n 0, 1) := by decide +kernel
theorem dX12_atom_12 : decode cX12_atom 12 = .ok (.getfield 177, 3) := by decide +kernel
theorem dX12_atom_15 : decode cX12_atom 15 = .ok (.invokevirtual 202, 3) := by decide +kernel
theorem dX12_atom_18 : decode cX12_atom 18 = .ok (.iconst 1, 1) := by decide +kernel
theorem dX12_atom_19 : decode cX12_atom 19 = .ok (.ireturn, 1) := by decide +kernel
theorem dX12_atom_20 : decode cX12_atom 20 = .ok (.aload_n 0, 1) := by decide +kernel
theorem dX12_atom_21 : decode cX12_atom 21 = .ok (.invokevirtual 167, 3) := by decide +kernel
theorem dX12_atom_24 : decode cX12_atom 24 = .ok (.aload_n 0, 1) := by decide +kernel
theorem dX12_atom_25 : decode cX12_atom 25 = .ok (.getfield 161, 3) := by decide +kernel
theorem dX12_atom_28 : decode cX12_atom 28 = .ok (.aload_n 0, 1) := by decide +kernel
theorem dX12_atom_29 : decode cX12_atom 29 = .ok (.getfield 164, 3) := by decide +kernel
theorem dX12_atom_32 : decode cX12_atom 32 = .ok (.if_icmp .ge 66, 3) := by decide +kernel
theorem dX12_atom_35 : decode cX12_atom 35 = .ok (.aload_n 0, 1) := by decide +kernel
theorem dX12_atom_36 : decode cX12_atom 36 = .ok (.getfield 82, 3) := by decide +kernel
theorem dX12_atom_39 : decode cX12_atom 39 = .ok (.aload_n 0, 1) := by decide +kernel
theorem dX12_atom_40 : decode cX12_atom 40 = .ok (.getfield 161, 3) := by decide +kernel
theorem dX12_atom_43 : decode cX12_atom 43 = .ok (.baload, 1) := by decide +kernel
theorem dX12_atom_44 : decode cX12_atom 44 = .ok (.bipush 40, 2) := by decide +kernel
theorem dX12_atom_46 : decode cX12_atom 46 = .ok (.if_icmp .ne 52, 3) := by decide +kernel
theorem dX12_atom_49 : decode cX12_atom 49 = .ok (.aload_n 0, 1) := by decide +kernel
theorem dX12_atom_50 : decode cX12_atom 50 = .ok (.invokevirtual 206, 3) := by decide +kernel
theorem dX12_atom_53 : decode cX12_atom 53 = .ok (.ifCond .ne 5, 3) := by decide +kernel
theorem dX12_atom_56 : decode cX12_atom 56 = .ok (.iconst 0, 1) := by decide +kernel
theorem dX12_atom_57 : decode cX12_atom 57 = .ok (.ireturn, 1) := by decide +kernel
theorem dX12_atom_58 : decode cX12_atom 58 = .ok (.aload_n 0, 1) := by decide +kernel
theorem dX12_atom_59 : decode cX12_atom 59 = .ok (.dup, 1) := by decide +kernel
theorem dX12_atom_60 : decode cX12_atom 60 = .ok (.getfield 161, 3) := by decide +kernel
theorem dX12_atom_63 : decode cX12_atom 63 = .ok (.iconst 1, 1) := by decide +kernel
theorem dX12_atom_64 : decode cX12_atom 64 = .ok (.iadd, 1) := by decide +kernel
theorem dX12_atom_65 : decode cX12_atom 65 = .ok (.putfield 161, 3) := by decide +kernel
theorem dX12_atom_68 : decode cX12_atom 68 = .ok (.aload_n 0, 1) := by decide +kernel
theorem dX12_atom_69 : decode cX12_atom 69 = .ok (.invokevirtual 210, 3) := by decide +kernel
theorem dX12_atom_72 : decode cX12_atom 72 = .ok (.ifCond .eq 12, 3) := by decide +kernel
theorem dX12_atom_75 : decode cX12_atom 75 = .ok (.aload_n 0, 1) := by decide +kernel
theorem dX12_atom_76 : decode cX12_atom 76 = .ok (.bipush 41, 2) := by decide +kernel
theorem dX12_atom_78 : decode cX12_atom 78 = .ok (.invokevirtual 213, 3) := by decide +kernel
theorem dX12_atom_81 : decode cX12_atom 81 = .ok (.ifCond .ne 5, 3) := by decide +kernel
theorem dX12_atom_84 : decode cX12_atom 84 = .ok (.iconst 0, 1) := by decide +kernel
theorem dX12_atom_85 : decode cX12_atom 85 = .ok (.ireturn, 1) := by decide +kernel
theorem dX12_atom_86 : decode cX12_atom 86 = .ok (.aload_n 0, 1) := by decide +kernel
theorem dX12_atom_87 : decode cX12_atom 87 = .ok (.dup, 1) := by decide +kernel
theorem dX12_atom_88 : decode cX12_atom 88 = .ok (.getfield 195, 3) := by decide +kernel
theorem dX12_atom_91 : decode cX12_atom 91 = .ok (.iconst 1, 1) := by decide +kernel
theorem dX12_atom_92 : decode cX12_atom 92 = .ok (.isub, 1) := by decide +kernel
theorem dX12_atom_93 : decode cX12_atom 93 = .ok (.putfield 195, 3) := by decide +kernel
theorem dX12_atom_96 : decode cX12_atom 96 = .ok (.iconst 1, 1) := by decide +kernel
theorem dX12_atom_97 : decode cX12_atom 97 = .ok (.ireturn, 1) := by decide +kernel
theorem dX12_atom_98 : decode cX12_atom 98 = .ok (.aload_n 0, 1) := by decide +kernel
theorem dX12_atom_99 : decode cX12_atom 99 = .ok (.ldc2_w 216, 3) := by decide +kernel
theorem dX12_atom_102 : decode cX12_atom 102 = .ok (.invokevirtual 218, 3) := by decide +kernel
theorem dX12_atom_105 : decode cX12_atom 105 = .ok (.ifCond .eq 25, 3) := by decide +kernel
theorem dX12_atom_108 : decode cX12_atom 108 = .ok (.aload_n 0, 1) := by decide +kernel
theorem dX12_atom_109 : decode cX12_atom 109 = .ok (.bipush 9, 2) := by decide +kernel
theorem dX12_atom_111 : decode cX12_atom 111 = .ok (.invokevirtual 199, 3) := by decide +kernel
theorem dX12_atom_114 : decode cX12_atom 114 = .ok (.ifCond .ne 5, 3) := by decide +kernel
theorem dX12_atom_117 : decode cX12_atom 117 = .ok (.iconst 0, 1) := by decide +kernel
theorem dX12_atom_118 : decode cX12_atom 118 = .ok (.ireturn, 1) := by decide +kernel
theorem dX12_atom_119 : decode cX12_atom 119 = .ok (.aload_n 0, 1) := by decide +kernel
theorem dX12_atom_120 : decode cX12_atom 120 = .ok (.iconst 2, 1) := by decide +kernel
theorem dX12_atom_121 : decode cX12_atom 121 = .ok (.aload_n 0, 1) := by decide +kernel
theorem dX12_atom_122 : decode cX12_atom 122 = .ok (.getfield 177, 3) := by decide +kernel
theorem dX12_atom_125 : decode cX12_atom 125 = .ok (.invokevirtual 202, 3) := by decide +kernel
theorem dX12_atom_128 : decode cX12_atom 128 = .ok (.iconst 1, 1) := by decide +kernel
theorem dX12_atom_129 : decode cX12_atom 129 = .ok (.ireturn, 1) := by decide +kernel
theorem dX12_atom_130 : decode cX12_atom 130 = .ok (.aload_n 0, 1) := by decide +kernel
theorem dX12_atom_131 : decode cX12_atom 131 = .ok (.invokevirtual 173, 3) := by decide +kernel
theorem dX12_atom_134 : decode cX12_atom 134 = .ok (.invokestatic 222, 3) := by decide +kernel
theorem dX12_atom_137 : decode cX12_atom 137 = .ok (.istore_n 1, 1) := by decide +kernel
theorem dX12_atom_138 : decode cX12_atom 138 = .ok (.iload_n 1, 1) := by decide +kernel
theorem dX12_atom_139 : decode cX12_atom 139 = .ok (.iconst (-1), 1) := by decide +kernel
theorem dX12_atom_140 : decode cX12_atom 140 = .ok (.if_icmp .ne 5, 3) := by decide +kernel
theorem dX12_atom_143 : decode cX12_atom 143 = .ok (.iconst 0, 1) := by decide +kernel
theorem dX12_atom_144 : decode cX12_atom 144 = .ok (.ireturn, 1) := by decide +kernel
theorem dX12_atom_145 : decode cX12_atom 145 = .ok (.aload_n 0, 1) := by decide +kernel
theorem dX12_atom_146 : decode cX12_atom 146 = .ok (.aload_n 0, 1) := by decide +kernel
theorem dX12_atom_147 : decode cX12_atom 147 = .ok (.getfield 170, 3) := by decide +kernel
theorem dX12_atom_150 : decode cX12_atom 150 = .ok (.putfield 161, 3) := by decide +kernel
theorem dX12_atom_153 : decode cX12_atom 153 = .ok (.aload_n 0, 1) := by decide +kernel
theorem dX12_atom_154 : decode cX12_atom 154 = .ok (.iconst 1, 1) := by decide +kernel
theorem dX12_atom_155 : decode cX12_atom 155 = .ok (.iload_n 1, 1) := by decide +kernel
theorem dX12_atom_156 : decode cX12_atom 156 = .ok (.invokevirtual 202, 3) := by decide +kernel
theorem dX12_atom_159 : decode cX12_atom 159 = .ok (.iconst 1, 1) := by decide +kernel
theorem dX12_atom_160 : decode cX12_atom 160 = .ok (.ireturn, 1) := by decide +kernel
theorem dX12_product_0 : decode cX12_product 0 = .ok (.aload_n 0, 1) := by decide +kernel
theorem dX12_product_1 : decode cX12_product 1 = .ok (.invokevirtual 226, 3) := by decide +kernel
theorem dX12_product_4 : decode cX12_product 4 = .ok (.ifCond .ne 5, 3) := by decide +kernel
theorem dX12_product_7 : decode cX12_product 7 = .ok (.iconst 0, 1) := by decide +kernel
theorem dX12_product_8 : decode cX12_product 8 = .ok (.ireturn, 1) := by decide +kernel
theorem dX12_product_9 : decode cX12_product 9 = .ok (.aload_n 0, 1) := by decide +kernel
theorem dX12_product_10 : decode cX12_product 10 = .ok (.bipush 42, 2) := by decide +kernel
theorem dX12_product_12 : decode cX12_product 12 = .ok (.invokevirtual 213, 3) := by decide +kernel
theorem dX12_product_15 : decode cX12_product 15 = .ok (.ifCond .eq 7, 3) := by decide +kernel
theorem dX12_product_18 : decode cX12_product 18 = .ok (.iconst 5, 1) := by decide +kernel
theorem dX12_product_19 : decode cX12_product 19 = .ok (.goto 18, 3) := by decide +kernel
theorem dX12_product_22 : decode cX12_product 22 = .ok (.aload_n 0, 1) := by decide +kernel
theorem dX12_product_23 : decode cX12_product 23 = .ok (.bipush 47, 2) := by decide +kernel
theorem dX12_product_25 : decode cX12_product 25 = .ok (.invokevirtual 213, 3) := by decide +kernel
theorem dX12_product_28 : decode cX12_product 28 = .ok (.ifCond .eq 8, 3) := by decide +kernel
theorem dX12_product_31 : decode cX12_product 31 = .ok (.bipush 6, 2) := by decide +kernel
theorem dX12_product_33 : decode cX12_product 33 = .ok (.goto 4, 3) := by decide +kernel
theorem dX12_product_36 : decode cX12_product 36 = .ok (.iconst (-1), 1) := by decide +kernel
theorem dX12_product_37 : decode cX12_product 37 = .ok (.istore_n 1, 1) := by decide +kernel
theorem dX12_product_38 : decode cX12_product 38 = .ok (.iload_n 1, 1) := by decide +kernel
theorem dX12_product_39 : decode cX12_product 39 = .ok (.iconst (-1), 1) := by decide +kernel
theorem dX12_product_40 : decode cX12_product 40 = .ok (.if_icmp .ne 5, 3) := by decide +kernel
theorem dX12_product_43 : decode cX12_product 43 = .ok (.iconst 1, 1) := by decide +kernel
theorem dX12_product_44 : decode cX12_product 44 = .ok (.ireturn, 1) := by decide +kernel
theorem dX12_product_45 : decode cX12_product 45 = .ok (.aload_n 0, 1) := by decide +kernel
theorem dX12_product_46 : decode cX12_product 46 = .ok (.invokevirtual 226, 3) := by decide +kernel
theorem dX12_product_49 : decode cX12_product 49 = .ok (.ifCond .ne 5, 3) := by decide +kernel
theorem dX12_product_52 : decode cX12_product 52 = .ok (.iconst 0, 1) := by decide +kernel
theorem dX12_product_53 : decode cX12_product 53 = .ok (.ireturn, 1) := by decide +kernel
theorem dX12_product_54 : decode cX12_product 54 = .ok (.aload_n 0, 1) := by decide +kernel
theorem dX12_product_55 : decode cX12_product 55 = .ok (.iload_n 1, 1) := by decide +kernel
theorem dX12_product_56 : decode cX12_product 56 = .ok (.iconst 0, 1) := by decide +kernel
theorem dX12_product_57 : decode cX12_product 57 = .ok (.invokevirtual 202, 3) := by decide +kernel
theorem dX12_product_60 : decode cX12_product 60 = .ok (.goto (-51), 3) := by decide +kernel
theorem dX12_ex_0 : decode cX12_ex 0 = .ok (.aload_n 0, 1) := by decide +kernel
theorem dX12_ex_1 : decode cX12_ex 1 = .ok (.invokevirtual 229, 3) := by decide +kernel
theorem dX12_ex_4 : decode cX12_ex 4 = .ok (.ifCond .ne 5, 3) := by decide +kernel
theorem dX12_ex_7 : decode cX12_ex 7 = .ok (.iconst 0, 1) := by decide +kernel
theorem dX12_ex_8 : decode cX12_ex 8 = .ok (.ireturn, 1) := by decide +kernel
theorem dX12_ex_9 : decode cX12_ex 9 = .ok (.aload_n 0, 1) := by decide +kernel
theorem dX12_ex_10 : decode cX12_ex 10 = .ok (.bipush 43, 2) := by decide +kernel
theorem dX12_ex_12 : decode cX12_ex 12 = .ok (.invokevirtual 213, 3) := by decide +kernel
theorem dX12_ex_15 : decode cX12_ex 15 = .ok (.ifCond .eq 7, 3) := by decide +kernel
theorem dX12_ex_18 : decode cX12_ex 18 = .ok (.iconst 3, 1) := by decide +kernel
theorem dX12_ex_19 : decode cX12_ex 19 = .ok (.goto 17, 3) := by decide +kernel
theorem dX12_ex_22 : decode cX12_ex 22 = .ok (.aload_n 0, 1) := by decide +kernel
theorem dX12_ex_23 : decode cX12_ex 23 = .ok (.bipush 45, 2) := by decide +kernel
theorem dX12_ex_25 : decode cX12_ex 25 = .ok (.invokevirtual 213, 3) := by decide +kernel
theorem dX12_ex_28 : decode cX12_ex 28 = .ok (.ifCond .eq 7, 3) := by decide +kernel
theorem dX12_ex_31 : decode cX12_ex 31 = .ok (.iconst 4, 1) := by decide +kernel
theorem dX12_ex_32 : decode cX12_ex 32 = .ok (.goto 4, 3) := by decide +kernel
theorem dX12_ex_35 : decode cX12_ex 35 = .ok (.iconst (-1), 1) := by decide +kernel
theorem dX12_ex_36 : decode cX12_ex 36 = .ok (.istore_n 1, 1) := by decide +kernel
theorem dX12_ex_37 : decode cX12_ex 37 = .ok (.iload_n 1, 1) := by decide +kernel
theorem dX12_ex_38 : decode cX12_ex 38 = .ok (.iconst (-1), 1) := by decide +kernel
theorem dX12_ex_39 : decode cX12_ex 39 = .ok (.if_icmp .ne 5, 3) := by decide +kernel
theorem dX12_ex_42 : decode cX12_ex 42 = .ok (.iconst 1, 1) := by decide +kernel
theorem dX12_ex_43 : decode cX12_ex 43 = .ok (.ireturn, 1) := by decide +kernel
theorem dX12_ex_44 : decode cX12_ex 44 = .ok (.aload_n 0, 1) := by decide +kernel
theorem dX12_ex_45 : decode cX12_ex 45 = .ok (.invokevirtual 229, 3) := by decide +kernel
theorem dX12_ex_48 : decode cX12_ex 48 = .ok (.ifCond .ne 5, 3) := by decide +kernel
theorem dX12_ex_51 : decode cX12_ex 51 = .ok (.iconst 0, 1) := by decide +kernel
theorem dX12_ex_52 : decode cX12_ex 52 = .ok (.ireturn, 1) := by decide +kernel
theorem dX12_ex_53 : decode cX12_ex 53 = .ok (.aload_n 0, 1) := by decide +kernel
theorem dX12_ex_54 : decode cX12_ex 54 = .ok (.iload_n 1, 1) := by decide +kernel
theorem dX12_ex_55 : decode cX12_ex 55 = .ok (.iconst 0, 1) := by decide +kernel
theorem dX12_ex_56 : decode cX12_ex 56 = .ok (.invokevirtual 202, 3) := by decide +kernel
theorem dX12_ex_59 : decode cX12_ex 59 = .ok (.goto (-50), 3) := by decide +kernel
theorem dX12_single_0 : decode cX12_single 0 = .ok (.aload_n 0, 1) := by decide +kernel
theorem dX12_single_1 : decode cX12_single 1 = .ok (.invokevirtual 173, 3) := by decide +kernel
theorem dX12_single_4 : decode cX12_single 4 = .ok (.ldc2_w 232, 3) := by decide +kernel
theorem dX12_single_7 : decode cX12_single 7 = .ok (.lcmp, 1) := by decide +kernel
theorem dX12_single_8 : decode cX12_single 8 = .ok (.ifCond .ne 48, 3) := by decide +kernel
theorem dX12_single_11 : decode cX12_single 11 = .ok (.aload_n 0, 1) := by decide +kernel
theorem dX12_single_12 : decode cX12_single 12 = .ok (.invokevirtual 206, 3) := by decide +kernel
theorem dX12_single_15 : decode cX12_single 15 = .ok (.ifCond .ne 5, 3) := by decide +kernel
theorem dX12_single_18 : decode cX12_single 18 = .ok (.iconst 0, 1) := by decide +kernel
theorem dX12_single_19 : decode cX12_single 19 = .ok (.ireturn, 1) := by decide +kernel
theorem dX12_single_20 : decode cX12_single 20 = .ok (.aload_n 0, 1) := by decide +kernel
theorem dX12_single_21 : decode cX12_single 21 = .ok (.aload_n 0, 1) := by decide +kernel
theorem dX12_single_22 : decode cX12_single 22 = .ok (.getfield 170, 3) := by decide +kernel
theorem dX12_single_25 : decode cX12_single 25 = .ok (.putfield 161, 3) := by decide +kernel
theorem dX12_single_28 : decode cX12_single 28 = .ok (.aload_n 0, 1) := by decide +kernel
theorem dX12_single_29 : decode cX12_single 29 = .ok (.invokevirtual 234, 3) := by decide +kernel
theorem dX12_single_32 : decode cX12_single 32 = .ok (.ifCond .ne 5, 3) := by decide +kernel
theorem dX12_single_35 : decode cX12_single 35 = .ok (.iconst 0, 1) := by decide +kernel
theorem dX12_single_36 : decode cX12_single 36 = .ok (.ireturn, 1) := by decide +kernel
theorem dX12_single_37 : decode cX12_single 37 = .ok (.aload_n 0, 1) := by decide +kernel
theorem dX12_single_38 : decode cX12_single 38 = .ok (.dup, 1) := by decide +kernel
theorem dX12_single_39 : decode cX12_single 39 = .ok (.getfield 195, 3) := by decide +kernel
theorem dX12_single_42 : decode cX12_single 42 = .ok (.iconst 1, 1) := by decide +kernel
theorem dX12_single_43 : decode cX12_single 43 = .ok (.isub, 1) := by decide +kernel
theorem dX12_single_44 : decode cX12_single 44 = .ok (.putfield 195, 3) := by decide +kernel
theorem dX12_single_47 : decode cX12_single 47 = .ok (.aload_n 0, 1) := by decide +kernel
theorem dX12_single_48 : decode cX12_single 48 = .ok (.bipush 12, 2) := by decide +kernel
theorem dX12_single_50 : decode cX12_single 50 = .ok (.iconst 0, 1) := by decide +kernel
theorem dX12_single_51 : decode cX12_single 51 = .ok (.invokevirtual 202, 3) := by decide +kernel
theorem dX12_single_54 : decode cX12_single 54 = .ok (.iconst 1, 1) := by decide +kernel
theorem dX12_single_55 : decode cX12_single 55 = .ok (.ireturn, 1) := by decide +kernel
theorem dX12_single_56 : decode cX12_single 56 = .ok (.aload_n 0, 1) := by decide +kernel
theorem dX12_single_57 : decode cX12_single 57 = .ok (.getfield 161, 3) := by decide +kernel
theorem dX12_single_60 : decode cX12_single 60 = .ok (.aload_n 0, 1) := by decide +kernel
theorem dX12_single_61 : decode cX12_single 61 = .ok (.getfield 164, 3) := by decide +kernel
theorem dX12_single_64 : decode cX12_single 64 = .ok (.if_icmp .ge 66, 3) := by decide +kernel
theorem dX12_single_67 : decode cX12_single 67 = .ok (.aload_n 0, 1) := by decide +kernel
theorem dX12_single_68 : decode cX12_single 68 = .ok (.getfield 82, 3) := by decide +kernel
theorem dX12_single_71 : decode cX12_single 71 = .ok (.aload_n 0, 1) := by decide +kernel
theorem dX12_single_72 : decode cX12_single 72 = .ok (.getfield 161, 3) := by decide +kernel
theorem dX12_single_75 : decode cX12_single 75 = .ok (.baload, 1) := by decide +kernel
theorem dX12_single_76 : decode cX12_single 76 = .ok (.bipush 91, 2) := by decide +kernel
theorem dX12_single_78 : decode cX12_single 78 = .ok (.if_icmp .ne 52, 3) := by decide +kernel
theorem dX12_single_81 : decode cX12_single 81 = .ok (.aload_n 0, 1) := by decide +kernel
theorem dX12_single_82 : decode cX12_single 82 = .ok (.invokevirtual 206, 3) := by decide +kernel
theorem dX12_single_85 : decode cX12_single 85 = .ok (.ifCond .ne 5, 3) := by decide +kernel
theorem dX12_single_88 : decode cX12_single 88 = .ok (.iconst 0, 1) := by decide +kernel
theorem dX12_single_89 : decode cX12_single 89 = .ok (.ireturn, 1) := by decide +kernel
theorem dX12_single_90 : decode cX12_single 90 = .ok (.aload_n 0, 1) := by decide +kernel
theorem dX12_single_91 : decode cX12_single 91 = .ok (.dup, 1) := by decide +kernel
theorem dX12_single_92 : decode cX12_single 92 = .ok (.getfield 161, 3) := by decide +kernel
theorem dX12_single_95 : decode cX12_single 95 = .ok (.iconst 1, 1) := by decide +kernel
theorem dX12_single_96 : decode cX12_single 96 = .ok (.iadd, 1) := by decide +kernel
theorem dX12_single_97 : decode cX12_single 97 = .ok (.putfield 161, 3) := by decide +kernel
theorem dX12_single_100 : decode cX12_single 100 = .ok (.aload_n 0, 1) := by decide +kernel
theorem dX12_single_101 : decode cX12_single 101 = .ok (.invokevirtual 237, 3) := by decide +kernel
theorem dX12_single_104 : decode cX12_single 104 = .ok (.ifCond .eq 12, 3) := by decide +kernel
theorem dX12_single_107 : decode cX12_single 107 = .ok (.aload_n 0, 1) := by decide +kernel
theorem dX12_single_108 : decode cX12_single 108 = .ok (.bipush 93, 2) := by decide +kernel
theorem dX12_single_110 : decode cX12_single 110 = .ok (.invokevirtual 213, 3) := by decide +kernel
theorem dX12_single_113 : decode cX12_single 113 = .ok (.ifCond .ne 5, 3) := by decide +kernel
theorem dX12_single_116 : decode cX12_single 116 = .ok (.iconst 0, 1) := by decide +kernel
theorem dX12_single_117 : decode cX12_single 117 = .ok (.ireturn, 1) := by decide +kernel
theorem dX12_single_118 : decode cX12_single 118 = .ok (.aload_n 0, 1) := by decide +kernel
theorem dX12_single_119 : decode cX12_single 119 = .ok (.dup, 1) := by decide +kernel
theorem dX12_single_120 : decode cX12_single 120 = .ok (.getfield 195, 3) := by decide +kernel
theorem dX12_single_123 : decode cX12_single 123 = .ok (.iconst 1, 1) := by decide +kernel
theorem dX12_single_124 : decode cX12_single 124 = .ok (.isub, 1) := by decide +kernel
theorem dX12_single_125 : decode cX12_single 125 = .ok (.putfield 195, 3) := by decide +kernel
theorem dX12_single_128 : decode cX12_single 128 = .ok (.iconst 1, 1) := by decide +kernel
theorem dX12_single_129 : decode cX12_single 129 = .ok (.ireturn, 1) := by decide +kernel
theorem dX12_single_130 : decode cX12_single 130 = .ok (.aload_n 0, 1) := by decide +kernel
theorem dX12_single_131 : decode cX12_single 131 = .ok (.invokevirtual 210, 3) := by decide +kernel
theorem dX12_single_134 : decode cX12_single 134 = .ok (.ifCond .ne 5, 3) := by decide +kernel
theorem dX12_single_137 : decode cX12_single 137 = .ok (.iconst 0, 1) := by decide +kernel
theorem dX12_single_138 : decode cX12_single 138 = .ok (.ireturn, 1) := by decide +kernel
theorem dX12_single_139 : decode cX12_single 139 = .ok (.aload_n 0, 1) := by decide +kernel
theorem dX12_single_140 : decode cX12_single 140 = .ok (.bipush 60, 2) := by decide +kernel
theorem dX12_single_142 : decode cX12_single 142 = .ok (.invokevirtual 213, 3) := by decide +kernel
theorem dX12_single_145 : decode cX12_single 145 = .ok (.ifCond .eq 8, 3) := by decide +kernel
theorem dX12_single_148 : decode cX12_single 148 = .ok (.bipush 7, 2) := by decide +kernel
theorem dX12_single_150 : decode cX12_single 150 = .ok (.goto 32, 3) := by decide +kernel
theorem dX12_single_153 : decode cX12_single 153 = .ok (.aload_n 0, 1) := by decide +kernel
theorem dX12_single_154 : decode cX12_single 154 = .ok (.bipush 62, 2) := by decide +kernel
theorem dX12_single_156 : decode cX12_single 156 = .ok (.invokevirtual 213, 3) := by decide +kernel
theorem dX12_single_159 : decode cX12_single 159 = .ok (.ifCond .eq 8, 3) := by decide +kernel
theorem dX12_single_162 : decode cX12_single 162 = .ok (.bipush 8, 2) := by decide +kernel
theorem dX12_single_164 : decode cX12_single 164 = .ok (.goto 18, 3) := by decide +kernel
theorem dX12_single_167 : decode cX12_single 167 = .ok (.aload_n 0, 1) := by decide +kernel
theorem dX12_single_168 : decode cX12_single 168 = .ok (.bipush 61, 2) := by decide +kernel
theorem dX12_single_170 : decode cX12_single 170 = .ok (.invokevirtual 213, 3) := by decide +kernel
theorem dX12_single_173 : decode cX12_single 173 = .ok (.ifCond .eq 8, 3) := by decide +kernel
theorem dX12_single_176 : decode cX12_single 176 = .ok (.bipush 9, 2) := by decide +kernel
theorem dX12_single_178 : decode cX12_single 178 = .ok (.goto 4, 3) := by decide +kernel
theorem dX12_single_181 : decode cX12_single 181 = .ok (.iconst (-1), 1) := by decide +kernel
theorem dX12_single_182 : decode cX12_single 182 = .ok (.istore_n 1, 1) := by decide +kernel
theorem dX12_single_183 : decode cX12_single 183 = .ok (.iload_n 1, 1) := by decide +kernel
theorem dX12_single_184 : decode cX12_single 184 = .ok (.iconst (-1), 1) := by decide +kernel
theorem dX12_single_185 : decode cX12_single 185 = .ok (.if_icmp .eq 10, 3) := by decide +kernel
theorem dX12_single_188 : decode cX12_single 188 = .ok (.aload_n 0, 1) := by decide +kernel
theorem dX12_single_189 : decode cX12_single 189 = .ok (.invokevirtual 210, 3) := by decide +kernel
theorem dX12_single_192 : decode cX12_single 192 = .ok (.ifCond .ne 5, 3) := by decide +kernel
theorem dX12_single_195 : decode cX12_single 195 = .ok (.iconst 0, 1) := by decide +kernel
theorem dX12_single_196 : decode cX12_single 196 = .ok (.ireturn, 1) := by decide +kernel
theorem dX12_single_197 : decode cX12_single 197 = .ok (.aload_n 0, 1) := by decide +kernel
theorem dX12_single_198 : decode cX12_single 198 = .ok (.iload_n 1, 1) := by decide +kernel
theorem dX12_single_199 : decode cX12_single 199 = .ok (.iconst 0, 1) := by decide +kernel
theorem dX12_single_200 : decode cX12_single 200 = .ok (.invokevirtual 202, 3) := by decide +kernel
theorem dX12_single_203 : decode cX12_single 203 = .ok (.iconst 1, 1) := by decide +kernel
theorem dX12_single_204 : decode cX12_single 204 = .ok (.ireturn, 1) := by decide +kernel
theorem dX12_all_0 : decode cX12_all 0 = .ok (.aload_n 0, 1) := by decide +kernel
theorem dX12_all_1 : decode cX12_all 1 = .ok (.invokevirtual 234, 3) := by decide +kernel
theorem dX12_all_4 : decode cX12_all 4 = .ok (.ifCond .ne 5, 3) := by decide +kernel
theorem dX12_all_7 : decode cX12_all 7 = .ok (.iconst 0, 1) := by decide +kernel
theorem dX12_all_8 : decode cX12_all 8 = .ok (.ireturn, 1) := by decide +kernel
theorem dX12_all_9 : decode cX12_all 9 = .ok (.aload_n 0, 1) := by decide +kernel
theorem dX12_all_10 : decode cX12_all 10 = .ok (.ldc2_w 240, 3) := by decide +kernel
theorem dX12_all_13 : decode cX12_all 13 = .ok (.invokevirtual 218, 3) := by decide +kernel
theorem dX12_all_16 : decode cX12_all 16 = .ok (.ifCond .eq 22, 3) := by decide +kernel
theorem dX12_all_19 : decode cX12_all 19 = .ok (.aload_n 0, 1) := by decide +kernel
theorem dX12_all_20 : decode cX12_all 20 = .ok (.invokevirtual 234, 3) := by decide +kernel
theorem dX12_all_23 : decode cX12_all 23 = .ok (.ifCond .ne 5, 3) := by decide +kernel
theorem dX12_all_26 : decode cX12_all 26 = .ok (.iconst 0, 1) := by decide +kernel
theorem dX12_all_27 : decode cX12_all 27 = .ok (.ireturn, 1) := by decide +kernel
theorem dX12_all_28 : decode cX12_all 28 = .ok (.aload_n 0, 1) := by decide +kernel
theorem dX12_all_29 : decode cX12_all 29 = .ok (.bipush 11, 2) := by decide +kernel
theorem dX12_all_31 : decode cX12_all 31 = .ok (.iconst 0, 1) := by decide +kernel
theorem dX12_all_32 : decode cX12_all 32 = .ok (.invokevirtual 202, 3) := by decide +kernel
theorem dX12_all_35 : decode cX12_all 35 = .ok (.goto (-26), 3) := by decide +kernel
theorem dX12_all_38 : decode cX12_all 38 = .ok (.iconst 1, 1) := by decide +kernel
theorem dX12_all_39 : decode cX12_all 39 = .ok (.ireturn, 1) := by decide +kernel
theorem dX12_any_0 : decode cX12_any 0 = .ok (.aload_n 0, 1) := by decide +kernel
theorem dX12_any_1 : decode cX12_any 1 = .ok (.invokevirtual 242, 3) := by decide +kernel
theorem dX12_any_4 : decode cX12_any 4 = .ok (.ifCond .ne 5, 3) := by decide +kernel
theorem dX12_any_7 : decode cX12_any 7 = .ok (.iconst 0, 1) := by decide +kernel
theorem dX12_any_8 : decode cX12_any 8 = .ok (.ireturn, 1) := by decide +kernel
theorem dX12_any_9 : decode cX12_any 9 = .ok (.aload_n 0, 1) := by decide +kernel
theorem dX12_any_10 : decode cX12_any 10 = .ok (.ldc2_w 245, 3) := by decide +kernel
theorem dX12_any_13 : decode cX12_any 13 = .ok (.invokevirtual 218, 3) := by decide +kernel
theorem dX12_any_16 : decode cX12_any 16 = .ok (.ifCond .eq 22, 3) := by decide +kernel
theorem dX12_any_19 : decode cX12_any 19 = .ok (.aload_n 0, 1) := by decide +kernel
theorem dX12_any_20 : decode cX12_any 20 = .ok (.invokevirtual 242, 3) := by decide +kernel
theorem dX12_any_23 : decode cX12_any 23 = .ok (.ifCond .ne 5, 3) := by decide +kernel
theorem dX12_any_26 : decode cX12_any 26 = .ok (.iconst 0, 1) := by decide +kernel
theorem dX12_any_27 : decode cX12_any 27 = .ok (.ireturn, 1) := by decide +kernel
theorem dX12_any_28 : decode cX12_any 28 = .ok (.aload_n 0, 1) := by decide +kernel
theorem dX12_any_29 : decode cX12_any 29 = .ok (.bipush 10, 2) := by decide +kernel
theorem dX12_any_31 : decode cX12_any 31 = .ok (.iconst 0, 1) := by decide +kernel
theorem dX12_any_32 : decode cX12_any 32 = .ok (.invokevirtual 202, 3) := by decide +kernel
theorem dX12_any_35 : decode cX12_any 35 = .ok (.goto (-26), 3) := by decide +kernel
theorem dX12_any_38 : decode cX12_any 38 = .ok (.iconst 1, 1) := by decide +kernel
theorem dX12_any_39 : decode cX12_any 39 = .ok (.ireturn, 1) := by decide +kernel
theorem dX12_statement_0 : decode cX12_statement 0 = .ok (.aload_n 0, 1) := by decide +kernel
theorem dX12_statement_1 : decode cX12_statement 1 = .ok (.getfield 53, 3) := by decide +kernel
theorem dX12_statement_4 : decode cX12_statement 4 = .ok (.iload_n 1, 1) := by decide +kernel
theorem dX12_statement_5 : decode cX12_statement 5 = .ok (.aload_n 0, 1) := by decide +kernel
theorem dX12_statement_6 : decode cX12_statement 6 = .ok (.ldc2_w 247, 3) := by decide +kernel
theorem dX12_statement_9 : decode cX12_statement 9 = .ok (.invokevirtual 218, 3) := by decide +kernel
theorem dX12_statement_12 : decode cX12_statement 12 = .ok (.ifCond .eq 7, 3) := by decide +kernel
theorem dX12_statement_15 : decode cX12_statement 15 = .ok (.iconst 0, 1) := by decide +kernel
theorem dX12_statement_16 : decode cX12_statement 16 = .ok (.goto 18, 3) := by decide +kernel
theorem dX12_statement_19 : decode cX12_statement 19 = .ok (.aload_n 0, 1) := by decide +kernel
theorem dX12_statement_20 : decode cX12_statement 20 = .ok (.ldc2_w 249, 3) := by decide +kernel
theorem dX12_statement_23 : decode cX12_statement 23 = .ok (.invokevirtual 218, 3) := by decide +kernel
theorem dX12_statement_26 : decode cX12_statement 26 = .ok (.ifCond .eq 7, 3) := by decide +kernel
theorem dX12_statement_29 : decode cX12_statement 29 = .ok (.iconst 1, 1) := by decide +kernel
theorem dX12_statement_30 : decode cX12_statement 30 = .ok (.goto 4, 3) := by decide +kernel
theorem dX12_statement_33 : decode cX12_statement 33 = .ok (.iconst (-1), 1) := by decide +kernel
theorem dX12_statement_34 : decode cX12_statement 34 = .ok (.iastore, 1) := by decide +kernel
theorem dX12_statement_35 : decode cX12_statement 35 = .ok (.aload_n 0, 1) := by decide +kernel
theorem dX12_statement_36 : decode cX12_statement 36 = .ok (.getfield 53, 3) := by decide +kernel
theorem dX12_statement_39 : decode cX12_statement 39 = .ok (.iload_n 1, 1) := by decide +kernel
theorem dX12_statement_40 : decode cX12_statement 40 = .ok (.iaload, 1) := by decide +kernel
theorem dX12_statement_41 : decode cX12_statement 41 = .ok (.iconst (-1), 1) := by decide +kernel
theorem dX12_statement_42 : decode cX12_statement 42 = .ok (.if_icmp .ne 5, 3) := by decide +kernel
theorem dX12_statement_45 : decode cX12_statement 45 = .ok (.iconst 0, 1) := by decide +kernel
theorem dX12_statement_46 : decode cX12_statement 46 = .ok (.ireturn, 1) := by decide +kernel
theorem dX12_statement_47 : decode cX12_statement 47 = .ok (.aload_n 0, 1) := by decide +kernel
theorem dX12_statement_48 : decode cX12_statement 48 = .ok (.iconst 0, 1) := by decide +kernel
theorem dX12_statement_49 : decode cX12_statement 49 = .ok (.putfield 195, 3) := by decide +kernel
theorem dX12_statement_52 : decode cX12_statement 52 = .ok (.aload_n 0, 1) := by decide +kernel
theorem dX12_statement_53 : decode cX12_statement 53 = .ok (.getfield 56, 3) := by decide +kernel
theorem dX12_statement_56 : decode cX12_statement 56 = .ok (.iload_n 1, 1) := by decide +kernel
theorem dX12_statement_57 : decode cX12_statement 57 = .ok (.aload_n 0, 1) := by decide +kernel
theorem dX12_statement_58 : decode cX12_statement 58 = .ok (.getfield 192, 3) := by decide +kernel
theorem dX12_statement_61 : decode cX12_statement 61 = .ok (.iastore, 1) := by decide +kernel
theorem dX12_statement_62 : decode cX12_statement 62 = .ok (.aload_n 0, 1) := by decide +kernel
theorem dX12_statement_63 : decode cX12_statement 63 = .ok (.getfield 53, 3) := by decide +kernel
theorem dX12_statement_66 : decode cX12_statement 66 = .ok (.iload_n 1, 1) := by decide +kernel
theorem dX12_statement_67 : decode cX12_statement 67 = .ok (.iaload, 1) := by decide +kernel
theorem dX12_statement_68 : decode cX12_statement 68 = .ok (.ifCond .ne 12, 3) := by decide +kernel
theorem dX12_statement_71 : decode cX12_statement 71 = .ok (.aload_n 0, 1) := by decide +kernel
theorem dX12_statement_72 : decode cX12_statement 72 = .ok (.invokevirtual 210, 3) := by decide +kernel
theorem dX12_statement_75 : decode cX12_statement 75 = .ok (.ifCond .ne 5, 3) := by decide +kernel
theorem dX12_statement_78 : decode cX12_statement 78 = .ok (.iconst 0, 1) := by decide +kernel
theorem dX12_statement_79 : decode cX12_statement 79 = .ok (.ireturn, 1) := by decide +kernel
theorem dX12_statement_80 : decode cX12_statement 80 = .ok (.aload_n 0, 1) := by decide +kernel
theorem dX12_statement_81 : decode cX12_statement 81 = .ok (.getfield 59, 3) := by decide +kernel
theorem dX12_statement_84 : decode cX12_statement 84 = .ok (.iload_n 1, 1) := by decide +kernel
theorem dX12_statement_85 : decode cX12_statement 85 = .ok (.aload_n 0, 1) := by decide +kernel
theorem dX12_statement_86 : decode cX12_statement 86 = .ok (.getfield 192, 3) := by decide +kernel
theorem dX12_statement_89 : decode cX12_statement 89 = .ok (.iastore, 1) := by decide +kernel
theorem dX12_statement_90 : decode cX12_statement 90 = .ok (.aload_n 0, 1) := by decide +kernel
theorem dX12_statement_91 : decode cX12_statement 91 = .ok (.ldc2_w 251, 3) := by decide +kernel
theorem dX12_statement_94 : decode cX12_statement 94 = .ok (.invokevirtual 218, 3) := by decide +kernel
theorem dX12_statement_97 : decode cX12_statement 97 = .ok (.ifCond .eq 12, 3) := by decide +kernel
theorem dX12_statement_100 : decode cX12_statement 100 = .ok (.aload_n 0, 1) := by decide +kernel
theorem dX12_statement_101 : decode cX12_statement 101 = .ok (.invokevirtual 237, 3) := by decide +kernel
theorem dX12_statement_104 : decode cX12_statement 104 = .ok (.ifCond .ne 5, 3) := by decide +kernel
theorem dX12_statement_107 : decode cX12_statement 107 = .ok (.iconst 0, 1) := by decide +kernel
theorem dX12_statement_108 : decode cX12_statement 108 = .ok (.ireturn, 1) := by decide +kernel
theorem dX12_statement_109 : decode cX12_statement 109 = .ok (.aload_n 0, 1) := by decide +kernel
theorem dX12_statement_110 : decode cX12_statement 110 = .ok (.getfield 62, 3) := by decide +kernel
theorem dX12_statement_113 : decode cX12_statement 113 = .ok (.iload_n 1, 1) := by decide +kernel
theorem dX12_statement_114 : decode cX12_statement 114 = .ok (.aload_n 0, 1) := by decide +kernel
theorem dX12_statement_115 : decode cX12_statement 115 = .ok (.getfield 192, 3) := by decide +kernel
theorem dX12_statement_118 : decode cX12_statement 118 = .ok (.iastore, 1) := by decide +kernel
theorem dX12_statement_119 : decode cX12_statement 119 = .ok (.aload_n 0, 1) := by decide +kernel
theorem dX12_statement_120 : decode cX12_statement 120 = .ok (.bipush 59, 2) := by decide +kernel
theorem dX12_statement_122 : decode cX12_statement 122 = .ok (.invokevirtual 213, 3) := by decide +kernel
theorem dX12_statement_125 : decode cX12_statement 125 = .ok (.ireturn, 1) := by decide +kernel
theorem dX12_reads_0 : decode cX12_reads 0 = .ok (.iconst 0, 1) := by decide +kernel
theorem dX12_reads_1 : decode cX12_reads 1 = .ok (.istore_n 2, 1) := by decide +kernel
theorem dX12_reads_2 : decode cX12_reads 2 = .ok (.iload_n 2, 1) := by decide +kernel
theorem dX12_reads_3 : decode cX12_reads 3 = .ok (.iload_n 1, 1) := by decide +kernel
theorem dX12_reads_4 : decode cX12_reads 4 = .ok (.if_icmp .ge 21, 3) := by decide +kernel
theorem dX12_reads_7 : decode cX12_reads 7 = .ok (.aload_n 0, 1) := by decide +kernel
theorem dX12_reads_8 : decode cX12_reads 8 = .ok (.getfield 82, 3) := by decide +kernel
theorem dX12_reads_11 : decode cX12_reads 11 = .ok (.iload_n 2, 1) := by decide +kernel
theorem dX12_reads_12 : decode cX12_reads 12 = .ok (.aload_n 0, 1) := by decide +kernel
theorem dX12_reads_13 : decode cX12_reads 13 = .ok (.getfield 78, 3) := by decide +kernel
theorem dX12_reads_16 : decode cX12_reads 16 = .ok (.iload_n 2, 1) := by decide +kernel
theorem dX12_reads_17 : decode cX12_reads 17 = .ok (.baload, 1) := by decide +kernel
theorem dX12_reads_18 : decode cX12_reads 18 = .ok (.bastore, 1) := by decide +kernel
theorem dX12_reads_19 : decode cX12_reads 19 = .ok (.iinc 2 1, 3) := by decide +kernel
theorem dX12_reads_22 : decode cX12_reads 22 = .ok (.goto (-20), 3) := by decide +kernel
theorem dX12_reads_25 : decode cX12_reads 25 = .ok (.aload_n 0, 1) := by decide +kernel
theorem dX12_reads_26 : decode cX12_reads 26 = .ok (.iload_n 1, 1) := by decide +kernel
theorem dX12_reads_27 : decode cX12_reads 27 = .ok (.putfield 164, 3) := by decide +kernel
theorem dX12_reads_30 : decode cX12_reads 30 = .ok (.aload_n 0, 1) := by decide +kernel
theorem dX12_reads_31 : decode cX12_reads 31 = .ok (.iconst 0, 1) := by decide +kernel
theorem dX12_reads_32 : decode cX12_reads 32 = .ok (.putfield 154, 3) := by decide +kernel
theorem dX12_reads_35 : decode cX12_reads 35 = .ok (.aload_n 0, 1) := by decide +kernel
theorem dX12_reads_36 : decode cX12_reads 36 = .ok (.iconst 0, 1) := by decide +kernel
theorem dX12_reads_37 : decode cX12_reads 37 = .ok (.putfield 161, 3) := by decide +kernel
theorem dX12_reads_40 : decode cX12_reads 40 = .ok (.aload_n 0, 1) := by decide +kernel
theorem dX12_reads_41 : decode cX12_reads 41 = .ok (.sipush 4500, 3) := by decide +kernel
theorem dX12_reads_44 : decode cX12_reads 44 = .ok (.putfield 192, 3) := by decide +kernel
theorem dX12_reads_47 : decode cX12_reads 47 = .ok (.aload_n 0, 1) := by decide +kernel
theorem dX12_reads_48 : decode cX12_reads 48 = .ok (.getfield 50, 3) := by decide +kernel
theorem dX12_reads_51 : decode cX12_reads 51 = .ok (.bipush 9, 2) := by decide +kernel
theorem dX12_reads_53 : decode cX12_reads 53 = .ok (.iconst 0, 1) := by decide +kernel
theorem dX12_reads_54 : decode cX12_reads 54 = .ok (.iastore, 1) := by decide +kernel
theorem dX12_reads_55 : decode cX12_reads 55 = .ok (.iconst 1, 1) := by decide +kernel
theorem dX12_reads_56 : decode cX12_reads 56 = .ok (.istore_n 2, 1) := by decide +kernel
theorem dX12_reads_57 : decode cX12_reads 57 = .ok (.aload_n 0, 1) := by decide +kernel
theorem dX12_reads_58 : decode cX12_reads 58 = .ok (.invokevirtual 167, 3) := by decide +kernel
theorem dX12_reads_61 : decode cX12_reads 61 = .ok (.iload_n 2, 1) := by decide +kernel
theorem dX12_reads_62 : decode cX12_reads 62 = .ok (.ifCond .eq 75, 3) := by decide +kernel
theorem dX12_reads_65 : decode cX12_reads 65 = .ok (.aload_n 0, 1) := by decide +kernel
theorem dX12_reads_66 : decode cX12_reads 66 = .ok (.getfield 161, 3) := by decide +kernel
theorem dX12_reads_69 : decode cX12_reads 69 = .ok (.aload_n 0, 1) := by decide +kernel
theorem dX12_reads_70 : decode cX12_reads 70 = .ok (.getfield 164, 3) := by decide +kernel
theorem dX12_reads_73 : decode cX12_reads 73 = .ok (.if_icmp .ge 64, 3) := by decide +kernel
theorem dX12_reads_76 : decode cX12_reads 76 = .ok (.aload_n 0, 1) := by decide +kernel
theorem dX12_reads_77 : decode cX12_reads 77 = .ok (.getfield 50, 3) := by decide +kernel
theorem dX12_reads_80 : decode cX12_reads 80 = .ok (.bipush 9, 2) := by decide +kernel
theorem dX12_reads_82 : decode cX12_reads 82 = .ok (.iaload, 1) := by decide +kernel
theorem dX12_reads_83 : decode cX12_reads 83 = .ok (.bipush 16, 2) := by decide +kernel
theorem dX12_reads_85 : decode cX12_reads 85 = .ok (.if_icmp .ge 25, 3) := by decide +kernel
theorem dX12_reads_88 : decode cX12_reads 88 = .ok (.aload_n 0, 1) := by decide +kernel
theorem dX12_reads_89 : decode cX12_reads 89 = .ok (.sipush 144, 3) := by decide +kernel
theorem dX12_reads_92 : decode cX12_reads 92 = .ok (.aload_n 0, 1) := by decide +kernel
theorem dX12_reads_93 : decode cX12_reads 93 = .ok (.getfield 50, 3) := by decide +kernel
theorem dX12_reads_96 : decode cX12_reads 96 = .ok (.bipush 9, 2) := by decide +kernel
theorem dX12_reads_98 : decode cX12_reads 98 = .ok (.iaload, 1) := by decide +kernel
theorem dX12_reads_99 : decode cX12_reads 99 = .ok (.iadd, 1) := by decide +kernel
theorem dX12_reads_100 : decode cX12_reads 100 = .ok (.invokevirtual 253, 3) := by decide +kernel
theorem dX12_reads_103 : decode cX12_reads 103 = .ok (.ifCond .eq 7, 3) := by decide +kernel
theorem dX12_reads_106 : decode cX12_reads 106 = .ok (.iconst 1, 1) := by decide +kernel
theorem dX12_reads_107 : decode cX12_reads 107 = .ok (.goto 4, 3) := by decide +kernel
theorem dX12_reads_110 : decode cX12_reads 110 = .ok (.iconst 0, 1) := by decide +kernel
theorem dX12_reads_111 : decode cX12_reads 111 = .ok (.istore_n 2, 1) := by decide +kernel
theorem dX12_reads_112 : decode cX12_reads 112 = .ok (.iload_n 2, 1) := by decide +kernel
theorem dX12_reads_113 : decode cX12_reads 113 = .ok (.ifCond .ne 6, 3) := by decide +kernel
theorem dX12_reads_116 : decode cX12_reads 116 = .ok (.goto (-55), 3) := by decide +kernel
theorem dX12_reads_119 : decode cX12_reads 119 = .ok (.aload_n 0, 1) := by decide +kernel
theorem dX12_reads_120 : decode cX12_reads 120 = .ok (.getfield 50, 3) := by decide +kernel
theorem dX12_reads_123 : decode cX12_reads 123 = .ok (.bipush 9, 2) := by decide +kernel
theorem dX12_reads_125 : decode cX12_reads 125 = .ok (.dup2, 1) := by decide +kernel
theorem dX12_reads_126 : decode cX12_reads 126 = .ok (.iaload, 1) := by decide +kernel
theorem dX12_reads_127 : decode cX12_reads 127 = .ok (.iconst 1, 1) := by decide +kernel
theorem dX12_reads_128 : decode cX12_reads 128 = .ok (.iadd, 1) := by decide +kernel
theorem dX12_reads_129 : decode cX12_reads 129 = .ok (.iastore, 1) := by decide +kernel
theorem dX12_reads_130 : decode cX12_reads 130 = .ok (.aload_n 0, 1) := by decide +kernel
theorem dX12_reads_131 : decode cX12_reads 131 = .ok (.invokevirtual 167, 3) := by decide +kernel
theorem dX12_reads_134 : decode cX12_reads 134 = .ok (.goto (-73), 3) := by decide +kernel
theorem dX12_reads_137 : decode cX12_reads 137 = .ok (.aload_n 0, 1) := by decide +kernel
theorem dX12_reads_138 : decode cX12_reads 138 = .ok (.iload_n 2, 1) := by decide +kernel
theorem dX12_reads_139 : decode cX12_reads 139 = .ok (.ifCond .eq 7, 3) := by decide +kernel
theorem dX12_reads_142 : decode cX12_reads 142 = .ok (.iconst (-1), 1) := by decide +kernel
theorem dX12_reads_143 : decode cX12_reads 143 = .ok (.goto 7, 3) := by decide +kernel
theorem dX12_reads_146 : decode cX12_reads 146 = .ok (.aload_n 0, 1) := by decide +kernel
theorem dX12_reads_147 : decode cX12_reads 147 = .ok (.getfield 161, 3) := by decide +kernel
theorem dX12_reads_150 : decode cX12_reads 150 = .ok (.putfield 44, 3) := by decide +kernel
theorem dX12_reads_153 : decode cX12_reads 153 = .ok (.iload_n 2, 1) := by decide +kernel
theorem dX12_reads_154 : decode cX12_reads 154 = .ok (.ireturn, 1) := by decide +kernel
theorem dX12_becomes_0 : decode cX12_becomes 0 = .ok (.sipush 500, 3) := by decide +kernel
theorem dX12_becomes_3 : decode cX12_becomes 3 = .ok (.iload_n 1, 1) := by decide +kernel
theorem dX12_becomes_4 : decode cX12_becomes 4 = .ok (.bipush 9, 2) := by decide +kernel
theorem dX12_becomes_6 : decode cX12_becomes 6 = .ok (.isub, 1) := by decide +kernel
theorem dX12_becomes_7 : decode cX12_becomes 7 = .ok (.imul, 1) := by decide +kernel
theorem dX12_becomes_8 : decode cX12_becomes 8 = .ok (.istore_n 2, 1) := by decide +kernel
theorem dX12_becomes_9 : decode cX12_becomes 9 = .ok (.aload_n 0, 1) := by decide +kernel
theorem dX12_becomes_10 : decode cX12_becomes 10 = .ok (.getfield 50, 3) := by decide +kernel
theorem dX12_becomes_13 : decode cX12_becomes 13 = .ok (.iload_n 1, 1) := by decide +kernel
theorem dX12_becomes_14 : decode cX12_becomes 14 = .ok (.aload_n 0, 1) := by decide +kernel
theorem dX12_becomes_15 : decode cX12_becomes 15 = .ok (.getfield 50, 3) := by decide +kernel
theorem dX12_becomes_18 : decode cX12_becomes 18 = .ok (.bipush 9, 2) := by decide +kernel
theorem dX12_becomes_20 : decode cX12_becomes 20 = .ok (.iaload, 1) := by decide +kernel
theorem dX12_becomes_21 : decode cX12_becomes 21 = .ok (.iastore, 1) := by decide +kernel
theorem dX12_becomes_22 : decode cX12_becomes 22 = .ok (.iconst 0, 1) := by decide +kernel
theorem dX12_becomes_23 : decode cX12_becomes 23 = .ok (.istore_n 3, 1) := by decide +kernel
theorem dX12_becomes_24 : decode cX12_becomes 24 = .ok (.iload_n 3, 1) := by decide +kernel
theorem dX12_becomes_25 : decode cX12_becomes 25 = .ok (.aload_n 0, 1) := by decide +kernel
theorem dX12_becomes_26 : decode cX12_becomes 26 = .ok (.getfield 50, 3) := by decide +kernel
theorem dX12_becomes_29 : decode cX12_becomes 29 = .ok (.iload_n 1, 1) := by decide +kernel
theorem dX12_becomes_30 : decode cX12_becomes 30 = .ok (.iaload, 1) := by decide +kernel
theorem dX12_becomes_31 : decode cX12_becomes 31 = .ok (.if_icmp .ge 86, 3) := by decide +kernel
theorem dX12_becomes_34 : decode cX12_becomes 34 = .ok (.sipush 144, 3) := by decide +kernel
theorem dX12_becomes_37 : decode cX12_becomes 37 = .ok (.iload_n 3, 1) := by decide +kernel
theorem dX12_becomes_38 : decode cX12_becomes 38 = .ok (.iadd, 1) := by decide +kernel
theorem dX12_becomes_39 : decode cX12_becomes 39 = .ok (.istore 4, 2) := by decide +kernel
theorem dX12_becomes_41 : decode cX12_becomes 41 = .ok (.bipush 16, 2) := by decide +kernel
theorem dX12_becomes_43 : decode cX12_becomes 43 = .ok (.iload_n 1, 1) := by decide +kernel
theorem dX12_becomes_44 : decode cX12_becomes 44 = .ok (.imul, 1) := by decide +kernel
theorem dX12_becomes_45 : decode cX12_becomes 45 = .ok (.iload_n 3, 1) := by decide +kernel
theorem dX12_becomes_46 : decode cX12_becomes 46 = .ok (.iadd, 1) := by decide +kernel
theorem dX12_becomes_47 : decode cX12_becomes 47 = .ok (.istore 5, 2) := by decide +kernel
theorem dX12_becomes_49 : decode cX12_becomes 49 = .ok (.aload_n 0, 1) := by decide +kernel
theorem dX12_becomes_50 : decode cX12_becomes 50 = .ok (.getfield 53, 3) := by decide +kernel
theorem dX12_becomes_53 : decode cX12_becomes 53 = .ok (.iload 5, 2) := by decide +kernel
theorem dX12_becomes_55 : decode cX12_becomes 55 = .ok (.aload_n 0, 1) := by decide +kernel
theorem dX12_becomes_56 : decode cX12_becomes 56 = .ok (.getfield 53, 3) := by decide +kernel
theorem dX12_becomes_59 : decode cX12_becomes 59 = .ok (.iload 4, 2) := by decide +kernel
theorem dX12_becomes_61 : decode cX12_becomes 61 = .ok (.iaload, 1) := by decide +kernel
theorem dX12_becomes_62 : decode cX12_becomes 62 = .ok (.iastore, 1) := by decide +kernel
theorem dX12_becomes_63 : decode cX12_becomes 63 = .ok (.aload_n 0, 1) := by decide +kernel
theorem dX12_becomes_64 : decode cX12_becomes 64 = .ok (.getfield 56, 3) := by decide +kernel
theorem dX12_becomes_67 : decode cX12_becomes 67 = .ok (.iload 5, 2) := by decide +kernel
theorem dX12_becomes_69 : decode cX12_becomes 69 = .ok (.aload_n 0, 1) := by decide +kernel
theorem dX12_becomes_70 : decode cX12_becomes 70 = .ok (.getfield 56, 3) := by decide +kernel
theorem dX12_becomes_73 : decode cX12_becomes 73 = .ok (.iload 4, 2) := by decide +kernel
theorem dX12_becomes_75 : decode cX12_becomes 75 = .ok (.iaload, 1) := by decide +kernel
theorem dX12_becomes_76 : decode cX12_becomes 76 = .ok (.iload_n 2, 1) := by decide +kernel
theorem dX12_becomes_77 : decode cX12_becomes 77 = .ok (.iadd, 1) := by decide +kernel
theorem dX12_becomes_78 : decode cX12_becomes 78 = .ok (.iastore, 1) := by decide +kernel
theorem dX12_becomes_79 : decode cX12_becomes 79 = .ok (.aload_n 0, 1) := by decide +kernel
theorem dX12_becomes_80 : decode cX12_becomes 80 = .ok (.getfield 59, 3) := by decide +kernel
theorem dX12_becomes_83 : decode cX12_becomes 83 = .ok (.iload 5, 2) := by decide +kernel
theorem dX12_becomes_85 : decode cX12_becomes 85 = .ok (.aload_n 0, 1) := by decide +kernel
theorem dX12_becomes_86 : decode cX12_becomes 86 = .ok (.getfield 59, 3) := by decide +kernel
theorem dX12_becomes_89 : decode cX12_becomes 89 = .ok (.iload 4, 2) := by decide +kernel
theorem dX12_becomes_91 : decode cX12_becomes 91 = .ok (.iaload, 1) := by decide +kernel
theorem dX12_becomes_92 : decode cX12_becomes 92 = .ok (.iload_n 2, 1) := by decide +kernel
theorem dX12_becomes_93 : decode cX12_becomes 93 = .ok (.iadd, 1) := by decide +kernel
theorem dX12_becomes_94 : decode cX12_becomes 94 = .ok (.iastore, 1) := by decide +kernel
theorem dX12_becomes_95 : decode cX12_becomes 95 = .ok (.aload_n 0, 1) := by decide +kernel
theorem dX12_becomes_96 : decode cX12_becomes 96 = .ok (.getfield 62, 3) := by decide +kernel
theorem dX12_becomes_99 : decode cX12_becomes 99 = .ok (.iload 5, 2) := by decide +kernel
theorem dX12_becomes_101 : decode cX12_becomes 101 = .ok (.aload_n 0, 1) := by decide +kernel
theorem dX12_becomes_102 : decode cX12_becomes 102 = .ok (.getfield 62, 3) := by decide +kernel
theorem dX12_becomes_105 : decode cX12_becomes 105 = .ok (.iload 4, 2) := by decide +kernel
theorem dX12_becomes_107 : decode cX12_becomes 107 = .ok (.iaload, 1) := by decide +kernel
theorem dX12_becomes_108 : decode cX12_becomes 108 = .ok (.iload_n 2, 1) := by decide +kernel
theorem dX12_becomes_109 : decode cX12_becomes 109 = .ok (.iadd, 1) := by decide +kernel
theorem dX12_becomes_110 : decode cX12_becomes 110 = .ok (.iastore, 1) := by decide +kernel
theorem dX12_becomes_111 : decode cX12_becomes 111 = .ok (.iinc 3 1, 3) := by decide +kernel
theorem dX12_becomes_114 : decode cX12_becomes 114 = .ok (.goto (-90), 3) := by decide +kernel
theorem dX12_becomes_117 : decode cX12_becomes 117 = .ok (.sipush 4500, 3) := by decide +kernel
theorem dX12_becomes_120 : decode cX12_becomes 120 = .ok (.istore_n 3, 1) := by decide +kernel
theorem dX12_becomes_121 : decode cX12_becomes 121 = .ok (.iload_n 3, 1) := by decide +kernel
theorem dX12_becomes_122 : decode cX12_becomes 122 = .ok (.aload_n 0, 1) := by decide +kernel
theorem dX12_becomes_123 : decode cX12_becomes 123 = .ok (.getfield 192, 3) := by decide +kernel
theorem dX12_becomes_126 : decode cX12_becomes 126 = .ok (.if_icmp .ge 37, 3) := by decide +kernel
theorem dX12_becomes_129 : decode cX12_becomes 129 = .ok (.aload_n 0, 1) := by decide +kernel
theorem dX12_becomes_130 : decode cX12_becomes 130 = .ok (.getfield 65, 3) := by decide +kernel
theorem dX12_becomes_133 : decode cX12_becomes 133 = .ok (.iload_n 3, 1) := by decide +kernel
theorem dX12_becomes_134 : decode cX12_becomes 134 = .ok (.iload_n 2, 1) := by decide +kernel
theorem dX12_becomes_135 : decode cX12_becomes 135 = .ok (.iadd, 1) := by decide +kernel
theorem dX12_becomes_136 : decode cX12_becomes 136 = .ok (.aload_n 0, 1) := by decide +kernel
theorem dX12_becomes_137 : decode cX12_becomes 137 = .ok (.getfield 65, 3) := by decide +kernel
theorem dX12_becomes_140 : decode cX12_becomes 140 = .ok (.iload_n 3, 1) := by decide +kernel
theorem dX12_becomes_141 : decode cX12_becomes 141 = .ok (.iaload, 1) := by decide +kernel
theorem dX12_becomes_142 : decode cX12_becomes 142 = .ok (.iastore, 1) := by decide +kernel
theorem dX12_becomes_143 : decode cX12_becomes 143 = .ok (.aload_n 0, 1) := by decide +kernel
theorem dX12_becomes_144 : decode cX12_becomes 144 = .ok (.getfield 68, 3) := by decide +kernel
theorem dX12_becomes_147 : decode cX12_becomes 147 = .ok (.iload_n 3, 1) := by decide +kernel
theorem dX12_becomes_148 : decode cX12_becomes 148 = .ok (.iload_n 2, 1) := by decide +kernel
theorem dX12_becomes_149 : decode cX12_becomes 149 = .ok (.iadd, 1) := by decide +kernel
theorem dX12_becomes_150 : decode cX12_becomes 150 = .ok (.aload_n 0, 1) := by decide +kernel
theorem dX12_becomes_151 : decode cX12_becomes 151 = .ok (.getfield 68, 3) := by decide +kernel
theorem dX12_becomes_154 : decode cX12_becomes 154 = .ok (.iload_n 3, 1) := by decide +kernel
theorem dX12_becomes_155 : decode cX12_becomes 155 = .ok (.iaload, 1) := by decide +kernel
theorem dX12_becomes_156 : decode cX12_becomes 156 = .ok (.iastore, 1) := by decide +kernel
theorem dX12_becomes_157 : decode cX12_becomes 157 = .ok (.iinc 3 1, 3) := by decide +kernel
theorem dX12_becomes_160 : decode cX12_becomes 160 = .ok (.goto (-39), 3) := by decide +kernel
theorem dX12_becomes_163 : decode cX12_becomes 163 = .ok (.aload_n 0, 1) := by decide +kernel
theorem dX12_becomes_164 : decode cX12_becomes 164 = .ok (.dup, 1) := by decide +kernel
theorem dX12_becomes_165 : decode cX12_becomes 165 = .ok (.getfield 47, 3) := by decide +kernel
theorem dX12_becomes_168 : decode cX12_becomes 168 = .ok (.iconst 1, 1) := by decide +kernel
theorem dX12_becomes_169 : decode cX12_becomes 169 = .ok (.iadd, 1) := by decide +kernel
theorem dX12_becomes_170 : decode cX12_becomes 170 = .ok (.putfield 47, 3) := by decide +kernel
theorem dX12_becomes_173 : decode cX12_becomes 173 = .ok (.return_, 1) := by decide +kernel
theorem dX12_wish_0 : decode cX12_wish 0 = .ok (.aload_n 0, 1) := by decide +kernel
theorem dX12_wish_1 : decode cX12_wish 1 = .ok (.iload_n 1, 1) := by decide +kernel
theorem dX12_wish_2 : decode cX12_wish 2 = .ok (.invokevirtual 151, 3) := by decide +kernel
theorem dX12_wish_5 : decode cX12_wish 5 = .ok (.ifCond .eq 15, 3) := by decide +kernel
theorem dX12_wish_8 : decode cX12_wish 8 = .ok (.iload_n 2, 1) := by decide +kernel
theorem dX12_wish_9 : decode cX12_wish 9 = .ok (.iconst 0, 1) := by decide +kernel
theorem dX12_wish_10 : decode cX12_wish 10 = .ok (.aload_n 0, 1) := by decide +kernel
theorem dX12_wish_11 : decode cX12_wish 11 = .ok (.getfield 154, 3) := by decide +kernel
theorem dX12_wish_14 : decode cX12_wish 14 = .ok (.invokestatic 134, 3) := by decide +kernel
theorem dX12_wish_17 : decode cX12_wish 17 = .ok (.ifCond .ne 6, 3) := by decide +kernel
theorem dX12_wish_20 : decode cX12_wish 20 = .ok (.bipush (-2), 2) := by decide +kernel
theorem dX12_wish_22 : decode cX12_wish 22 = .ok (.ireturn, 1) := by decide +kernel
theorem dX12_wish_23 : decode cX12_wish 23 = .ok (.aload_n 0, 1) := by decide +kernel
theorem dX12_wish_24 : decode cX12_wish 24 = .ok (.iload_n 2, 1) := by decide +kernel
theorem dX12_wish_25 : decode cX12_wish 25 = .ok (.invokevirtual 256, 3) := by decide +kernel
theorem dX12_wish_28 : decode cX12_wish 28 = .ok (.ifCond .ne 5, 3) := by decide +kernel
theorem dX12_wish_31 : decode cX12_wish 31 = .ok (.iconst (-1), 1) := by decide +kernel
theorem dX12_wish_32 : decode cX12_wish 32 = .ok (.ireturn, 1) := by decide +kernel
theorem dX12_wish_33 : decode cX12_wish 33 = .ok (.aload_n 0, 1) := by decide +kernel
theorem dX12_wish_34 : decode cX12_wish 34 = .ok (.iload_n 1, 1) := by decide +kernel
theorem dX12_wish_35 : decode cX12_wish 35 = .ok (.invokevirtual 259, 3) := by decide +kernel
theorem dX12_wish_38 : decode cX12_wish 38 = .ok (.aload_n 0, 1) := by decide +kernel
theorem dX12_wish_39 : decode cX12_wish 39 = .ok (.getfield 50, 3) := by decide +kernel
theorem dX12_wish_42 : decode cX12_wish 42 = .ok (.iload_n 1, 1) := by decide +kernel
theorem dX12_wish_43 : decode cX12_wish 43 = .ok (.iaload, 1) := by decide +kernel
theorem dX12_wish_44 : decode cX12_wish 44 = .ok (.ireturn, 1) := by decide +kernel
theorem dX12_falsely_0 : decode cX12_falsely 0 = .ok (.iload_n 1, 1) := by decide +kernel
theorem dX12_falsely_1 : decode cX12_falsely 1 = .ok (.iconst 0, 1) := by decide +kernel
theorem dX12_falsely_2 : decode cX12_falsely 2 = .ok (.aload_n 0, 1) := by decide +kernel
theorem dX12_falsely_3 : decode cX12_falsely 3 = .ok (.getfield 154, 3) := by decide +kernel
theorem dX12_falsely_6 : decode cX12_falsely 6 = .ok (.invokestatic 134, 3) := by decide +kernel
theorem dX12_falsely_9 : decode cX12_falsely 9 = .ok (.ifCond .ne 6, 3) := by decide +kernel
theorem dX12_falsely_12 : decode cX12_falsely 12 = .ok (.bipush (-2), 2) := by decide +kernel
theorem dX12_falsely_14 : decode cX12_falsely 14 = .ok (.ireturn, 1) := by decide +kernel
theorem dX12_falsely_15 : decode cX12_falsely 15 = .ok (.aload_n 0, 1) := by decide +kernel
theorem dX12_falsely_16 : decode cX12_falsely 16 = .ok (.iload_n 1, 1) := by decide +kernel
theorem dX12_falsely_17 : decode cX12_falsely 17 = .ok (.invokevirtual 256, 3) := by decide +kernel
theorem dX12_falsely_20 : decode cX12_falsely 20 = .ok (.ifCond .ne 5, 3) := by decide +kernel
theorem dX12_falsely_23 : decode cX12_falsely 23 = .ok (.iconst (-1), 1) := by decide +kernel
theorem dX12_falsely_24 : decode cX12_falsely 24 = .ok (.ireturn, 1) := by decide +kernel
theorem dX12_falsely_25 : decode cX12_falsely 25 = .ok (.aload_n 0, 1) := by decide +kernel
theorem dX12_falsely_26 : decode cX12_falsely 26 = .ok (.bipush 8, 2) := by decide +kernel
theorem dX12_falsely_28 : decode cX12_falsely 28 = .ok (.invokevirtual 259, 3) := by decide +kernel
theorem dX12_falsely_31 : decode cX12_falsely 31 = .ok (.aload_n 0, 1) := by decide +kernel
theorem dX12_falsely_32 : decode cX12_falsely 32 = .ok (.iconst 1, 1) := by decide +kernel
theorem dX12_falsely_33 : decode cX12_falsely 33 = .ok (.putfield 262, 3) := by decide +kernel
theorem dX12_falsely_36 : decode cX12_falsely 36 = .ok (.aload_n 0, 1) := by decide +kernel
theorem dX12_falsely_37 : decode cX12_falsely 37 = .ok (.getfield 50, 3) := by decide +kernel
theorem dX12_falsely_40 : decode cX12_falsely 40 = .ok (.bipush 8, 2) := by decide +kernel
theorem dX12_falsely_42 : decode cX12_falsely 42 = .ok (.iaload, 1) := by decide +kernel
theorem dX12_falsely_43 : decode cX12_falsely 43 = .ok (.ireturn, 1) := by decide +kernel
theorem dX12_fault_0 : decode cX12_fault 0 = .ok (.aload_n 0, 1) := by decide +kernel
theorem dX12_fault_1 : decode cX12_fault 1 = .ok (.getfield 44, 3) := by decide +kernel
theorem dX12_fault_4 : decode cX12_fault 4 = .ok (.ireturn, 1) := by decide +kernel
theorem dX12_held_0 : decode cX12_held 0 = .ok (.ldc2_w 266, 3) := by decide +kernel
theorem dX12_held_3 : decode cX12_held 3 = .ok (.ldc2_w 268, 3) := by decide +kernel
theorem dX12_held_6 : decode cX12_held 6 = .ok (.lload_n 0, 1) := by decide +kernel
theorem dX12_held_7 : decode cX12_held 7 = .ok (.invokestatic 270, 3) := by decide +kernel
theorem dX12_held_10 : decode cX12_held 10 = .ok (.invokestatic 276, 3) := by decide +kernel
theorem dX12_held_13 : decode cX12_held 13 = .ok (.lreturn, 1) := by decide +kernel
theorem dX12_bit_0 : decode cX12_bit 0 = .ok (.iload_n 0, 1) := by decide +kernel
theorem dX12_bit_1 : decode cX12_bit 1 = .ok (.ifCond .eq 7, 3) := by decide +kernel
theorem dX12_bit_4 : decode cX12_bit 4 = .ok (.lconst 1, 1) := by decide +kernel
theorem dX12_bit_5 : decode cX12_bit 5 = .ok (.goto 4, 3) := by decide +kernel
theorem dX12_bit_8 : decode cX12_bit 8 = .ok (.lconst 0, 1) := by decide +kernel
theorem dX12_bit_9 : decode cX12_bit 9 = .ok (.lreturn, 1) := by decide +kernel
theorem dX12_both_0 : decode cX12_both 0 = .ok (.iload_n 0, 1) := by decide +kernel
theorem dX12_both_1 : decode cX12_both 1 = .ok (.tableswitch 144 3 10 #[47, 54, 61, 68, 82, 97, 112, 127], 47) := by decide +kernel
theorem dX12_both_48 : decode cX12_both 48 = .ok (.lload_n 1, 1) := by decide +kernel
theorem dX12_both_49 : decode cX12_both 49 = .ok (.lload_n 3, 1) := by decide +kernel
theorem dX12_both_50 : decode cX12_both 50 = .ok (.ladd, 1) := by decide +kernel
theorem dX12_both_51 : decode cX12_both 51 = .ok (.invokestatic 279, 3) := by decide +kernel
theorem dX12_both_54 : decode cX12_both 54 = .ok (.lreturn, 1) := by decide +kernel
theorem dX12_both_55 : decode cX12_both 55 = .ok (.lload_n 1, 1) := by decide +kernel
theorem dX12_both_56 : decode cX12_both 56 = .ok (.lload_n 3, 1) := by decide +kernel
theorem dX12_both_57 : decode cX12_both 57 = .ok (.lsub, 1) := by decide +kernel
theorem dX12_both_58 : decode cX12_both 58 = .ok (.invokestatic 279, 3) := by decide +kernel
theorem dX12_both_61 : decode cX12_both 61 = .ok (.lreturn, 1) := by decide +kernel
theorem dX12_both_62 : decode cX12_both 62 = .ok (.lload_n 1, 1) := by decide +kernel
theorem dX12_both_63 : decode cX12_both 63 = .ok (.lload_n 3, 1) := by decide +kernel
theorem dX12_both_64 : decode cX12_both 64 = .ok (.lmul, 1) := by decide +kernel
theorem dX12_both_65 : decode cX12_both 65 = .ok (.invokestatic 279, 3) := by decide +kernel
theorem dX12_both_68 : decode cX12_both 68 = .ok (.lreturn, 1) := by decide +kernel
theorem dX12_both_69 : decode cX12_both 69 = .ok (.lload_n 3, 1) := by decide +kernel
theorem dX12_both_70 : decode cX12_both 70 = .ok (.lconst 0, 1) := by decide +kernel
theorem dX12_both_71 : decode cX12_both 71 = .ok (.lcmp, 1) := by decide +kernel
theorem dX12_both_72 : decode cX12_both 72 = .ok (.ifCond .ne 7, 3) := by decide +kernel
theorem dX12_both_75 : decode cX12_both 75 = .ok (.lconst 0, 1) := by decide +kernel
theorem dX12_both_76 : decode cX12_both 76 = .ok (.goto 6, 3) := by decide +kernel
theorem dX12_both_79 : decode cX12_both 79 = .ok (.lload_n 1, 1) := by decide +kernel
theorem dX12_both_80 : decode cX12_both 80 = .ok (.lload_n 3, 1) := by decide +kernel
theorem dX12_both_81 : decode cX12_both 81 = .ok (.ldiv, 1) := by decide +kernel
theorem dX12_both_82 : decode cX12_both 82 = .ok (.lreturn, 1) := by decide +kernel
theorem dX12_both_83 : decode cX12_both 83 = .ok (.lload_n 1, 1) := by decide +kernel
theorem dX12_both_84 : decode cX12_both 84 = .ok (.lload_n 3, 1) := by decide +kernel
theorem dX12_both_85 : decode cX12_both 85 = .ok (.lcmp, 1) := by decide +kernel
theorem dX12_both_86 : decode cX12_both 86 = .ok (.ifCond .ge 7, 3) := by decide +kernel
theorem dX12_both_89 : decode cX12_both 89 = .ok (.iconst 1, 1) := by decide +kernel
theorem dX12_both_90 : decode cX12_both 90 = .ok (.goto 4, 3) := by decide +kernel
theorem dX12_both_93 : decode cX12_both 93 = .ok (.iconst 0, 1) := by decide +kernel
theorem dX12_both_94 : decode cX12_both 94 = .ok (.invokestatic 283, 3) := by decide +kernel
theorem dX12_both_97 : decode cX12_both 97 = .ok (.lreturn, 1) := by decide +kernel
theorem dX12_both_98 : decode cX12_both 98 = .ok (.lload_n 1, 1) := by decide +kernel
theorem dX12_both_99 : decode cX12_both 99 = .ok (.lload_n 3, 1) := by decide +kernel
theorem dX12_both_100 : decode cX12_both 100 = .ok (.lcmp, 1) := by decide +kernel
theorem dX12_both_101 : decode cX12_both 101 = .ok (.ifCond .le 7, 3) := by decide +kernel
theorem dX12_both_104 : decode cX12_both 104 = .ok (.iconst 1, 1) := by decide +kernel
theorem dX12_both_105 : decode cX12_both 105 = .ok (.goto 4, 3) := by decide +kernel
theorem dX12_both_108 : decode cX12_both 108 = .ok (.iconst 0, 1) := by decide +kernel
theorem dX12_both_109 : decode cX12_both 109 = .ok (.invokestatic 283, 3) := by decide +kernel
theorem dX12_both_112 : decode cX12_both 112 = .ok (.lreturn, 1) := by decide +kernel
theorem dX12_both_113 : decode cX12_both 113 = .ok (.lload_n 1, 1) := by decide +kernel
theorem dX12_both_114 : decode cX12_both 114 = .ok (.lload_n 3, 1) := by decide +kernel
theorem dX12_both_115 : decode cX12_both 115 = .ok (.lcmp, 1) := by decide +kernel
theorem dX12_both_116 : decode cX12_both 116 = .ok (.ifCond .ne 7, 3) := by decide +kernel
theorem dX12_both_119 : decode cX12_both 119 = .ok (.iconst 1, 1) := by decide +kernel
theorem dX12_both_120 : decode cX12_both 120 = .ok (.goto 4, 3) := by decide +kernel
theorem dX12_both_123 : decode cX12_both 123 = .ok (.iconst 0, 1) := by decide +kernel
theorem dX12_both_124 : decode cX12_both 124 = .ok (.invokestatic 283, 3) := by decide +kernel
theorem dX12_both_127 : decode cX12_both 127 = .ok (.lreturn, 1) := by decide +kernel
theorem dX12_both_128 : decode cX12_both 128 = .ok (.lload_n 1, 1) := by decide +kernel
theorem dX12_both_129 : decode cX12_both 129 = .ok (.lload_n 3, 1) := by decide +kernel
theorem dX12_both_130 : decode cX12_both 130 = .ok (.ladd, 1) := by decide +kernel
theorem dX12_both_131 : decode cX12_both 131 = .ok (.lconst 0, 1) := by decide +kernel
theorem dX12_both_132 : decode cX12_both 132 = .ok (.lcmp, 1) := by decide +kernel
theorem dX12_both_133 : decode cX12_both 133 = .ok (.ifCond .le 7, 3) := by decide +kernel
theorem dX12_both_136 : decode cX12_both 136 = .ok (.iconst 1, 1) := by decide +kernel
theorem dX12_both_137 : decode cX12_both 137 = .ok (.goto 4, 3) := by decide +kernel
theorem dX12_both_140 : decode cX12_both 140 = .ok (.iconst 0, 1) := by decide +kernel
theorem dX12_both_141 : decode cX12_both 141 = .ok (.invokestatic 283, 3) := by decide +kernel
theorem dX12_both_144 : decode cX12_both 144 = .ok (.lreturn, 1) := by decide +kernel
theorem dX12_both_145 : decode cX12_both 145 = .ok (.lload_n 1, 1) := by decide +kernel
theorem dX12_both_146 : decode cX12_both 146 = .ok (.lload_n 3, 1) := by decide +kernel
theorem dX12_both_147 : decode cX12_both 147 = .ok (.ladd, 1) := by decide +kernel
theorem dX12_both_148 : decode cX12_both 148 = .ok (.ldc2_w 287, 3) := by decide +kernel
theorem dX12_both_151 : decode cX12_both 151 = .ok (.lcmp, 1) := by decide +kernel
theorem dX12_both_152 : decode cX12_both 152 = .ok (.ifCond .ne 7, 3) := by decide +kernel
theorem dX12_both_155 : decode cX12_both 155 = .ok (.iconst 1, 1) := by decide +kernel
theorem dX12_both_156 : decode cX12_both 156 = .ok (.goto 4, 3) := by decide +kernel
theorem dX12_both_159 : decode cX12_both 159 = .ok (.iconst 0, 1) := by decide +kernel
theorem dX12_both_160 : decode cX12_both 160 = .ok (.invokestatic 283, 3) := by decide +kernel
theorem dX12_both_163 : decode cX12_both 163 = .ok (.lreturn, 1) := by decide +kernel
theorem dX12_runs_0 : decode cX12_runs 0 = .ok (.iconst 0, 1) := by decide +kernel
theorem dX12_runs_1 : decode cX12_runs 1 = .ok (.istore 4, 2) := by decide +kernel
theorem dX12_runs_3 : decode cX12_runs 3 = .ok (.iload_n 1, 1) := by decide +kernel
theorem dX12_runs_4 : decode cX12_runs 4 = .ok (.istore 5, 2) := by decide +kernel
theorem dX12_runs_6 : decode cX12_runs 6 = .ok (.iload 5, 2) := by decide +kernel
theorem dX12_runs_8 : decode cX12_runs 8 = .ok (.iload_n 2, 1) := by decide +kernel
theorem dX12_runs_9 : decode cX12_runs 9 = .ok (.if_icmp .ge 152, 3) := by decide +kernel
theorem dX12_runs_12 : decode cX12_runs 12 = .ok (.aload_n 0, 1) := by decide +kernel
theorem dX12_runs_13 : decode cX12_runs 13 = .ok (.getfield 65, 3) := by decide +kernel
theorem dX12_runs_16 : decode cX12_runs 16 = .ok (.iload 5, 2) := by decide +kernel
theorem dX12_runs_18 : decode cX12_runs 18 = .ok (.iaload, 1) := by decide +kernel
theorem dX12_runs_19 : decode cX12_runs 19 = .ok (.istore 6, 2) := by decide +kernel
theorem dX12_runs_21 : decode cX12_runs 21 = .ok (.iload 6, 2) := by decide +kernel
theorem dX12_runs_23 : decode cX12_runs 23 = .ok (.iconst 2, 1) := by decide +kernel
theorem dX12_runs_24 : decode cX12_runs 24 = .ok (.if_icmp .gt 68, 3) := by decide +kernel
theorem dX12_runs_27 : decode cX12_runs 27 = .ok (.aload_n 0, 1) := by decide +kernel
theorem dX12_runs_28 : decode cX12_runs 28 = .ok (.getfield 71, 3) := by decide +kernel
theorem dX12_runs_31 : decode cX12_runs 31 = .ok (.iload 4, 2) := by decide +kernel
theorem dX12_runs_33 : decode cX12_runs 33 = .ok (.iload 6, 2) := by decide +kernel
theorem dX12_runs_35 : decode cX12_runs 35 = .ok (.ifCond .ne 14, 3) := by decide +kernel
theorem dX12_runs_38 : decode cX12_runs 38 = .ok (.aload_n 0, 1) := by decide +kernel
theorem dX12_runs_39 : decode cX12_runs 39 = .ok (.getfield 68, 3) := by decide +kernel
theorem dX12_runs_42 : decode cX12_runs 42 = .ok (.iload 5, 2) := by decide +kernel
theorem dX12_runs_44 : decode cX12_runs 44 = .ok (.iaload, 1) := by decide +kernel
theorem dX12_runs_45 : decode cX12_runs 45 = .ok (.i2l, 1) := by decide +kernel
theorem dX12_runs_46 : decode cX12_runs 46 = .ok (.goto 39, 3) := by decide +kernel
theorem dX12_runs_49 : decode cX12_runs 49 = .ok (.iload 6, 2) := by decide +kernel
theorem dX12_runs_51 : decode cX12_runs 51 = .ok (.iconst 1, 1) := by decide +kernel
theorem dX12_runs_52 : decode cX12_runs 52 = .ok (.if_icmp .ne 18, 3) := by decide +kernel
theorem dX12_runs_55 : decode cX12_runs 55 = .ok (.aload_n 0, 1) := by decide +kernel
theorem dX12_runs_56 : decode cX12_runs 56 = .ok (.getfield 75, 3) := by decide +kernel
theorem dX12_runs_59 : decode cX12_runs 59 = .ok (.aload_n 0, 1) := by decide +kernel
theorem dX12_runs_60 : decode cX12_runs 60 = .ok (.getfield 68, 3) := by decide +kernel
theorem dX12_runs_63 : decode cX12_runs 63 = .ok (.iload 5, 2) := by decide +kernel
theorem dX12_runs_65 : decode cX12_runs 65 = .ok (.iaload, 1) := by decide +kernel
theorem dX12_runs_66 : decode cX12_runs 66 = .ok (.laload, 1) := by decide +kernel
theorem dX12_runs_67 : decode cX12_runs 67 = .ok (.goto 18, 3) := by decide +kernel
theorem dX12_runs_70 : decode cX12_runs 70 = .ok (.iload_n 3, 1) := by decide +kernel
theorem dX12_runs_71 : decode cX12_runs 71 = .ok (.aload_n 0, 1) := by decide +kernel
theorem dX12_runs_72 : decode cX12_runs 72 = .ok (.getfield 68, 3) := by decide +kernel
theorem dX12_runs_75 : decode cX12_runs 75 = .ok (.iload 5, 2) := by decide +kernel
theorem dX12_runs_77 : decode cX12_runs 77 = .ok (.iaload, 1) := by decide +kernel
theorem dX12_runs_78 : decode cX12_runs 78 = .ok (.invokestatic 289, 3) := by decide +kernel
theorem dX12_runs_81 : decode cX12_runs 81 = .ok (.invokestatic 293, 3) := by decide +kernel
theorem dX12_runs_84 : decode cX12_runs 84 = .ok (.i2l, 1) := by decide +kernel
theorem dX12_runs_85 : decode cX12_runs 85 = .ok (.lastore, 1) := by decide +kernel
theorem dX12_runs_86 : decode cX12_runs 86 = .ok (.iinc 4 1, 3) := by decide +kernel
theorem dX12_runs_89 : decode cX12_runs 89 = .ok (.goto 66, 3) := by decide +kernel
theorem dX12_runs_92 : decode cX12_runs 92 = .ok (.iload 6, 2) := by decide +kernel
theorem dX12_runs_94 : decode cX12_runs 94 = .ok (.bipush 12, 2) := by decide +kernel
theorem dX12_runs_96 : decode cX12_runs 96 = .ok (.if_icmp .ne 26, 3) := by decide +kernel
theorem dX12_runs_99 : decode cX12_runs 99 = .ok (.aload_n 0, 1) := by decide +kernel
theorem dX12_runs_100 : decode cX12_runs 100 = .ok (.getfield 71, 3) := by decide +kernel
theorem dX12_runs_103 : decode cX12_runs 103 = .ok (.iload 4, 2) := by decide +kernel
theorem dX12_runs_105 : decode cX12_runs 105 = .ok (.iconst 1, 1) := by decide +kernel
theorem dX12_runs_106 : decode cX12_runs 106 = .ok (.isub, 1) := by decide +kernel
theorem dX12_runs_107 : decode cX12_runs 107 = .ok (.lconst 1, 1) := by decide +kernel
theorem dX12_runs_108 : decode cX12_runs 108 = .ok (.aload_n 0, 1) := by decide +kernel
theorem dX12_runs_109 : decode cX12_runs 109 = .ok (.getfield 71, 3) := by decide +kernel
theorem dX12_runs_112 : decode cX12_runs 112 = .ok (.iload 4, 2) := by decide +kernel
theorem dX12_runs_114 : decode cX12_runs 114 = .ok (.iconst 1, 1) := by decide +kernel
theorem dX12_runs_115 : decode cX12_runs 115 = .ok (.isub, 1) := by decide +kernel
theorem dX12_runs_116 : decode cX12_runs 116 = .ok (.laload, 1) := by decide +kernel
theorem dX12_runs_117 : decode cX12_runs 117 = .ok (.lsub, 1) := by decide +kernel
theorem dX12_runs_118 : decode cX12_runs 118 = .ok (.lastore, 1) := by decide +kernel
theorem dX12_runs_119 : decode cX12_runs 119 = .ok (.goto 36, 3) := by decide +kernel
theorem dX12_runs_122 : decode cX12_runs 122 = .ok (.iinc 4 (-1), 3) := by decide +kernel
theorem dX12_runs_125 : decode cX12_runs 125 = .ok (.aload_n 0, 1) := by decide +kernel
theorem dX12_runs_126 : decode cX12_runs 126 = .ok (.getfield 71, 3) := by decide +kernel
theorem dX12_runs_129 : decode cX12_runs 129 = .ok (.iload 4, 2) := by decide +kernel
theorem dX12_runs_131 : decode cX12_runs 131 = .ok (.iconst 1, 1) := by decide +kernel
theorem dX12_runs_132 : decode cX12_runs 132 = .ok (.isub, 1) := by decide +kernel
theorem dX12_runs_133 : decode cX12_runs 133 = .ok (.iload 6, 2) := by decide +kernel
theorem dX12_runs_135 : decode cX12_runs 135 = .ok (.aload_n 0, 1) := by decide +kernel
theorem dX12_runs_136 : decode cX12_runs 136 = .ok (.getfield 71, 3) := by decide +kernel
theorem dX12_runs_139 : decode cX12_runs 139 = .ok (.iload 4, 2) := by decide +kernel
theorem dX12_runs_141 : decode cX12_runs 141 = .ok (.iconst 1, 1) := by decide +kernel
theorem dX12_runs_142 : decode cX12_runs 142 = .ok (.isub, 1) := by decide +kernel
theorem dX12_runs_143 : decode cX12_runs 143 = .ok (.laload, 1) := by decide +kernel
theorem dX12_runs_144 : decode cX12_runs 144 = .ok (.aload_n 0, 1) := by decide +kernel
theorem dX12_runs_145 : decode cX12_runs 145 = .ok (.getfield 71, 3) := by decide +kernel
theorem dX12_runs_148 : decode cX12_runs 148 = .ok (.iload 4, 2) := by decide +kernel
theorem dX12_runs_150 : decode cX12_runs 150 = .ok (.laload, 1) := by decide +kernel
theorem dX12_runs_151 : decode cX12_runs 151 = .ok (.invokestatic 297, 3) := by decide +kernel
theorem dX12_runs_154 : decode cX12_runs 154 = .ok (.lastore, 1) := by decide +kernel
theorem dX12_runs_155 : decode cX12_runs 155 = .ok (.iinc 5 1, 3) := by decide +kernel
theorem dX12_runs_158 : decode cX12_runs 158 = .ok (.goto (-152), 3) := by decide +kernel
theorem dX12_runs_161 : decode cX12_runs 161 = .ok (.aload_n 0, 1) := by decide +kernel
theorem dX12_runs_162 : decode cX12_runs 162 = .ok (.getfield 71, 3) := by decide +kernel
theorem dX12_runs_165 : decode cX12_runs 165 = .ok (.iconst 0, 1) := by decide +kernel
theorem dX12_runs_166 : decode cX12_runs 166 = .ok (.laload, 1) := by decide +kernel
theorem dX12_runs_167 : decode cX12_runs 167 = .ok (.lreturn, 1) := by decide +kernel
theorem dX12_asks_0 : decode cX12_asks 0 = .ok (.iconst 0, 1) := by decide +kernel
theorem dX12_asks_1 : decode cX12_asks 1 = .ok (.istore_n 3, 1) := by decide +kernel
theorem dX12_asks_2 : decode cX12_asks 2 = .ok (.bipush 40, 2) := by decide +kernel
theorem dX12_asks_4 : decode cX12_asks 4 = .ok (.istore 4, 2) := by decide +kernel
theorem dX12_asks_6 : decode cX12_asks 6 = .ok (.iconst 0, 1) := by decide +kernel
theorem dX12_asks_7 : decode cX12_asks 7 = .ok (.istore 5, 2) := by decide +kernel
theorem dX12_asks_9 : decode cX12_asks 9 = .ok (.iconst 0, 1) := by decide +kernel
theorem dX12_asks_10 : decode cX12_asks 10 = .ok (.istore 6, 2) := by decide +kernel
theorem dX12_asks_12 : decode cX12_asks 12 = .ok (.iload 6, 2) := by decide +kernel
theorem dX12_asks_14 : decode cX12_asks 14 = .ok (.aload_n 0, 1) := by decide +kernel
theorem dX12_asks_15 : decode cX12_asks 15 = .ok (.getfield 131, 3) := by decide +kernel
theorem dX12_asks_18 : decode cX12_asks 18 = .ok (.if_icmp .ge 67, 3) := by decide +kernel
theorem dX12_asks_21 : decode cX12_asks 21 = .ok (.iload_n 2, 1) := by decide +kernel
theorem dX12_asks_22 : decode cX12_asks 22 = .ok (.iload 6, 2) := by decide +kernel
theorem dX12_asks_24 : decode cX12_asks 24 = .ok (.invokestatic 289, 3) := by decide +kernel
theorem dX12_asks_27 : decode cX12_asks 27 = .ok (.ifCond .ne 6, 3) := by decide +kernel
theorem dX12_asks_30 : decode cX12_asks 30 = .ok (.goto 49, 3) := by decide +kernel
theorem dX12_asks_33 : decode cX12_asks 33 = .ok (.iload_n 3, 1) := by decide +kernel
theorem dX12_asks_34 : decode cX12_asks 34 = .ok (.aload_n 0, 1) := by decide +kernel
theorem dX12_asks_35 : decode cX12_asks 35 = .ok (.getfield 23, 3) := by decide +kernel
theorem dX12_asks_38 : decode cX12_asks 38 = .ok (.iload 6, 2) := by decide +kernel
theorem dX12_asks_40 : decode cX12_asks 40 = .ok (.iaload, 1) := by decide +kernel
theorem dX12_asks_41 : decode cX12_asks 41 = .ok (.aload_n 0, 1) := by decide +kernel
theorem dX12_asks_42 : decode cX12_asks 42 = .ok (.getfield 20, 3) := by decide +kernel
theorem dX12_asks_45 : decode cX12_asks 45 = .ok (.iload 6, 2) := by decide +kernel
theorem dX12_asks_47 : decode cX12_asks 47 = .ok (.iaload, 1) := by decide +kernel
theorem dX12_asks_48 : decode cX12_asks 48 = .ok (.isub, 1) := by decide +kernel
theorem dX12_asks_49 : decode cX12_asks 49 = .ok (.iadd, 1) := by decide +kernel
theorem dX12_asks_50 : decode cX12_asks 50 = .ok (.istore_n 3, 1) := by decide +kernel
theorem dX12_asks_51 : decode cX12_asks 51 = .ok (.iload 4, 2) := by decide +kernel
theorem dX12_asks_53 : decode cX12_asks 53 = .ok (.aload_n 0, 1) := by decide +kernel
theorem dX12_asks_54 : decode cX12_asks 54 = .ok (.getfield 20, 3) := by decide +kernel
theorem dX12_asks_57 : decode cX12_asks 57 = .ok (.iload 6, 2) := by decide +kernel
theorem dX12_asks_59 : decode cX12_asks 59 = .ok (.iaload, 1) := by decide +kernel
theorem dX12_asks_60 : decode cX12_asks 60 = .ok (.invokestatic 301, 3) := by decide +kernel
theorem dX12_asks_63 : decode cX12_asks 63 = .ok (.istore 4, 2) := by decide +kernel
theorem dX12_asks_65 : decode cX12_asks 65 = .ok (.iload 5, 2) := by decide +kernel
theorem dX12_asks_67 : decode cX12_asks 67 = .ok (.aload_n 0, 1) := by decide +kernel
theorem dX12_asks_68 : decode cX12_asks 68 = .ok (.getfield 23, 3) := by decide +kernel
theorem dX12_asks_71 : decode cX12_asks 71 = .ok (.iload 6, 2) := by decide +kernel
theorem dX12_asks_73 : decode cX12_asks 73 = .ok (.iaload, 1) := by decide +kernel
theorem dX12_asks_74 : decode cX12_asks 74 = .ok (.invokestatic 304, 3) := by decide +kernel
theorem dX12_asks_77 : decode cX12_asks 77 = .ok (.istore 5, 2) := by decide +kernel
theorem dX12_asks_79 : decode cX12_asks 79 = .ok (.iinc 6 1, 3) := by decide +kernel
theorem dX12_asks_82 : decode cX12_asks 82 = .ok (.goto (-70), 3) := by decide +kernel
theorem dX12_asks_85 : decode cX12_asks 85 = .ok (.iload_n 3, 1) := by decide +kernel
theorem dX12_asks_86 : decode cX12_asks 86 = .ok (.ifCond .ne 6, 3) := by decide +kernel
theorem dX12_asks_89 : decode cX12_asks 89 = .ok (.iconst 0, 1) := by decide +kernel
theorem dX12_asks_90 : decode cX12_asks 90 = .ok (.istore 4, 2) := by decide +kernel
theorem dX12_asks_92 : decode cX12_asks 92 = .ok (.aload_n 0, 1) := by decide +kernel
theorem dX12_asks_93 : decode cX12_asks 93 = .ok (.getfield 75, 3) := by decide +kernel
theorem dX12_asks_96 : decode cX12_asks 96 = .ok (.iconst 0, 1) := by decide +kernel
theorem dX12_asks_97 : decode cX12_asks 97 = .ok (.iload_n 2, 1) := by decide +kernel
theorem dX12_asks_98 : decode cX12_asks 98 = .ok (.invokestatic 306, 3) := by decide +kernel
theorem dX12_asks_101 : decode cX12_asks 101 = .ok (.i2l, 1) := by decide +kernel
theorem dX12_asks_102 : decode cX12_asks 102 = .ok (.lastore, 1) := by decide +kernel
theorem dX12_asks_103 : decode cX12_asks 103 = .ok (.aload_n 0, 1) := by decide +kernel
theorem dX12_asks_104 : decode cX12_asks 104 = .ok (.getfield 75, 3) := by decide +kernel
theorem dX12_asks_107 : decode cX12_asks 107 = .ok (.iconst 1, 1) := by decide +kernel
theorem dX12_asks_108 : decode cX12_asks 108 = .ok (.iload_n 3, 1) := by decide +kernel
theorem dX12_asks_109 : decode cX12_asks 109 = .ok (.i2l, 1) := by decide +kernel
theorem dX12_asks_110 : decode cX12_asks 110 = .ok (.lastore, 1) := by decide +kernel
theorem dX12_asks_111 : decode cX12_asks 111 = .ok (.aload_n 0, 1) := by decide +kernel
theorem dX12_asks_112 : decode cX12_asks 112 = .ok (.getfield 75, 3) := by decide +kernel
theorem dX12_asks_115 : decode cX12_asks 115 = .ok (.iconst 2, 1) := by decide +kernel
theorem dX12_asks_116 : decode cX12_asks 116 = .ok (.iload 4, 2) := by decide +kernel
theorem dX12_asks_118 : decode cX12_asks 118 = .ok (.i2l, 1) := by decide +kernel
theorem dX12_asks_119 : decode cX12_asks 119 = .ok (.lastore, 1) := by decide +kernel
theorem dX12_asks_120 : decode cX12_asks 120 = .ok (.aload_n 0, 1) := by decide +kernel
theorem dX12_asks_121 : decode cX12_asks 121 = .ok (.getfield 75, 3) := by decide +kernel
theorem dX12_asks_124 : decode cX12_asks 124 = .ok (.iconst 3, 1) := by decide +kernel
theorem dX12_asks_125 : decode cX12_asks 125 = .ok (.iload 5, 2) := by decide +kernel
theorem dX12_asks_127 : decode cX12_asks 127 = .ok (.i2l, 1) := by decide +kernel
theorem dX12_asks_128 : decode cX12_asks 128 = .ok (.lastore, 1) := by decide +kernel
theorem dX12_asks_129 : decode cX12_asks 129 = .ok (.aload_n 0, 1) := by decide +kernel
theorem dX12_asks_130 : decode cX12_asks 130 = .ok (.getfield 75, 3) := by decide +kernel
theorem dX12_asks_133 : decode cX12_asks 133 = .ok (.iconst 4, 1) := by decide +kernel
theorem dX12_asks_134 : decode cX12_asks 134 = .ok (.iload 5, 2) := by decide +kernel
theorem dX12_asks_136 : decode cX12_asks 136 = .ok (.iload 4, 2) := by decide +kernel
theorem dX12_asks_138 : decode cX12_asks 138 = .ok (.isub, 1) := by decide +kernel
theorem dX12_asks_139 : decode cX12_asks 139 = .ok (.iload_n 3, 1) := by decide +kernel
theorem dX12_asks_140 : decode cX12_asks 140 = .ok (.isub, 1) := by decide +kernel
theorem dX12_asks_141 : decode cX12_asks 141 = .ok (.i2l, 1) := by decide +kernel
theorem dX12_asks_142 : decode cX12_asks 142 = .ok (.lastore, 1) := by decide +kernel
theorem dX12_asks_143 : decode cX12_asks 143 = .ok (.aload_n 0, 1) := by decide +kernel
theorem dX12_asks_144 : decode cX12_asks 144 = .ok (.getfield 75, 3) := by decide +kernel
theorem dX12_asks_147 : decode cX12_asks 147 = .ok (.iconst 5, 1) := by decide +kernel
theorem dX12_asks_148 : decode cX12_asks 148 = .ok (.aload_n 0, 1) := by decide +kernel
theorem dX12_asks_149 : decode cX12_asks 149 = .ok (.getfield 35, 3) := by decide +kernel
theorem dX12_asks_152 : decode cX12_asks 152 = .ok (.iload_n 1, 1) := by decide +kernel
theorem dX12_asks_153 : decode cX12_asks 153 = .ok (.iaload, 1) := by decide +kernel
theorem dX12_asks_154 : decode cX12_asks 154 = .ok (.i2l, 1) := by decide +kernel
theorem dX12_asks_155 : decode cX12_asks 155 = .ok (.lastore, 1) := by decide +kernel
theorem dX12_asks_156 : decode cX12_asks 156 = .ok (.return_, 1) := by decide +kernel
theorem dX12_worthBy_0 : decode cX12_worthBy 0 = .ok (.aload_n 0, 1) := by decide +kernel
theorem dX12_worthBy_1 : decode cX12_worthBy 1 = .ok (.iload_n 2, 1) := by decide +kernel
theorem dX12_worthBy_2 : decode cX12_worthBy 2 = .ok (.iload_n 3, 1) := by decide +kernel
theorem dX12_worthBy_3 : decode cX12_worthBy 3 = .ok (.invokevirtual 310, 3) := by decide +kernel
theorem dX12_worthBy_6 : decode cX12_worthBy 6 = .ok (.lconst 0, 1) := by decide +kernel
theorem dX12_worthBy_7 : decode cX12_worthBy 7 = .ok (.lstore 4, 2) := by decide +kernel
theorem dX12_worthBy_9 : decode cX12_worthBy 9 = .ok (.bipush 16, 2) := by decide +kernel
theorem dX12_worthBy_11 : decode cX12_worthBy 11 = .ok (.iload_n 1, 1) := by decide +kernel
theorem dX12_worthBy_12 : decode cX12_worthBy 12 = .ok (.imul, 1) := by decide +kernel
theorem dX12_worthBy_13 : decode cX12_worthBy 13 = .ok (.istore 6, 2) := by decide +kernel
theorem dX12_worthBy_15 : decode cX12_worthBy 15 = .ok (.iload 6, 2) := by decide +kernel
theorem dX12_worthBy_17 : decode cX12_worthBy 17 = .ok (.bipush 16, 2) := by decide +kernel
theorem dX12_worthBy_19 : decode cX12_worthBy 19 = .ok (.iload_n 1, 1) := by decide +kernel
theorem dX12_worthBy_20 : decode cX12_worthBy 20 = .ok (.imul, 1) := by decide +kernel
theorem dX12_worthBy_21 : decode cX12_worthBy 21 = .ok (.aload_n 0, 1) := by decide +kernel
theorem dX12_worthBy_22 : decode cX12_worthBy 22 = .ok (.getfield 50, 3) := by decide +kernel
theorem dX12_worthBy_25 : decode cX12_worthBy 25 = .ok (.iload_n 1, 1) := by decide +kernel
theorem dX12_worthBy_26 : decode cX12_worthBy 26 = .ok (.iaload, 1) := by decide +kernel
theorem dX12_worthBy_27 : decode cX12_worthBy 27 = .ok (.iadd, 1) := by decide +kernel
theorem dX12_worthBy_28 : decode cX12_worthBy 28 = .ok (.if_icmp .ge 99, 3) := by decide +kernel
theorem dX12_worthBy_31 : decode cX12_worthBy 31 = .ok (.aload_n 0, 1) := by decide +kernel
theorem dX12_worthBy_32 : decode cX12_worthBy 32 = .ok (.getfield 53, 3) := by decide +kernel
theorem dX12_worthBy_35 : decode cX12_worthBy 35 = .ok (.iload 6, 2) := by decide +kernel
theorem dX12_worthBy_37 : decode cX12_worthBy 37 = .ok (.iaload, 1) := by decide +kernel
theorem dX12_worthBy_38 : decode cX12_worthBy 38 = .ok (.ifCond .ne 83, 3) := by decide +kernel
theorem dX12_worthBy_41 : decode cX12_worthBy 41 = .ok (.aload_n 0, 1) := by decide +kernel
theorem dX12_worthBy_42 : decode cX12_worthBy 42 = .ok (.getfield 59, 3) := by decide +kernel
theorem dX12_worthBy_45 : decode cX12_worthBy 45 = .ok (.iload 6, 2) := by decide +kernel
theorem dX12_worthBy_47 : decode cX12_worthBy 47 = .ok (.iaload, 1) := by decide +kernel
theorem dX12_worthBy_48 : decode cX12_worthBy 48 = .ok (.aload_n 0, 1) := by decide +kernel
theorem dX12_worthBy_49 : decode cX12_worthBy 49 = .ok (.getfield 62, 3) := by decide +kernel
theorem dX12_worthBy_52 : decode cX12_worthBy 52 = .ok (.iload 6, 2) := by decide +kernel
theorem dX12_worthBy_54 : decode cX12_worthBy 54 = .ok (.iaload, 1) := by decide +kernel
theorem dX12_worthBy_55 : decode cX12_worthBy 55 = .ok (.if_icmp .ge 30, 3) := by decide +kernel
theorem dX12_worthBy_58 : decode cX12_worthBy 58 = .ok (.aload_n 0, 1) := by decide +kernel
theorem dX12_worthBy_59 : decode cX12_worthBy 59 = .ok (.aload_n 0, 1) := by decide +kernel
theorem dX12_worthBy_60 : decode cX12_worthBy 60 = .ok (.getfield 59, 3) := by decide +kernel
theorem dX12_worthBy_63 : decode cX12_worthBy 63 = .ok (.iload 6, 2) := by decide +kernel
theorem dX12_worthBy_65 : decode cX12_worthBy 65 = .ok (.iaload, 1) := by decide +kernel
theorem dX12_worthBy_66 : decode cX12_worthBy 66 = .ok (.aload_n 0, 1) := by decide +kernel
theorem dX12_worthBy_67 : decode cX12_worthBy 67 = .ok (.getfield 62, 3) := by decide +kernel
theorem dX12_worthBy_70 : decode cX12_worthBy 70 = .ok (.iload 6, 2) := by decide +kernel
theorem dX12_worthBy_72 : decode cX12_worthBy 72 = .ok (.iaload, 1) := by decide +kernel
theorem dX12_worthBy_73 : decode cX12_worthBy 73 = .ok (.iload_n 3, 1) := by decide +kernel
theorem dX12_worthBy_74 : decode cX12_worthBy 74 = .ok (.invokevirtual 313, 3) := by decide +kernel
theorem dX12_worthBy_77 : decode cX12_worthBy 77 = .ok (.lconst 0, 1) := by decide +kernel
theorem dX12_worthBy_78 : decode cX12_worthBy 78 = .ok (.lcmp, 1) := by decide +kernel
theorem dX12_worthBy_79 : decode cX12_worthBy 79 = .ok (.ifCond .ne 6, 3) := by decide +kernel
theorem dX12_worthBy_82 : decode cX12_worthBy 82 = .ok (.goto 39, 3) := by decide +kernel
theorem dX12_worthBy_85 : decode cX12_worthBy 85 = .ok (.ldc2_w 317, 3) := by decide +kernel
theorem dX12_worthBy_88 : decode cX12_worthBy 88 = .ok (.ldc2_w 319, 3) := by decide +kernel
theorem dX12_worthBy_91 : decode cX12_worthBy 91 = .ok (.lload 4, 2) := by decide +kernel
theorem dX12_worthBy_93 : decode cX12_worthBy 93 = .ok (.aload_n 0, 1) := by decide +kernel
theorem dX12_worthBy_94 : decode cX12_worthBy 94 = .ok (.aload_n 0, 1) := by decide +kernel
theorem dX12_worthBy_95 : decode cX12_worthBy 95 = .ok (.getfield 56, 3) := by decide +kernel
theorem dX12_worthBy_98 : decode cX12_worthBy 98 = .ok (.iload 6, 2) := by decide +kernel
theorem dX12_worthBy_100 : decode cX12_worthBy 100 = .ok (.iaload, 1) := by decide +kernel
theorem dX12_worthBy_101 : decode cX12_worthBy 101 = .ok (.aload_n 0, 1) := by decide +kernel
theorem dX12_worthBy_102 : decode cX12_worthBy 102 = .ok (.getfield 59, 3) := by decide +kernel
theorem dX12_worthBy_105 : decode cX12_worthBy 105 = .ok (.iload 6, 2) := by decide +kernel
theorem dX12_worthBy_107 : decode cX12_worthBy 107 = .ok (.iaload, 1) := by decide +kernel
theorem dX12_worthBy_108 : decode cX12_worthBy 108 = .ok (.iload_n 3, 1) := by decide +kernel
theorem dX12_worthBy_109 : decode cX12_worthBy 109 = .ok (.invokevirtual 313, 3) := by decide +kernel
theorem dX12_worthBy_112 : decode cX12_worthBy 112 = .ok (.ladd, 1) := by decide +kernel
theorem dX12_worthBy_113 : decode cX12_worthBy 113 = .ok (.invokestatic 270, 3) := by decide +kernel
theorem dX12_worthBy_116 : decode cX12_worthBy 116 = .ok (.invokestatic 276, 3) := by decide +kernel
theorem dX12_worthBy_119 : decode cX12_worthBy 119 = .ok (.lstore 4, 2) := by decide +kernel
theorem dX12_worthBy_121 : decode cX12_worthBy 121 = .ok (.iinc 6 1, 3) := by decide +kernel
theorem dX12_worthBy_124 : decode cX12_worthBy 124 = .ok (.goto (-109), 3) := by decide +kernel
theorem dX12_worthBy_127 : decode cX12_worthBy 127 = .ok (.lload 4, 2) := by decide +kernel
theorem dX12_worthBy_129 : decode cX12_worthBy 129 = .ok (.l2i, 1) := by decide +kernel
theorem dX12_worthBy_130 : decode cX12_worthBy 130 = .ok (.ireturn, 1) := by decide +kernel
theorem dX12_saysNever_0 : decode cX12_saysNever 0 = .ok (.aload_n 0, 1) := by decide +kernel
theorem dX12_saysNever_1 : decode cX12_saysNever 1 = .ok (.iload_n 2, 1) := by decide +kernel
theorem dX12_saysNever_2 : decode cX12_saysNever 2 = .ok (.iload_n 3, 1) := by decide +kernel
theorem dX12_saysNever_3 : decode cX12_saysNever 3 = .ok (.invokevirtual 310, 3) := by decide +kernel
theorem dX12_saysNever_6 : decode cX12_saysNever 6 = .ok (.iconst 0, 1) := by decide +kernel
theorem dX12_saysNever_7 : decode cX12_saysNever 7 = .ok (.istore 4, 2) := by decide +kernel
theorem dX12_saysNever_9 : decode cX12_saysNever 9 = .ok (.bipush 16, 2) := by decide +kernel
theorem dX12_saysNever_11 : decode cX12_saysNever 11 = .ok (.iload_n 1, 1) := by decide +kernel
theorem dX12_saysNever_12 : decode cX12_saysNever 12 = .ok (.imul, 1) := by decide +kernel
theorem dX12_saysNever_13 : decode cX12_saysNever 13 = .ok (.istore 5, 2) := by decide +kernel
theorem dX12_saysNever_15 : decode cX12_saysNever 15 = .ok (.iload 5, 2) := by decide +kernel
theorem dX12_saysNever_17 : decode cX12_saysNever 17 = .ok (.bipush 16, 2) := by decide +kernel
theorem dX12_saysNever_19 : decode cX12_saysNever 19 = .ok (.iload_n 1, 1) := by decide +kernel
theorem dX12_saysNever_20 : decode cX12_saysNever 20 = .ok (.imul, 1) := by decide +kernel
theorem dX12_saysNever_21 : decode cX12_saysNever 21 = .ok (.aload_n 0, 1) := by decide +kernel
theorem dX12_saysNever_22 : decode cX12_saysNever 22 = .ok (.getfield 50, 3) := by decide +kernel
theorem dX12_saysNever_25 : decode cX12_saysNever 25 = .ok (.iload_n 1, 1) := by decide +kernel
theorem dX12_saysNever_26 : decode cX12_saysNever 26 = .ok (.iaload, 1) := by decide +kernel
theorem dX12_saysNever_27 : decode cX12_saysNever 27 = .ok (.iadd, 1) := by decide +kernel
theorem dX12_saysNever_28 : decode cX12_saysNever 28 = .ok (.if_icmp .ge 73, 3) := by decide +kernel
theorem dX12_saysNever_31 : decode cX12_saysNever 31 = .ok (.iload 4, 2) := by decide +kernel
theorem dX12_saysNever_33 : decode cX12_saysNever 33 = .ok (.ifCond .ne 55, 3) := by decide +kernel
theorem dX12_saysNever_36 : decode cX12_saysNever 36 = .ok (.aload_n 0, 1) := by decide +kernel
theorem dX12_saysNever_37 : decode cX12_saysNever 37 = .ok (.getfield 53, 3) := by decide +kernel
theorem dX12_saysNever_40 : decode cX12_saysNever 40 = .ok (.iload 5, 2) := by decide +kernel
theorem dX12_saysNever_42 : decode cX12_saysNever 42 = .ok (.iaload, 1) := by decide +kernel
theorem dX12_saysNever_43 : decode cX12_saysNever 43 = .ok (.iconst 1, 1) := by decide +kernel
theorem dX12_saysNever_44 : decode cX12_saysNever 44 = .ok (.if_icmp .ne 48, 3) := by decide +kernel
theorem dX12_saysNever_47 : decode cX12_saysNever 47 = .ok (.aload_n 0, 1) := by decide +kernel
theorem dX12_saysNever_48 : decode cX12_saysNever 48 = .ok (.getfield 59, 3) := by decide +kernel
theorem dX12_saysNever_51 : decode cX12_saysNever 51 = .ok (.iload 5, 2) := by decide +kernel
theorem dX12_saysNever_53 : decode cX12_saysNever 53 = .ok (.iaload, 1) := by decide +kernel
theorem dX12_saysNever_54 : decode cX12_saysNever 54 = .ok (.aload_n 0, 1) := by decide +kernel
theorem dX12_saysNever_55 : decode cX12_saysNever 55 = .ok (.getfield 62, 3) := by decide +kernel
theorem dX12_saysNever_58 : decode cX12_saysNever 58 = .ok (.iload 5, 2) := by decide +kernel
theorem dX12_saysNever_60 : decode cX12_saysNever 60 = .ok (.iaload, 1) := by decide +kernel
theorem dX12_saysNever_61 : decode cX12_saysNever 61 = .ok (.if_icmp .eq 27, 3) := by decide +kernel
theorem dX12_saysNever_64 : decode cX12_saysNever 64 = .ok (.aload_n 0, 1) := by decide +kernel
theorem dX12_saysNever_65 : decode cX12_saysNever 65 = .ok (.aload_n 0, 1) := by decide +kernel
theorem dX12_saysNever_66 : decode cX12_saysNever 66 = .ok (.getfield 59, 3) := by decide +kernel
theorem dX12_saysNever_69 : decode cX12_saysNever 69 = .ok (.iload 5, 2) := by decide +kernel
theorem dX12_saysNever_71 : decode cX12_saysNever 71 = .ok (.iaload, 1) := by decide +kernel
theorem dX12_saysNever_72 : decode cX12_saysNever 72 = .ok (.aload_n 0, 1) := by decide +kernel
theorem dX12_saysNever_73 : decode cX12_saysNever 73 = .ok (.getfield 62, 3) := by decide +kernel
theorem dX12_saysNever_76 : decode cX12_saysNever 76 = .ok (.iload 5, 2) := by decide +kernel
theorem dX12_saysNever_78 : decode cX12_saysNever 78 = .ok (.iaload, 1) := by decide +kernel
theorem dX12_saysNever_79 : decode cX12_saysNever 79 = .ok (.iload_n 3, 1) := by decide +kernel
theorem dX12_saysNever_80 : decode cX12_saysNever 80 = .ok (.invokevirtual 313, 3) := by decide +kernel
theorem dX12_saysNever_83 : decode cX12_saysNever 83 = .ok (.lconst 1, 1) := by decide +kernel
theorem dX12_saysNever_84 : decode cX12_saysNever 84 = .ok (.lcmp, 1) := by decide +kernel
theorem dX12_saysNever_85 : decode cX12_saysNever 85 = .ok (.ifCond .ne 7, 3) := by decide +kernel
theorem dX12_saysNever_88 : decode cX12_saysNever 88 = .ok (.iconst 1, 1) := by decide +kernel
theorem dX12_saysNever_89 : decode cX12_saysNever 89 = .ok (.goto 4, 3) := by decide +kernel
theorem dX12_saysNever_92 : decode cX12_saysNever 92 = .ok (.iconst 0, 1) := by decide +kernel
theorem dX12_saysNever_93 : decode cX12_saysNever 93 = .ok (.istore 4, 2) := by decide +kernel
theorem dX12_saysNever_95 : decode cX12_saysNever 95 = .ok (.iinc 5 1, 3) := by decide +kernel
theorem dX12_saysNever_98 : decode cX12_saysNever 98 = .ok (.goto (-83), 3) := by decide +kernel
theorem dX12_saysNever_101 : decode cX12_saysNever 101 = .ok (.iload 4, 2) := by decide +kernel
theorem dX12_saysNever_103 : decode cX12_saysNever 103 = .ok (.ireturn, 1) := by decide +kernel
theorem dX12_barsBy_0 : decode cX12_barsBy 0 = .ok (.iload_n 3, 1) := by decide +kernel
theorem dX12_barsBy_1 : decode cX12_barsBy 1 = .ok (.aload_n 0, 1) := by decide +kernel
theorem dX12_barsBy_2 : decode cX12_barsBy 2 = .ok (.getfield 131, 3) := by decide +kernel
theorem dX12_barsBy_5 : decode cX12_barsBy 5 = .ok (.ishr, 1) := by decide +kernel
theorem dX12_barsBy_6 : decode cX12_barsBy 6 = .ok (.ifCond .le 5, 3) := by decide +kernel
theorem dX12_barsBy_9 : decode cX12_barsBy 9 = .ok (.iconst 1, 1) := by decide +kernel
theorem dX12_barsBy_10 : decode cX12_barsBy 10 = .ok (.ireturn, 1) := by decide +kernel
theorem dX12_barsBy_11 : decode cX12_barsBy 11 = .ok (.iload_n 3, 1) := by decide +kernel
theorem dX12_barsBy_12 : decode cX12_barsBy 12 = .ok (.invokestatic 306, 3) := by decide +kernel
theorem dX12_barsBy_15 : decode cX12_barsBy 15 = .ok (.aload_n 0, 1) := by decide +kernel
theorem dX12_barsBy_16 : decode cX12_barsBy 16 = .ok (.getfield 7, 3) := by decide +kernel
theorem dX12_barsBy_19 : decode cX12_barsBy 19 = .ok (.if_icmp .le 5, 3) := by decide +kernel
theorem dX12_barsBy_22 : decode cX12_barsBy 22 = .ok (.iconst 2, 1) := by decide +kernel
theorem dX12_barsBy_23 : decode cX12_barsBy 23 = .ok (.ireturn, 1) := by decide +kernel
theorem dX12_barsBy_24 : decode cX12_barsBy 24 = .ok (.iconst 0, 1) := by decide +kernel
theorem dX12_barsBy_25 : decode cX12_barsBy 25 = .ok (.istore 4, 2) := by decide +kernel
theorem dX12_barsBy_27 : decode cX12_barsBy 27 = .ok (.iload 4, 2) := by decide +kernel
theorem dX12_barsBy_29 : decode cX12_barsBy 29 = .ok (.aload_n 0, 1) := by decide +kernel
theorem dX12_barsBy_30 : decode cX12_barsBy 30 = .ok (.getfield 131, 3) := by decide +kernel
theorem dX12_barsBy_33 : decode cX12_barsBy 33 = .ok (.if_icmp .ge 84, 3) := by decide +kernel
theorem dX12_barsBy_36 : decode cX12_barsBy 36 = .ok (.iload 4, 2) := by decide +kernel
theorem dX12_barsBy_38 : decode cX12_barsBy 38 = .ok (.iconst 1, 1) := by decide +kernel
theorem dX12_barsBy_39 : decode cX12_barsBy 39 = .ok (.iadd, 1) := by decide +kernel
theorem dX12_barsBy_40 : decode cX12_barsBy 40 = .ok (.istore 5, 2) := by decide +kernel
theorem dX12_barsBy_42 : decode cX12_barsBy 42 = .ok (.iload 5, 2) := by decide +kernel
theorem dX12_barsBy_44 : decode cX12_barsBy 44 = .ok (.aload_n 0, 1) := by decide +kernel
theorem dX12_barsBy_45 : decode cX12_barsBy 45 = .ok (.getfield 131, 3) := by decide +kernel
theorem dX12_barsBy_48 : decode cX12_barsBy 48 = .ok (.if_icmp .ge 63, 3) := by decide +kernel
theorem dX12_barsBy_51 : decode cX12_barsBy 51 = .ok (.iload_n 3, 1) := by decide +kernel
theorem dX12_barsBy_52 : decode cX12_barsBy 52 = .ok (.iload 4, 2) := by decide +kernel
theorem dX12_barsBy_54 : decode cX12_barsBy 54 = .ok (.invokestatic 289, 3) := by decide +kernel
theorem dX12_barsBy_57 : decode cX12_barsBy 57 = .ok (.ifCond .eq 48, 3) := by decide +kernel
theorem dX12_barsBy_60 : decode cX12_barsBy 60 = .ok (.iload_n 3, 1) := by decide +kernel
theorem dX12_barsBy_61 : decode cX12_barsBy 61 = .ok (.iload 5, 2) := by decide +kernel
theorem dX12_barsBy_63 : decode cX12_barsBy 63 = .ok (.invokestatic 289, 3) := by decide +kernel
theorem dX12_barsBy_66 : decode cX12_barsBy 66 = .ok (.ifCond .eq 39, 3) := by decide +kernel
theorem dX12_barsBy_69 : decode cX12_barsBy 69 = .ok (.aload_n 0, 1) := by decide +kernel
theorem dX12_barsBy_70 : decode cX12_barsBy 70 = .ok (.getfield 20, 3) := by decide +kernel
theorem dX12_barsBy_73 : decode cX12_barsBy 73 = .ok (.iload 4, 2) := by decide +kernel
theorem dX12_barsBy_75 : decode cX12_barsBy 75 = .ok (.iaload, 1) := by decide +kernel
theorem dX12_barsBy_76 : decode cX12_barsBy 76 = .ok (.aload_n 0, 1) := by decide +kernel
theorem dX12_barsBy_77 : decode cX12_barsBy 77 = .ok (.getfield 23, 3) := by decide +kernel
theorem dX12_barsBy_80 : decode cX12_barsBy 80 = .ok (.iload 5, 2) := by decide +kernel
theorem dX12_barsBy_82 : decode cX12_barsBy 82 = .ok (.iaload, 1) := by decide +kernel
theorem dX12_barsBy_83 : decode cX12_barsBy 83 = .ok (.if_icmp .ge 22, 3) := by decide +kernel
theorem dX12_barsBy_86 : decode cX12_barsBy 86 = .ok (.aload_n 0, 1) := by decide +kernel
theorem dX12_barsBy_87 : decode cX12_barsBy 87 = .ok (.getfield 20, 3) := by decide +kernel
theorem dX12_barsBy_90 : decode cX12_barsBy 90 = .ok (.iload 5, 2) := by decide +kernel
theorem dX12_barsBy_92 : decode cX12_barsBy 92 = .ok (.iaload, 1) := by decide +kernel
theorem dX12_barsBy_93 : decode cX12_barsBy 93 = .ok (.aload_n 0, 1) := by decide +kernel
theorem dX12_barsBy_94 : decode cX12_barsBy 94 = .ok (.getfield 23, 3) := by decide +kernel
theorem dX12_barsBy_97 : decode cX12_barsBy 97 = .ok (.iload 4, 2) := by decide +kernel
theorem dX12_barsBy_99 : decode cX12_barsBy 99 = .ok (.iaload, 1) := by decide +kernel
theorem dX12_barsBy_100 : decode cX12_barsBy 100 = .ok (.if_icmp .ge 5, 3) := by decide +kernel
theorem dX12_barsBy_103 : decode cX12_barsBy 103 = .ok (.iconst 3, 1) := by decide +kernel
theorem dX12_barsBy_104 : decode cX12_barsBy 104 = .ok (.ireturn, 1) := by decide +kernel
theorem dX12_barsBy_105 : decode cX12_barsBy 105 = .ok (.iinc 5 1, 3) := by decide +kernel
theorem dX12_barsBy_108 : decode cX12_barsBy 108 = .ok (.goto (-66), 3) := by decide +kernel
theorem dX12_barsBy_111 : decode cX12_barsBy 111 = .ok (.iinc 4 1, 3) := by decide +kernel
theorem dX12_barsBy_114 : decode cX12_barsBy 114 = .ok (.goto (-87), 3) := by decide +kernel
theorem dX12_barsBy_117 : decode cX12_barsBy 117 = .ok (.iconst 0, 1) := by decide +kernel
theorem dX12_barsBy_118 : decode cX12_barsBy 118 = .ok (.istore 4, 2) := by decide +kernel
theorem dX12_barsBy_120 : decode cX12_barsBy 120 = .ok (.iload 4, 2) := by decide +kernel
theorem dX12_barsBy_122 : decode cX12_barsBy 122 = .ok (.aload_n 0, 1) := by decide +kernel
theorem dX12_barsBy_123 : decode cX12_barsBy 123 = .ok (.getfield 145, 3) := by decide +kernel
theorem dX12_barsBy_126 : decode cX12_barsBy 126 = .ok (.if_icmp .ge 58, 3) := by decide +kernel
theorem dX12_barsBy_129 : decode cX12_barsBy 129 = .ok (.iload_n 3, 1) := by decide +kernel
theorem dX12_barsBy_130 : decode cX12_barsBy 130 = .ok (.aload_n 0, 1) := by decide +kernel
theorem dX12_barsBy_131 : decode cX12_barsBy 131 = .ok (.getfield 29, 3) := by decide +kernel
theorem dX12_barsBy_134 : decode cX12_barsBy 134 = .ok (.iload 4, 2) := by decide +kernel
theorem dX12_barsBy_136 : decode cX12_barsBy 136 = .ok (.iaload, 1) := by decide +kernel
theorem dX12_barsBy_137 : decode cX12_barsBy 137 = .ok (.invokestatic 289, 3) := by decide +kernel
theorem dX12_barsBy_140 : decode cX12_barsBy 140 = .ok (.ifCond .eq 38, 3) := by decide +kernel
theorem dX12_barsBy_143 : decode cX12_barsBy 143 = .ok (.iload_n 3, 1) := by decide +kernel
theorem dX12_barsBy_144 : decode cX12_barsBy 144 = .ok (.aload_n 0, 1) := by decide +kernel
theorem dX12_barsBy_145 : decode cX12_barsBy 145 = .ok (.getfield 32, 3) := by decide +kernel
theorem dX12_barsBy_148 : decode cX12_barsBy 148 = .ok (.iload 4, 2) := by decide +kernel
theorem dX12_barsBy_150 : decode cX12_barsBy 150 = .ok (.iaload, 1) := by decide +kernel
theorem dX12_barsBy_151 : decode cX12_barsBy 151 = .ok (.invokestatic 289, 3) := by decide +kernel
theorem dX12_barsBy_154 : decode cX12_barsBy 154 = .ok (.ifCond .ne 24, 3) := by decide +kernel
theorem dX12_barsBy_157 : decode cX12_barsBy 157 = .ok (.aload_n 0, 1) := by decide +kernel
theorem dX12_barsBy_158 : decode cX12_barsBy 158 = .ok (.getfield 38, 3) := by decide +kernel
theorem dX12_barsBy_161 : decode cX12_barsBy 161 = .ok (.iload_n 2, 1) := by decide +kernel
theorem dX12_barsBy_162 : decode cX12_barsBy 162 = .ok (.iaload, 1) := by decide +kernel
theorem dX12_barsBy_163 : decode cX12_barsBy 163 = .ok (.aload_n 0, 1) := by decide +kernel
theorem dX12_barsBy_164 : decode cX12_barsBy 164 = .ok (.getfield 32, 3) := by decide +kernel
theorem dX12_barsBy_167 : decode cX12_barsBy 167 = .ok (.iload 4, 2) := by decide +kernel
theorem dX12_barsBy_169 : decode cX12_barsBy 169 = .ok (.iaload, 1) := by decide +kernel
theorem dX12_barsBy_170 : decode cX12_barsBy 170 = .ok (.invokestatic 289, 3) := by decide +kernel
theorem dX12_barsBy_173 : decode cX12_barsBy 173 = .ok (.ifCond .ne 5, 3) := by decide +kernel
theorem dX12_barsBy_176 : decode cX12_barsBy 176 = .ok (.iconst 4, 1) := by decide +kernel
theorem dX12_barsBy_177 : decode cX12_barsBy 177 = .ok (.ireturn, 1) := by decide +kernel
theorem dX12_barsBy_178 : decode cX12_barsBy 178 = .ok (.iinc 4 1, 3) := by decide +kernel
theorem dX12_barsBy_181 : decode cX12_barsBy 181 = .ok (.goto (-61), 3) := by decide +kernel
theorem dX12_barsBy_184 : decode cX12_barsBy 184 = .ok (.aload_n 0, 1) := by decide +kernel
theorem dX12_barsBy_185 : decode cX12_barsBy 185 = .ok (.iload_n 1, 1) := by decide +kernel
theorem dX12_barsBy_186 : decode cX12_barsBy 186 = .ok (.iload_n 2, 1) := by decide +kernel
theorem dX12_barsBy_187 : decode cX12_barsBy 187 = .ok (.iload_n 3, 1) := by decide +kernel
theorem dX12_barsBy_188 : decode cX12_barsBy 188 = .ok (.invokevirtual 321, 3) := by decide +kernel
theorem dX12_barsBy_191 : decode cX12_barsBy 191 = .ok (.ifCond .eq 7, 3) := by decide +kernel
theorem dX12_barsBy_194 : decode cX12_barsBy 194 = .ok (.iconst 5, 1) := by decide +kernel
theorem dX12_barsBy_195 : decode cX12_barsBy 195 = .ok (.goto 4, 3) := by decide +kernel
theorem dX12_barsBy_198 : decode cX12_barsBy 198 = .ok (.iconst 0, 1) := by decide +kernel
theorem dX12_barsBy_199 : decode cX12_barsBy 199 = .ok (.ireturn, 1) := by decide +kernel
theorem dX12_bars_0 : decode cX12_bars 0 = .ok (.aload_n 0, 1) := by decide +kernel
theorem dX12_bars_1 : decode cX12_bars 1 = .ok (.iload_n 1, 1) := by decide +kernel
theorem dX12_bars_2 : decode cX12_bars 2 = .ok (.invokevirtual 151, 3) := by decide +kernel
theorem dX12_bars_5 : decode cX12_bars 5 = .ok (.ifCond .eq 20, 3) := by decide +kernel
theorem dX12_bars_8 : decode cX12_bars 8 = .ok (.iload_n 2, 1) := by decide +kernel
theorem dX12_bars_9 : decode cX12_bars 9 = .ok (.invokestatic 148, 3) := by decide +kernel
theorem dX12_bars_12 : decode cX12_bars 12 = .ok (.ifCond .eq 13, 3) := by decide +kernel
theorem dX12_bars_15 : decode cX12_bars 15 = .ok (.aload_n 0, 1) := by decide +kernel
theorem dX12_bars_16 : decode cX12_bars 16 = .ok (.iload_n 1, 1) := by decide +kernel
theorem dX12_bars_17 : decode cX12_bars 17 = .ok (.iload_n 1, 1) := by decide +kernel
theorem dX12_bars_18 : decode cX12_bars 18 = .ok (.iload_n 2, 1) := by decide +kernel
theorem dX12_bars_19 : decode cX12_bars 19 = .ok (.invokevirtual 324, 3) := by decide +kernel
theorem dX12_bars_22 : decode cX12_bars 22 = .ok (.goto 4, 3) := by decide +kernel
theorem dX12_bars_25 : decode cX12_bars 25 = .ok (.iconst (-1), 1) := by decide +kernel
theorem dX12_bars_26 : decode cX12_bars 26 = .ok (.ireturn, 1) := by decide +kernel
theorem dX12_worth_0 : decode cX12_worth 0 = .ok (.aload_n 0, 1) := by decide +kernel
theorem dX12_worth_1 : decode cX12_worth 1 = .ok (.iload_n 1, 1) := by decide +kernel
theorem dX12_worth_2 : decode cX12_worth 2 = .ok (.invokevirtual 151, 3) := by decide +kernel
theorem dX12_worth_5 : decode cX12_worth 5 = .ok (.ifCond .eq 20, 3) := by decide +kernel
theorem dX12_worth_8 : decode cX12_worth 8 = .ok (.iload_n 2, 1) := by decide +kernel
theorem dX12_worth_9 : decode cX12_worth 9 = .ok (.invokestatic 148, 3) := by decide +kernel
theorem dX12_worth_12 : decode cX12_worth 12 = .ok (.ifCond .eq 13, 3) := by decide +kernel
theorem dX12_worth_15 : decode cX12_worth 15 = .ok (.aload_n 0, 1) := by decide +kernel
theorem dX12_worth_16 : decode cX12_worth 16 = .ok (.iload_n 1, 1) := by decide +kernel
theorem dX12_worth_17 : decode cX12_worth 17 = .ok (.iload_n 1, 1) := by decide +kernel
theorem dX12_worth_18 : decode cX12_worth 18 = .ok (.iload_n 2, 1) := by decide +kernel
theorem dX12_worth_19 : decode cX12_worth 19 = .ok (.invokevirtual 328, 3) := by decide +kernel
theorem dX12_worth_22 : decode cX12_worth 22 = .ok (.goto 6, 3) := by decide +kernel
theorem dX12_worth_25 : decode cX12_worth 25 = .ok (.ldc_w 331, 3) := by decide +kernel
theorem dX12_worth_28 : decode cX12_worth 28 = .ok (.ireturn, 1) := by decide +kernel
theorem dX12_fills_0 : decode cX12_fills 0 = .ok (.iconst 0, 1) := by decide +kernel
theorem dX12_fills_1 : decode cX12_fills 1 = .ok (.istore 4, 2) := by decide +kernel
theorem dX12_fills_3 : decode cX12_fills 3 = .ok (.iload 4, 2) := by decide +kernel
theorem dX12_fills_5 : decode cX12_fills 5 = .ok (.sipush 1024, 3) := by decide +kernel
theorem dX12_fills_8 : decode cX12_fills 8 = .ok (.if_icmp .ge 59, 3) := by decide +kernel
theorem dX12_fills_11 : decode cX12_fills 11 = .ok (.aload_n 0, 1) := by decide +kernel
theorem dX12_fills_12 : decode cX12_fills 12 = .ok (.getfield 85, 3) := by decide +kernel
theorem dX12_fills_15 : decode cX12_fills 15 = .ok (.sipush 1024, 3) := by decide +kernel
theorem dX12_fills_18 : decode cX12_fills 18 = .ok (.iload_n 1, 1) := by decide +kernel
theorem dX12_fills_19 : decode cX12_fills 19 = .ok (.imul, 1) := by decide +kernel
theorem dX12_fills_20 : decode cX12_fills 20 = .ok (.iload 4, 2) := by decide +kernel
theorem dX12_fills_22 : decode cX12_fills 22 = .ok (.iadd, 1) := by decide +kernel
theorem dX12_fills_23 : decode cX12_fills 23 = .ok (.aload_n 0, 1) := by decide +kernel
theorem dX12_fills_24 : decode cX12_fills 24 = .ok (.iload_n 2, 1) := by decide +kernel
theorem dX12_fills_25 : decode cX12_fills 25 = .ok (.iload_n 3, 1) := by decide +kernel
theorem dX12_fills_26 : decode cX12_fills 26 = .ok (.iload 4, 2) := by decide +kernel
theorem dX12_fills_28 : decode cX12_fills 28 = .ok (.invokevirtual 324, 3) := by decide +kernel
theorem dX12_fills_31 : decode cX12_fills 31 = .ok (.ifCond .ne 7, 3) := by decide +kernel
theorem dX12_fills_34 : decode cX12_fills 34 = .ok (.iconst 1, 1) := by decide +kernel
theorem dX12_fills_35 : decode cX12_fills 35 = .ok (.goto 4, 3) := by decide +kernel
theorem dX12_fills_38 : decode cX12_fills 38 = .ok (.iconst 0, 1) := by decide +kernel
theorem dX12_fills_39 : decode cX12_fills 39 = .ok (.bastore, 1) := by decide +kernel
theorem dX12_fills_40 : decode cX12_fills 40 = .ok (.aload_n 0, 1) := by decide +kernel
theorem dX12_fills_41 : decode cX12_fills 41 = .ok (.getfield 89, 3) := by decide +kernel
theorem dX12_fills_44 : decode cX12_fills 44 = .ok (.sipush 1024, 3) := by decide +kernel
theorem dX12_fills_47 : decode cX12_fills 47 = .ok (.iload_n 1, 1) := by decide +kernel
theorem dX12_fills_48 : decode cX12_fills 48 = .ok (.imul, 1) := by decide +kernel
theorem dX12_fills_49 : decode cX12_fills 49 = .ok (.iload 4, 2) := by decide +kernel
theorem dX12_fills_51 : decode cX12_fills 51 = .ok (.iadd, 1) := by decide +kernel
theorem dX12_fills_52 : decode cX12_fills 52 = .ok (.aload_n 0, 1) := by decide +kernel
theorem dX12_fills_53 : decode cX12_fills 53 = .ok (.iload_n 2, 1) := by decide +kernel
theorem dX12_fills_54 : decode cX12_fills 54 = .ok (.iload_n 3, 1) := by decide +kernel
theorem dX12_fills_55 : decode cX12_fills 55 = .ok (.iload 4, 2) := by decide +kernel
theorem dX12_fills_57 : decode cX12_fills 57 = .ok (.invokevirtual 328, 3) := by decide +kernel
theorem dX12_fills_60 : decode cX12_fills 60 = .ok (.iastore, 1) := by decide +kernel
theorem dX12_fills_61 : decode cX12_fills 61 = .ok (.iinc 4 1, 3) := by decide +kernel
theorem dX12_fills_64 : decode cX12_fills 64 = .ok (.goto (-61), 3) := by decide +kernel
theorem dX12_fills_67 : decode cX12_fills 67 = .ok (.return_, 1) := by decide +kernel
theorem dX12_tables_0 : decode cX12_tables 0 = .ok (.aload_n 0, 1) := by decide +kernel
theorem dX12_tables_1 : decode cX12_tables 1 = .ok (.getfield 332, 3) := by decide +kernel
theorem dX12_tables_4 : decode cX12_tables 4 = .ok (.aload_n 0, 1) := by decide +kernel
theorem dX12_tables_5 : decode cX12_tables 5 = .ok (.getfield 47, 3) := by decide +kernel
theorem dX12_tables_8 : decode cX12_tables 8 = .ok (.if_icmp .ne 4, 3) := by decide +kernel
theorem dX12_tables_11 : decode cX12_tables 11 = .ok (.return_, 1) := by decide +kernel
theorem dX12_tables_12 : decode cX12_tables 12 = .ok (.iconst 0, 1) := by decide +kernel
theorem dX12_tables_13 : decode cX12_tables 13 = .ok (.istore_n 1, 1) := by decide +kernel
theorem dX12_tables_14 : decode cX12_tables 14 = .ok (.iload_n 1, 1) := by decide +kernel
theorem dX12_tables_15 : decode cX12_tables 15 = .ok (.aload_n 0, 1) := by decide +kernel
theorem dX12_tables_16 : decode cX12_tables 16 = .ok (.getfield 138, 3) := by decide +kernel
theorem dX12_tables_19 : decode cX12_tables 19 = .ok (.if_icmp .ge 16, 3) := by decide +kernel
theorem dX12_tables_22 : decode cX12_tables 22 = .ok (.aload_n 0, 1) := by decide +kernel
theorem dX12_tables_23 : decode cX12_tables 23 = .ok (.iload_n 1, 1) := by decide +kernel
theorem dX12_tables_24 : decode cX12_tables 24 = .ok (.iload_n 1, 1) := by decide +kernel
theorem dX12_tables_25 : decode cX12_tables 25 = .ok (.iload_n 1, 1) := by decide +kernel
theorem dX12_tables_26 : decode cX12_tables 26 = .ok (.invokevirtual 335, 3) := by decide +kernel
theorem dX12_tables_29 : decode cX12_tables 29 = .ok (.iinc 1 1, 3) := by decide +kernel
theorem dX12_tables_32 : decode cX12_tables 32 = .ok (.goto (-18), 3) := by decide +kernel
theorem dX12_tables_35 : decode cX12_tables 35 = .ok (.aload_n 0, 1) := by decide +kernel
theorem dX12_tables_36 : decode cX12_tables 36 = .ok (.aload_n 0, 1) := by decide +kernel
theorem dX12_tables_37 : decode cX12_tables 37 = .ok (.getfield 47, 3) := by decide +kernel
theorem dX12_tables_40 : decode cX12_tables 40 = .ok (.putfield 332, 3) := by decide +kernel
theorem dX12_tables_43 : decode cX12_tables 43 = .ok (.return_, 1) := by decide +kernel
theorem dX12_isLawful_0 : decode cX12_isLawful 0 = .ok (.aload_n 0, 1) := by decide +kernel
theorem dX12_isLawful_1 : decode cX12_isLawful 1 = .ok (.getfield 85, 3) := by decide +kernel
theorem dX12_isLawful_4 : decode cX12_isLawful 4 = .ok (.sipush 1024, 3) := by decide +kernel
theorem dX12_isLawful_7 : decode cX12_isLawful 7 = .ok (.iload_n 1, 1) := by decide +kernel
theorem dX12_isLawful_8 : decode cX12_isLawful 8 = .ok (.imul, 1) := by decide +kernel
theorem dX12_isLawful_9 : decode cX12_isLawful 9 = .ok (.iload_n 2, 1) := by decide +kernel
theorem dX12_isLawful_10 : decode cX12_isLawful 10 = .ok (.iadd, 1) := by decide +kernel
theorem dX12_isLawful_11 : decode cX12_isLawful 11 = .ok (.baload, 1) := by decide +kernel
theorem dX12_isLawful_12 : decode cX12_isLawful 12 = .ok (.ireturn, 1) := by decide +kernel
theorem dX12_worthOf_0 : decode cX12_worthOf 0 = .ok (.aload_n 0, 1) := by decide +kernel
theorem dX12_worthOf_1 : decode cX12_worthOf 1 = .ok (.getfield 89, 3) := by decide +kernel
theorem dX12_worthOf_4 : decode cX12_worthOf 4 = .ok (.sipush 1024, 3) := by decide +kernel
theorem dX12_worthOf_7 : decode cX12_worthOf 7 = .ok (.iload_n 1, 1) := by decide +kernel
theorem dX12_worthOf_8 : decode cX12_worthOf 8 = .ok (.imul, 1) := by decide +kernel
theorem dX12_worthOf_9 : decode cX12_worthOf 9 = .ok (.iload_n 2, 1) := by decide +kernel
theorem dX12_worthOf_10 : decode cX12_worthOf 10 = .ok (.iadd, 1) := by decide +kernel
theorem dX12_worthOf_11 : decode cX12_worthOf 11 = .ok (.iaload, 1) := by decide +kernel
theorem dX12_worthOf_12 : decode cX12_worthOf 12 = .ok (.ireturn, 1) := by decide +kernel
theorem dX12_rowOf_0 : decode cX12_rowOf 0 = .ok (.iload_n 1, 1) := by decide +kernel
theorem dX12_rowOf_1 : decode cX12_rowOf 1 = .ok (.aload_n 0, 1) := by decide +kernel
theorem dX12_rowOf_2 : decode cX12_rowOf 2 = .ok (.getfield 92, 3) := by decide +kernel
theorem dX12_rowOf_5 : decode cX12_rowOf 5 = .ok (.if_icmp .ne 8, 3) := by decide +kernel
theorem dX12_rowOf_8 : decode cX12_rowOf 8 = .ok (.bipush 8, 2) := by decide +kernel
theorem dX12_rowOf_10 : decode cX12_rowOf 10 = .ok (.goto 4, 3) := by decide +kernel
theorem dX12_rowOf_13 : decode cX12_rowOf 13 = .ok (.iload_n 1, 1) := by decide +kernel
theorem dX12_rowOf_14 : decode cX12_rowOf 14 = .ok (.ireturn, 1) := by decide +kernel
theorem dX12_costOf_0 : decode cX12_costOf 0 = .ok (.iconst 0, 1) := by decide +kernel
theorem dX12_costOf_1 : decode cX12_costOf 1 = .ok (.istore_n 2, 1) := by decide +kernel
theorem dX12_costOf_2 : decode cX12_costOf 2 = .ok (.iconst 0, 1) := by decide +kernel
theorem dX12_costOf_3 : decode cX12_costOf 3 = .ok (.istore_n 3, 1) := by decide +kernel
theorem dX12_costOf_4 : decode cX12_costOf 4 = .ok (.iload_n 3, 1) := by decide +kernel
theorem dX12_costOf_5 : decode cX12_costOf 5 = .ok (.aload_n 0, 1) := by decide +kernel
theorem dX12_costOf_6 : decode cX12_costOf 6 = .ok (.getfield 131, 3) := by decide +kernel
theorem dX12_costOf_9 : decode cX12_costOf 9 = .ok (.if_icmp .ge 30, 3) := by decide +kernel
theorem dX12_costOf_12 : decode cX12_costOf 12 = .ok (.iload_n 2, 1) := by decide +kernel
theorem dX12_costOf_13 : decode cX12_costOf 13 = .ok (.iload_n 1, 1) := by decide +kernel
theorem dX12_costOf_14 : decode cX12_costOf 14 = .ok (.iload_n 3, 1) := by decide +kernel
theorem dX12_costOf_15 : decode cX12_costOf 15 = .ok (.invokestatic 289, 3) := by decide +kernel
theorem dX12_costOf_18 : decode cX12_costOf 18 = .ok (.ifCond .eq 12, 3) := by decide +kernel
theorem dX12_costOf_21 : decode cX12_costOf 21 = .ok (.aload_n 0, 1) := by decide +kernel
theorem dX12_costOf_22 : decode cX12_costOf 22 = .ok (.getfield 95, 3) := by decide +kernel
theorem dX12_costOf_25 : decode cX12_costOf 25 = .ok (.iload_n 3, 1) := by decide +kernel
theorem dX12_costOf_26 : decode cX12_costOf 26 = .ok (.iaload, 1) := by decide +kernel
theorem dX12_costOf_27 : decode cX12_costOf 27 = .ok (.goto 4, 3) := by decide +kernel
theorem dX12_costOf_30 : decode cX12_costOf 30 = .ok (.iconst 0, 1) := by decide +kernel
theorem dX12_costOf_31 : decode cX12_costOf 31 = .ok (.iadd, 1) := by decide +kernel
theorem dX12_costOf_32 : decode cX12_costOf 32 = .ok (.istore_n 2, 1) := by decide +kernel
theorem dX12_costOf_33 : decode cX12_costOf 33 = .ok (.iinc 3 1, 3) := by decide +kernel
theorem dX12_costOf_36 : decode cX12_costOf 36 = .ok (.goto (-32), 3) := by decide +kernel
theorem dX12_costOf_39 : decode cX12_costOf 39 = .ok (.iload_n 2, 1) := by decide +kernel
theorem dX12_costOf_40 : decode cX12_costOf 40 = .ok (.ireturn, 1) := by decide +kernel
theorem dX12_buysBy_0 : decode cX12_buysBy 0 = .ok (.aload_n 0, 1) := by decide +kernel
theorem dX12_buysBy_1 : decode cX12_buysBy 1 = .ok (.iload_n 1, 1) := by decide +kernel
theorem dX12_buysBy_2 : decode cX12_buysBy 2 = .ok (.invokevirtual 339, 3) := by decide +kernel
theorem dX12_buysBy_5 : decode cX12_buysBy 5 = .ok (.istore_n 2, 1) := by decide +kernel
theorem dX12_buysBy_6 : decode cX12_buysBy 6 = .ok (.iconst (-1), 1) := by decide +kernel
theorem dX12_buysBy_7 : decode cX12_buysBy 7 = .ok (.istore_n 3, 1) := by decide +kernel
theorem dX12_buysBy_8 : decode cX12_buysBy 8 = .ok (.aload_n 0, 1) := by decide +kernel
theorem dX12_buysBy_9 : decode cX12_buysBy 9 = .ok (.iconst 0, 1) := by decide +kernel
theorem dX12_buysBy_10 : decode cX12_buysBy 10 = .ok (.putfield 342, 3) := by decide +kernel
theorem dX12_buysBy_13 : decode cX12_buysBy 13 = .ok (.aload_n 0, 1) := by decide +kernel
theorem dX12_buysBy_14 : decode cX12_buysBy 14 = .ok (.iconst 0, 1) := by decide +kernel
theorem dX12_buysBy_15 : decode cX12_buysBy 15 = .ok (.putfield 345, 3) := by decide +kernel
theorem dX12_buysBy_18 : decode cX12_buysBy 18 = .ok (.iconst 0, 1) := by decide +kernel
theorem dX12_buysBy_19 : decode cX12_buysBy 19 = .ok (.istore 4, 2) := by decide +kernel
theorem dX12_buysBy_21 : decode cX12_buysBy 21 = .ok (.iload 4, 2) := by decide +kernel
theorem dX12_buysBy_23 : decode cX12_buysBy 23 = .ok (.iconst 1, 1) := by decide +kernel
theorem dX12_buysBy_24 : decode cX12_buysBy 24 = .ok (.aload_n 0, 1) := by decide +kernel
theorem dX12_buysBy_25 : decode cX12_buysBy 25 = .ok (.getfield 131, 3) := by decide +kernel
theorem dX12_buysBy_28 : decode cX12_buysBy 28 = .ok (.ishl, 1) := by decide +kernel
theorem dX12_buysBy_29 : decode cX12_buysBy 29 = .ok (.if_icmp .ge 100, 3) := by decide +kernel
theorem dX12_buysBy_32 : decode cX12_buysBy 32 = .ok (.aload_n 0, 1) := by decide +kernel
theorem dX12_buysBy_33 : decode cX12_buysBy 33 = .ok (.iload_n 2, 1) := by decide +kernel
theorem dX12_buysBy_34 : decode cX12_buysBy 34 = .ok (.iload 4, 2) := by decide +kernel
theorem dX12_buysBy_36 : decode cX12_buysBy 36 = .ok (.invokevirtual 348, 3) := by decide +kernel
theorem dX12_buysBy_39 : decode cX12_buysBy 39 = .ok (.ifCond .ne 6, 3) := by decide +kernel
theorem dX12_buysBy_42 : decode cX12_buysBy 42 = .ok (.goto 81, 3) := by decide +kernel
theorem dX12_buysBy_45 : decode cX12_buysBy 45 = .ok (.aload_n 0, 1) := by decide +kernel
theorem dX12_buysBy_46 : decode cX12_buysBy 46 = .ok (.iload 4, 2) := by decide +kernel
theorem dX12_buysBy_48 : decode cX12_buysBy 48 = .ok (.invokevirtual 351, 3) := by decide +kernel
theorem dX12_buysBy_51 : decode cX12_buysBy 51 = .ok (.istore 5, 2) := by decide +kernel
theorem dX12_buysBy_53 : decode cX12_buysBy 53 = .ok (.aload_n 0, 1) := by decide +kernel
theorem dX12_buysBy_54 : decode cX12_buysBy 54 = .ok (.iload_n 2, 1) := by decide +kernel
theorem dX12_buysBy_55 : decode cX12_buysBy 55 = .ok (.iload 4, 2) := by decide +kernel
theorem dX12_buysBy_57 : decode cX12_buysBy 57 = .ok (.invokevirtual 354, 3) := by decide +kernel
theorem dX12_buysBy_60 : decode cX12_buysBy 60 = .ok (.istore 6, 2) := by decide +kernel
theorem dX12_buysBy_62 : decode cX12_buysBy 62 = .ok (.iload 5, 2) := by decide +kernel
theorem dX12_buysBy_64 : decode cX12_buysBy 64 = .ok (.aload_n 0, 1) := by decide +kernel
theorem dX12_buysBy_65 : decode cX12_buysBy 65 = .ok (.getfield 35, 3) := by decide +kernel
theorem dX12_buysBy_68 : decode cX12_buysBy 68 = .ok (.iload_n 1, 1) := by decide +kernel
theorem dX12_buysBy_69 : decode cX12_buysBy 69 = .ok (.iaload, 1) := by decide +kernel
theorem dX12_buysBy_70 : decode cX12_buysBy 70 = .ok (.if_icmp .gt 53, 3) := by decide +kernel
theorem dX12_buysBy_73 : decode cX12_buysBy 73 = .ok (.iload_n 3, 1) := by decide +kernel
theorem dX12_buysBy_74 : decode cX12_buysBy 74 = .ok (.iconst (-1), 1) := by decide +kernel
theorem dX12_buysBy_75 : decode cX12_buysBy 75 = .ok (.if_icmp .eq 33, 3) := by decide +kernel
theorem dX12_buysBy_78 : decode cX12_buysBy 78 = .ok (.iload 6, 2) := by decide +kernel
theorem dX12_buysBy_80 : decode cX12_buysBy 80 = .ok (.aload_n 0, 1) := by decide +kernel
theorem dX12_buysBy_81 : decode cX12_buysBy 81 = .ok (.getfield 345, 3) := by decide +kernel
theorem dX12_buysBy_84 : decode cX12_buysBy 84 = .ok (.if_icmp .lt 39, 3) := by decide +kernel
theorem dX12_buysBy_87 : decode cX12_buysBy 87 = .ok (.iload 6, 2) := by decide +kernel
theorem dX12_buysBy_89 : decode cX12_buysBy 89 = .ok (.aload_n 0, 1) := by decide +kernel
theorem dX12_buysBy_90 : decode cX12_buysBy 90 = .ok (.getfield 345, 3) := by decide +kernel
theorem dX12_buysBy_93 : decode cX12_buysBy 93 = .ok (.if_icmp .ne 15, 3) := by decide +kernel
theorem dX12_buysBy_96 : decode cX12_buysBy 96 = .ok (.iload 5, 2) := by decide +kernel
theorem dX12_buysBy_98 : decode cX12_buysBy 98 = .ok (.aload_n 0, 1) := by decide +kernel
theorem dX12_buysBy_99 : decode cX12_buysBy 99 = .ok (.getfield 342, 3) := by decide +kernel
theorem dX12_buysBy_102 : decode cX12_buysBy 102 = .ok (.if_icmp .lt 6, 3) := by decide +kernel
theorem dX12_buysBy_105 : decode cX12_buysBy 105 = .ok (.goto 18, 3) := by decide +kernel
theorem dX12_buysBy_108 : decode cX12_buysBy 108 = .ok (.iload 4, 2) := by decide +kernel
theorem dX12_buysBy_110 : decode cX12_buysBy 110 = .ok (.istore_n 3, 1) := by decide +kernel
theorem dX12_buysBy_111 : decode cX12_buysBy 111 = .ok (.aload_n 0, 1) := by decide +kernel
theorem dX12_buysBy_112 : decode cX12_buysBy 112 = .ok (.iload 5, 2) := by decide +kernel
theorem dX12_buysBy_114 : decode cX12_buysBy 114 = .ok (.putfield 342, 3) := by decide +kernel
theorem dX12_buysBy_117 : decode cX12_buysBy 117 = .ok (.aload_n 0, 1) := by decide +kernel
theorem dX12_buysBy_118 : decode cX12_buysBy 118 = .ok (.iload 6, 2) := by decide +kernel
theorem dX12_buysBy_120 : decode cX12_buysBy 120 = .ok (.putfield 345, 3) := by decide +kernel
theorem dX12_buysBy_123 : decode cX12_buysBy 123 = .ok (.iinc 4 1, 3) := by decide +kernel
theorem dX12_buysBy_126 : decode cX12_buysBy 126 = .ok (.goto (-105), 3) := by decide +kernel
theorem dX12_buysBy_129 : decode cX12_buysBy 129 = .ok (.iload_n 3, 1) := by decide +kernel
theorem dX12_buysBy_130 : decode cX12_buysBy 130 = .ok (.ireturn, 1) := by decide +kernel
theorem dX12_told_0 : decode cX12_told 0 = .ok (.aload_n 0, 1) := by decide +kernel
theorem dX12_told_1 : decode cX12_told 1 = .ok (.invokevirtual 357, 3) := by decide +kernel
theorem dX12_told_4 : decode cX12_told 4 = .ok (.iconst 0, 1) := by decide +kernel
theorem dX12_told_5 : decode cX12_told 5 = .ok (.istore_n 1, 1) := by decide +kernel
theorem dX12_told_6 : decode cX12_told 6 = .ok (.iload_n 1, 1) := by decide +kernel
theorem dX12_told_7 : decode cX12_told 7 = .ok (.bipush 10, 2) := by decide +kernel
theorem dX12_told_9 : decode cX12_told 9 = .ok (.if_icmp .ge 21, 3) := by decide +kernel
theorem dX12_told_12 : decode cX12_told 12 = .ok (.aload_n 0, 1) := by decide +kernel
theorem dX12_told_13 : decode cX12_told 13 = .ok (.getfield 95, 3) := by decide +kernel
theorem dX12_told_16 : decode cX12_told 16 = .ok (.iload_n 1, 1) := by decide +kernel
theorem dX12_told_17 : decode cX12_told 17 = .ok (.aload_n 0, 1) := by decide +kernel
theorem dX12_told_18 : decode cX12_told 18 = .ok (.getfield 26, 3) := by decide +kernel
theorem dX12_told_21 : decode cX12_told 21 = .ok (.iload_n 1, 1) := by decide +kernel
theorem dX12_told_22 : decode cX12_told 22 = .ok (.iaload, 1) := by decide +kernel
theorem dX12_told_23 : decode cX12_told 23 = .ok (.iastore, 1) := by decide +kernel
theorem dX12_told_24 : decode cX12_told 24 = .ok (.iinc 1 1, 3) := by decide +kernel
theorem dX12_told_27 : decode cX12_told 27 = .ok (.goto (-21), 3) := by decide +kernel
theorem dX12_told_30 : decode cX12_told 30 = .ok (.return_, 1) := by decide +kernel
theorem dX12_buys_0 : decode cX12_buys 0 = .ok (.aload_n 0, 1) := by decide +kernel
theorem dX12_buys_1 : decode cX12_buys 1 = .ok (.iload_n 1, 1) := by decide +kernel
theorem dX12_buys_2 : decode cX12_buys 2 = .ok (.invokevirtual 151, 3) := by decide +kernel
theorem dX12_buys_5 : decode cX12_buys 5 = .ok (.ifCond .eq 12, 3) := by decide +kernel
theorem dX12_buys_8 : decode cX12_buys 8 = .ok (.iload_n 2, 1) := by decide +kernel
theorem dX12_buys_9 : decode cX12_buys 9 = .ok (.iconst 0, 1) := by decide +kernel
theorem dX12_buys_10 : decode cX12_buys 10 = .ok (.iconst 2, 1) := by decide +kernel
theorem dX12_buys_11 : decode cX12_buys 11 = .ok (.invokestatic 134, 3) := by decide +kernel
theorem dX12_buys_14 : decode cX12_buys 14 = .ok (.ifCond .ne 7, 3) := by decide +kernel
theorem dX12_buys_17 : decode cX12_buys 17 = .ok (.ldc_w 331, 3) := by decide +kernel
theorem dX12_buys_20 : decode cX12_buys 20 = .ok (.ireturn, 1) := by decide +kernel
theorem dX12_buys_21 : decode cX12_buys 21 = .ok (.aload_n 0, 1) := by decide +kernel
theorem dX12_buys_22 : decode cX12_buys 22 = .ok (.invokevirtual 360, 3) := by decide +kernel
theorem dX12_buys_25 : decode cX12_buys 25 = .ok (.aload_n 0, 1) := by decide +kernel
theorem dX12_buys_26 : decode cX12_buys 26 = .ok (.iload_n 1, 1) := by decide +kernel
theorem dX12_buys_27 : decode cX12_buys 27 = .ok (.invokevirtual 363, 3) := by decide +kernel
theorem dX12_buys_30 : decode cX12_buys 30 = .ok (.istore_n 3, 1) := by decide +kernel
theorem dX12_buys_31 : decode cX12_buys 31 = .ok (.iload_n 2, 1) := by decide +kernel
theorem dX12_buys_32 : decode cX12_buys 32 = .ok (.ifCond .ne 11, 3) := by decide +kernel
theorem dX12_buys_35 : decode cX12_buys 35 = .ok (.iconst 0, 1) := by decide +kernel
theorem dX12_buys_36 : decode cX12_buys 36 = .ok (.iload_n 3, 1) := by decide +kernel
theorem dX12_buys_37 : decode cX12_buys 37 = .ok (.invokestatic 304, 3) := by decide +kernel
theorem dX12_buys_40 : decode cX12_buys 40 = .ok (.goto 19, 3) := by decide +kernel
theorem dX12_buys_43 : decode cX12_buys 43 = .ok (.iload_n 2, 1) := by decide +kernel
theorem dX12_buys_44 : decode cX12_buys 44 = .ok (.iconst 1, 1) := by decide +kernel
theorem dX12_buys_45 : decode cX12_buys 45 = .ok (.if_icmp .ne 10, 3) := by decide +kernel
theorem dX12_buys_48 : decode cX12_buys 48 = .ok (.aload_n 0, 1) := by decide +kernel
theorem dX12_buys_49 : decode cX12_buys 49 = .ok (.getfield 342, 3) := by decide +kernel
theorem dX12_buys_52 : decode cX12_buys 52 = .ok (.goto 7, 3) := by decide +kernel
theorem dX12_buys_55 : decode cX12_buys 55 = .ok (.aload_n 0, 1) := by decide +kernel
theorem dX12_buys_56 : decode cX12_buys 56 = .ok (.getfield 345, 3) := by decide +kernel
theorem dX12_buys_59 : decode cX12_buys 59 = .ok (.ireturn, 1) := by decide +kernel
theorem dX12_dear_0 : decode cX12_dear 0 = .ok (.aload_n 0, 1) := by decide +kernel
theorem dX12_dear_1 : decode cX12_dear 1 = .ok (.iload_n 1, 1) := by decide +kernel
theorem dX12_dear_2 : decode cX12_dear 2 = .ok (.invokevirtual 151, 3) := by decide +kernel
theorem dX12_dear_5 : decode cX12_dear 5 = .ok (.ifCond .ne 6, 3) := by decide +kernel
theorem dX12_dear_8 : decode cX12_dear 8 = .ok (.bipush (-2), 2) := by decide +kernel
theorem dX12_dear_10 : decode cX12_dear 10 = .ok (.ireturn, 1) := by decide +kernel
theorem dX12_dear_11 : decode cX12_dear 11 = .ok (.aload_n 0, 1) := by decide +kernel
theorem dX12_dear_12 : decode cX12_dear 12 = .ok (.invokevirtual 360, 3) := by decide +kernel
theorem dX12_dear_15 : decode cX12_dear 15 = .ok (.aload_n 0, 1) := by decide +kernel
theorem dX12_dear_16 : decode cX12_dear 16 = .ok (.iload_n 1, 1) := by decide +kernel
theorem dX12_dear_17 : decode cX12_dear 17 = .ok (.invokevirtual 363, 3) := by decide +kernel
theorem dX12_dear_20 : decode cX12_dear 20 = .ok (.pop, 1) := by decide +kernel
theorem dX12_dear_21 : decode cX12_dear 21 = .ok (.iconst (-1), 1) := by decide +kernel
theorem dX12_dear_22 : decode cX12_dear 22 = .ok (.istore_n 2, 1) := by decide +kernel
theorem dX12_dear_23 : decode cX12_dear 23 = .ok (.iconst 0, 1) := by decide +kernel
theorem dX12_dear_24 : decode cX12_dear 24 = .ok (.istore_n 3, 1) := by decide +kernel
theorem dX12_dear_25 : decode cX12_dear 25 = .ok (.iload_n 3, 1) := by decide +kernel
theorem dX12_dear_26 : decode cX12_dear 26 = .ok (.iconst 1, 1) := by decide +kernel
theorem dX12_dear_27 : decode cX12_dear 27 = .ok (.aload_n 0, 1) := by decide +kernel
theorem dX12_dear_28 : decode cX12_dear 28 = .ok (.getfield 131, 3) := by decide +kernel
theorem dX12_dear_31 : decode cX12_dear 31 = .ok (.ishl, 1) := by decide +kernel
theorem dX12_dear_32 : decode cX12_dear 32 = .ok (.if_icmp .ge 51, 3) := by decide +kernel
theorem dX12_dear_35 : decode cX12_dear 35 = .ok (.aload_n 0, 1) := by decide +kernel
theorem dX12_dear_36 : decode cX12_dear 36 = .ok (.iload_n 1, 1) := by decide +kernel
theorem dX12_dear_37 : decode cX12_dear 37 = .ok (.iload_n 3, 1) := by decide +kernel
theorem dX12_dear_38 : decode cX12_dear 38 = .ok (.invokevirtual 348, 3) := by decide +kernel
theorem dX12_dear_41 : decode cX12_dear 41 = .ok (.ifCond .eq 36, 3) := by decide +kernel
theorem dX12_dear_44 : decode cX12_dear 44 = .ok (.aload_n 0, 1) := by decide +kernel
theorem dX12_dear_45 : decode cX12_dear 45 = .ok (.iload_n 1, 1) := by decide +kernel
theorem dX12_dear_46 : decode cX12_dear 46 = .ok (.iload_n 3, 1) := by decide +kernel
theorem dX12_dear_47 : decode cX12_dear 47 = .ok (.invokevirtual 354, 3) := by decide +kernel
theorem dX12_dear_50 : decode cX12_dear 50 = .ok (.aload_n 0, 1) := by decide +kernel
theorem dX12_dear_51 : decode cX12_dear 51 = .ok (.getfield 345, 3) := by decide +kernel
theorem dX12_dear_54 : decode cX12_dear 54 = .ok (.if_icmp .le 23, 3) := by decide +kernel
theorem dX12_dear_57 : decode cX12_dear 57 = .ok (.iload_n 2, 1) := by decide +kernel
theorem dX12_dear_58 : decode cX12_dear 58 = .ok (.iconst (-1), 1) := by decide +kernel
theorem dX12_dear_59 : decode cX12_dear 59 = .ok (.if_icmp .eq 12, 3) := by decide +kernel
theorem dX12_dear_62 : decode cX12_dear 62 = .ok (.aload_n 0, 1) := by decide +kernel
theorem dX12_dear_63 : decode cX12_dear 63 = .ok (.iload_n 3, 1) := by decide +kernel
theorem dX12_dear_64 : decode cX12_dear 64 = .ok (.invokevirtual 351, 3) := by decide +kernel
theorem dX12_dear_67 : decode cX12_dear 67 = .ok (.iload_n 2, 1) := by decide +kernel
theorem dX12_dear_68 : decode cX12_dear 68 = .ok (.if_icmp .ge 9, 3) := by decide +kernel
theorem dX12_dear_71 : decode cX12_dear 71 = .ok (.aload_n 0, 1) := by decide +kernel
theorem dX12_dear_72 : decode cX12_dear 72 = .ok (.iload_n 3, 1) := by decide +kernel
theorem dX12_dear_73 : decode cX12_dear 73 = .ok (.invokevirtual 351, 3) := by decide +kernel
theorem dX12_dear_76 : decode cX12_dear 76 = .ok (.istore_n 2, 1) := by decide +kernel
theorem dX12_dear_77 : decode cX12_dear 77 = .ok (.iinc 3 1, 3) := by decide +kernel
theorem dX12_dear_80 : decode cX12_dear 80 = .ok (.goto (-55), 3) := by decide +kernel
theorem dX12_dear_83 : decode cX12_dear 83 = .ok (.iload_n 2, 1) := by decide +kernel
theorem dX12_dear_84 : decode cX12_dear 84 = .ok (.iconst (-1), 1) := by decide +kernel
theorem dX12_dear_85 : decode cX12_dear 85 = .ok (.if_icmp .ne 7, 3) := by decide +kernel
theorem dX12_dear_88 : decode cX12_dear 88 = .ok (.iconst (-1), 1) := by decide +kernel
theorem dX12_dear_89 : decode cX12_dear 89 = .ok (.goto 11, 3) := by decide +kernel
theorem dX12_dear_92 : decode cX12_dear 92 = .ok (.iload_n 2, 1) := by decide +kernel
theorem dX12_dear_93 : decode cX12_dear 93 = .ok (.aload_n 0, 1) := by decide +kernel
theorem dX12_dear_94 : decode cX12_dear 94 = .ok (.getfield 35, 3) := by decide +kernel
theorem dX12_dear_97 : decode cX12_dear 97 = .ok (.iload_n 1, 1) := by decide +kernel
theorem dX12_dear_98 : decode cX12_dear 98 = .ok (.iaload, 1) := by decide +kernel
theorem dX12_dear_99 : decode cX12_dear 99 = .ok (.isub, 1) := by decide +kernel
theorem dX12_dear_100 : decode cX12_dear 100 = .ok (.ireturn, 1) := by decide +kernel
theorem dX12_squares_0 : decode cX12_squares 0 = .ok (.iconst 0, 1) := by decide +kernel
theorem dX12_squares_1 : decode cX12_squares 1 = .ok (.istore_n 1, 1) := by decide +kernel
theorem dX12_squares_2 : decode cX12_squares 2 = .ok (.iload_n 1, 1) := by decide +kernel
theorem dX12_squares_3 : decode cX12_squares 3 = .ok (.aload_n 0, 1) := by decide +kernel
theorem dX12_squares_4 : decode cX12_squares 4 = .ok (.getfield 138, 3) := by decide +kernel
theorem dX12_squares_7 : decode cX12_squares 7 = .ok (.if_icmp .ge 24, 3) := by decide +kernel
theorem dX12_squares_10 : decode cX12_squares 10 = .ok (.aload_n 0, 1) := by decide +kernel
theorem dX12_squares_11 : decode cX12_squares 11 = .ok (.getfield 98, 3) := by decide +kernel
theorem dX12_squares_14 : decode cX12_squares 14 = .ok (.iload_n 1, 1) := by decide +kernel
theorem dX12_squares_15 : decode cX12_squares 15 = .ok (.iconst 0, 1) := by decide +kernel
theorem dX12_squares_16 : decode cX12_squares 16 = .ok (.aload_n 0, 1) := by decide +kernel
theorem dX12_squares_17 : decode cX12_squares 17 = .ok (.iload_n 1, 1) := by decide +kernel
theorem dX12_squares_18 : decode cX12_squares 18 = .ok (.invokevirtual 363, 3) := by decide +kernel
theorem dX12_squares_21 : decode cX12_squares 21 = .ok (.invokestatic 304, 3) := by decide +kernel
theorem dX12_squares_24 : decode cX12_squares 24 = .ok (.iastore, 1) := by decide +kernel
theorem dX12_squares_25 : decode cX12_squares 25 = .ok (.iinc 1 1, 3) := by decide +kernel
theorem dX12_squares_28 : decode cX12_squares 28 = .ok (.goto (-26), 3) := by decide +kernel
theorem dX12_squares_31 : decode cX12_squares 31 = .ok (.iconst 0, 1) := by decide +kernel
theorem dX12_squares_32 : decode cX12_squares 32 = .ok (.istore_n 1, 1) := by decide +kernel
theorem dX12_squares_33 : decode cX12_squares 33 = .ok (.iconst 0, 1) := by decide +kernel
theorem dX12_squares_34 : decode cX12_squares 34 = .ok (.istore_n 2, 1) := by decide +kernel
theorem dX12_squares_35 : decode cX12_squares 35 = .ok (.iload_n 2, 1) := by decide +kernel
theorem dX12_squares_36 : decode cX12_squares 36 = .ok (.aload_n 0, 1) := by decide +kernel
theorem dX12_squares_37 : decode cX12_squares 37 = .ok (.getfield 131, 3) := by decide +kernel
theorem dX12_squares_40 : decode cX12_squares 40 = .ok (.if_icmp .ge 101, 3) := by decide +kernel
theorem dX12_squares_43 : decode cX12_squares 43 = .ok (.aload_n 0, 1) := by decide +kernel
theorem dX12_squares_44 : decode cX12_squares 44 = .ok (.getfield 101, 3) := by decide +kernel
theorem dX12_squares_47 : decode cX12_squares 47 = .ok (.iload_n 2, 1) := by decide +kernel
theorem dX12_squares_48 : decode cX12_squares 48 = .ok (.aload_n 0, 1) := by decide +kernel
theorem dX12_squares_49 : decode cX12_squares 49 = .ok (.getfield 16, 3) := by decide +kernel
theorem dX12_squares_52 : decode cX12_squares 52 = .ok (.iload_n 2, 1) := by decide +kernel
theorem dX12_squares_53 : decode cX12_squares 53 = .ok (.iaload, 1) := by decide +kernel
theorem dX12_squares_54 : decode cX12_squares 54 = .ok (.ineg, 1) := by decide +kernel
theorem dX12_squares_55 : decode cX12_squares 55 = .ok (.iastore, 1) := by decide +kernel
theorem dX12_squares_56 : decode cX12_squares 56 = .ok (.iconst 0, 1) := by decide +kernel
theorem dX12_squares_57 : decode cX12_squares 57 = .ok (.istore_n 3, 1) := by decide +kernel
theorem dX12_squares_58 : decode cX12_squares 58 = .ok (.iload_n 3, 1) := by decide +kernel
theorem dX12_squares_59 : decode cX12_squares 59 = .ok (.aload_n 0, 1) := by decide +kernel
theorem dX12_squares_60 : decode cX12_squares 60 = .ok (.getfield 138, 3) := by decide +kernel
theorem dX12_squares_63 : decode cX12_squares 63 = .ok (.if_icmp .ge 31, 3) := by decide +kernel
theorem dX12_squares_66 : decode cX12_squares 66 = .ok (.aload_n 0, 1) := by decide +kernel
theorem dX12_squares_67 : decode cX12_squares 67 = .ok (.getfield 101, 3) := by decide +kernel
theorem dX12_squares_70 : decode cX12_squares 70 = .ok (.iload_n 2, 1) := by decide +kernel
theorem dX12_squares_71 : decode cX12_squares 71 = .ok (.dup2, 1) := by decide +kernel
theorem dX12_squares_72 : decode cX12_squares 72 = .ok (.iaload, 1) := by decide +kernel
theorem dX12_squares_73 : decode cX12_squares 73 = .ok (.aload_n 0, 1) := by decide +kernel
theorem dX12_squares_74 : decode cX12_squares 74 = .ok (.getfield 98, 3) := by decide +kernel
theorem dX12_squares_77 : decode cX12_squares 77 = .ok (.iload_n 3, 1) := by decide +kernel
theorem dX12_squares_78 : decode cX12_squares 78 = .ok (.iaload, 1) := by decide +kernel
theorem dX12_squares_79 : decode cX12_squares 79 = .ok (.iload_n 2, 1) := by decide +kernel
theorem dX12_squares_80 : decode cX12_squares 80 = .ok (.invokestatic 289, 3) := by decide +kernel
theorem dX12_squares_83 : decode cX12_squares 83 = .ok (.invokestatic 293, 3) := by decide +kernel
theorem dX12_squares_86 : decode cX12_squares 86 = .ok (.iadd, 1) := by decide +kernel
theorem dX12_squares_87 : decode cX12_squares 87 = .ok (.iastore, 1) := by decide +kernel
theorem dX12_squares_88 : decode cX12_squares 88 = .ok (.iinc 3 1, 3) := by decide +kernel
theorem dX12_squares_91 : decode cX12_squares 91 = .ok (.goto (-33), 3) := by decide +kernel
theorem dX12_squares_94 : decode cX12_squares 94 = .ok (.aload_n 0, 1) := by decide +kernel
theorem dX12_squares_95 : decode cX12_squares 95 = .ok (.getfield 101, 3) := by decide +kernel
theorem dX12_squares_98 : decode cX12_squares 98 = .ok (.iload_n 2, 1) := by decide +kernel
theorem dX12_squares_99 : decode cX12_squares 99 = .ok (.iaload, 1) := by decide +kernel
theorem dX12_squares_100 : decode cX12_squares 100 = .ok (.ifCond .ge 19, 3) := by decide +kernel
theorem dX12_squares_103 : decode cX12_squares 103 = .ok (.aload_n 0, 1) := by decide +kernel
theorem dX12_squares_104 : decode cX12_squares 104 = .ok (.getfield 95, 3) := by decide +kernel
theorem dX12_squares_107 : decode cX12_squares 107 = .ok (.iload_n 2, 1) := by decide +kernel
theorem dX12_squares_108 : decode cX12_squares 108 = .ok (.iaload, 1) := by decide +kernel
theorem dX12_squares_109 : decode cX12_squares 109 = .ok (.ifCond .ne 10, 3) := by decide +kernel
theorem dX12_squares_112 : decode cX12_squares 112 = .ok (.aload_n 0, 1) := by decide +kernel
theorem dX12_squares_113 : decode cX12_squares 113 = .ok (.getfield 101, 3) := by decide +kernel
theorem dX12_squares_116 : decode cX12_squares 116 = .ok (.iload_n 2, 1) := by decide +kernel
theorem dX12_squares_117 : decode cX12_squares 117 = .ok (.iconst 0, 1) := by decide +kernel
theorem dX12_squares_118 : decode cX12_squares 118 = .ok (.iastore, 1) := by decide +kernel
theorem dX12_squares_119 : decode cX12_squares 119 = .ok (.iload_n 1, 1) := by decide +kernel
theorem dX12_squares_120 : decode cX12_squares 120 = .ok (.aload_n 0, 1) := by decide +kernel
theorem dX12_squares_121 : decode cX12_squares 121 = .ok (.getfield 101, 3) := by decide +kernel
theorem dX12_squares_124 : decode cX12_squares 124 = .ok (.iload_n 2, 1) := by decide +kernel
theorem dX12_squares_125 : decode cX12_squares 125 = .ok (.iaload, 1) := by decide +kernel
theorem dX12_squares_126 : decode cX12_squares 126 = .ok (.aload_n 0, 1) := by decide +kernel
theorem dX12_squares_127 : decode cX12_squares 127 = .ok (.getfield 101, 3) := by decide +kernel
theorem dX12_squares_130 : decode cX12_squares 130 = .ok (.iload_n 2, 1) := by decide +kernel
theorem dX12_squares_131 : decode cX12_squares 131 = .ok (.iaload, 1) := by decide +kernel
theorem dX12_squares_132 : decode cX12_squares 132 = .ok (.imul, 1) := by decide +kernel
theorem dX12_squares_133 : decode cX12_squares 133 = .ok (.iadd, 1) := by decide +kernel
theorem dX12_squares_134 : decode cX12_squares 134 = .ok (.istore_n 1, 1) := by decide +kernel
theorem dX12_squares_135 : decode cX12_squares 135 = .ok (.iinc 2 1, 3) := by decide +kernel
theorem dX12_squares_138 : decode cX12_squares 138 = .ok (.goto (-103), 3) := by decide +kernel
theorem dX12_squares_141 : decode cX12_squares 141 = .ok (.iload_n 1, 1) := by decide +kernel
theorem dX12_squares_142 : decode cX12_squares 142 = .ok (.ireturn, 1) := by decide +kernel
theorem dX12_over_0 : decode cX12_over 0 = .ok (.aload_n 0, 1) := by decide +kernel
theorem dX12_over_1 : decode cX12_over 1 = .ok (.iload_n 1, 1) := by decide +kernel
theorem dX12_over_2 : decode cX12_over 2 = .ok (.invokevirtual 141, 3) := by decide +kernel
theorem dX12_over_5 : decode cX12_over 5 = .ok (.ifCond .ne 6, 3) := by decide +kernel
theorem dX12_over_8 : decode cX12_over 8 = .ok (.bipush (-100), 2) := by decide +kernel
theorem dX12_over_10 : decode cX12_over 10 = .ok (.ireturn, 1) := by decide +kernel
theorem dX12_over_11 : decode cX12_over 11 = .ok (.aload_n 0, 1) := by decide +kernel
theorem dX12_over_12 : decode cX12_over 12 = .ok (.invokevirtual 360, 3) := by decide +kernel
theorem dX12_over_15 : decode cX12_over 15 = .ok (.aload_n 0, 1) := by decide +kernel
theorem dX12_over_16 : decode cX12_over 16 = .ok (.invokevirtual 366, 3) := by decide +kernel
theorem dX12_over_19 : decode cX12_over 19 = .ok (.pop, 1) := by decide +kernel
theorem dX12_over_20 : decode cX12_over 20 = .ok (.aload_n 0, 1) := by decide +kernel
theorem dX12_over_21 : decode cX12_over 21 = .ok (.getfield 101, 3) := by decide +kernel
theorem dX12_over_24 : decode cX12_over 24 = .ok (.iload_n 1, 1) := by decide +kernel
theorem dX12_over_25 : decode cX12_over 25 = .ok (.iaload, 1) := by decide +kernel
theorem dX12_over_26 : decode cX12_over 26 = .ok (.ireturn, 1) := by decide +kernel
theorem dX12_square_0 : decode cX12_square 0 = .ok (.aload_n 0, 1) := by decide +kernel
theorem dX12_square_1 : decode cX12_square 1 = .ok (.invokevirtual 360, 3) := by decide +kernel
theorem dX12_square_4 : decode cX12_square 4 = .ok (.aload_n 0, 1) := by decide +kernel
theorem dX12_square_5 : decode cX12_square 5 = .ok (.invokevirtual 366, 3) := by decide +kernel
theorem dX12_square_8 : decode cX12_square 8 = .ok (.ireturn, 1) := by decide +kernel
theorem dX12_wasGone_0 : decode cX12_wasGone 0 = .ok (.iconst 0, 1) := by decide +kernel
theorem dX12_wasGone_1 : decode cX12_wasGone 1 = .ok (.aload_n 0, 1) := by decide +kernel
theorem dX12_wasGone_2 : decode cX12_wasGone 2 = .ok (.getfield 370, 3) := by decide +kernel
theorem dX12_wasGone_5 : decode cX12_wasGone 5 = .ok (.iconst 1, 1) := by decide +kernel
theorem dX12_wasGone_6 : decode cX12_wasGone 6 = .ok (.iadd, 1) := by decide +kernel
theorem dX12_wasGone_7 : decode cX12_wasGone 7 = .ok (.bipush 8, 2) := by decide +kernel
theorem dX12_wasGone_9 : decode cX12_wasGone 9 = .ok (.isub, 1) := by decide +kernel
theorem dX12_wasGone_10 : decode cX12_wasGone 10 = .ok (.invokestatic 304, 3) := by decide +kernel
theorem dX12_wasGone_13 : decode cX12_wasGone 13 = .ok (.istore_n 1, 1) := by decide +kernel
theorem dX12_wasGone_14 : decode cX12_wasGone 14 = .ok (.iload_n 1, 1) := by decide +kernel
theorem dX12_wasGone_15 : decode cX12_wasGone 15 = .ok (.aload_n 0, 1) := by decide +kernel
theorem dX12_wasGone_16 : decode cX12_wasGone 16 = .ok (.getfield 370, 3) := by decide +kernel
theorem dX12_wasGone_19 : decode cX12_wasGone 19 = .ok (.if_icmp .gt 63, 3) := by decide +kernel
theorem dX12_wasGone_22 : decode cX12_wasGone 22 = .ok (.iconst 1, 1) := by decide +kernel
theorem dX12_wasGone_23 : decode cX12_wasGone 23 = .ok (.istore_n 2, 1) := by decide +kernel
theorem dX12_wasGone_24 : decode cX12_wasGone 24 = .ok (.iconst 0, 1) := by decide +kernel
theorem dX12_wasGone_25 : decode cX12_wasGone 25 = .ok (.istore_n 3, 1) := by decide +kernel
theorem dX12_wasGone_26 : decode cX12_wasGone 26 = .ok (.iload_n 3, 1) := by decide +kernel
theorem dX12_wasGone_27 : decode cX12_wasGone 27 = .ok (.aload_n 0, 1) := by decide +kernel
theorem dX12_wasGone_28 : decode cX12_wasGone 28 = .ok (.getfield 131, 3) := by decide +kernel
theorem dX12_wasGone_31 : decode cX12_wasGone 31 = .ok (.if_icmp .ge 39, 3) := by decide +kernel
theorem dX12_wasGone_34 : decode cX12_wasGone 34 = .ok (.iload_n 2, 1) := by decide +kernel
theorem dX12_wasGone_35 : decode cX12_wasGone 35 = .ok (.ifCond .eq 27, 3) := by decide +kernel
theorem dX12_wasGone_38 : decode cX12_wasGone 38 = .ok (.aload_n 0, 1) := by decide +kernel
theorem dX12_wasGone_39 : decode cX12_wasGone 39 = .ok (.getfield 104, 3) := by decide +kernel
theorem dX12_wasGone_42 : decode cX12_wasGone 42 = .ok (.bipush 10, 2) := by decide +kernel
theorem dX12_wasGone_44 : decode cX12_wasGone 44 = .ok (.iload_n 1, 1) := by decide +kernel
theorem dX12_wasGone_45 : decode cX12_wasGone 45 = .ok (.imul, 1) := by decide +kernel
theorem dX12_wasGone_46 : decode cX12_wasGone 46 = .ok (.iload_n 3, 1) := by decide +kernel
theorem dX12_wasGone_47 : decode cX12_wasGone 47 = .ok (.iadd, 1) := by decide +kernel
theorem dX12_wasGone_48 : decode cX12_wasGone 48 = .ok (.iaload, 1) := by decide +kernel
theorem dX12_wasGone_49 : decode cX12_wasGone 49 = .ok (.aload_n 0, 1) := by decide +kernel
theorem dX12_wasGone_50 : decode cX12_wasGone 50 = .ok (.getfield 95, 3) := by decide +kernel
theorem dX12_wasGone_53 : decode cX12_wasGone 53 = .ok (.iload_n 3, 1) := by decide +kernel
theorem dX12_wasGone_54 : decode cX12_wasGone 54 = .ok (.iaload, 1) := by decide +kernel
theorem dX12_wasGone_55 : decode cX12_wasGone 55 = .ok (.if_icmp .ne 7, 3) := by decide +kernel
theorem dX12_wasGone_58 : decode cX12_wasGone 58 = .ok (.iconst 1, 1) := by decide +kernel
theorem dX12_wasGone_59 : decode cX12_wasGone 59 = .ok (.goto 4, 3) := by decide +kernel
theorem dX12_wasGone_62 : decode cX12_wasGone 62 = .ok (.iconst 0, 1) := by decide +kernel
theorem dX12_wasGone_63 : decode cX12_wasGone 63 = .ok (.istore_n 2, 1) := by decide +kernel
theorem dX12_wasGone_64 : decode cX12_wasGone 64 = .ok (.iinc 3 1, 3) := by decide +kernel
theorem dX12_wasGone_67 : decode cX12_wasGone 67 = .ok (.goto (-41), 3) := by decide +kernel
theorem dX12_wasGone_70 : decode cX12_wasGone 70 = .ok (.iload_n 2, 1) := by decide +kernel
theorem dX12_wasGone_71 : decode cX12_wasGone 71 = .ok (.ifCond .eq 5, 3) := by decide +kernel
theorem dX12_wasGone_74 : decode cX12_wasGone 74 = .ok (.iconst 1, 1) := by decide +kernel
theorem dX12_wasGone_75 : decode cX12_wasGone 75 = .ok (.ireturn, 1) := by decide +kernel
theorem dX12_wasGone_76 : decode cX12_wasGone 76 = .ok (.iinc 1 1, 3) := by decide +kernel
theorem dX12_wasGone_79 : decode cX12_wasGone 79 = .ok (.goto (-65), 3) := by decide +kernel
theorem dX12_wasGone_82 : decode cX12_wasGone 82 = .ok (.iconst 0, 1) := by decide +kernel
theorem dX12_wasGone_83 : decode cX12_wasGone 83 = .ok (.ireturn, 1) := by decide +kernel
theorem dX12_held__0 : decode cX12_held_ 0 = .ok (.iconst 0, 1) := by decide +kernel
theorem dX12_held__1 : decode cX12_held_ 1 = .ok (.sipush 250, 3) := by decide +kernel
theorem dX12_held__4 : decode cX12_held_ 4 = .ok (.iload_n 0, 1) := by decide +kernel
theorem dX12_held__5 : decode cX12_held_ 5 = .ok (.invokestatic 301, 3) := by decide +kernel
theorem dX12_held__8 : decode cX12_held_ 8 = .ok (.invokestatic 304, 3) := by decide +kernel
theorem dX12_held__11 : decode cX12_held_ 11 = .ok (.ireturn, 1) := by decide +kernel
theorem dX12_tries_0 : decode cX12_tries 0 = .ok (.iconst 0, 1) := by decide +kernel
theorem dX12_tries_1 : decode cX12_tries 1 = .ok (.istore_n 2, 1) := by decide +kernel
theorem dX12_tries_2 : decode cX12_tries 2 = .ok (.iload_n 2, 1) := by decide +kernel
theorem dX12_tries_3 : decode cX12_tries 3 = .ok (.bipush 10, 2) := by decide +kernel
theorem dX12_tries_5 : decode cX12_tries 5 = .ok (.if_icmp .ge 101, 3) := by decide +kernel
theorem dX12_tries_8 : decode cX12_tries 8 = .ok (.aload_n 0, 1) := by decide +kernel
theorem dX12_tries_9 : decode cX12_tries 9 = .ok (.getfield 95, 3) := by decide +kernel
theorem dX12_tries_12 : decode cX12_tries 12 = .ok (.iload_n 2, 1) := by decide +kernel
theorem dX12_tries_13 : decode cX12_tries 13 = .ok (.aload_n 0, 1) := by decide +kernel
theorem dX12_tries_14 : decode cX12_tries 14 = .ok (.getfield 107, 3) := by decide +kernel
theorem dX12_tries_17 : decode cX12_tries 17 = .ok (.iload_n 2, 1) := by decide +kernel
theorem dX12_tries_18 : decode cX12_tries 18 = .ok (.iaload, 1) := by decide +kernel
theorem dX12_tries_19 : decode cX12_tries 19 = .ok (.iastore, 1) := by decide +kernel
theorem dX12_tries_20 : decode cX12_tries 20 = .ok (.iload_n 1, 1) := by decide +kernel
theorem dX12_tries_21 : decode cX12_tries 21 = .ok (.aload_n 0, 1) := by decide +kernel
theorem dX12_tries_22 : decode cX12_tries 22 = .ok (.getfield 131, 3) := by decide +kernel
theorem dX12_tries_25 : decode cX12_tries 25 = .ok (.if_icmp .ne 33, 3) := by decide +kernel
theorem dX12_tries_28 : decode cX12_tries 28 = .ok (.aload_n 0, 1) := by decide +kernel
theorem dX12_tries_29 : decode cX12_tries 29 = .ok (.getfield 95, 3) := by decide +kernel
theorem dX12_tries_32 : decode cX12_tries 32 = .ok (.iload_n 2, 1) := by decide +kernel
theorem dX12_tries_33 : decode cX12_tries 33 = .ok (.aload_n 0, 1) := by decide +kernel
theorem dX12_tries_34 : decode cX12_tries 34 = .ok (.getfield 107, 3) := by decide +kernel
theorem dX12_tries_37 : decode cX12_tries 37 = .ok (.iload_n 2, 1) := by decide +kernel
theorem dX12_tries_38 : decode cX12_tries 38 = .ok (.iaload, 1) := by decide +kernel
theorem dX12_tries_39 : decode cX12_tries 39 = .ok (.aload_n 0, 1) := by decide +kernel
theorem dX12_tries_40 : decode cX12_tries 40 = .ok (.getfield 110, 3) := by decide +kernel
theorem dX12_tries_43 : decode cX12_tries 43 = .ok (.iload_n 2, 1) := by decide +kernel
theorem dX12_tries_44 : decode cX12_tries 44 = .ok (.iaload, 1) := by decide +kernel
theorem dX12_tries_45 : decode cX12_tries 45 = .ok (.aload_n 0, 1) := by decide +kernel
theorem dX12_tries_46 : decode cX12_tries 46 = .ok (.getfield 13, 3) := by decide +kernel
theorem dX12_tries_49 : decode cX12_tries 49 = .ok (.imul, 1) := by decide +kernel
theorem dX12_tries_50 : decode cX12_tries 50 = .ok (.iadd, 1) := by decide +kernel
theorem dX12_tries_51 : decode cX12_tries 51 = .ok (.invokestatic 373, 3) := by decide +kernel
theorem dX12_tries_54 : decode cX12_tries 54 = .ok (.iastore, 1) := by decide +kernel
theorem dX12_tries_55 : decode cX12_tries 55 = .ok (.goto 45, 3) := by decide +kernel
theorem dX12_tries_58 : decode cX12_tries 58 = .ok (.iload_n 2, 1) := by decide +kernel
theorem dX12_tries_59 : decode cX12_tries 59 = .ok (.iload_n 1, 1) := by decide +kernel
theorem dX12_tries_60 : decode cX12_tries 60 = .ok (.if_icmp .ne 40, 3) := by decide +kernel
theorem dX12_tries_63 : decode cX12_tries 63 = .ok (.aload_n 0, 1) := by decide +kernel
theorem dX12_tries_64 : decode cX12_tries 64 = .ok (.getfield 95, 3) := by decide +kernel
theorem dX12_tries_67 : decode cX12_tries 67 = .ok (.iload_n 2, 1) := by decide +kernel
theorem dX12_tries_68 : decode cX12_tries 68 = .ok (.aload_n 0, 1) := by decide +kernel
theorem dX12_tries_69 : decode cX12_tries 69 = .ok (.getfield 107, 3) := by decide +kernel
theorem dX12_tries_72 : decode cX12_tries 72 = .ok (.iload_n 2, 1) := by decide +kernel
theorem dX12_tries_73 : decode cX12_tries 73 = .ok (.iaload, 1) := by decide +kernel
theorem dX12_tries_74 : decode cX12_tries 74 = .ok (.aload_n 0, 1) := by decide +kernel
theorem dX12_tries_75 : decode cX12_tries 75 = .ok (.getfield 110, 3) := by decide +kernel
theorem dX12_tries_78 : decode cX12_tries 78 = .ok (.iload_n 2, 1) := by decide +kernel
theorem dX12_tries_79 : decode cX12_tries 79 = .ok (.iaload, 1) := by decide +kernel
theorem dX12_tries_80 : decode cX12_tries 80 = .ok (.ifCond .le 10, 3) := by decide +kernel
theorem dX12_tries_83 : decode cX12_tries 83 = .ok (.aload_n 0, 1) := by decide +kernel
theorem dX12_tries_84 : decode cX12_tries 84 = .ok (.getfield 13, 3) := by decide +kernel
theorem dX12_tries_87 : decode cX12_tries 87 = .ok (.goto 8, 3) := by decide +kernel
theorem dX12_tries_90 : decode cX12_tries 90 = .ok (.aload_n 0, 1) := by decide +kernel
theorem dX12_tries_91 : decode cX12_tries 91 = .ok (.getfield 13, 3) := by decide +kernel
theorem dX12_tries_94 : decode cX12_tries 94 = .ok (.ineg, 1) := by decide +kernel
theorem dX12_tries_95 : decode cX12_tries 95 = .ok (.iadd, 1) := by decide +kernel
theorem dX12_tries_96 : decode cX12_tries 96 = .ok (.invokestatic 373, 3) := by decide +kernel
theorem dX12_tries_99 : decode cX12_tries 99 = .ok (.iastore, 1) := by decide +kernel
theorem dX12_tries_100 : decode cX12_tries 100 = .ok (.iinc 2 1, 3) := by decide +kernel
theorem dX12_tries_103 : decode cX12_tries 103 = .ok (.goto (-101), 3) := by decide +kernel
theorem dX12_tries_106 : decode cX12_tries 106 = .ok (.return_, 1) := by decide +kernel
theorem dX12_fits_0 : decode cX12_fits 0 = .ok (.aload_n 0, 1) := by decide +kernel
theorem dX12_fits_1 : decode cX12_fits 1 = .ok (.invokevirtual 360, 3) := by decide +kernel
theorem dX12_fits_4 : decode cX12_fits 4 = .ok (.aload_n 0, 1) := by decide +kernel
theorem dX12_fits_5 : decode cX12_fits 5 = .ok (.iconst 0, 1) := by decide +kernel
theorem dX12_fits_6 : decode cX12_fits 6 = .ok (.putfield 370, 3) := by decide +kernel
theorem dX12_fits_9 : decode cX12_fits 9 = .ok (.aload_n 0, 1) := by decide +kernel
theorem dX12_fits_10 : decode cX12_fits 10 = .ok (.aload_n 0, 1) := by decide +kernel
theorem dX12_fits_11 : decode cX12_fits 11 = .ok (.invokevirtual 366, 3) := by decide +kernel
theorem dX12_fits_14 : decode cX12_fits 14 = .ok (.putfield 375, 3) := by decide +kernel
theorem dX12_fits_17 : decode cX12_fits 17 = .ok (.iconst 0, 1) := by decide +kernel
theorem dX12_fits_18 : decode cX12_fits 18 = .ok (.istore_n 2, 1) := by decide +kernel
theorem dX12_fits_19 : decode cX12_fits 19 = .ok (.iload_n 2, 1) := by decide +kernel
theorem dX12_fits_20 : decode cX12_fits 20 = .ok (.bipush 10, 2) := by decide +kernel
theorem dX12_fits_22 : decode cX12_fits 22 = .ok (.if_icmp .ge 69, 3) := by decide +kernel
theorem dX12_fits_25 : decode cX12_fits 25 = .ok (.aload_n 0, 1) := by decide +kernel
theorem dX12_fits_26 : decode cX12_fits 26 = .ok (.getfield 107, 3) := by decide +kernel
theorem dX12_fits_29 : decode cX12_fits 29 = .ok (.iload_n 2, 1) := by decide +kernel
theorem dX12_fits_30 : decode cX12_fits 30 = .ok (.aload_n 0, 1) := by decide +kernel
theorem dX12_fits_31 : decode cX12_fits 31 = .ok (.getfield 95, 3) := by decide +kernel
theorem dX12_fits_34 : decode cX12_fits 34 = .ok (.iload_n 2, 1) := by decide +kernel
theorem dX12_fits_35 : decode cX12_fits 35 = .ok (.iaload, 1) := by decide +kernel
theorem dX12_fits_36 : decode cX12_fits 36 = .ok (.iastore, 1) := by decide +kernel
theorem dX12_fits_37 : decode cX12_fits 37 = .ok (.aload_n 0, 1) := by decide +kernel
theorem dX12_fits_38 : decode cX12_fits 38 = .ok (.getfield 113, 3) := by decide +kernel
theorem dX12_fits_41 : decode cX12_fits 41 = .ok (.iload_n 2, 1) := by decide +kernel
theorem dX12_fits_42 : decode cX12_fits 42 = .ok (.aload_n 0, 1) := by decide +kernel
theorem dX12_fits_43 : decode cX12_fits 43 = .ok (.getfield 95, 3) := by decide +kernel
theorem dX12_fits_46 : decode cX12_fits 46 = .ok (.iload_n 2, 1) := by decide +kernel
theorem dX12_fits_47 : decode cX12_fits 47 = .ok (.iaload, 1) := by decide +kernel
theorem dX12_fits_48 : decode cX12_fits 48 = .ok (.iastore, 1) := by decide +kernel
theorem dX12_fits_49 : decode cX12_fits 49 = .ok (.aload_n 0, 1) := by decide +kernel
theorem dX12_fits_50 : decode cX12_fits 50 = .ok (.getfield 104, 3) := by decide +kernel
theorem dX12_fits_53 : decode cX12_fits 53 = .ok (.iload_n 2, 1) := by decide +kernel
theorem dX12_fits_54 : decode cX12_fits 54 = .ok (.aload_n 0, 1) := by decide +kernel
theorem dX12_fits_55 : decode cX12_fits 55 = .ok (.getfield 95, 3) := by decide +kernel
theorem dX12_fits_58 : decode cX12_fits 58 = .ok (.iload_n 2, 1) := by decide +kernel
theorem dX12_fits_59 : decode cX12_fits 59 = .ok (.iaload, 1) := by decide +kernel
theorem dX12_fits_60 : decode cX12_fits 60 = .ok (.iastore, 1) := by decide +kernel
theorem dX12_fits_61 : decode cX12_fits 61 = .ok (.aload_n 0, 1) := by decide +kernel
theorem dX12_fits_62 : decode cX12_fits 62 = .ok (.getfield 110, 3) := by decide +kernel
theorem dX12_fits_65 : decode cX12_fits 65 = .ok (.iload_n 2, 1) := by decide +kernel
theorem dX12_fits_66 : decode cX12_fits 66 = .ok (.iload_n 2, 1) := by decide +kernel
theorem dX12_fits_67 : decode cX12_fits 67 = .ok (.aload_n 0, 1) := by decide +kernel
theorem dX12_fits_68 : decode cX12_fits 68 = .ok (.getfield 131, 3) := by decide +kernel
theorem dX12_fits_71 : decode cX12_fits 71 = .ok (.if_icmp .ge 12, 3) := by decide +kernel
theorem dX12_fits_74 : decode cX12_fits 74 = .ok (.aload_n 0, 1) := by decide +kernel
theorem dX12_fits_75 : decode cX12_fits 75 = .ok (.getfield 101, 3) := by decide +kernel
theorem dX12_fits_78 : decode cX12_fits 78 = .ok (.iload_n 2, 1) := by decide +kernel
theorem dX12_fits_79 : decode cX12_fits 79 = .ok (.iaload, 1) := by decide +kernel
theorem dX12_fits_80 : decode cX12_fits 80 = .ok (.goto 4, 3) := by decide +kernel
theorem dX12_fits_83 : decode cX12_fits 83 = .ok (.iconst 0, 1) := by decide +kernel
theorem dX12_fits_84 : decode cX12_fits 84 = .ok (.iastore, 1) := by decide +kernel
theorem dX12_fits_85 : decode cX12_fits 85 = .ok (.iinc 2 1, 3) := by decide +kernel
theorem dX12_fits_88 : decode cX12_fits 88 = .ok (.goto (-69), 3) := by decide +kernel
theorem dX12_fits_91 : decode cX12_fits 91 = .ok (.iconst 1, 1) := by decide +kernel
theorem dX12_fits_92 : decode cX12_fits 92 = .ok (.istore_n 2, 1) := by decide +kernel
theorem dX12_fits_93 : decode cX12_fits 93 = .ok (.iload_n 2, 1) := by decide +kernel
theorem dX12_fits_94 : decode cX12_fits 94 = .ok (.ifCond .eq 19, 3) := by decide +kernel
theorem dX12_fits_97 : decode cX12_fits 97 = .ok (.aload_n 0, 1) := by decide +kernel
theorem dX12_fits_98 : decode cX12_fits 98 = .ok (.getfield 370, 3) := by decide +kernel
theorem dX12_fits_101 : decode cX12_fits 101 = .ok (.iload_n 1, 1) := by decide +kernel
theorem dX12_fits_102 : decode cX12_fits 102 = .ok (.if_icmp .ge 11, 3) := by decide +kernel
theorem dX12_fits_105 : decode cX12_fits 105 = .ok (.aload_n 0, 1) := by decide +kernel
theorem dX12_fits_106 : decode cX12_fits 106 = .ok (.invokevirtual 378, 3) := by decide +kernel
theorem dX12_fits_109 : decode cX12_fits 109 = .ok (.istore_n 2, 1) := by decide +kernel
theorem dX12_fits_110 : decode cX12_fits 110 = .ok (.goto (-17), 3) := by decide +kernel
theorem dX12_fits_113 : decode cX12_fits 113 = .ok (.return_, 1) := by decide +kernel
theorem dX12_goesOn_0 : decode cX12_goesOn 0 = .ok (.iconst (-1), 1) := by decide +kernel
theorem dX12_goesOn_1 : decode cX12_goesOn 1 = .ok (.istore_n 1, 1) := by decide +kernel
theorem dX12_goesOn_2 : decode cX12_goesOn 2 = .ok (.iconst 0, 1) := by decide +kernel
theorem dX12_goesOn_3 : decode cX12_goesOn 3 = .ok (.istore_n 2, 1) := by decide +kernel
theorem dX12_goesOn_4 : decode cX12_goesOn 4 = .ok (.iconst 0, 1) := by decide +kernel
theorem dX12_goesOn_5 : decode cX12_goesOn 5 = .ok (.istore_n 3, 1) := by decide +kernel
theorem dX12_goesOn_6 : decode cX12_goesOn 6 = .ok (.iload_n 3, 1) := by decide +kernel
theorem dX12_goesOn_7 : decode cX12_goesOn 7 = .ok (.aload_n 0, 1) := by decide +kernel
theorem dX12_goesOn_8 : decode cX12_goesOn 8 = .ok (.getfield 131, 3) := by decide +kernel
theorem dX12_goesOn_11 : decode cX12_goesOn 11 = .ok (.if_icmp .gt 69, 3) := by decide +kernel
theorem dX12_goesOn_14 : decode cX12_goesOn 14 = .ok (.iload_n 3, 1) := by decide +kernel
theorem dX12_goesOn_15 : decode cX12_goesOn 15 = .ok (.aload_n 0, 1) := by decide +kernel
theorem dX12_goesOn_16 : decode cX12_goesOn 16 = .ok (.getfield 131, 3) := by decide +kernel
theorem dX12_goesOn_19 : decode cX12_goesOn 19 = .ok (.if_icmp .ge 15, 3) := by decide +kernel
theorem dX12_goesOn_22 : decode cX12_goesOn 22 = .ok (.aload_n 0, 1) := by decide +kernel
theorem dX12_goesOn_23 : decode cX12_goesOn 23 = .ok (.getfield 110, 3) := by decide +kernel
theorem dX12_goesOn_26 : decode cX12_goesOn 26 = .ok (.iload_n 3, 1) := by decide +kernel
theorem dX12_goesOn_27 : decode cX12_goesOn 27 = .ok (.iaload, 1) := by decide +kernel
theorem dX12_goesOn_28 : decode cX12_goesOn 28 = .ok (.ifCond .ne 6, 3) := by decide +kernel
theorem dX12_goesOn_31 : decode cX12_goesOn 31 = .ok (.goto 43, 3) := by decide +kernel
theorem dX12_goesOn_34 : decode cX12_goesOn 34 = .ok (.aload_n 0, 1) := by decide +kernel
theorem dX12_goesOn_35 : decode cX12_goesOn 35 = .ok (.iload_n 3, 1) := by decide +kernel
theorem dX12_goesOn_36 : decode cX12_goesOn 36 = .ok (.invokevirtual 381, 3) := by decide +kernel
theorem dX12_goesOn_39 : decode cX12_goesOn 39 = .ok (.aload_n 0, 1) := by decide +kernel
theorem dX12_goesOn_40 : decode cX12_goesOn 40 = .ok (.invokevirtual 384, 3) := by decide +kernel
theorem dX12_goesOn_43 : decode cX12_goesOn 43 = .ok (.ifCond .eq 6, 3) := by decide +kernel
theorem dX12_goesOn_46 : decode cX12_goesOn 46 = .ok (.goto 28, 3) := by decide +kernel
theorem dX12_goesOn_49 : decode cX12_goesOn 49 = .ok (.aload_n 0, 1) := by decide +kernel
theorem dX12_goesOn_50 : decode cX12_goesOn 50 = .ok (.invokevirtual 366, 3) := by decide +kernel
theorem dX12_goesOn_53 : decode cX12_goesOn 53 = .ok (.istore 4, 2) := by decide +kernel
theorem dX12_goesOn_55 : decode cX12_goesOn 55 = .ok (.iload_n 1, 1) := by decide +kernel
theorem dX12_goesOn_56 : decode cX12_goesOn 56 = .ok (.iconst (-1), 1) := by decide +kernel
theorem dX12_goesOn_57 : decode cX12_goesOn 57 = .ok (.if_icmp .eq 12, 3) := by decide +kernel
theorem dX12_goesOn_60 : decode cX12_goesOn 60 = .ok (.iload 4, 2) := by decide +kernel
theorem dX12_goesOn_62 : decode cX12_goesOn 62 = .ok (.iload_n 2, 1) := by decide +kernel
theorem dX12_goesOn_63 : decode cX12_goesOn 63 = .ok (.if_icmp .lt 6, 3) := by decide +kernel
theorem dX12_goesOn_66 : decode cX12_goesOn 66 = .ok (.goto 8, 3) := by decide +kernel
theorem dX12_goesOn_69 : decode cX12_goesOn 69 = .ok (.iload_n 3, 1) := by decide +kernel
theorem dX12_goesOn_70 : decode cX12_goesOn 70 = .ok (.istore_n 1, 1) := by decide +kernel
theorem dX12_goesOn_71 : decode cX12_goesOn 71 = .ok (.iload 4, 2) := by decide +kernel
theorem dX12_goesOn_73 : decode cX12_goesOn 73 = .ok (.istore_n 2, 1) := by decide +kernel
theorem dX12_goesOn_74 : decode cX12_goesOn 74 = .ok (.iinc 3 1, 3) := by decide +kernel
theorem dX12_goesOn_77 : decode cX12_goesOn 77 = .ok (.goto (-71), 3) := by decide +kernel
theorem dX12_goesOn_80 : decode cX12_goesOn 80 = .ok (.iload_n 1, 1) := by decide +kernel
theorem dX12_goesOn_81 : decode cX12_goesOn 81 = .ok (.iconst (-1), 1) := by decide +kernel
theorem dX12_goesOn_82 : decode cX12_goesOn 82 = .ok (.if_icmp .ne 5, 3) := by decide +kernel
theorem dX12_goesOn_85 : decode cX12_goesOn 85 = .ok (.iconst 0, 1) := by decide +kernel
theorem dX12_goesOn_86 : decode cX12_goesOn 86 = .ok (.ireturn, 1) := by decide +kernel
theorem dX12_goesOn_87 : decode cX12_goesOn 87 = .ok (.aload_n 0, 1) := by decide +kernel
theorem dX12_goesOn_88 : decode cX12_goesOn 88 = .ok (.iload_n 1, 1) := by decide +kernel
theorem dX12_goesOn_89 : decode cX12_goesOn 89 = .ok (.invokevirtual 381, 3) := by decide +kernel
theorem dX12_goesOn_92 : decode cX12_goesOn 92 = .ok (.aload_n 0, 1) := by decide +kernel
theorem dX12_goesOn_93 : decode cX12_goesOn 93 = .ok (.invokevirtual 366, 3) := by decide +kernel
theorem dX12_goesOn_96 : decode cX12_goesOn 96 = .ok (.pop, 1) := by decide +kernel
theorem dX12_goesOn_97 : decode cX12_goesOn 97 = .ok (.aload_n 0, 1) := by decide +kernel
theorem dX12_goesOn_98 : decode cX12_goesOn 98 = .ok (.dup, 1) := by decide +kernel
theorem dX12_goesOn_99 : decode cX12_goesOn 99 = .ok (.getfield 370, 3) := by decide +kernel
theorem dX12_goesOn_102 : decode cX12_goesOn 102 = .ok (.iconst 1, 1) := by decide +kernel
theorem dX12_goesOn_103 : decode cX12_goesOn 103 = .ok (.iadd, 1) := by decide +kernel
theorem dX12_goesOn_104 : decode cX12_goesOn 104 = .ok (.putfield 370, 3) := by decide +kernel
theorem dX12_goesOn_107 : decode cX12_goesOn 107 = .ok (.iconst 0, 1) := by decide +kernel
theorem dX12_goesOn_108 : decode cX12_goesOn 108 = .ok (.istore_n 3, 1) := by decide +kernel
theorem dX12_goesOn_109 : decode cX12_goesOn 109 = .ok (.iload_n 3, 1) := by decide +kernel
theorem dX12_goesOn_110 : decode cX12_goesOn 110 = .ok (.bipush 10, 2) := by decide +kernel
theorem dX12_goesOn_112 : decode cX12_goesOn 112 = .ok (.if_icmp .ge 65, 3) := by decide +kernel
theorem dX12_goesOn_115 : decode cX12_goesOn 115 = .ok (.aload_n 0, 1) := by decide +kernel
theorem dX12_goesOn_116 : decode cX12_goesOn 116 = .ok (.getfield 116, 3) := by decide +kernel
theorem dX12_goesOn_119 : decode cX12_goesOn 119 = .ok (.iload_n 3, 1) := by decide +kernel
theorem dX12_goesOn_120 : decode cX12_goesOn 120 = .ok (.aload_n 0, 1) := by decide +kernel
theorem dX12_goesOn_121 : decode cX12_goesOn 121 = .ok (.getfield 95, 3) := by decide +kernel
theorem dX12_goesOn_124 : decode cX12_goesOn 124 = .ok (.iload_n 3, 1) := by decide +kernel
theorem dX12_goesOn_125 : decode cX12_goesOn 125 = .ok (.iaload, 1) := by decide +kernel
theorem dX12_goesOn_126 : decode cX12_goesOn 126 = .ok (.iastore, 1) := by decide +kernel
theorem dX12_goesOn_127 : decode cX12_goesOn 127 = .ok (.aload_n 0, 1) := by decide +kernel
theorem dX12_goesOn_128 : decode cX12_goesOn 128 = .ok (.getfield 104, 3) := by decide +kernel
theorem dX12_goesOn_131 : decode cX12_goesOn 131 = .ok (.bipush 10, 2) := by decide +kernel
theorem dX12_goesOn_133 : decode cX12_goesOn 133 = .ok (.aload_n 0, 1) := by decide +kernel
theorem dX12_goesOn_134 : decode cX12_goesOn 134 = .ok (.getfield 370, 3) := by decide +kernel
theorem dX12_goesOn_137 : decode cX12_goesOn 137 = .ok (.imul, 1) := by decide +kernel
theorem dX12_goesOn_138 : decode cX12_goesOn 138 = .ok (.iload_n 3, 1) := by decide +kernel
theorem dX12_goesOn_139 : decode cX12_goesOn 139 = .ok (.iadd, 1) := by decide +kernel
theorem dX12_goesOn_140 : decode cX12_goesOn 140 = .ok (.aload_n 0, 1) := by decide +kernel
theorem dX12_goesOn_141 : decode cX12_goesOn 141 = .ok (.getfield 95, 3) := by decide +kernel
theorem dX12_goesOn_144 : decode cX12_goesOn 144 = .ok (.iload_n 3, 1) := by decide +kernel
theorem dX12_goesOn_145 : decode cX12_goesOn 145 = .ok (.iaload, 1) := by decide +kernel
theorem dX12_goesOn_146 : decode cX12_goesOn 146 = .ok (.iastore, 1) := by decide +kernel
theorem dX12_goesOn_147 : decode cX12_goesOn 147 = .ok (.aload_n 0, 1) := by decide +kernel
theorem dX12_goesOn_148 : decode cX12_goesOn 148 = .ok (.getfield 110, 3) := by decide +kernel
theorem dX12_goesOn_151 : decode cX12_goesOn 151 = .ok (.iload_n 3, 1) := by decide +kernel
theorem dX12_goesOn_152 : decode cX12_goesOn 152 = .ok (.iload_n 3, 1) := by decide +kernel
theorem dX12_goesOn_153 : decode cX12_goesOn 153 = .ok (.aload_n 0, 1) := by decide +kernel
theorem dX12_goesOn_154 : decode cX12_goesOn 154 = .ok (.getfield 131, 3) := by decide +kernel
theorem dX12_goesOn_157 : decode cX12_goesOn 157 = .ok (.if_icmp .ge 12, 3) := by decide +kernel
theorem dX12_goesOn_160 : decode cX12_goesOn 160 = .ok (.aload_n 0, 1) := by decide +kernel
theorem dX12_goesOn_161 : decode cX12_goesOn 161 = .ok (.getfield 101, 3) := by decide +kernel
theorem dX12_goesOn_164 : decode cX12_goesOn 164 = .ok (.iload_n 3, 1) := by decide +kernel
theorem dX12_goesOn_165 : decode cX12_goesOn 165 = .ok (.iaload, 1) := by decide +kernel
theorem dX12_goesOn_166 : decode cX12_goesOn 166 = .ok (.goto 4, 3) := by decide +kernel
theorem dX12_goesOn_169 : decode cX12_goesOn 169 = .ok (.iconst 0, 1) := by decide +kernel
theorem dX12_goesOn_170 : decode cX12_goesOn 170 = .ok (.iastore, 1) := by decide +kernel
theorem dX12_goesOn_171 : decode cX12_goesOn 171 = .ok (.iinc 3 1, 3) := by decide +kernel
theorem dX12_goesOn_174 : decode cX12_goesOn 174 = .ok (.goto (-65), 3) := by decide +kernel
theorem dX12_goesOn_177 : decode cX12_goesOn 177 = .ok (.iconst 0, 1) := by decide +kernel
theorem dX12_goesOn_178 : decode cX12_goesOn 178 = .ok (.istore_n 3, 1) := by decide +kernel
theorem dX12_goesOn_179 : decode cX12_goesOn 179 = .ok (.iload_n 3, 1) := by decide +kernel
theorem dX12_goesOn_180 : decode cX12_goesOn 180 = .ok (.bipush 10, 2) := by decide +kernel
theorem dX12_goesOn_182 : decode cX12_goesOn 182 = .ok (.if_icmp .ge 41, 3) := by decide +kernel
theorem dX12_goesOn_185 : decode cX12_goesOn 185 = .ok (.aload_n 0, 1) := by decide +kernel
theorem dX12_goesOn_186 : decode cX12_goesOn 186 = .ok (.getfield 107, 3) := by decide +kernel
theorem dX12_goesOn_189 : decode cX12_goesOn 189 = .ok (.iload_n 3, 1) := by decide +kernel
theorem dX12_goesOn_190 : decode cX12_goesOn 190 = .ok (.aload_n 0, 1) := by decide +kernel
theorem dX12_goesOn_191 : decode cX12_goesOn 191 = .ok (.getfield 116, 3) := by decide +kernel
theorem dX12_goesOn_194 : decode cX12_goesOn 194 = .ok (.iload_n 3, 1) := by decide +kernel
theorem dX12_goesOn_195 : decode cX12_goesOn 195 = .ok (.iaload, 1) := by decide +kernel
theorem dX12_goesOn_196 : decode cX12_goesOn 196 = .ok (.iastore, 1) := by decide +kernel
theorem dX12_goesOn_197 : decode cX12_goesOn 197 = .ok (.iload_n 2, 1) := by decide +kernel
theorem dX12_goesOn_198 : decode cX12_goesOn 198 = .ok (.aload_n 0, 1) := by decide +kernel
theorem dX12_goesOn_199 : decode cX12_goesOn 199 = .ok (.getfield 375, 3) := by decide +kernel
theorem dX12_goesOn_202 : decode cX12_goesOn 202 = .ok (.if_icmp .ge 15, 3) := by decide +kernel
theorem dX12_goesOn_205 : decode cX12_goesOn 205 = .ok (.aload_n 0, 1) := by decide +kernel
theorem dX12_goesOn_206 : decode cX12_goesOn 206 = .ok (.getfield 113, 3) := by decide +kernel
theorem dX12_goesOn_209 : decode cX12_goesOn 209 = .ok (.iload_n 3, 1) := by decide +kernel
theorem dX12_goesOn_210 : decode cX12_goesOn 210 = .ok (.aload_n 0, 1) := by decide +kernel
theorem dX12_goesOn_211 : decode cX12_goesOn 211 = .ok (.getfield 116, 3) := by decide +kernel
theorem dX12_goesOn_214 : decode cX12_goesOn 214 = .ok (.iload_n 3, 1) := by decide +kernel
theorem dX12_goesOn_215 : decode cX12_goesOn 215 = .ok (.iaload, 1) := by decide +kernel
theorem dX12_goesOn_216 : decode cX12_goesOn 216 = .ok (.iastore, 1) := by decide +kernel
theorem dX12_goesOn_217 : decode cX12_goesOn 217 = .ok (.iinc 3 1, 3) := by decide +kernel
theorem dX12_goesOn_220 : decode cX12_goesOn 220 = .ok (.goto (-41), 3) := by decide +kernel
theorem dX12_goesOn_223 : decode cX12_goesOn 223 = .ok (.aload_n 0, 1) := by decide +kernel
theorem dX12_goesOn_224 : decode cX12_goesOn 224 = .ok (.aload_n 0, 1) := by decide +kernel
theorem dX12_goesOn_225 : decode cX12_goesOn 225 = .ok (.getfield 375, 3) := by decide +kernel
theorem dX12_goesOn_228 : decode cX12_goesOn 228 = .ok (.iload_n 2, 1) := by decide +kernel
theorem dX12_goesOn_229 : decode cX12_goesOn 229 = .ok (.invokestatic 301, 3) := by decide +kernel
theorem dX12_goesOn_232 : decode cX12_goesOn 232 = .ok (.putfield 375, 3) := by decide +kernel
theorem dX12_goesOn_235 : decode cX12_goesOn 235 = .ok (.iconst 1, 1) := by decide +kernel
theorem dX12_goesOn_236 : decode cX12_goesOn 236 = .ok (.ireturn, 1) := by decide +kernel
theorem dX12_fit_0 : decode cX12_fit 0 = .ok (.iload_n 1, 1) := by decide +kernel
theorem dX12_fit_1 : decode cX12_fit 1 = .ok (.iconst 1, 1) := by decide +kernel
theorem dX12_fit_2 : decode cX12_fit 2 = .ok (.bipush 60, 2) := by decide +kernel
theorem dX12_fit_4 : decode cX12_fit 4 = .ok (.invokestatic 134, 3) := by decide +kernel
theorem dX12_fit_7 : decode cX12_fit 7 = .ok (.ifCond .eq 28, 3) := by decide +kernel
theorem dX12_fit_10 : decode cX12_fit 10 = .ok (.iload_n 2, 1) := by decide +kernel
theorem dX12_fit_11 : decode cX12_fit 11 = .ok (.iconst 0, 1) := by decide +kernel
theorem dX12_fit_12 : decode cX12_fit 12 = .ok (.iconst 1, 1) := by decide +kernel
theorem dX12_fit_13 : decode cX12_fit 13 = .ok (.invokestatic 134, 3) := by decide +kernel
theorem dX12_fit_16 : decode cX12_fit 16 = .ok (.ifCond .ne 21, 3) := by decide +kernel
theorem dX12_fit_19 : decode cX12_fit 19 = .ok (.iload_n 2, 1) := by decide +kernel
theorem dX12_fit_20 : decode cX12_fit 20 = .ok (.bipush 10, 2) := by decide +kernel
theorem dX12_fit_22 : decode cX12_fit 22 = .ok (.bipush 9, 2) := by decide +kernel
theorem dX12_fit_24 : decode cX12_fit 24 = .ok (.aload_n 0, 1) := by decide +kernel
theorem dX12_fit_25 : decode cX12_fit 25 = .ok (.getfield 131, 3) := by decide +kernel
theorem dX12_fit_28 : decode cX12_fit 28 = .ok (.iadd, 1) := by decide +kernel
theorem dX12_fit_29 : decode cX12_fit 29 = .ok (.invokestatic 134, 3) := by decide +kernel
theorem dX12_fit_32 : decode cX12_fit 32 = .ok (.ifCond .ne 5, 3) := by decide +kernel
theorem dX12_fit_35 : decode cX12_fit 35 = .ok (.iconst (-1), 1) := by decide +kernel
theorem dX12_fit_36 : decode cX12_fit 36 = .ok (.ireturn, 1) := by decide +kernel
theorem dX12_fit_37 : decode cX12_fit 37 = .ok (.aload_n 0, 1) := by decide +kernel
theorem dX12_fit_38 : decode cX12_fit 38 = .ok (.iload_n 1, 1) := by decide +kernel
theorem dX12_fit_39 : decode cX12_fit 39 = .ok (.invokevirtual 387, 3) := by decide +kernel
theorem dX12_fit_42 : decode cX12_fit 42 = .ok (.iload_n 2, 1) := by decide +kernel
theorem dX12_fit_43 : decode cX12_fit 43 = .ok (.ifCond .ne 10, 3) := by decide +kernel
theorem dX12_fit_46 : decode cX12_fit 46 = .ok (.aload_n 0, 1) := by decide +kernel
theorem dX12_fit_47 : decode cX12_fit 47 = .ok (.getfield 375, 3) := by decide +kernel
theorem dX12_fit_50 : decode cX12_fit 50 = .ok (.goto 24, 3) := by decide +kernel
theorem dX12_fit_53 : decode cX12_fit 53 = .ok (.iload_n 2, 1) := by decide +kernel
theorem dX12_fit_54 : decode cX12_fit 54 = .ok (.iconst 1, 1) := by decide +kernel
theorem dX12_fit_55 : decode cX12_fit 55 = .ok (.if_icmp .ne 10, 3) := by decide +kernel
theorem dX12_fit_58 : decode cX12_fit 58 = .ok (.aload_n 0, 1) := by decide +kernel
theorem dX12_fit_59 : decode cX12_fit 59 = .ok (.getfield 370, 3) := by decide +kernel
theorem dX12_fit_62 : decode cX12_fit 62 = .ok (.goto 12, 3) := by decide +kernel
theorem dX12_fit_65 : decode cX12_fit 65 = .ok (.aload_n 0, 1) := by decide +kernel
theorem dX12_fit_66 : decode cX12_fit 66 = .ok (.getfield 113, 3) := by decide +kernel
theorem dX12_fit_69 : decode cX12_fit 69 = .ok (.iload_n 2, 1) := by decide +kernel
theorem dX12_fit_70 : decode cX12_fit 70 = .ok (.bipush 10, 2) := by decide +kernel
theorem dX12_fit_72 : decode cX12_fit 72 = .ok (.isub, 1) := by decide +kernel
theorem dX12_fit_73 : decode cX12_fit 73 = .ok (.iaload, 1) := by decide +kernel
theorem dX12_fit_74 : decode cX12_fit 74 = .ok (.ireturn, 1) := by decide +kernel
theorem dX12_settle_0 : decode cX12_settle 0 = .ok (.iload_n 1, 1) := by decide +kernel
theorem dX12_settle_1 : decode cX12_settle 1 = .ok (.iconst 1, 1) := by decide +kernel
theorem dX12_settle_2 : decode cX12_settle 2 = .ok (.bipush 60, 2) := by decide +kernel
theorem dX12_settle_4 : decode cX12_settle 4 = .ok (.invokestatic 134, 3) := by decide +kernel
theorem dX12_settle_7 : decode cX12_settle 7 = .ok (.ifCond .ne 5, 3) := by decide +kernel
theorem dX12_settle_10 : decode cX12_settle 10 = .ok (.iconst 0, 1) := by decide +kernel
theorem dX12_settle_11 : decode cX12_settle 11 = .ok (.ireturn, 1) := by decide +kernel
theorem dX12_settle_12 : decode cX12_settle 12 = .ok (.aload_n 0, 1) := by decide +kernel
theorem dX12_settle_13 : decode cX12_settle 13 = .ok (.iload_n 1, 1) := by decide +kernel
theorem dX12_settle_14 : decode cX12_settle 14 = .ok (.invokevirtual 387, 3) := by decide +kernel
theorem dX12_settle_17 : decode cX12_settle 17 = .ok (.iconst 0, 1) := by decide +kernel
theorem dX12_settle_18 : decode cX12_settle 18 = .ok (.istore_n 2, 1) := by decide +kernel
theorem dX12_settle_19 : decode cX12_settle 19 = .ok (.iload_n 2, 1) := by decide +kernel
theorem dX12_settle_20 : decode cX12_settle 20 = .ok (.aload_n 0, 1) := by decide +kernel
theorem dX12_settle_21 : decode cX12_settle 21 = .ok (.getfield 131, 3) := by decide +kernel
theorem dX12_settle_24 : decode cX12_settle 24 = .ok (.if_icmp .ge 21, 3) := by decide +kernel
theorem dX12_settle_27 : decode cX12_settle 27 = .ok (.aload_n 0, 1) := by decide +kernel
theorem dX12_settle_28 : decode cX12_settle 28 = .ok (.getfield 26, 3) := by decide +kernel
theorem dX12_settle_31 : decode cX12_settle 31 = .ok (.iload_n 2, 1) := by decide +kernel
theorem dX12_settle_32 : decode cX12_settle 32 = .ok (.aload_n 0, 1) := by decide +kernel
theorem dX12_settle_33 : decode cX12_settle 33 = .ok (.getfield 113, 3) := by decide +kernel
theorem dX12_settle_36 : decode cX12_settle 36 = .ok (.iload_n 2, 1) := by decide +kernel
theorem dX12_settle_37 : decode cX12_settle 37 = .ok (.iaload, 1) := by decide +kernel
theorem dX12_settle_38 : decode cX12_settle 38 = .ok (.iastore, 1) := by decide +kernel
theorem dX12_settle_39 : decode cX12_settle 39 = .ok (.iinc 2 1, 3) := by decide +kernel
theorem dX12_settle_42 : decode cX12_settle 42 = .ok (.goto (-23), 3) := by decide +kernel
theorem dX12_settle_45 : decode cX12_settle 45 = .ok (.iconst 1, 1) := by decide +kernel
theorem dX12_settle_46 : decode cX12_settle 46 = .ok (.ireturn, 1) := by decide +kernel
theorem dX12_must_0 : decode cX12_must 0 = .ok (.aload_n 0, 1) := by decide +kernel
theorem dX12_must_1 : decode cX12_must 1 = .ok (.getfield 131, 3) := by decide +kernel
theorem dX12_must_4 : decode cX12_must 4 = .ok (.iconst 1, 1) := by decide +kernel
theorem dX12_must_5 : decode cX12_must 5 = .ok (.iconst 3, 1) := by decide +kernel
theorem dX12_must_6 : decode cX12_must 6 = .ok (.invokestatic 134, 3) := by decide +kernel
theorem dX12_must_9 : decode cX12_must 9 = .ok (.ifCond .eq 14, 3) := by decide +kernel
theorem dX12_must_12 : decode cX12_must 12 = .ok (.iload_n 1, 1) := by decide +kernel
theorem dX12_must_13 : decode cX12_must 13 = .ok (.iconst 1, 1) := by decide +kernel
theorem dX12_must_14 : decode cX12_must 14 = .ok (.sipush 250, 3) := by decide +kernel
theorem dX12_must_17 : decode cX12_must 17 = .ok (.invokestatic 134, 3) := by decide +kernel
theorem dX12_must_20 : decode cX12_must 20 = .ok (.ifCond .ne 5, 3) := by decide +kernel
theorem dX12_must_23 : decode cX12_must 23 = .ok (.iconst (-1), 1) := by decide +kernel
theorem dX12_must_24 : decode cX12_must 24 = .ok (.ireturn, 1) := by decide +kernel
theorem dX12_must_25 : decode cX12_must 25 = .ok (.aload_n 0, 1) := by decide +kernel
theorem dX12_must_26 : decode cX12_must 26 = .ok (.invokevirtual 357, 3) := by decide +kernel
theorem dX12_must_29 : decode cX12_must 29 = .ok (.bipush 20, 2) := by decide +kernel
theorem dX12_must_31 : decode cX12_must 31 = .ok (.sipush 250, 3) := by decide +kernel
theorem dX12_must_34 : decode cX12_must 34 = .ok (.iload_n 1, 1) := by decide +kernel
theorem dX12_must_35 : decode cX12_must 35 = .ok (.idiv, 1) := by decide +kernel
theorem dX12_must_36 : decode cX12_must 36 = .ok (.iconst 1, 1) := by decide +kernel
theorem dX12_must_37 : decode cX12_must 37 = .ok (.iadd, 1) := by decide +kernel
theorem dX12_must_38 : decode cX12_must 38 = .ok (.invokestatic 301, 3) := by decide +kernel
theorem dX12_must_41 : decode cX12_must 41 = .ok (.istore_n 2, 1) := by decide +kernel
theorem dX12_must_42 : decode cX12_must 42 = .ok (.iconst 1, 1) := by decide +kernel
theorem dX12_must_43 : decode cX12_must 43 = .ok (.istore_n 3, 1) := by decide +kernel
theorem dX12_must_44 : decode cX12_must 44 = .ok (.iconst 0, 1) := by decide +kernel
theorem dX12_must_45 : decode cX12_must 45 = .ok (.istore 4, 2) := by decide +kernel
theorem dX12_must_47 : decode cX12_must 47 = .ok (.iload 4, 2) := by decide +kernel
theorem dX12_must_49 : decode cX12_must 49 = .ok (.aload_n 0, 1) := by decide +kernel
theorem dX12_must_50 : decode cX12_must 50 = .ok (.getfield 131, 3) := by decide +kernel
theorem dX12_must_53 : decode cX12_must 53 = .ok (.if_icmp .ge 13, 3) := by decide +kernel
theorem dX12_must_56 : decode cX12_must 56 = .ok (.iload_n 3, 1) := by decide +kernel
theorem dX12_must_57 : decode cX12_must 57 = .ok (.iload_n 2, 1) := by decide +kernel
theorem dX12_must_58 : decode cX12_must 58 = .ok (.imul, 1) := by decide +kernel
theorem dX12_must_59 : decode cX12_must 59 = .ok (.istore_n 3, 1) := by decide +kernel
theorem dX12_must_60 : decode cX12_must 60 = .ok (.iinc 4 1, 3) := by decide +kernel
theorem dX12_must_63 : decode cX12_must 63 = .ok (.goto (-16), 3) := by decide +kernel
theorem dX12_must_66 : decode cX12_must 66 = .ok (.iconst (-1), 1) := by decide +kernel
theorem dX12_must_67 : decode cX12_must 67 = .ok (.istore 4, 2) := by decide +kernel
theorem dX12_must_69 : decode cX12_must 69 = .ok (.iconst 0, 1) := by decide +kernel
theorem dX12_must_70 : decode cX12_must 70 = .ok (.istore 5, 2) := by decide +kernel
theorem dX12_must_72 : decode cX12_must 72 = .ok (.iload 5, 2) := by decide +kernel
theorem dX12_must_74 : decode cX12_must 74 = .ok (.iload_n 3, 1) := by decide +kernel
theorem dX12_must_75 : decode cX12_must 75 = .ok (.if_icmp .ge 73, 3) := by decide +kernel
theorem dX12_must_78 : decode cX12_must 78 = .ok (.iload 5, 2) := by decide +kernel
theorem dX12_must_80 : decode cX12_must 80 = .ok (.istore 6, 2) := by decide +kernel
theorem dX12_must_82 : decode cX12_must 82 = .ok (.iconst 0, 1) := by decide +kernel
theorem dX12_must_83 : decode cX12_must 83 = .ok (.istore 7, 2) := by decide +kernel
theorem dX12_must_85 : decode cX12_must 85 = .ok (.iload 7, 2) := by decide +kernel
theorem dX12_must_87 : decode cX12_must 87 = .ok (.aload_n 0, 1) := by decide +kernel
theorem dX12_must_88 : decode cX12_must 88 = .ok (.getfield 131, 3) := by decide +kernel
theorem dX12_must_91 : decode cX12_must 91 = .ok (.if_icmp .ge 28, 3) := by decide +kernel
theorem dX12_must_94 : decode cX12_must 94 = .ok (.aload_n 0, 1) := by decide +kernel
theorem dX12_must_95 : decode cX12_must 95 = .ok (.getfield 95, 3) := by decide +kernel
theorem dX12_must_98 : decode cX12_must 98 = .ok (.iload 7, 2) := by decide +kernel
theorem dX12_must_100 : decode cX12_must 100 = .ok (.iload 6, 2) := by decide +kernel
theorem dX12_must_102 : decode cX12_must 102 = .ok (.iload_n 2, 1) := by decide +kernel
theorem dX12_must_103 : decode cX12_must 103 = .ok (.irem, 1) := by decide +kernel
theorem dX12_must_104 : decode cX12_must 104 = .ok (.iload_n 1, 1) := by decide +kernel
theorem dX12_must_105 : decode cX12_must 105 = .ok (.imul, 1) := by decide +kernel
theorem dX12_must_106 : decode cX12_must 106 = .ok (.iastore, 1) := by decide +kernel
theorem dX12_must_107 : decode cX12_must 107 = .ok (.iload 6, 2) := by decide +kernel
theorem dX12_must_109 : decode cX12_must 109 = .ok (.iload_n 2, 1) := by decide +kernel
theorem dX12_must_110 : decode cX12_must 110 = .ok (.idiv, 1) := by decide +kernel
theorem dX12_must_111 : decode cX12_must 111 = .ok (.istore 6, 2) := by decide +kernel
theorem dX12_must_113 : decode cX12_must 113 = .ok (.iinc 7 1, 3) := by decide +kernel
theorem dX12_must_116 : decode cX12_must 116 = .ok (.goto (-31), 3) := by decide +kernel
theorem dX12_must_119 : decode cX12_must 119 = .ok (.aload_n 0, 1) := by decide +kernel
theorem dX12_must_120 : decode cX12_must 120 = .ok (.invokevirtual 366, 3) := by decide +kernel
theorem dX12_must_123 : decode cX12_must 123 = .ok (.istore 7, 2) := by decide +kernel
theorem dX12_must_125 : decode cX12_must 125 = .ok (.iload 4, 2) := by decide +kernel
theorem dX12_must_127 : decode cX12_must 127 = .ok (.iconst (-1), 1) := by decide +kernel
theorem dX12_must_128 : decode cX12_must 128 = .ok (.if_icmp .eq 10, 3) := by decide +kernel
theorem dX12_must_131 : decode cX12_must 131 = .ok (.iload 7, 2) := by decide +kernel
theorem dX12_must_133 : decode cX12_must 133 = .ok (.iload 4, 2) := by decide +kernel
theorem dX12_must_135 : decode cX12_must 135 = .ok (.if_icmp .ge 7, 3) := by decide +kernel
theorem dX12_must_138 : decode cX12_must 138 = .ok (.iload 7, 2) := by decide +kernel
theorem dX12_must_140 : decode cX12_must 140 = .ok (.istore 4, 2) := by decide +kernel
theorem dX12_must_142 : decode cX12_must 142 = .ok (.iinc 5 1, 3) := by decide +kernel
theorem dX12_must_145 : decode cX12_must 145 = .ok (.goto (-73), 3) := by decide +kernel
theorem dX12_must_148 : decode cX12_must 148 = .ok (.iload 4, 2) := by decide +kernel
theorem dX12_must_150 : decode cX12_must 150 = .ok (.ireturn, 1) := by decide +kernel
theorem dX12_why_0 : decode cX12_why 0 = .ok (.aload_n 0, 1) := by decide +kernel
theorem dX12_why_1 : decode cX12_why 1 = .ok (.iload_n 1, 1) := by decide +kernel
theorem dX12_why_2 : decode cX12_why 2 = .ok (.invokevirtual 151, 3) := by decide +kernel
theorem dX12_why_5 : decode cX12_why 5 = .ok (.ifCond .eq 20, 3) := by decide +kernel
theorem dX12_why_8 : decode cX12_why 8 = .ok (.aload_n 0, 1) := by decide +kernel
theorem dX12_why_9 : decode cX12_why 9 = .ok (.iload_n 2, 1) := by decide +kernel
theorem dX12_why_10 : decode cX12_why 10 = .ok (.invokevirtual 141, 3) := by decide +kernel
theorem dX12_why_13 : decode cX12_why 13 = .ok (.ifCond .eq 12, 3) := by decide +kernel
theorem dX12_why_16 : decode cX12_why 16 = .ok (.iload_n 3, 1) := by decide +kernel
theorem dX12_why_17 : decode cX12_why 17 = .ok (.iconst 0, 1) := by decide +kernel
theorem dX12_why_18 : decode cX12_why 18 = .ok (.iconst 1, 1) := by decide +kernel
theorem dX12_why_19 : decode cX12_why 19 = .ok (.invokestatic 134, 3) := by decide +kernel
theorem dX12_why_22 : decode cX12_why 22 = .ok (.ifCond .ne 5, 3) := by decide +kernel
theorem dX12_why_25 : decode cX12_why 25 = .ok (.iconst (-1), 1) := by decide +kernel
theorem dX12_why_26 : decode cX12_why 26 = .ok (.ireturn, 1) := by decide +kernel
theorem dX12_why_27 : decode cX12_why 27 = .ok (.aload_n 0, 1) := by decide +kernel
theorem dX12_why_28 : decode cX12_why 28 = .ok (.invokevirtual 360, 3) := by decide +kernel
theorem dX12_why_31 : decode cX12_why 31 = .ok (.aload_n 0, 1) := by decide +kernel
theorem dX12_why_32 : decode cX12_why 32 = .ok (.iload_n 1, 1) := by decide +kernel
theorem dX12_why_33 : decode cX12_why 33 = .ok (.invokevirtual 363, 3) := by decide +kernel
theorem dX12_why_36 : decode cX12_why 36 = .ok (.istore 4, 2) := by decide +kernel
theorem dX12_why_38 : decode cX12_why 38 = .ok (.aload_n 0, 1) := by decide +kernel
theorem dX12_why_39 : decode cX12_why 39 = .ok (.getfield 345, 3) := by decide +kernel
theorem dX12_why_42 : decode cX12_why 42 = .ok (.istore 5, 2) := by decide +kernel
theorem dX12_why_44 : decode cX12_why 44 = .ok (.iconst 0, 1) := by decide +kernel
theorem dX12_why_45 : decode cX12_why 45 = .ok (.istore 6, 2) := by decide +kernel
theorem dX12_why_47 : decode cX12_why 47 = .ok (.iconst (-1), 1) := by decide +kernel
theorem dX12_why_48 : decode cX12_why 48 = .ok (.istore 7, 2) := by decide +kernel
theorem dX12_why_50 : decode cX12_why 50 = .ok (.iconst 0, 1) := by decide +kernel
theorem dX12_why_51 : decode cX12_why 51 = .ok (.istore 8, 2) := by decide +kernel
theorem dX12_why_53 : decode cX12_why 53 = .ok (.iload 8, 2) := by decide +kernel
theorem dX12_why_55 : decode cX12_why 55 = .ok (.iconst 1, 1) := by decide +kernel
theorem dX12_why_56 : decode cX12_why 56 = .ok (.aload_n 0, 1) := by decide +kernel
theorem dX12_why_57 : decode cX12_why 57 = .ok (.getfield 131, 3) := by decide +kernel
theorem dX12_why_60 : decode cX12_why 60 = .ok (.ishl, 1) := by decide +kernel
theorem dX12_why_61 : decode cX12_why 61 = .ok (.if_icmp .ge 71, 3) := by decide +kernel
theorem dX12_why_64 : decode cX12_why 64 = .ok (.iload 8, 2) := by decide +kernel
theorem dX12_why_66 : decode cX12_why 66 = .ok (.iload_n 2, 1) := by decide +kernel
theorem dX12_why_67 : decode cX12_why 67 = .ok (.invokestatic 289, 3) := by decide +kernel
theorem dX12_why_70 : decode cX12_why 70 = .ok (.ifCond .eq 56, 3) := by decide +kernel
theorem dX12_why_73 : decode cX12_why 73 = .ok (.aload_n 0, 1) := by decide +kernel
theorem dX12_why_74 : decode cX12_why 74 = .ok (.iload_n 1, 1) := by decide +kernel
theorem dX12_why_75 : decode cX12_why 75 = .ok (.iload 8, 2) := by decide +kernel
theorem dX12_why_77 : decode cX12_why 77 = .ok (.invokevirtual 348, 3) := by decide +kernel
theorem dX12_why_80 : decode cX12_why 80 = .ok (.ifCond .ne 6, 3) := by decide +kernel
theorem dX12_why_83 : decode cX12_why 83 = .ok (.goto 43, 3) := by decide +kernel
theorem dX12_why_86 : decode cX12_why 86 = .ok (.iconst 1, 1) := by decide +kernel
theorem dX12_why_87 : decode cX12_why 87 = .ok (.istore 6, 2) := by decide +kernel
theorem dX12_why_89 : decode cX12_why 89 = .ok (.aload_n 0, 1) := by decide +kernel
theorem dX12_why_90 : decode cX12_why 90 = .ok (.iload_n 1, 1) := by decide +kernel
theorem dX12_why_91 : decode cX12_why 91 = .ok (.iload 8, 2) := by decide +kernel
theorem dX12_why_93 : decode cX12_why 93 = .ok (.invokevirtual 354, 3) := by decide +kernel
theorem dX12_why_96 : decode cX12_why 96 = .ok (.iload 5, 2) := by decide +kernel
theorem dX12_why_98 : decode cX12_why 98 = .ok (.if_icmp .le 28, 3) := by decide +kernel
theorem dX12_why_101 : decode cX12_why 101 = .ok (.iload 7, 2) := by decide +kernel
theorem dX12_why_103 : decode cX12_why 103 = .ok (.iconst (-1), 1) := by decide +kernel
theorem dX12_why_104 : decode cX12_why 104 = .ok (.if_icmp .eq 14, 3) := by decide +kernel
theorem dX12_why_107 : decode cX12_why 107 = .ok (.aload_n 0, 1) := by decide +kernel
theorem dX12_why_108 : decode cX12_why 108 = .ok (.iload 8, 2) := by decide +kernel
theorem dX12_why_110 : decode cX12_why 110 = .ok (.invokevirtual 351, 3) := by decide +kernel
theorem dX12_why_113 : decode cX12_why 113 = .ok (.iload 7, 2) := by decide +kernel
theorem dX12_why_115 : decode cX12_why 115 = .ok (.if_icmp .ge 11, 3) := by decide +kernel
theorem dX12_why_118 : decode cX12_why 118 = .ok (.aload_n 0, 1) := by decide +kernel
theorem dX12_why_119 : decode cX12_why 119 = .ok (.iload 8, 2) := by decide +kernel
theorem dX12_why_121 : decode cX12_why 121 = .ok (.invokevirtual 351, 3) := by decide +kernel
theorem dX12_why_124 : decode cX12_why 124 = .ok (.istore 7, 2) := by decide +kernel
theorem dX12_why_126 : decode cX12_why 126 = .ok (.iinc 8 1, 3) := by decide +kernel
theorem dX12_why_129 : decode cX12_why 129 = .ok (.goto (-76), 3) := by decide +kernel
theorem dX12_why_132 : decode cX12_why 132 = .ok (.iload 4, 2) := by decide +kernel
theorem dX12_why_134 : decode cX12_why 134 = .ok (.iconst (-1), 1) := by decide +kernel
theorem dX12_why_135 : decode cX12_why 135 = .ok (.if_icmp .eq 16, 3) := by decide +kernel
theorem dX12_why_138 : decode cX12_why 138 = .ok (.iload 4, 2) := by decide +kernel
theorem dX12_why_140 : decode cX12_why 140 = .ok (.iload_n 2, 1) := by decide +kernel
theorem dX12_why_141 : decode cX12_why 141 = .ok (.invokestatic 289, 3) := by decide +kernel
theorem dX12_why_144 : decode cX12_why 144 = .ok (.ifCond .eq 7, 3) := by decide +kernel
theorem dX12_why_147 : decode cX12_why 147 = .ok (.iconst 0, 1) := by decide +kernel
theorem dX12_why_148 : decode cX12_why 148 = .ok (.goto 23, 3) := by decide +kernel
theorem dX12_why_151 : decode cX12_why 151 = .ok (.iload 6, 2) := by decide +kernel
theorem dX12_why_153 : decode cX12_why 153 = .ok (.ifCond .ne 7, 3) := by decide +kernel
theorem dX12_why_156 : decode cX12_why 156 = .ok (.iconst 1, 1) := by decide +kernel
theorem dX12_why_157 : decode cX12_why 157 = .ok (.goto 14, 3) := by decide +kernel
theorem dX12_why_160 : decode cX12_why 160 = .ok (.iload 7, 2) := by decide +kernel
theorem dX12_why_162 : decode cX12_why 162 = .ok (.iconst (-1), 1) := by decide +kernel
theorem dX12_why_163 : decode cX12_why 163 = .ok (.if_icmp .ne 7, 3) := by decide +kernel
theorem dX12_why_166 : decode cX12_why 166 = .ok (.iconst 2, 1) := by decide +kernel
theorem dX12_why_167 : decode cX12_why 167 = .ok (.goto 4, 3) := by decide +kernel
theorem dX12_why_170 : decode cX12_why 170 = .ok (.iconst 3, 1) := by decide +kernel
theorem dX12_why_171 : decode cX12_why 171 = .ok (.istore 8, 2) := by decide +kernel
theorem dX12_why_173 : decode cX12_why 173 = .ok (.iload_n 3, 1) := by decide +kernel
theorem dX12_why_174 : decode cX12_why 174 = .ok (.ifCond .ne 8, 3) := by decide +kernel
theorem dX12_why_177 : decode cX12_why 177 = .ok (.iload 8, 2) := by decide +kernel
theorem dX12_why_179 : decode cX12_why 179 = .ok (.goto 22, 3) := by decide +kernel
theorem dX12_why_182 : decode cX12_why 182 = .ok (.iload 8, 2) := by decide +kernel
theorem dX12_why_184 : decode cX12_why 184 = .ok (.iconst 3, 1) := by decide +kernel
theorem dX12_why_185 : decode cX12_why 185 = .ok (.if_icmp .ne 15, 3) := by decide +kernel
theorem dX12_why_188 : decode cX12_why 188 = .ok (.iload 7, 2) := by decide +kernel
theorem dX12_why_190 : decode cX12_why 190 = .ok (.aload_n 0, 1) := by decide +kernel
theorem dX12_why_191 : decode cX12_why 191 = .ok (.getfield 35, 3) := by decide +kernel
theorem dX12_why_194 : decode cX12_why 194 = .ok (.iload_n 1, 1) := by decide +kernel
theorem dX12_why_195 : decode cX12_why 195 = .ok (.iaload, 1) := by decide +kernel
theorem dX12_why_196 : decode cX12_why 196 = .ok (.isub, 1) := by decide +kernel
theorem dX12_why_197 : decode cX12_why 197 = .ok (.goto 4, 3) := by decide +kernel
theorem dX12_why_200 : decode cX12_why 200 = .ok (.iconst (-1), 1) := by decide +kernel
theorem dX12_why_201 : decode cX12_why 201 = .ok (.ireturn, 1) := by decide +kernel
theorem dX12_isWay_0 : decode cX12_isWay 0 = .ok (.iload_n 0, 1) := by decide +kernel
theorem dX12_isWay_1 : decode cX12_isWay 1 = .ok (.iconst 0, 1) := by decide +kernel
theorem dX12_isWay_2 : decode cX12_isWay 2 = .ok (.iconst 5, 1) := by decide +kernel
theorem dX12_isWay_3 : decode cX12_isWay 3 = .ok (.invokestatic 134, 3) := by decide +kernel
theorem dX12_isWay_6 : decode cX12_isWay 6 = .ok (.ireturn, 1) := by decide +kernel
theorem dX12_leftOf_0 : decode cX12_leftOf 0 = .ok (.aload_n 0, 1) := by decide +kernel
theorem dX12_leftOf_1 : decode cX12_leftOf 1 = .ok (.getfield 16, 3) := by decide +kernel
theorem dX12_leftOf_4 : decode cX12_leftOf 4 = .ok (.iload_n 1, 1) := by decide +kernel
theorem dX12_leftOf_5 : decode cX12_leftOf 5 = .ok (.iaload, 1) := by decide +kernel
theorem dX12_leftOf_6 : decode cX12_leftOf 6 = .ok (.istore_n 2, 1) := by decide +kernel
theorem dX12_leftOf_7 : decode cX12_leftOf 7 = .ok (.iconst 0, 1) := by decide +kernel
theorem dX12_leftOf_8 : decode cX12_leftOf 8 = .ok (.istore_n 3, 1) := by decide +kernel
theorem dX12_leftOf_9 : decode cX12_leftOf 9 = .ok (.iload_n 3, 1) := by decide +kernel
theorem dX12_leftOf_10 : decode cX12_leftOf 10 = .ok (.aload_n 0, 1) := by decide +kernel
theorem dX12_leftOf_11 : decode cX12_leftOf 11 = .ok (.getfield 138, 3) := by decide +kernel
theorem dX12_leftOf_14 : decode cX12_leftOf 14 = .ok (.if_icmp .ge 25, 3) := by decide +kernel
theorem dX12_leftOf_17 : decode cX12_leftOf 17 = .ok (.iload_n 2, 1) := by decide +kernel
theorem dX12_leftOf_18 : decode cX12_leftOf 18 = .ok (.aload_n 0, 1) := by decide +kernel
theorem dX12_leftOf_19 : decode cX12_leftOf 19 = .ok (.getfield 119, 3) := by decide +kernel
theorem dX12_leftOf_22 : decode cX12_leftOf 22 = .ok (.iload_n 3, 1) := by decide +kernel
theorem dX12_leftOf_23 : decode cX12_leftOf 23 = .ok (.iaload, 1) := by decide +kernel
theorem dX12_leftOf_24 : decode cX12_leftOf 24 = .ok (.iload_n 1, 1) := by decide +kernel
theorem dX12_leftOf_25 : decode cX12_leftOf 25 = .ok (.invokestatic 289, 3) := by decide +kernel
theorem dX12_leftOf_28 : decode cX12_leftOf 28 = .ok (.invokestatic 293, 3) := by decide +kernel
theorem dX12_leftOf_31 : decode cX12_leftOf 31 = .ok (.isub, 1) := by decide +kernel
theorem dX12_leftOf_32 : decode cX12_leftOf 32 = .ok (.istore_n 2, 1) := by decide +kernel
theorem dX12_leftOf_33 : decode cX12_leftOf 33 = .ok (.iinc 3 1, 3) := by decide +kernel
theorem dX12_leftOf_36 : decode cX12_leftOf 36 = .ok (.goto (-27), 3) := by decide +kernel
theorem dX12_leftOf_39 : decode cX12_leftOf 39 = .ok (.iload_n 2, 1) := by decide +kernel
theorem dX12_leftOf_40 : decode cX12_leftOf 40 = .ok (.ireturn, 1) := by decide +kernel
theorem dX12_adds_0 : decode cX12_adds 0 = .ok (.aload_n 0, 1) := by decide +kernel
theorem dX12_adds_1 : decode cX12_adds 1 = .ok (.iload_n 1, 1) := by decide +kernel
theorem dX12_adds_2 : decode cX12_adds 2 = .ok (.invokevirtual 339, 3) := by decide +kernel
theorem dX12_adds_5 : decode cX12_adds 5 = .ok (.istore_n 2, 1) := by decide +kernel
theorem dX12_adds_6 : decode cX12_adds 6 = .ok (.iconst (-1), 1) := by decide +kernel
theorem dX12_adds_7 : decode cX12_adds 7 = .ok (.istore_n 3, 1) := by decide +kernel
theorem dX12_adds_8 : decode cX12_adds 8 = .ok (.iconst 0, 1) := by decide +kernel
theorem dX12_adds_9 : decode cX12_adds 9 = .ok (.istore 4, 2) := by decide +kernel
theorem dX12_adds_11 : decode cX12_adds 11 = .ok (.iload 4, 2) := by decide +kernel
theorem dX12_adds_13 : decode cX12_adds 13 = .ok (.aload_n 0, 1) := by decide +kernel
theorem dX12_adds_14 : decode cX12_adds 14 = .ok (.getfield 131, 3) := by decide +kernel
theorem dX12_adds_17 : decode cX12_adds 17 = .ok (.if_icmp .ge 112, 3) := by decide +kernel
theorem dX12_adds_20 : decode cX12_adds 20 = .ok (.aload_n 0, 1) := by decide +kernel
theorem dX12_adds_21 : decode cX12_adds 21 = .ok (.getfield 119, 3) := by decide +kernel
theorem dX12_adds_24 : decode cX12_adds 24 = .ok (.iload_n 1, 1) := by decide +kernel
theorem dX12_adds_25 : decode cX12_adds 25 = .ok (.iaload, 1) := by decide +kernel
theorem dX12_adds_26 : decode cX12_adds 26 = .ok (.iconst 1, 1) := by decide +kernel
theorem dX12_adds_27 : decode cX12_adds 27 = .ok (.iload 4, 2) := by decide +kernel
theorem dX12_adds_29 : decode cX12_adds 29 = .ok (.ishl, 1) := by decide +kernel
theorem dX12_adds_30 : decode cX12_adds 30 = .ok (.ior, 1) := by decide +kernel
theorem dX12_adds_31 : decode cX12_adds 31 = .ok (.istore 5, 2) := by decide +kernel
theorem dX12_adds_33 : decode cX12_adds 33 = .ok (.aload_n 0, 1) := by decide +kernel
theorem dX12_adds_34 : decode cX12_adds 34 = .ok (.getfield 119, 3) := by decide +kernel
theorem dX12_adds_37 : decode cX12_adds 37 = .ok (.iload_n 1, 1) := by decide +kernel
theorem dX12_adds_38 : decode cX12_adds 38 = .ok (.iaload, 1) := by decide +kernel
theorem dX12_adds_39 : decode cX12_adds 39 = .ok (.iload 4, 2) := by decide +kernel
theorem dX12_adds_41 : decode cX12_adds 41 = .ok (.invokestatic 289, 3) := by decide +kernel
theorem dX12_adds_44 : decode cX12_adds 44 = .ok (.ifCond .ne 79, 3) := by decide +kernel
theorem dX12_adds_47 : decode cX12_adds 47 = .ok (.aload_n 0, 1) := by decide +kernel
theorem dX12_adds_48 : decode cX12_adds 48 = .ok (.iload 4, 2) := by decide +kernel
theorem dX12_adds_50 : decode cX12_adds 50 = .ok (.invokevirtual 390, 3) := by decide +kernel
theorem dX12_adds_53 : decode cX12_adds 53 = .ok (.ifCond .le 70, 3) := by decide +kernel
theorem dX12_adds_56 : decode cX12_adds 56 = .ok (.aload_n 0, 1) := by decide +kernel
theorem dX12_adds_57 : decode cX12_adds 57 = .ok (.iload_n 2, 1) := by decide +kernel
theorem dX12_adds_58 : decode cX12_adds 58 = .ok (.iload 5, 2) := by decide +kernel
theorem dX12_adds_60 : decode cX12_adds 60 = .ok (.invokevirtual 348, 3) := by decide +kernel
theorem dX12_adds_63 : decode cX12_adds 63 = .ok (.ifCond .eq 60, 3) := by decide +kernel
theorem dX12_adds_66 : decode cX12_adds 66 = .ok (.aload_n 0, 1) := by decide +kernel
theorem dX12_adds_67 : decode cX12_adds 67 = .ok (.iload_n 2, 1) := by decide +kernel
theorem dX12_adds_68 : decode cX12_adds 68 = .ok (.iload 5, 2) := by decide +kernel
theorem dX12_adds_70 : decode cX12_adds 70 = .ok (.invokevirtual 354, 3) := by decide +kernel
theorem dX12_adds_73 : decode cX12_adds 73 = .ok (.aload_n 0, 1) := by decide +kernel
theorem dX12_adds_74 : decode cX12_adds 74 = .ok (.iload_n 2, 1) := by decide +kernel
theorem dX12_adds_75 : decode cX12_adds 75 = .ok (.aload_n 0, 1) := by decide +kernel
theorem dX12_adds_76 : decode cX12_adds 76 = .ok (.getfield 119, 3) := by decide +kernel
theorem dX12_adds_79 : decode cX12_adds 79 = .ok (.iload_n 1, 1) := by decide +kernel
theorem dX12_adds_80 : decode cX12_adds 80 = .ok (.iaload, 1) := by decide +kernel
theorem dX12_adds_81 : decode cX12_adds 81 = .ok (.invokevirtual 354, 3) := by decide +kernel
theorem dX12_adds_84 : decode cX12_adds 84 = .ok (.if_icmp .gt 6, 3) := by decide +kernel
theorem dX12_adds_87 : decode cX12_adds 87 = .ok (.goto 36, 3) := by decide +kernel
theorem dX12_adds_90 : decode cX12_adds 90 = .ok (.iload_n 3, 1) := by decide +kernel
theorem dX12_adds_91 : decode cX12_adds 91 = .ok (.iconst (-1), 1) := by decide +kernel
theorem dX12_adds_92 : decode cX12_adds 92 = .ok (.if_icmp .eq 28, 3) := by decide +kernel
theorem dX12_adds_95 : decode cX12_adds 95 = .ok (.aload_n 0, 1) := by decide +kernel
theorem dX12_adds_96 : decode cX12_adds 96 = .ok (.iload_n 2, 1) := by decide +kernel
theorem dX12_adds_97 : decode cX12_adds 97 = .ok (.iload 5, 2) := by decide +kernel
theorem dX12_adds_99 : decode cX12_adds 99 = .ok (.invokevirtual 354, 3) := by decide +kernel
theorem dX12_adds_102 : decode cX12_adds 102 = .ok (.aload_n 0, 1) := by decide +kernel
theorem dX12_adds_103 : decode cX12_adds 103 = .ok (.iload_n 2, 1) := by decide +kernel
theorem dX12_adds_104 : decode cX12_adds 104 = .ok (.aload_n 0, 1) := by decide +kernel
theorem dX12_adds_105 : decode cX12_adds 105 = .ok (.getfield 119, 3) := by decide +kernel
theorem dX12_adds_108 : decode cX12_adds 108 = .ok (.iload_n 1, 1) := by decide +kernel
theorem dX12_adds_109 : decode cX12_adds 109 = .ok (.iaload, 1) := by decide +kernel
theorem dX12_adds_110 : decode cX12_adds 110 = .ok (.iconst 1, 1) := by decide +kernel
theorem dX12_adds_111 : decode cX12_adds 111 = .ok (.iload_n 3, 1) := by decide +kernel
theorem dX12_adds_112 : decode cX12_adds 112 = .ok (.ishl, 1) := by decide +kernel
theorem dX12_adds_113 : decode cX12_adds 113 = .ok (.ior, 1) := by decide +kernel
theorem dX12_adds_114 : decode cX12_adds 114 = .ok (.invokevirtual 354, 3) := by decide +kernel
theorem dX12_adds_117 : decode cX12_adds 117 = .ok (.if_icmp .le 6, 3) := by decide +kernel
theorem dX12_adds_120 : decode cX12_adds 120 = .ok (.iload 4, 2) := by decide +kernel
theorem dX12_adds_122 : decode cX12_adds 122 = .ok (.istore_n 3, 1) := by decide +kernel
theorem dX12_adds_123 : decode cX12_adds 123 = .ok (.iinc 4 1, 3) := by decide +kernel
theorem dX12_adds_126 : decode cX12_adds 126 = .ok (.goto (-115), 3) := by decide +kernel
theorem dX12_adds_129 : decode cX12_adds 129 = .ok (.iload_n 3, 1) := by decide +kernel
theorem dX12_adds_130 : decode cX12_adds 130 = .ok (.iconst (-1), 1) := by decide +kernel
theorem dX12_adds_131 : decode cX12_adds 131 = .ok (.if_icmp .ne 5, 3) := by decide +kernel
theorem dX12_adds_134 : decode cX12_adds 134 = .ok (.iconst 0, 1) := by decide +kernel
theorem dX12_adds_135 : decode cX12_adds 135 = .ok (.ireturn, 1) := by decide +kernel
theorem dX12_adds_136 : decode cX12_adds 136 = .ok (.aload_n 0, 1) := by decide +kernel
theorem dX12_adds_137 : decode cX12_adds 137 = .ok (.getfield 119, 3) := by decide +kernel
theorem dX12_adds_140 : decode cX12_adds 140 = .ok (.iload_n 1, 1) := by decide +kernel
theorem dX12_adds_141 : decode cX12_adds 141 = .ok (.dup2, 1) := by decide +kernel
theorem dX12_adds_142 : decode cX12_adds 142 = .ok (.iaload, 1) := by decide +kernel
theorem dX12_adds_143 : decode cX12_adds 143 = .ok (.iconst 1, 1) := by decide +kernel
theorem dX12_adds_144 : decode cX12_adds 144 = .ok (.iload_n 3, 1) := by decide +kernel
theorem dX12_adds_145 : decode cX12_adds 145 = .ok (.ishl, 1) := by decide +kernel
theorem dX12_adds_146 : decode cX12_adds 146 = .ok (.ior, 1) := by decide +kernel
theorem dX12_adds_147 : decode cX12_adds 147 = .ok (.iastore, 1) := by decide +kernel
theorem dX12_adds_148 : decode cX12_adds 148 = .ok (.iconst 1, 1) := by decide +kernel
theorem dX12_adds_149 : decode cX12_adds 149 = .ok (.ireturn, 1) := by decide +kernel
theorem dX12_allAdd_0 : decode cX12_allAdd 0 = .ok (.iconst 0, 1) := by decide +kernel
theorem dX12_allAdd_1 : decode cX12_allAdd 1 = .ok (.istore_n 2, 1) := by decide +kernel
theorem dX12_allAdd_2 : decode cX12_allAdd 2 = .ok (.iconst 0, 1) := by decide +kernel
theorem dX12_allAdd_3 : decode cX12_allAdd 3 = .ok (.istore_n 3, 1) := by decide +kernel
theorem dX12_allAdd_4 : decode cX12_allAdd 4 = .ok (.iload_n 3, 1) := by decide +kernel
theorem dX12_allAdd_5 : decode cX12_allAdd 5 = .ok (.aload_n 0, 1) := by decide +kernel
theorem dX12_allAdd_6 : decode cX12_allAdd 6 = .ok (.getfield 138, 3) := by decide +kernel
theorem dX12_allAdd_9 : decode cX12_allAdd 9 = .ok (.if_icmp .ge 42, 3) := by decide +kernel
theorem dX12_allAdd_12 : decode cX12_allAdd 12 = .ok (.aload_n 0, 1) := by decide +kernel
theorem dX12_allAdd_13 : decode cX12_allAdd 13 = .ok (.iload_n 1, 1) := by decide +kernel
theorem dX12_allAdd_14 : decode cX12_allAdd 14 = .ok (.ifCond .eq 14, 3) := by decide +kernel
theorem dX12_allAdd_17 : decode cX12_allAdd 17 = .ok (.aload_n 0, 1) := by decide +kernel
theorem dX12_allAdd_18 : decode cX12_allAdd 18 = .ok (.getfield 138, 3) := by decide +kernel
theorem dX12_allAdd_21 : decode cX12_allAdd 21 = .ok (.iconst 1, 1) := by decide +kernel
theorem dX12_allAdd_22 : decode cX12_allAdd 22 = .ok (.isub, 1) := by decide +kernel
theorem dX12_allAdd_23 : decode cX12_allAdd 23 = .ok (.iload_n 3, 1) := by decide +kernel
theorem dX12_allAdd_24 : decode cX12_allAdd 24 = .ok (.isub, 1) := by decide +kernel
theorem dX12_allAdd_25 : decode cX12_allAdd 25 = .ok (.goto 4, 3) := by decide +kernel
theorem dX12_allAdd_28 : decode cX12_allAdd 28 = .ok (.iload_n 3, 1) := by decide +kernel
theorem dX12_allAdd_29 : decode cX12_allAdd 29 = .ok (.invokevirtual 393, 3) := by decide +kernel
theorem dX12_allAdd_32 : decode cX12_allAdd 32 = .ok (.ifCond .ne 7, 3) := by decide +kernel
theorem dX12_allAdd_35 : decode cX12_allAdd 35 = .ok (.iload_n 2, 1) := by decide +kernel
theorem dX12_allAdd_36 : decode cX12_allAdd 36 = .ok (.ifCond .eq 7, 3) := by decide +kernel
theorem dX12_allAdd_39 : decode cX12_allAdd 39 = .ok (.iconst 1, 1) := by decide +kernel
theorem dX12_allAdd_40 : decode cX12_allAdd 40 = .ok (.goto 4, 3) := by decide +kernel
theorem dX12_allAdd_43 : decode cX12_allAdd 43 = .ok (.iconst 0, 1) := by decide +kernel
theorem dX12_allAdd_44 : decode cX12_allAdd 44 = .ok (.istore_n 2, 1) := by decide +kernel
theorem dX12_allAdd_45 : decode cX12_allAdd 45 = .ok (.iinc 3 1, 3) := by decide +kernel
theorem dX12_allAdd_48 : decode cX12_allAdd 48 = .ok (.goto (-44), 3) := by decide +kernel
theorem dX12_allAdd_51 : decode cX12_allAdd 51 = .ok (.iload_n 2, 1) := by decide +kernel
theorem dX12_allAdd_52 : decode cX12_allAdd 52 = .ok (.ireturn, 1) := by decide +kernel
theorem dX12_mends_0 : decode cX12_mends 0 = .ok (.aload_n 0, 1) := by decide +kernel
theorem dX12_mends_1 : decode cX12_mends 1 = .ok (.invokevirtual 366, 3) := by decide +kernel
theorem dX12_mends_4 : decode cX12_mends 4 = .ok (.pop, 1) := by decide +kernel
theorem dX12_mends_5 : decode cX12_mends 5 = .ok (.iconst (-1), 1) := by decide +kernel
theorem dX12_mends_6 : decode cX12_mends 6 = .ok (.istore_n 1, 1) := by decide +kernel
theorem dX12_mends_7 : decode cX12_mends 7 = .ok (.iconst 0, 1) := by decide +kernel
theorem dX12_mends_8 : decode cX12_mends 8 = .ok (.istore_n 2, 1) := by decide +kernel
theorem dX12_mends_9 : decode cX12_mends 9 = .ok (.iload_n 2, 1) := by decide +kernel
theorem dX12_mends_10 : decode cX12_mends 10 = .ok (.aload_n 0, 1) := by decide +kernel
theorem dX12_mends_11 : decode cX12_mends 11 = .ok (.getfield 131, 3) := by decide +kernel
theorem dX12_mends_14 : decode cX12_mends 14 = .ok (.if_icmp .ge 40, 3) := by decide +kernel
theorem dX12_mends_17 : decode cX12_mends 17 = .ok (.aload_n 0, 1) := by decide +kernel
theorem dX12_mends_18 : decode cX12_mends 18 = .ok (.getfield 101, 3) := by decide +kernel
theorem dX12_mends_21 : decode cX12_mends 21 = .ok (.iload_n 2, 1) := by decide +kernel
theorem dX12_mends_22 : decode cX12_mends 22 = .ok (.iaload, 1) := by decide +kernel
theorem dX12_mends_23 : decode cX12_mends 23 = .ok (.ifCond .le 25, 3) := by decide +kernel
theorem dX12_mends_26 : decode cX12_mends 26 = .ok (.iload_n 1, 1) := by decide +kernel
theorem dX12_mends_27 : decode cX12_mends 27 = .ok (.iconst (-1), 1) := by decide +kernel
theorem dX12_mends_28 : decode cX12_mends 28 = .ok (.if_icmp .eq 18, 3) := by decide +kernel
theorem dX12_mends_31 : decode cX12_mends 31 = .ok (.aload_n 0, 1) := by decide +kernel
theorem dX12_mends_32 : decode cX12_mends 32 = .ok (.getfield 101, 3) := by decide +kernel
theorem dX12_mends_35 : decode cX12_mends 35 = .ok (.iload_n 2, 1) := by decide +kernel
theorem dX12_mends_36 : decode cX12_mends 36 = .ok (.iaload, 1) := by decide +kernel
theorem dX12_mends_37 : decode cX12_mends 37 = .ok (.aload_n 0, 1) := by decide +kernel
theorem dX12_mends_38 : decode cX12_mends 38 = .ok (.getfield 101, 3) := by decide +kernel
theorem dX12_mends_41 : decode cX12_mends 41 = .ok (.iload_n 1, 1) := by decide +kernel
theorem dX12_mends_42 : decode cX12_mends 42 = .ok (.iaload, 1) := by decide +kernel
theorem dX12_mends_43 : decode cX12_mends 43 = .ok (.if_icmp .le 5, 3) := by decide +kernel
theorem dX12_mends_46 : decode cX12_mends 46 = .ok (.iload_n 2, 1) := by decide +kernel
theorem dX12_mends_47 : decode cX12_mends 47 = .ok (.istore_n 1, 1) := by decide +kernel
theorem dX12_mends_48 : decode cX12_mends 48 = .ok (.iinc 2 1, 3) := by decide +kernel
theorem dX12_mends_51 : decode cX12_mends 51 = .ok (.goto (-42), 3) := by decide +kernel
theorem dX12_mends_54 : decode cX12_mends 54 = .ok (.iload_n 1, 1) := by decide +kernel
theorem dX12_mends_55 : decode cX12_mends 55 = .ok (.iconst (-1), 1) := by decide +kernel
theorem dX12_mends_56 : decode cX12_mends 56 = .ok (.if_icmp .ne 6, 3) := by decide +kernel
theorem dX12_mends_59 : decode cX12_mends 59 = .ok (.goto 19, 3) := by decide +kernel
theorem dX12_mends_62 : decode cX12_mends 62 = .ok (.aload_n 0, 1) := by decide +kernel
theorem dX12_mends_63 : decode cX12_mends 63 = .ok (.getfield 95, 3) := by decide +kernel
theorem dX12_mends_66 : decode cX12_mends 66 = .ok (.iload_n 1, 1) := by decide +kernel
theorem dX12_mends_67 : decode cX12_mends 67 = .ok (.dup2, 1) := by decide +kernel
theorem dX12_mends_68 : decode cX12_mends 68 = .ok (.iaload, 1) := by decide +kernel
theorem dX12_mends_69 : decode cX12_mends 69 = .ok (.aload_n 0, 1) := by decide +kernel
theorem dX12_mends_70 : decode cX12_mends 70 = .ok (.getfield 13, 3) := by decide +kernel
theorem dX12_mends_73 : decode cX12_mends 73 = .ok (.iadd, 1) := by decide +kernel
theorem dX12_mends_74 : decode cX12_mends 74 = .ok (.iastore, 1) := by decide +kernel
theorem dX12_mends_75 : decode cX12_mends 75 = .ok (.goto (-75), 3) := by decide +kernel
theorem dX12_mends_78 : decode cX12_mends 78 = .ok (.iconst 0, 1) := by decide +kernel
theorem dX12_mends_79 : decode cX12_mends 79 = .ok (.istore_n 1, 1) := by decide +kernel
theorem dX12_mends_80 : decode cX12_mends 80 = .ok (.iload_n 1, 1) := by decide +kernel
theorem dX12_mends_81 : decode cX12_mends 81 = .ok (.aload_n 0, 1) := by decide +kernel
theorem dX12_mends_82 : decode cX12_mends 82 = .ok (.getfield 138, 3) := by decide +kernel
theorem dX12_mends_85 : decode cX12_mends 85 = .ok (.if_icmp .ge 21, 3) := by decide +kernel
theorem dX12_mends_88 : decode cX12_mends 88 = .ok (.aload_n 0, 1) := by decide +kernel
theorem dX12_mends_89 : decode cX12_mends 89 = .ok (.getfield 119, 3) := by decide +kernel
theorem dX12_mends_92 : decode cX12_mends 92 = .ok (.iload_n 1, 1) := by decide +kernel
theorem dX12_mends_93 : decode cX12_mends 93 = .ok (.aload_n 0, 1) := by decide +kernel
theorem dX12_mends_94 : decode cX12_mends 94 = .ok (.getfield 98, 3) := by decide +kernel
theorem dX12_mends_97 : decode cX12_mends 97 = .ok (.iload_n 1, 1) := by decide +kernel
theorem dX12_mends_98 : decode cX12_mends 98 = .ok (.iaload, 1) := by decide +kernel
theorem dX12_mends_99 : decode cX12_mends 99 = .ok (.iastore, 1) := by decide +kernel
theorem dX12_mends_100 : decode cX12_mends 100 = .ok (.iinc 1 1, 3) := by decide +kernel
theorem dX12_mends_103 : decode cX12_mends 103 = .ok (.goto (-23), 3) := by decide +kernel
theorem dX12_mends_106 : decode cX12_mends 106 = .ok (.iconst 1, 1) := by decide +kernel
theorem dX12_mends_107 : decode cX12_mends 107 = .ok (.istore_n 1, 1) := by decide +kernel
theorem dX12_mends_108 : decode cX12_mends 108 = .ok (.iload_n 1, 1) := by decide +kernel
theorem dX12_mends_109 : decode cX12_mends 109 = .ok (.ifCond .eq 12, 3) := by decide +kernel
theorem dX12_mends_112 : decode cX12_mends 112 = .ok (.aload_n 0, 1) := by decide +kernel
theorem dX12_mends_113 : decode cX12_mends 113 = .ok (.iconst 0, 1) := by decide +kernel
theorem dX12_mends_114 : decode cX12_mends 114 = .ok (.invokevirtual 396, 3) := by decide +kernel
theorem dX12_mends_117 : decode cX12_mends 117 = .ok (.istore_n 1, 1) := by decide +kernel
theorem dX12_mends_118 : decode cX12_mends 118 = .ok (.goto (-10), 3) := by decide +kernel
theorem dX12_mends_121 : decode cX12_mends 121 = .ok (.return_, 1) := by decide +kernel
theorem dX12_turns_0 : decode cX12_turns 0 = .ok (.iconst 0, 1) := by decide +kernel
theorem dX12_turns_1 : decode cX12_turns 1 = .ok (.istore_n 1, 1) := by decide +kernel
theorem dX12_turns_2 : decode cX12_turns 2 = .ok (.aload_n 0, 1) := by decide +kernel
theorem dX12_turns_3 : decode cX12_turns 3 = .ok (.iload_n 1, 1) := by decide +kernel
theorem dX12_turns_4 : decode cX12_turns 4 = .ok (.invokevirtual 396, 3) := by decide +kernel
theorem dX12_turns_7 : decode cX12_turns 7 = .ok (.ifCond .eq 16, 3) := by decide +kernel
theorem dX12_turns_10 : decode cX12_turns 10 = .ok (.iload_n 1, 1) := by decide +kernel
theorem dX12_turns_11 : decode cX12_turns 11 = .ok (.ifCond .ne 7, 3) := by decide +kernel
theorem dX12_turns_14 : decode cX12_turns 14 = .ok (.iconst 1, 1) := by decide +kernel
theorem dX12_turns_15 : decode cX12_turns 15 = .ok (.goto 4, 3) := by decide +kernel
theorem dX12_turns_18 : decode cX12_turns 18 = .ok (.iconst 0, 1) := by decide +kernel
theorem dX12_turns_19 : decode cX12_turns 19 = .ok (.istore_n 1, 1) := by decide +kernel
theorem dX12_turns_20 : decode cX12_turns 20 = .ok (.goto (-18), 3) := by decide +kernel
theorem dX12_turns_23 : decode cX12_turns 23 = .ok (.return_, 1) := by decide +kernel
theorem dX12_bidOf_0 : decode cX12_bidOf 0 = .ok (.aload_n 0, 1) := by decide +kernel
theorem dX12_bidOf_1 : decode cX12_bidOf 1 = .ok (.aload_n 0, 1) := by decide +kernel
theorem dX12_bidOf_2 : decode cX12_bidOf 2 = .ok (.iload_n 1, 1) := by decide +kernel
theorem dX12_bidOf_3 : decode cX12_bidOf 3 = .ok (.invokevirtual 339, 3) := by decide +kernel
theorem dX12_bidOf_6 : decode cX12_bidOf 6 = .ok (.iconst 1, 1) := by decide +kernel
theorem dX12_bidOf_7 : decode cX12_bidOf 7 = .ok (.iload_n 2, 1) := by decide +kernel
theorem dX12_bidOf_8 : decode cX12_bidOf 8 = .ok (.ishl, 1) := by decide +kernel
theorem dX12_bidOf_9 : decode cX12_bidOf 9 = .ok (.invokevirtual 354, 3) := by decide +kernel
theorem dX12_bidOf_12 : decode cX12_bidOf 12 = .ok (.aload_n 0, 1) := by decide +kernel
theorem dX12_bidOf_13 : decode cX12_bidOf 13 = .ok (.aload_n 0, 1) := by decide +kernel
theorem dX12_bidOf_14 : decode cX12_bidOf 14 = .ok (.iload_n 1, 1) := by decide +kernel
theorem dX12_bidOf_15 : decode cX12_bidOf 15 = .ok (.invokevirtual 339, 3) := by decide +kernel
theorem dX12_bidOf_18 : decode cX12_bidOf 18 = .ok (.iconst 0, 1) := by decide +kernel
theorem dX12_bidOf_19 : decode cX12_bidOf 19 = .ok (.invokevirtual 354, 3) := by decide +kernel
theorem dX12_bidOf_22 : decode cX12_bidOf 22 = .ok (.isub, 1) := by decide +kernel
theorem dX12_bidOf_23 : decode cX12_bidOf 23 = .ok (.ireturn, 1) := by decide +kernel
theorem dX12_bids_0 : decode cX12_bids 0 = .ok (.iconst 0, 1) := by decide +kernel
theorem dX12_bids_1 : decode cX12_bids 1 = .ok (.istore_n 1, 1) := by decide +kernel
theorem dX12_bids_2 : decode cX12_bids 2 = .ok (.iload_n 1, 1) := by decide +kernel
theorem dX12_bids_3 : decode cX12_bids 3 = .ok (.bipush 80, 2) := by decide +kernel
theorem dX12_bids_5 : decode cX12_bids 5 = .ok (.if_icmp .ge 16, 3) := by decide +kernel
theorem dX12_bids_8 : decode cX12_bids 8 = .ok (.aload_n 0, 1) := by decide +kernel
theorem dX12_bids_9 : decode cX12_bids 9 = .ok (.getfield 122, 3) := by decide +kernel
theorem dX12_bids_12 : decode cX12_bids 12 = .ok (.iload_n 1, 1) := by decide +kernel
theorem dX12_bids_13 : decode cX12_bids 13 = .ok (.iconst 0, 1) := by decide +kernel
theorem dX12_bids_14 : decode cX12_bids 14 = .ok (.bastore, 1) := by decide +kernel
theorem dX12_bids_15 : decode cX12_bids 15 = .ok (.iinc 1 1, 3) := by decide +kernel
theorem dX12_bids_18 : decode cX12_bids 18 = .ok (.goto (-16), 3) := by decide +kernel
theorem dX12_bids_21 : decode cX12_bids 21 = .ok (.iconst (-1), 1) := by decide +kernel
theorem dX12_bids_22 : decode cX12_bids 22 = .ok (.istore_n 1, 1) := by decide +kernel
theorem dX12_bids_23 : decode cX12_bids 23 = .ok (.iconst 0, 1) := by decide +kernel
theorem dX12_bids_24 : decode cX12_bids 24 = .ok (.istore_n 2, 1) := by decide +kernel
theorem dX12_bids_25 : decode cX12_bids 25 = .ok (.iload_n 2, 1) := by decide +kernel
theorem dX12_bids_26 : decode cX12_bids 26 = .ok (.aload_n 0, 1) := by decide +kernel
theorem dX12_bids_27 : decode cX12_bids 27 = .ok (.getfield 138, 3) := by decide +kernel
theorem dX12_bids_30 : decode cX12_bids 30 = .ok (.if_icmp .ge 84, 3) := by decide +kernel
theorem dX12_bids_33 : decode cX12_bids 33 = .ok (.iconst 0, 1) := by decide +kernel
theorem dX12_bids_34 : decode cX12_bids 34 = .ok (.istore_n 3, 1) := by decide +kernel
theorem dX12_bids_35 : decode cX12_bids 35 = .ok (.iload_n 3, 1) := by decide +kernel
theorem dX12_bids_36 : decode cX12_bids 36 = .ok (.aload_n 0, 1) := by decide +kernel
theorem dX12_bids_37 : decode cX12_bids 37 = .ok (.getfield 131, 3) := by decide +kernel
theorem dX12_bids_40 : decode cX12_bids 40 = .ok (.if_icmp .ge 68, 3) := by decide +kernel
theorem dX12_bids_43 : decode cX12_bids 43 = .ok (.aload_n 0, 1) := by decide +kernel
theorem dX12_bids_44 : decode cX12_bids 44 = .ok (.getfield 122, 3) := by decide +kernel
theorem dX12_bids_47 : decode cX12_bids 47 = .ok (.bipush 10, 2) := by decide +kernel
theorem dX12_bids_49 : decode cX12_bids 49 = .ok (.iload_n 2, 1) := by decide +kernel
theorem dX12_bids_50 : decode cX12_bids 50 = .ok (.imul, 1) := by decide +kernel
theorem dX12_bids_51 : decode cX12_bids 51 = .ok (.iload_n 3, 1) := by decide +kernel
theorem dX12_bids_52 : decode cX12_bids 52 = .ok (.iadd, 1) := by decide +kernel
theorem dX12_bids_53 : decode cX12_bids 53 = .ok (.baload, 1) := by decide +kernel
theorem dX12_bids_54 : decode cX12_bids 54 = .ok (.ifCond .ne 48, 3) := by decide +kernel
theorem dX12_bids_57 : decode cX12_bids 57 = .ok (.aload_n 0, 1) := by decide +kernel
theorem dX12_bids_58 : decode cX12_bids 58 = .ok (.iload_n 2, 1) := by decide +kernel
theorem dX12_bids_59 : decode cX12_bids 59 = .ok (.iload_n 3, 1) := by decide +kernel
theorem dX12_bids_60 : decode cX12_bids 60 = .ok (.invokevirtual 400, 3) := by decide +kernel
theorem dX12_bids_63 : decode cX12_bids 63 = .ok (.ifCond .gt 6, 3) := by decide +kernel
theorem dX12_bids_66 : decode cX12_bids 66 = .ok (.goto 36, 3) := by decide +kernel
theorem dX12_bids_69 : decode cX12_bids 69 = .ok (.iload_n 1, 1) := by decide +kernel
theorem dX12_bids_70 : decode cX12_bids 70 = .ok (.iconst (-1), 1) := by decide +kernel
theorem dX12_bids_71 : decode cX12_bids 71 = .ok (.if_icmp .eq 24, 3) := by decide +kernel
theorem dX12_bids_74 : decode cX12_bids 74 = .ok (.aload_n 0, 1) := by decide +kernel
theorem dX12_bids_75 : decode cX12_bids 75 = .ok (.iload_n 2, 1) := by decide +kernel
theorem dX12_bids_76 : decode cX12_bids 76 = .ok (.iload_n 3, 1) := by decide +kernel
theorem dX12_bids_77 : decode cX12_bids 77 = .ok (.invokevirtual 400, 3) := by decide +kernel
theorem dX12_bids_80 : decode cX12_bids 80 = .ok (.aload_n 0, 1) := by decide +kernel
theorem dX12_bids_81 : decode cX12_bids 81 = .ok (.iload_n 1, 1) := by decide +kernel
theorem dX12_bids_82 : decode cX12_bids 82 = .ok (.bipush 10, 2) := by decide +kernel
theorem dX12_bids_84 : decode cX12_bids 84 = .ok (.idiv, 1) := by decide +kernel
theorem dX12_bids_85 : decode cX12_bids 85 = .ok (.iload_n 1, 1) := by decide +kernel
theorem dX12_bids_86 : decode cX12_bids 86 = .ok (.bipush 10, 2) := by decide +kernel
theorem dX12_bids_88 : decode cX12_bids 88 = .ok (.irem, 1) := by decide +kernel
theorem dX12_bids_89 : decode cX12_bids 89 = .ok (.invokevirtual 400, 3) := by decide +kernel
theorem dX12_bids_92 : decode cX12_bids 92 = .ok (.if_icmp .le 10, 3) := by decide +kernel
theorem dX12_bids_95 : decode cX12_bids 95 = .ok (.bipush 10, 2) := by decide +kernel
theorem dX12_bids_97 : decode cX12_bids 97 = .ok (.iload_n 2, 1) := by decide +kernel
theorem dX12_bids_98 : decode cX12_bids 98 = .ok (.imul, 1) := by decide +kernel
theorem dX12_bids_99 : decode cX12_bids 99 = .ok (.iload_n 3, 1) := by decide +kernel
theorem dX12_bids_100 : decode cX12_bids 100 = .ok (.iadd, 1) := by decide +kernel
theorem dX12_bids_101 : decode cX12_bids 101 = .ok (.istore_n 1, 1) := by decide +kernel
theorem dX12_bids_102 : decode cX12_bids 102 = .ok (.iinc 3 1, 3) := by decide +kernel
theorem dX12_bids_105 : decode cX12_bids 105 = .ok (.goto (-70), 3) := by decide +kernel
theorem dX12_bids_108 : decode cX12_bids 108 = .ok (.iinc 2 1, 3) := by decide +kernel
theorem dX12_bids_111 : decode cX12_bids 111 = .ok (.goto (-86), 3) := by decide +kernel
theorem dX12_bids_114 : decode cX12_bids 114 = .ok (.iload_n 1, 1) := by decide +kernel
theorem dX12_bids_115 : decode cX12_bids 115 = .ok (.iconst (-1), 1) := by decide +kernel
theorem dX12_bids_116 : decode cX12_bids 116 = .ok (.if_icmp .ne 4, 3) := by decide +kernel
theorem dX12_bids_119 : decode cX12_bids 119 = .ok (.return_, 1) := by decide +kernel
theorem dX12_bids_120 : decode cX12_bids 120 = .ok (.aload_n 0, 1) := by decide +kernel
theorem dX12_bids_121 : decode cX12_bids 121 = .ok (.getfield 122, 3) := by decide +kernel
theorem dX12_bids_124 : decode cX12_bids 124 = .ok (.iload_n 1, 1) := by decide +kernel
theorem dX12_bids_125 : decode cX12_bids 125 = .ok (.iconst 1, 1) := by decide +kernel
theorem dX12_bids_126 : decode cX12_bids 126 = .ok (.bastore, 1) := by decide +kernel
theorem dX12_bids_127 : decode cX12_bids 127 = .ok (.iload_n 1, 1) := by decide +kernel
theorem dX12_bids_128 : decode cX12_bids 128 = .ok (.bipush 10, 2) := by decide +kernel
theorem dX12_bids_130 : decode cX12_bids 130 = .ok (.idiv, 1) := by decide +kernel
theorem dX12_bids_131 : decode cX12_bids 131 = .ok (.istore_n 2, 1) := by decide +kernel
theorem dX12_bids_132 : decode cX12_bids 132 = .ok (.aload_n 0, 1) := by decide +kernel
theorem dX12_bids_133 : decode cX12_bids 133 = .ok (.getfield 119, 3) := by decide +kernel
theorem dX12_bids_136 : decode cX12_bids 136 = .ok (.iload_n 2, 1) := by decide +kernel
theorem dX12_bids_137 : decode cX12_bids 137 = .ok (.iaload, 1) := by decide +kernel
theorem dX12_bids_138 : decode cX12_bids 138 = .ok (.iconst 1, 1) := by decide +kernel
theorem dX12_bids_139 : decode cX12_bids 139 = .ok (.iload_n 1, 1) := by decide +kernel
theorem dX12_bids_140 : decode cX12_bids 140 = .ok (.bipush 10, 2) := by decide +kernel
theorem dX12_bids_142 : decode cX12_bids 142 = .ok (.irem, 1) := by decide +kernel
theorem dX12_bids_143 : decode cX12_bids 143 = .ok (.ishl, 1) := by decide +kernel
theorem dX12_bids_144 : decode cX12_bids 144 = .ok (.ior, 1) := by decide +kernel
theorem dX12_bids_145 : decode cX12_bids 145 = .ok (.istore_n 3, 1) := by decide +kernel
theorem dX12_bids_146 : decode cX12_bids 146 = .ok (.aload_n 0, 1) := by decide +kernel
theorem dX12_bids_147 : decode cX12_bids 147 = .ok (.iload_n 1, 1) := by decide +kernel
theorem dX12_bids_148 : decode cX12_bids 148 = .ok (.bipush 10, 2) := by decide +kernel
theorem dX12_bids_150 : decode cX12_bids 150 = .ok (.irem, 1) := by decide +kernel
theorem dX12_bids_151 : decode cX12_bids 151 = .ok (.invokevirtual 390, 3) := by decide +kernel
theorem dX12_bids_154 : decode cX12_bids 154 = .ok (.ifCond .le 23, 3) := by decide +kernel
theorem dX12_bids_157 : decode cX12_bids 157 = .ok (.aload_n 0, 1) := by decide +kernel
theorem dX12_bids_158 : decode cX12_bids 158 = .ok (.aload_n 0, 1) := by decide +kernel
theorem dX12_bids_159 : decode cX12_bids 159 = .ok (.iload_n 2, 1) := by decide +kernel
theorem dX12_bids_160 : decode cX12_bids 160 = .ok (.invokevirtual 339, 3) := by decide +kernel
theorem dX12_bids_163 : decode cX12_bids 163 = .ok (.iload_n 3, 1) := by decide +kernel
theorem dX12_bids_164 : decode cX12_bids 164 = .ok (.invokevirtual 348, 3) := by decide +kernel
theorem dX12_bids_167 : decode cX12_bids 167 = .ok (.ifCond .eq 10, 3) := by decide +kernel
theorem dX12_bids_170 : decode cX12_bids 170 = .ok (.aload_n 0, 1) := by decide +kernel
theorem dX12_bids_171 : decode cX12_bids 171 = .ok (.getfield 119, 3) := by decide +kernel
theorem dX12_bids_174 : decode cX12_bids 174 = .ok (.iload_n 2, 1) := by decide +kernel
theorem dX12_bids_175 : decode cX12_bids 175 = .ok (.iload_n 3, 1) := by decide +kernel
theorem dX12_bids_176 : decode cX12_bids 176 = .ok (.iastore, 1) := by decide +kernel
theorem dX12_bids_177 : decode cX12_bids 177 = .ok (.goto (-156), 3) := by decide +kernel
theorem dX12_takesBest_0 : decode cX12_takesBest 0 = .ok (.aload_n 0, 1) := by decide +kernel
theorem dX12_takesBest_1 : decode cX12_takesBest 1 = .ok (.iload_n 1, 1) := by decide +kernel
theorem dX12_takesBest_2 : decode cX12_takesBest 2 = .ok (.invokevirtual 339, 3) := by decide +kernel
theorem dX12_takesBest_5 : decode cX12_takesBest 5 = .ok (.istore_n 3, 1) := by decide +kernel
theorem dX12_takesBest_6 : decode cX12_takesBest 6 = .ok (.iconst 0, 1) := by decide +kernel
theorem dX12_takesBest_7 : decode cX12_takesBest 7 = .ok (.istore 4, 2) := by decide +kernel
theorem dX12_takesBest_9 : decode cX12_takesBest 9 = .ok (.iconst 0, 1) := by decide +kernel
theorem dX12_takesBest_10 : decode cX12_takesBest 10 = .ok (.istore 5, 2) := by decide +kernel
theorem dX12_takesBest_12 : decode cX12_takesBest 12 = .ok (.iload 5, 2) := by decide +kernel
theorem dX12_takesBest_14 : decode cX12_takesBest 14 = .ok (.aload_n 0, 1) := by decide +kernel
theorem dX12_takesBest_15 : decode cX12_takesBest 15 = .ok (.getfield 131, 3) := by decide +kernel
theorem dX12_takesBest_18 : decode cX12_takesBest 18 = .ok (.if_icmp .ge 37, 3) := by decide +kernel
theorem dX12_takesBest_21 : decode cX12_takesBest 21 = .ok (.iload 4, 2) := by decide +kernel
theorem dX12_takesBest_23 : decode cX12_takesBest 23 = .ok (.iload 5, 2) := by decide +kernel
theorem dX12_takesBest_25 : decode cX12_takesBest 25 = .ok (.iload_n 2, 1) := by decide +kernel
theorem dX12_takesBest_26 : decode cX12_takesBest 26 = .ok (.if_icmp .eq 19, 3) := by decide +kernel
theorem dX12_takesBest_29 : decode cX12_takesBest 29 = .ok (.aload_n 0, 1) := by decide +kernel
theorem dX12_takesBest_30 : decode cX12_takesBest 30 = .ok (.iload 5, 2) := by decide +kernel
theorem dX12_takesBest_32 : decode cX12_takesBest 32 = .ok (.invokevirtual 390, 3) := by decide +kernel
theorem dX12_takesBest_35 : decode cX12_takesBest 35 = .ok (.ifCond .le 10, 3) := by decide +kernel
theorem dX12_takesBest_38 : decode cX12_takesBest 38 = .ok (.iconst 1, 1) := by decide +kernel
theorem dX12_takesBest_39 : decode cX12_takesBest 39 = .ok (.iload 5, 2) := by decide +kernel
theorem dX12_takesBest_41 : decode cX12_takesBest 41 = .ok (.ishl, 1) := by decide +kernel
theorem dX12_takesBest_42 : decode cX12_takesBest 42 = .ok (.goto 4, 3) := by decide +kernel
theorem dX12_takesBest_45 : decode cX12_takesBest 45 = .ok (.iconst 0, 1) := by decide +kernel
theorem dX12_takesBest_46 : decode cX12_takesBest 46 = .ok (.ior, 1) := by decide +kernel
theorem dX12_takesBest_47 : decode cX12_takesBest 47 = .ok (.istore 4, 2) := by decide +kernel
theorem dX12_takesBest_49 : decode cX12_takesBest 49 = .ok (.iinc 5 1, 3) := by decide +kernel
theorem dX12_takesBest_52 : decode cX12_takesBest 52 = .ok (.goto (-40), 3) := by decide +kernel
theorem dX12_takesBest_55 : decode cX12_takesBest 55 = .ok (.iconst (-1), 1) := by decide +kernel
theorem dX12_takesBest_56 : decode cX12_takesBest 56 = .ok (.istore 5, 2) := by decide +kernel
theorem dX12_takesBest_58 : decode cX12_takesBest 58 = .ok (.iconst 0, 1) := by decide +kernel
theorem dX12_takesBest_59 : decode cX12_takesBest 59 = .ok (.istore 6, 2) := by decide +kernel
theorem dX12_takesBest_61 : decode cX12_takesBest 61 = .ok (.iload 6, 2) := by decide +kernel
theorem dX12_takesBest_63 : decode cX12_takesBest 63 = .ok (.iconst 1, 1) := by decide +kernel
theorem dX12_takesBest_64 : decode cX12_takesBest 64 = .ok (.aload_n 0, 1) := by decide +kernel
theorem dX12_takesBest_65 : decode cX12_takesBest 65 = .ok (.getfield 131, 3) := by decide +kernel
theorem dX12_takesBest_68 : decode cX12_takesBest 68 = .ok (.ishl, 1) := by decide +kernel
theorem dX12_takesBest_69 : decode cX12_takesBest 69 = .ok (.if_icmp .ge 56, 3) := by decide +kernel
theorem dX12_takesBest_72 : decode cX12_takesBest 72 = .ok (.iload 6, 2) := by decide +kernel
theorem dX12_takesBest_74 : decode cX12_takesBest 74 = .ok (.iload 4, 2) := by decide +kernel
theorem dX12_takesBest_76 : decode cX12_takesBest 76 = .ok (.iconst (-1), 1) := by decide +kernel
theorem dX12_takesBest_77 : decode cX12_takesBest 77 = .ok (.ixor, 1) := by decide +kernel
theorem dX12_takesBest_78 : decode cX12_takesBest 78 = .ok (.iand, 1) := by decide +kernel
theorem dX12_takesBest_79 : decode cX12_takesBest 79 = .ok (.ifCond .ne 40, 3) := by decide +kernel
theorem dX12_takesBest_82 : decode cX12_takesBest 82 = .ok (.aload_n 0, 1) := by decide +kernel
theorem dX12_takesBest_83 : decode cX12_takesBest 83 = .ok (.iload_n 3, 1) := by decide +kernel
theorem dX12_takesBest_84 : decode cX12_takesBest 84 = .ok (.iload 6, 2) := by decide +kernel
theorem dX12_takesBest_86 : decode cX12_takesBest 86 = .ok (.invokevirtual 348, 3) := by decide +kernel
theorem dX12_takesBest_89 : decode cX12_takesBest 89 = .ok (.ifCond .eq 30, 3) := by decide +kernel
theorem dX12_takesBest_92 : decode cX12_takesBest 92 = .ok (.iload 5, 2) := by decide +kernel
theorem dX12_takesBest_94 : decode cX12_takesBest 94 = .ok (.iconst (-1), 1) := by decide +kernel
theorem dX12_takesBest_95 : decode cX12_takesBest 95 = .ok (.if_icmp .eq 20, 3) := by decide +kernel
theorem dX12_takesBest_98 : decode cX12_takesBest 98 = .ok (.aload_n 0, 1) := by decide +kernel
theorem dX12_takesBest_99 : decode cX12_takesBest 99 = .ok (.iload_n 3, 1) := by decide +kernel
theorem dX12_takesBest_100 : decode cX12_takesBest 100 = .ok (.iload 6, 2) := by decide +kernel
theorem dX12_takesBest_102 : decode cX12_takesBest 102 = .ok (.invokevirtual 354, 3) := by decide +kernel
theorem dX12_takesBest_105 : decode cX12_takesBest 105 = .ok (.aload_n 0, 1) := by decide +kernel
theorem dX12_takesBest_106 : decode cX12_takesBest 106 = .ok (.iload_n 3, 1) := by decide +kernel
theorem dX12_takesBest_107 : decode cX12_takesBest 107 = .ok (.iload 5, 2) := by decide +kernel
theorem dX12_takesBest_109 : decode cX12_takesBest 109 = .ok (.invokevirtual 354, 3) := by decide +kernel
theorem dX12_takesBest_112 : decode cX12_takesBest 112 = .ok (.if_icmp .le 7, 3) := by decide +kernel
theorem dX12_takesBest_115 : decode cX12_takesBest 115 = .ok (.iload 6, 2) := by decide +kernel
theorem dX12_takesBest_117 : decode cX12_takesBest 117 = .ok (.istore 5, 2) := by decide +kernel
theorem dX12_takesBest_119 : decode cX12_takesBest 119 = .ok (.iinc 6 1, 3) := by decide +kernel
theorem dX12_takesBest_122 : decode cX12_takesBest 122 = .ok (.goto (-61), 3) := by decide +kernel
theorem dX12_takesBest_125 : decode cX12_takesBest 125 = .ok (.iload 5, 2) := by decide +kernel
theorem dX12_takesBest_127 : decode cX12_takesBest 127 = .ok (.ireturn, 1) := by decide +kernel
theorem dX12_serial_0 : decode cX12_serial 0 = .ok (.iconst 0, 1) := by decide +kernel
theorem dX12_serial_1 : decode cX12_serial 1 = .ok (.istore_n 1, 1) := by decide +kernel
theorem dX12_serial_2 : decode cX12_serial 2 = .ok (.iload_n 1, 1) := by decide +kernel
theorem dX12_serial_3 : decode cX12_serial 3 = .ok (.aload_n 0, 1) := by decide +kernel
theorem dX12_serial_4 : decode cX12_serial 4 = .ok (.getfield 138, 3) := by decide +kernel
theorem dX12_serial_7 : decode cX12_serial 7 = .ok (.if_icmp .ge 25, 3) := by decide +kernel
theorem dX12_serial_10 : decode cX12_serial 10 = .ok (.aload_n 0, 1) := by decide +kernel
theorem dX12_serial_11 : decode cX12_serial 11 = .ok (.getfield 119, 3) := by decide +kernel
theorem dX12_serial_14 : decode cX12_serial 14 = .ok (.iload_n 1, 1) := by decide +kernel
theorem dX12_serial_15 : decode cX12_serial 15 = .ok (.iconst 0, 1) := by decide +kernel
theorem dX12_serial_16 : decode cX12_serial 16 = .ok (.aload_n 0, 1) := by decide +kernel
theorem dX12_serial_17 : decode cX12_serial 17 = .ok (.iload_n 1, 1) := by decide +kernel
theorem dX12_serial_18 : decode cX12_serial 18 = .ok (.iconst (-1), 1) := by decide +kernel
theorem dX12_serial_19 : decode cX12_serial 19 = .ok (.invokevirtual 403, 3) := by decide +kernel
theorem dX12_serial_22 : decode cX12_serial 22 = .ok (.invokestatic 304, 3) := by decide +kernel
theorem dX12_serial_25 : decode cX12_serial 25 = .ok (.iastore, 1) := by decide +kernel
theorem dX12_serial_26 : decode cX12_serial 26 = .ok (.iinc 1 1, 3) := by decide +kernel
theorem dX12_serial_29 : decode cX12_serial 29 = .ok (.goto (-27), 3) := by decide +kernel
theorem dX12_serial_32 : decode cX12_serial 32 = .ok (.return_, 1) := by decide +kernel
theorem dX12_goes_0 : decode cX12_goes 0 = .ok (.aload_n 0, 1) := by decide +kernel
theorem dX12_goes_1 : decode cX12_goes 1 = .ok (.invokevirtual 360, 3) := by decide +kernel
theorem dX12_goes_4 : decode cX12_goes 4 = .ok (.iconst 0, 1) := by decide +kernel
theorem dX12_goes_5 : decode cX12_goes 5 = .ok (.istore_n 2, 1) := by decide +kernel
theorem dX12_goes_6 : decode cX12_goes 6 = .ok (.iload_n 2, 1) := by decide +kernel
theorem dX12_goes_7 : decode cX12_goes 7 = .ok (.bipush 8, 2) := by decide +kernel
theorem dX12_goes_9 : decode cX12_goes 9 = .ok (.if_icmp .ge 16, 3) := by decide +kernel
theorem dX12_goes_12 : decode cX12_goes 12 = .ok (.aload_n 0, 1) := by decide +kernel
theorem dX12_goes_13 : decode cX12_goes 13 = .ok (.getfield 119, 3) := by decide +kernel
theorem dX12_goes_16 : decode cX12_goes 16 = .ok (.iload_n 2, 1) := by decide +kernel
theorem dX12_goes_17 : decode cX12_goes 17 = .ok (.iconst 0, 1) := by decide +kernel
theorem dX12_goes_18 : decode cX12_goes 18 = .ok (.iastore, 1) := by decide +kernel
theorem dX12_goes_19 : decode cX12_goes 19 = .ok (.iinc 2 1, 3) := by decide +kernel
theorem dX12_goes_22 : decode cX12_goes 22 = .ok (.goto (-16), 3) := by decide +kernel
theorem dX12_goes_25 : decode cX12_goes 25 = .ok (.iload_n 1, 1) := by decide +kernel
theorem dX12_goes_26 : decode cX12_goes 26 = .ok (.tableswitch 98 0 4 #[34, 70, 77, 84, 91], 34) := by decide +kernel
theorem dX12_goes_60 : decode cX12_goes 60 = .ok (.aload_n 0, 1) := by decide +kernel
theorem dX12_goes_61 : decode cX12_goes 61 = .ok (.invokevirtual 366, 3) := by decide +kernel
theorem dX12_goes_64 : decode cX12_goes 64 = .ok (.pop, 1) := by decide +kernel
theorem dX12_goes_65 : decode cX12_goes 65 = .ok (.iconst 0, 1) := by decide +kernel
theorem dX12_goes_66 : decode cX12_goes 66 = .ok (.istore_n 2, 1) := by decide +kernel
theorem dX12_goes_67 : decode cX12_goes 67 = .ok (.iload_n 2, 1) := by decide +kernel
theorem dX12_goes_68 : decode cX12_goes 68 = .ok (.aload_n 0, 1) := by decide +kernel
theorem dX12_goes_69 : decode cX12_goes 69 = .ok (.getfield 138, 3) := by decide +kernel
theorem dX12_goes_72 : decode cX12_goes 72 = .ok (.if_icmp .ge 21, 3) := by decide +kernel
theorem dX12_goes_75 : decode cX12_goes 75 = .ok (.aload_n 0, 1) := by decide +kernel
theorem dX12_goes_76 : decode cX12_goes 76 = .ok (.getfield 119, 3) := by decide +kernel
theorem dX12_goes_79 : decode cX12_goes 79 = .ok (.iload_n 2, 1) := by decide +kernel
theorem dX12_goes_80 : decode cX12_goes 80 = .ok (.aload_n 0, 1) := by decide +kernel
theorem dX12_goes_81 : decode cX12_goes 81 = .ok (.getfield 98, 3) := by decide +kernel
theorem dX12_goes_84 : decode cX12_goes 84 = .ok (.iload_n 2, 1) := by decide +kernel
theorem dX12_goes_85 : decode cX12_goes 85 = .ok (.iaload, 1) := by decide +kernel
theorem dX12_goes_86 : decode cX12_goes 86 = .ok (.iastore, 1) := by decide +kernel
theorem dX12_goes_87 : decode cX12_goes 87 = .ok (.iinc 2 1, 3) := by decide +kernel
theorem dX12_goes_90 : decode cX12_goes 90 = .ok (.goto (-23), 3) := by decide +kernel
theorem dX12_goes_93 : decode cX12_goes 93 = .ok (.goto 59, 3) := by decide +kernel
theorem dX12_goes_96 : decode cX12_goes 96 = .ok (.aload_n 0, 1) := by decide +kernel
theorem dX12_goes_97 : decode cX12_goes 97 = .ok (.invokevirtual 406, 3) := by decide +kernel
theorem dX12_goes_100 : decode cX12_goes 100 = .ok (.goto 52, 3) := by decide +kernel
theorem dX12_goes_103 : decode cX12_goes 103 = .ok (.aload_n 0, 1) := by decide +kernel
theorem dX12_goes_104 : decode cX12_goes 104 = .ok (.invokevirtual 409, 3) := by decide +kernel
theorem dX12_goes_107 : decode cX12_goes 107 = .ok (.goto 45, 3) := by decide +kernel
theorem dX12_goes_110 : decode cX12_goes 110 = .ok (.aload_n 0, 1) := by decide +kernel
theorem dX12_goes_111 : decode cX12_goes 111 = .ok (.invokevirtual 412, 3) := by decide +kernel
theorem dX12_goes_114 : decode cX12_goes 114 = .ok (.goto 38, 3) := by decide +kernel
theorem dX12_goes_117 : decode cX12_goes 117 = .ok (.aload_n 0, 1) := by decide +kernel
theorem dX12_goes_118 : decode cX12_goes 118 = .ok (.invokevirtual 415, 3) := by decide +kernel
theorem dX12_goes_121 : decode cX12_goes 121 = .ok (.goto 31, 3) := by decide +kernel
theorem dX12_goes_124 : decode cX12_goes 124 = .ok (.iconst 0, 1) := by decide +kernel
theorem dX12_goes_125 : decode cX12_goes 125 = .ok (.istore_n 2, 1) := by decide +kernel
theorem dX12_goes_126 : decode cX12_goes 126 = .ok (.iload_n 2, 1) := by decide +kernel
theorem dX12_goes_127 : decode cX12_goes 127 = .ok (.aload_n 0, 1) := by decide +kernel
theorem dX12_goes_128 : decode cX12_goes 128 = .ok (.getfield 138, 3) := by decide +kernel
theorem dX12_goes_131 : decode cX12_goes 131 = .ok (.if_icmp .ge 21, 3) := by decide +kernel
theorem dX12_goes_134 : decode cX12_goes 134 = .ok (.aload_n 0, 1) := by decide +kernel
theorem dX12_goes_135 : decode cX12_goes 135 = .ok (.getfield 119, 3) := by decide +kernel
theorem dX12_goes_138 : decode cX12_goes 138 = .ok (.iload_n 2, 1) := by decide +kernel
theorem dX12_goes_139 : decode cX12_goes 139 = .ok (.aload_n 0, 1) := by decide +kernel
theorem dX12_goes_140 : decode cX12_goes 140 = .ok (.getfield 41, 3) := by decide +kernel
theorem dX12_goes_143 : decode cX12_goes 143 = .ok (.iload_n 2, 1) := by decide +kernel
theorem dX12_goes_144 : decode cX12_goes 144 = .ok (.iaload, 1) := by decide +kernel
theorem dX12_goes_145 : decode cX12_goes 145 = .ok (.iastore, 1) := by decide +kernel
theorem dX12_goes_146 : decode cX12_goes 146 = .ok (.iinc 2 1, 3) := by decide +kernel
theorem dX12_goes_149 : decode cX12_goes 149 = .ok (.goto (-23), 3) := by decide +kernel
theorem dX12_goes_152 : decode cX12_goes 152 = .ok (.return_, 1) := by decide +kernel
theorem dX12_give_0 : decode cX12_give 0 = .ok (.aload_n 0, 1) := by decide +kernel
theorem dX12_give_1 : decode cX12_give 1 = .ok (.iload_n 1, 1) := by decide +kernel
theorem dX12_give_2 : decode cX12_give 2 = .ok (.invokevirtual 151, 3) := by decide +kernel
theorem dX12_give_5 : decode cX12_give 5 = .ok (.ifCond .eq 19, 3) := by decide +kernel
theorem dX12_give_8 : decode cX12_give 8 = .ok (.iload_n 2, 1) := by decide +kernel
theorem dX12_give_9 : decode cX12_give 9 = .ok (.invokestatic 148, 3) := by decide +kernel
theorem dX12_give_12 : decode cX12_give 12 = .ok (.ifCond .eq 12, 3) := by decide +kernel
theorem dX12_give_15 : decode cX12_give 15 = .ok (.iload_n 2, 1) := by decide +kernel
theorem dX12_give_16 : decode cX12_give 16 = .ok (.aload_n 0, 1) := by decide +kernel
theorem dX12_give_17 : decode cX12_give 17 = .ok (.getfield 131, 3) := by decide +kernel
theorem dX12_give_20 : decode cX12_give 20 = .ok (.ishr, 1) := by decide +kernel
theorem dX12_give_21 : decode cX12_give 21 = .ok (.ifCond .le 5, 3) := by decide +kernel
theorem dX12_give_24 : decode cX12_give 24 = .ok (.iconst 0, 1) := by decide +kernel
theorem dX12_give_25 : decode cX12_give 25 = .ok (.ireturn, 1) := by decide +kernel
theorem dX12_give_26 : decode cX12_give 26 = .ok (.aload_n 0, 1) := by decide +kernel
theorem dX12_give_27 : decode cX12_give 27 = .ok (.getfield 41, 3) := by decide +kernel
theorem dX12_give_30 : decode cX12_give 30 = .ok (.iload_n 1, 1) := by decide +kernel
theorem dX12_give_31 : decode cX12_give 31 = .ok (.iload_n 2, 1) := by decide +kernel
theorem dX12_give_32 : decode cX12_give 32 = .ok (.iastore, 1) := by decide +kernel
theorem dX12_give_33 : decode cX12_give 33 = .ok (.iconst 1, 1) := by decide +kernel
theorem dX12_give_34 : decode cX12_give 34 = .ok (.ireturn, 1) := by decide +kernel
theorem dX12_has_0 : decode cX12_has 0 = .ok (.iload_n 1, 1) := by decide +kernel
theorem dX12_has_1 : decode cX12_has 1 = .ok (.invokestatic 418, 3) := by decide +kernel
theorem dX12_has_4 : decode cX12_has 4 = .ok (.ifCond .eq 20, 3) := by decide +kernel
theorem dX12_has_7 : decode cX12_has 7 = .ok (.aload_n 0, 1) := by decide +kernel
theorem dX12_has_8 : decode cX12_has 8 = .ok (.iload_n 2, 1) := by decide +kernel
theorem dX12_has_9 : decode cX12_has 9 = .ok (.invokevirtual 151, 3) := by decide +kernel
theorem dX12_has_12 : decode cX12_has 12 = .ok (.ifCond .eq 12, 3) := by decide +kernel
theorem dX12_has_15 : decode cX12_has 15 = .ok (.aload_n 0, 1) := by decide +kernel
theorem dX12_has_16 : decode cX12_has 16 = .ok (.iload_n 1, 1) := by decide +kernel
theorem dX12_has_17 : decode cX12_has 17 = .ok (.iload_n 2, 1) := by decide +kernel
theorem dX12_has_18 : decode cX12_has 18 = .ok (.invokevirtual 421, 3) := by decide +kernel
theorem dX12_has_21 : decode cX12_has 21 = .ok (.goto 4, 3) := by decide +kernel
theorem dX12_has_24 : decode cX12_has 24 = .ok (.iconst (-1), 1) := by decide +kernel
theorem dX12_has_25 : decode cX12_has 25 = .ok (.ireturn, 1) := by decide +kernel
theorem dX12_hasIn_0 : decode cX12_hasIn 0 = .ok (.aload_n 0, 1) := by decide +kernel
theorem dX12_hasIn_1 : decode cX12_hasIn 1 = .ok (.iload_n 1, 1) := by decide +kernel
theorem dX12_hasIn_2 : decode cX12_hasIn 2 = .ok (.invokevirtual 424, 3) := by decide +kernel
theorem dX12_hasIn_5 : decode cX12_hasIn 5 = .ok (.aload_n 0, 1) := by decide +kernel
theorem dX12_hasIn_6 : decode cX12_hasIn 6 = .ok (.getfield 119, 3) := by decide +kernel
theorem dX12_hasIn_9 : decode cX12_hasIn 9 = .ok (.iload_n 2, 1) := by decide +kernel
theorem dX12_hasIn_10 : decode cX12_hasIn 10 = .ok (.iaload, 1) := by decide +kernel
theorem dX12_hasIn_11 : decode cX12_hasIn 11 = .ok (.ireturn, 1) := by decide +kernel
theorem dX12_left_0 : decode cX12_left 0 = .ok (.iload_n 1, 1) := by decide +kernel
theorem dX12_left_1 : decode cX12_left 1 = .ok (.invokestatic 418, 3) := by decide +kernel
theorem dX12_left_4 : decode cX12_left 4 = .ok (.ifCond .eq 11, 3) := by decide +kernel
theorem dX12_left_7 : decode cX12_left 7 = .ok (.aload_n 0, 1) := by decide +kernel
theorem dX12_left_8 : decode cX12_left 8 = .ok (.iload_n 2, 1) := by decide +kernel
theorem dX12_left_9 : decode cX12_left 9 = .ok (.invokevirtual 141, 3) := by decide +kernel
theorem dX12_left_12 : decode cX12_left 12 = .ok (.ifCond .ne 6, 3) := by decide +kernel
theorem dX12_left_15 : decode cX12_left 15 = .ok (.bipush (-100), 2) := by decide +kernel
theorem dX12_left_17 : decode cX12_left 17 = .ok (.ireturn, 1) := by decide +kernel
theorem dX12_left_18 : decode cX12_left 18 = .ok (.aload_n 0, 1) := by decide +kernel
theorem dX12_left_19 : decode cX12_left 19 = .ok (.iload_n 1, 1) := by decide +kernel
theorem dX12_left_20 : decode cX12_left 20 = .ok (.invokevirtual 424, 3) := by decide +kernel
theorem dX12_left_23 : decode cX12_left 23 = .ok (.aload_n 0, 1) := by decide +kernel
theorem dX12_left_24 : decode cX12_left 24 = .ok (.iload_n 2, 1) := by decide +kernel
theorem dX12_left_25 : decode cX12_left 25 = .ok (.invokevirtual 390, 3) := by decide +kernel
theorem dX12_left_28 : decode cX12_left 28 = .ok (.ireturn, 1) := by decide +kernel
theorem dX12_sum_0 : decode cX12_sum 0 = .ok (.iload_n 1, 1) := by decide +kernel
theorem dX12_sum_1 : decode cX12_sum 1 = .ok (.invokestatic 418, 3) := by decide +kernel
theorem dX12_sum_4 : decode cX12_sum 4 = .ok (.ifCond .ne 7, 3) := by decide +kernel
theorem dX12_sum_7 : decode cX12_sum 7 = .ok (.ldc_w 427, 3) := by decide +kernel
theorem dX12_sum_10 : decode cX12_sum 10 = .ok (.ireturn, 1) := by decide +kernel
theorem dX12_sum_11 : decode cX12_sum 11 = .ok (.aload_n 0, 1) := by decide +kernel
theorem dX12_sum_12 : decode cX12_sum 12 = .ok (.iload_n 1, 1) := by decide +kernel
theorem dX12_sum_13 : decode cX12_sum 13 = .ok (.invokevirtual 424, 3) := by decide +kernel
theorem dX12_sum_16 : decode cX12_sum 16 = .ok (.iconst 0, 1) := by decide +kernel
theorem dX12_sum_17 : decode cX12_sum 17 = .ok (.istore_n 2, 1) := by decide +kernel
theorem dX12_sum_18 : decode cX12_sum 18 = .ok (.iconst 0, 1) := by decide +kernel
theorem dX12_sum_19 : decode cX12_sum 19 = .ok (.istore_n 3, 1) := by decide +kernel
theorem dX12_sum_20 : decode cX12_sum 20 = .ok (.iload_n 3, 1) := by decide +kernel
theorem dX12_sum_21 : decode cX12_sum 21 = .ok (.aload_n 0, 1) := by decide +kernel
theorem dX12_sum_22 : decode cX12_sum 22 = .ok (.getfield 138, 3) := by decide +kernel
theorem dX12_sum_25 : decode cX12_sum 25 = .ok (.if_icmp .ge 23, 3) := by decide +kernel
theorem dX12_sum_28 : decode cX12_sum 28 = .ok (.iload_n 2, 1) := by decide +kernel
theorem dX12_sum_29 : decode cX12_sum 29 = .ok (.aload_n 0, 1) := by decide +kernel
theorem dX12_sum_30 : decode cX12_sum 30 = .ok (.iload_n 3, 1) := by decide +kernel
theorem dX12_sum_31 : decode cX12_sum 31 = .ok (.aload_n 0, 1) := by decide +kernel
theorem dX12_sum_32 : decode cX12_sum 32 = .ok (.getfield 119, 3) := by decide +kernel
theorem dX12_sum_35 : decode cX12_sum 35 = .ok (.iload_n 3, 1) := by decide +kernel
theorem dX12_sum_36 : decode cX12_sum 36 = .ok (.iaload, 1) := by decide +kernel
theorem dX12_sum_37 : decode cX12_sum 37 = .ok (.invokevirtual 354, 3) := by decide +kernel
theorem dX12_sum_40 : decode cX12_sum 40 = .ok (.iadd, 1) := by decide +kernel
theorem dX12_sum_41 : decode cX12_sum 41 = .ok (.istore_n 2, 1) := by decide +kernel
theorem dX12_sum_42 : decode cX12_sum 42 = .ok (.iinc 3 1, 3) := by decide +kernel
theorem dX12_sum_45 : decode cX12_sum 45 = .ok (.goto (-25), 3) := by decide +kernel
theorem dX12_sum_48 : decode cX12_sum 48 = .ok (.iload_n 2, 1) := by decide +kernel
theorem dX12_sum_49 : decode cX12_sum 49 = .ok (.ireturn, 1) := by decide +kernel
theorem dX12_isBetter_0 : decode cX12_isBetter 0 = .ok (.aload_n 0, 1) := by decide +kernel
theorem dX12_isBetter_1 : decode cX12_isBetter 1 = .ok (.iload_n 1, 1) := by decide +kernel
theorem dX12_isBetter_2 : decode cX12_isBetter 2 = .ok (.iload_n 2, 1) := by decide +kernel
theorem dX12_isBetter_3 : decode cX12_isBetter 3 = .ok (.invokevirtual 348, 3) := by decide +kernel
theorem dX12_isBetter_6 : decode cX12_isBetter 6 = .ok (.ifCond .eq 22, 3) := by decide +kernel
theorem dX12_isBetter_9 : decode cX12_isBetter 9 = .ok (.aload_n 0, 1) := by decide +kernel
theorem dX12_isBetter_10 : decode cX12_isBetter 10 = .ok (.iload_n 1, 1) := by decide +kernel
theorem dX12_isBetter_11 : decode cX12_isBetter 11 = .ok (.iload_n 2, 1) := by decide +kernel
theorem dX12_isBetter_12 : decode cX12_isBetter 12 = .ok (.invokevirtual 354, 3) := by decide +kernel
theorem dX12_isBetter_15 : decode cX12_isBetter 15 = .ok (.aload_n 0, 1) := by decide +kernel
theorem dX12_isBetter_16 : decode cX12_isBetter 16 = .ok (.iload_n 1, 1) := by decide +kernel
theorem dX12_isBetter_17 : decode cX12_isBetter 17 = .ok (.iload_n 3, 1) := by decide +kernel
theorem dX12_isBetter_18 : decode cX12_isBetter 18 = .ok (.invokevirtual 354, 3) := by decide +kernel
theorem dX12_isBetter_21 : decode cX12_isBetter 21 = .ok (.if_icmp .le 7, 3) := by decide +kernel
theorem dX12_isBetter_24 : decode cX12_isBetter 24 = .ok (.iconst 1, 1) := by decide +kernel
theorem dX12_isBetter_25 : decode cX12_isBetter 25 = .ok (.goto 4, 3) := by decide +kernel
theorem dX12_isBetter_28 : decode cX12_isBetter 28 = .ok (.iconst 0, 1) := by decide +kernel
theorem dX12_isBetter_29 : decode cX12_isBetter 29 = .ok (.ireturn, 1) := by decide +kernel
theorem dX12_envyOf_0 : decode cX12_envyOf 0 = .ok (.aload_n 0, 1) := by decide +kernel
theorem dX12_envyOf_1 : decode cX12_envyOf 1 = .ok (.getfield 119, 3) := by decide +kernel
theorem dX12_envyOf_4 : decode cX12_envyOf 4 = .ok (.iload_n 2, 1) := by decide +kernel
theorem dX12_envyOf_5 : decode cX12_envyOf 5 = .ok (.iaload, 1) := by decide +kernel
theorem dX12_envyOf_6 : decode cX12_envyOf 6 = .ok (.istore_n 3, 1) := by decide +kernel
theorem dX12_envyOf_7 : decode cX12_envyOf 7 = .ok (.aload_n 0, 1) := by decide +kernel
theorem dX12_envyOf_8 : decode cX12_envyOf 8 = .ok (.iload_n 1, 1) := by decide +kernel
theorem dX12_envyOf_9 : decode cX12_envyOf 9 = .ok (.iload_n 3, 1) := by decide +kernel
theorem dX12_envyOf_10 : decode cX12_envyOf 10 = .ok (.aload_n 0, 1) := by decide +kernel
theorem dX12_envyOf_11 : decode cX12_envyOf 11 = .ok (.getfield 119, 3) := by decide +kernel
theorem dX12_envyOf_14 : decode cX12_envyOf 14 = .ok (.iload_n 1, 1) := by decide +kernel
theorem dX12_envyOf_15 : decode cX12_envyOf 15 = .ok (.iaload, 1) := by decide +kernel
theorem dX12_envyOf_16 : decode cX12_envyOf 16 = .ok (.invokevirtual 428, 3) := by decide +kernel
theorem dX12_envyOf_19 : decode cX12_envyOf 19 = .ok (.ifCond .ne 5, 3) := by decide +kernel
theorem dX12_envyOf_22 : decode cX12_envyOf 22 = .ok (.iconst 0, 1) := by decide +kernel
theorem dX12_envyOf_23 : decode cX12_envyOf 23 = .ok (.ireturn, 1) := by decide +kernel
theorem dX12_envyOf_24 : decode cX12_envyOf 24 = .ok (.iconst 0, 1) := by decide +kernel
theorem dX12_envyOf_25 : decode cX12_envyOf 25 = .ok (.istore 4, 2) := by decide +kernel
theorem dX12_envyOf_27 : decode cX12_envyOf 27 = .ok (.iload 4, 2) := by decide +kernel
theorem dX12_envyOf_29 : decode cX12_envyOf 29 = .ok (.aload_n 0, 1) := by decide +kernel
theorem dX12_envyOf_30 : decode cX12_envyOf 30 = .ok (.getfield 131, 3) := by decide +kernel
theorem dX12_envyOf_33 : decode cX12_envyOf 33 = .ok (.if_icmp .ge 42, 3) := by decide +kernel
theorem dX12_envyOf_36 : decode cX12_envyOf 36 = .ok (.iload_n 3, 1) := by decide +kernel
theorem dX12_envyOf_37 : decode cX12_envyOf 37 = .ok (.iload 4, 2) := by decide +kernel
theorem dX12_envyOf_39 : decode cX12_envyOf 39 = .ok (.invokestatic 289, 3) := by decide +kernel
theorem dX12_envyOf_42 : decode cX12_envyOf 42 = .ok (.ifCond .eq 27, 3) := by decide +kernel
theorem dX12_envyOf_45 : decode cX12_envyOf 45 = .ok (.aload_n 0, 1) := by decide +kernel
theorem dX12_envyOf_46 : decode cX12_envyOf 46 = .ok (.iload_n 1, 1) := by decide +kernel
theorem dX12_envyOf_47 : decode cX12_envyOf 47 = .ok (.iload_n 3, 1) := by decide +kernel
theorem dX12_envyOf_48 : decode cX12_envyOf 48 = .ok (.iconst 1, 1) := by decide +kernel
theorem dX12_envyOf_49 : decode cX12_envyOf 49 = .ok (.iload 4, 2) := by decide +kernel
theorem dX12_envyOf_51 : decode cX12_envyOf 51 = .ok (.ishl, 1) := by decide +kernel
theorem dX12_envyOf_52 : decode cX12_envyOf 52 = .ok (.iconst (-1), 1) := by decide +kernel
theorem dX12_envyOf_53 : decode cX12_envyOf 53 = .ok (.ixor, 1) := by decide +kernel
theorem dX12_envyOf_54 : decode cX12_envyOf 54 = .ok (.iand, 1) := by decide +kernel
theorem dX12_envyOf_55 : decode cX12_envyOf 55 = .ok (.aload_n 0, 1) := by decide +kernel
theorem dX12_envyOf_56 : decode cX12_envyOf 56 = .ok (.getfield 119, 3) := by decide +kernel
theorem dX12_envyOf_59 : decode cX12_envyOf 59 = .ok (.iload_n 1, 1) := by decide +kernel
theorem dX12_envyOf_60 : decode cX12_envyOf 60 = .ok (.iaload, 1) := by decide +kernel
theorem dX12_envyOf_61 : decode cX12_envyOf 61 = .ok (.invokevirtual 428, 3) := by decide +kernel
theorem dX12_envyOf_64 : decode cX12_envyOf 64 = .ok (.ifCond .ne 5, 3) := by decide +kernel
theorem dX12_envyOf_67 : decode cX12_envyOf 67 = .ok (.iconst 1, 1) := by decide +kernel
theorem dX12_envyOf_68 : decode cX12_envyOf 68 = .ok (.ireturn, 1) := by decide +kernel
theorem dX12_envyOf_69 : decode cX12_envyOf 69 = .ok (.iinc 4 1, 3) := by decide +kernel
theorem dX12_envyOf_72 : decode cX12_envyOf 72 = .ok (.goto (-45), 3) := by decide +kernel
theorem dX12_envyOf_75 : decode cX12_envyOf 75 = .ok (.iconst 2, 1) := by decide +kernel
theorem dX12_envyOf_76 : decode cX12_envyOf 76 = .ok (.ireturn, 1) := by decide +kernel
theorem dX12_envy_0 : decode cX12_envy 0 = .ok (.iload_n 1, 1) := by decide +kernel
theorem dX12_envy_1 : decode cX12_envy 1 = .ok (.invokestatic 418, 3) := by decide +kernel
theorem dX12_envy_4 : decode cX12_envy 4 = .ok (.ifCond .eq 24, 3) := by decide +kernel
theorem dX12_envy_7 : decode cX12_envy 7 = .ok (.aload_n 0, 1) := by decide +kernel
theorem dX12_envy_8 : decode cX12_envy 8 = .ok (.iload_n 2, 1) := by decide +kernel
theorem dX12_envy_9 : decode cX12_envy 9 = .ok (.invokevirtual 151, 3) := by decide +kernel
theorem dX12_envy_12 : decode cX12_envy 12 = .ok (.ifCond .eq 16, 3) := by decide +kernel
theorem dX12_envy_15 : decode cX12_envy 15 = .ok (.aload_n 0, 1) := by decide +kernel
theorem dX12_envy_16 : decode cX12_envy 16 = .ok (.iload_n 3, 1) := by decide +kernel
theorem dX12_envy_17 : decode cX12_envy 17 = .ok (.invokevirtual 151, 3) := by decide +kernel
theorem dX12_envy_20 : decode cX12_envy 20 = .ok (.ifCond .eq 8, 3) := by decide +kernel
theorem dX12_envy_23 : decode cX12_envy 23 = .ok (.iload_n 2, 1) := by decide +kernel
theorem dX12_envy_24 : decode cX12_envy 24 = .ok (.iload_n 3, 1) := by decide +kernel
theorem dX12_envy_25 : decode cX12_envy 25 = .ok (.if_icmp .ne 5, 3) := by decide +kernel
theorem dX12_envy_28 : decode cX12_envy 28 = .ok (.iconst (-1), 1) := by decide +kernel
theorem dX12_envy_29 : decode cX12_envy 29 = .ok (.ireturn, 1) := by decide +kernel
theorem dX12_envy_30 : decode cX12_envy 30 = .ok (.aload_n 0, 1) := by decide +kernel
theorem dX12_envy_31 : decode cX12_envy 31 = .ok (.iload_n 1, 1) := by decide +kernel
theorem dX12_envy_32 : decode cX12_envy 32 = .ok (.invokevirtual 424, 3) := by decide +kernel
theorem dX12_envy_35 : decode cX12_envy 35 = .ok (.aload_n 0, 1) := by decide +kernel
theorem dX12_envy_36 : decode cX12_envy 36 = .ok (.iload_n 2, 1) := by decide +kernel
theorem dX12_envy_37 : decode cX12_envy 37 = .ok (.iload_n 3, 1) := by decide +kernel
theorem dX12_envy_38 : decode cX12_envy 38 = .ok (.invokevirtual 431, 3) := by decide +kernel
theorem dX12_envy_41 : decode cX12_envy 41 = .ok (.ireturn, 1) := by decide +kernel
theorem dX12_envies_0 : decode cX12_envies 0 = .ok (.iload_n 1, 1) := by decide +kernel
theorem dX12_envies_1 : decode cX12_envies 1 = .ok (.invokestatic 418, 3) := by decide +kernel
theorem dX12_envies_4 : decode cX12_envies 4 = .ok (.ifCond .eq 12, 3) := by decide +kernel
theorem dX12_envies_7 : decode cX12_envies 7 = .ok (.iload_n 2, 1) := by decide +kernel
theorem dX12_envies_8 : decode cX12_envies 8 = .ok (.iconst 1, 1) := by decide +kernel
theorem dX12_envies_9 : decode cX12_envies 9 = .ok (.iconst 2, 1) := by decide +kernel
theorem dX12_envies_10 : decode cX12_envies 10 = .ok (.invokestatic 134, 3) := by decide +kernel
theorem dX12_envies_13 : decode cX12_envies 13 = .ok (.ifCond .ne 5, 3) := by decide +kernel
theorem dX12_envies_16 : decode cX12_envies 16 = .ok (.iconst (-1), 1) := by decide +kernel
theorem dX12_envies_17 : decode cX12_envies 17 = .ok (.ireturn, 1) := by decide +kernel
theorem dX12_envies_18 : decode cX12_envies 18 = .ok (.aload_n 0, 1) := by decide +kernel
theorem dX12_envies_19 : decode cX12_envies 19 = .ok (.iload_n 1, 1) := by decide +kernel
theorem dX12_envies_20 : decode cX12_envies 20 = .ok (.invokevirtual 424, 3) := by decide +kernel
theorem dX12_envies_23 : decode cX12_envies 23 = .ok (.iconst 0, 1) := by decide +kernel
theorem dX12_envies_24 : decode cX12_envies 24 = .ok (.istore_n 3, 1) := by decide +kernel
theorem dX12_envies_25 : decode cX12_envies 25 = .ok (.iconst 0, 1) := by decide +kernel
theorem dX12_envies_26 : decode cX12_envies 26 = .ok (.istore 4, 2) := by decide +kernel
theorem dX12_envies_28 : decode cX12_envies 28 = .ok (.iload 4, 2) := by decide +kernel
theorem dX12_envies_30 : decode cX12_envies 30 = .ok (.aload_n 0, 1) := by decide +kernel
theorem dX12_envies_31 : decode cX12_envies 31 = .ok (.getfield 138, 3) := by decide +kernel
theorem dX12_envies_34 : decode cX12_envies 34 = .ok (.if_icmp .ge 57, 3) := by decide +kernel
theorem dX12_envies_37 : decode cX12_envies 37 = .ok (.iconst 0, 1) := by decide +kernel
theorem dX12_envies_38 : decode cX12_envies 38 = .ok (.istore 5, 2) := by decide +kernel
theorem dX12_envies_40 : decode cX12_envies 40 = .ok (.iload 5, 2) := by decide +kernel
theorem dX12_envies_42 : decode cX12_envies 42 = .ok (.aload_n 0, 1) := by decide +kernel
theorem dX12_envies_43 : decode cX12_envies 43 = .ok (.getfield 138, 3) := by decide +kernel
theorem dX12_envies_46 : decode cX12_envies 46 = .ok (.if_icmp .ge 39, 3) := by decide +kernel
theorem dX12_envies_49 : decode cX12_envies 49 = .ok (.iload 4, 2) := by decide +kernel
theorem dX12_envies_51 : decode cX12_envies 51 = .ok (.iload 5, 2) := by decide +kernel
theorem dX12_envies_53 : decode cX12_envies 53 = .ok (.if_icmp .eq 26, 3) := by decide +kernel
theorem dX12_envies_56 : decode cX12_envies 56 = .ok (.iload_n 3, 1) := by decide +kernel
theorem dX12_envies_57 : decode cX12_envies 57 = .ok (.aload_n 0, 1) := by decide +kernel
theorem dX12_envies_58 : decode cX12_envies 58 = .ok (.iload 4, 2) := by decide +kernel
theorem dX12_envies_60 : decode cX12_envies 60 = .ok (.iload 5, 2) := by decide +kernel
theorem dX12_envies_62 : decode cX12_envies 62 = .ok (.invokevirtual 431, 3) := by decide +kernel
theorem dX12_envies_65 : decode cX12_envies 65 = .ok (.iload_n 2, 1) := by decide +kernel
theorem dX12_envies_66 : decode cX12_envies 66 = .ok (.if_icmp .lt 7, 3) := by decide +kernel
theorem dX12_envies_69 : decode cX12_envies 69 = .ok (.iconst 1, 1) := by decide +kernel
theorem dX12_envies_70 : decode cX12_envies 70 = .ok (.goto 4, 3) := by decide +kernel
theorem dX12_envies_73 : decode cX12_envies 73 = .ok (.iconst 0, 1) := by decide +kernel
theorem dX12_envies_74 : decode cX12_envies 74 = .ok (.invokestatic 293, 3) := by decide +kernel
theorem dX12_envies_77 : decode cX12_envies 77 = .ok (.iadd, 1) := by decide +kernel
theorem dX12_envies_78 : decode cX12_envies 78 = .ok (.istore_n 3, 1) := by decide +kernel
theorem dX12_envies_79 : decode cX12_envies 79 = .ok (.iinc 5 1, 3) := by decide +kernel
theorem dX12_envies_82 : decode cX12_envies 82 = .ok (.goto (-42), 3) := by decide +kernel
theorem dX12_envies_85 : decode cX12_envies 85 = .ok (.iinc 4 1, 3) := by decide +kernel
theorem dX12_envies_88 : decode cX12_envies 88 = .ok (.goto (-60), 3) := by decide +kernel
theorem dX12_envies_91 : decode cX12_envies 91 = .ok (.iload_n 3, 1) := by decide +kernel
theorem dX12_envies_92 : decode cX12_envies 92 = .ok (.ireturn, 1) := by decide +kernel
theorem dX12_changed_0 : decode cX12_changed 0 = .ok (.iload_n 2, 1) := by decide +kernel
theorem dX12_changed_1 : decode cX12_changed 1 = .ok (.bipush 10, 2) := by decide +kernel
theorem dX12_changed_3 : decode cX12_changed 3 = .ok (.if_icmp .ge 11, 3) := by decide +kernel
theorem dX12_changed_6 : decode cX12_changed 6 = .ok (.iload_n 1, 1) := by decide +kernel
theorem dX12_changed_7 : decode cX12_changed 7 = .ok (.iload_n 2, 1) := by decide +kernel
theorem dX12_changed_8 : decode cX12_changed 8 = .ok (.invokestatic 289, 3) := by decide +kernel
theorem dX12_changed_11 : decode cX12_changed 11 = .ok (.ifCond .eq 17, 3) := by decide +kernel
theorem dX12_changed_14 : decode cX12_changed 14 = .ok (.iload_n 3, 1) := by decide +kernel
theorem dX12_changed_15 : decode cX12_changed 15 = .ok (.bipush 10, 2) := by decide +kernel
theorem dX12_changed_17 : decode cX12_changed 17 = .ok (.if_icmp .ge 13, 3) := by decide +kernel
theorem dX12_changed_20 : decode cX12_changed 20 = .ok (.iload_n 1, 1) := by decide +kernel
theorem dX12_changed_21 : decode cX12_changed 21 = .ok (.iload_n 3, 1) := by decide +kernel
theorem dX12_changed_22 : decode cX12_changed 22 = .ok (.invokestatic 289, 3) := by decide +kernel
theorem dX12_changed_25 : decode cX12_changed 25 = .ok (.ifCond .eq 5, 3) := by decide +kernel
theorem dX12_changed_28 : decode cX12_changed 28 = .ok (.iconst (-1), 1) := by decide +kernel
theorem dX12_changed_29 : decode cX12_changed 29 = .ok (.ireturn, 1) := by decide +kernel
theorem dX12_changed_30 : decode cX12_changed 30 = .ok (.iload_n 2, 1) := by decide +kernel
theorem dX12_changed_31 : decode cX12_changed 31 = .ok (.bipush 10, 2) := by decide +kernel
theorem dX12_changed_33 : decode cX12_changed 33 = .ok (.if_icmp .ge 13, 3) := by decide +kernel
theorem dX12_changed_36 : decode cX12_changed 36 = .ok (.iload_n 1, 1) := by decide +kernel
theorem dX12_changed_37 : decode cX12_changed 37 = .ok (.iconst 1, 1) := by decide +kernel
theorem dX12_changed_38 : decode cX12_changed 38 = .ok (.iload_n 2, 1) := by decide +kernel
theorem dX12_changed_39 : decode cX12_changed 39 = .ok (.ishl, 1) := by decide +kernel
theorem dX12_changed_40 : decode cX12_changed 40 = .ok (.iconst (-1), 1) := by decide +kernel
theorem dX12_changed_41 : decode cX12_changed 41 = .ok (.ixor, 1) := by decide +kernel
theorem dX12_changed_42 : decode cX12_changed 42 = .ok (.iand, 1) := by decide +kernel
theorem dX12_changed_43 : decode cX12_changed 43 = .ok (.goto 4, 3) := by decide +kernel
theorem dX12_changed_46 : decode cX12_changed 46 = .ok (.iload_n 1, 1) := by decide +kernel
theorem dX12_changed_47 : decode cX12_changed 47 = .ok (.istore 4, 2) := by decide +kernel
theorem dX12_changed_49 : decode cX12_changed 49 = .ok (.iload_n 3, 1) := by decide +kernel
theorem dX12_changed_50 : decode cX12_changed 50 = .ok (.bipush 10, 2) := by decide +kernel
theorem dX12_changed_52 : decode cX12_changed 52 = .ok (.if_icmp .ge 12, 3) := by decide +kernel
theorem dX12_changed_55 : decode cX12_changed 55 = .ok (.iload 4, 2) := by decide +kernel
theorem dX12_changed_57 : decode cX12_changed 57 = .ok (.iconst 1, 1) := by decide +kernel
theorem dX12_changed_58 : decode cX12_changed 58 = .ok (.iload_n 3, 1) := by decide +kernel
theorem dX12_changed_59 : decode cX12_changed 59 = .ok (.ishl, 1) := by decide +kernel
theorem dX12_changed_60 : decode cX12_changed 60 = .ok (.ior, 1) := by decide +kernel
theorem dX12_changed_61 : decode cX12_changed 61 = .ok (.goto 5, 3) := by decide +kernel
theorem dX12_changed_64 : decode cX12_changed 64 = .ok (.iload 4, 2) := by decide +kernel
theorem dX12_changed_66 : decode cX12_changed 66 = .ok (.ireturn, 1) := by decide +kernel
theorem dX12_isWaste_0 : decode cX12_isWaste 0 = .ok (.aload_n 0, 1) := by decide +kernel
theorem dX12_isWaste_1 : decode cX12_isWaste 1 = .ok (.aload_n 0, 1) := by decide +kernel
theorem dX12_isWaste_2 : decode cX12_isWaste 2 = .ok (.getfield 119, 3) := by decide +kernel
theorem dX12_isWaste_5 : decode cX12_isWaste 5 = .ok (.iload_n 1, 1) := by decide +kernel
theorem dX12_isWaste_6 : decode cX12_isWaste 6 = .ok (.iaload, 1) := by decide +kernel
theorem dX12_isWaste_7 : decode cX12_isWaste 7 = .ok (.iload_n 3, 1) := by decide +kernel
theorem dX12_isWaste_8 : decode cX12_isWaste 8 = .ok (.iload 4, 2) := by decide +kernel
theorem dX12_isWaste_10 : decode cX12_isWaste 10 = .ok (.invokevirtual 434, 3) := by decide +kernel
theorem dX12_isWaste_13 : decode cX12_isWaste 13 = .ok (.istore 5, 2) := by decide +kernel
theorem dX12_isWaste_15 : decode cX12_isWaste 15 = .ok (.aload_n 0, 1) := by decide +kernel
theorem dX12_isWaste_16 : decode cX12_isWaste 16 = .ok (.aload_n 0, 1) := by decide +kernel
theorem dX12_isWaste_17 : decode cX12_isWaste 17 = .ok (.getfield 119, 3) := by decide +kernel
theorem dX12_isWaste_20 : decode cX12_isWaste 20 = .ok (.iload_n 2, 1) := by decide +kernel
theorem dX12_isWaste_21 : decode cX12_isWaste 21 = .ok (.iaload, 1) := by decide +kernel
theorem dX12_isWaste_22 : decode cX12_isWaste 22 = .ok (.iload 4, 2) := by decide +kernel
theorem dX12_isWaste_24 : decode cX12_isWaste 24 = .ok (.iload_n 3, 1) := by decide +kernel
theorem dX12_isWaste_25 : decode cX12_isWaste 25 = .ok (.invokevirtual 434, 3) := by decide +kernel
theorem dX12_isWaste_28 : decode cX12_isWaste 28 = .ok (.istore 6, 2) := by decide +kernel
theorem dX12_isWaste_30 : decode cX12_isWaste 30 = .ok (.iload 5, 2) := by decide +kernel
theorem dX12_isWaste_32 : decode cX12_isWaste 32 = .ok (.iconst (-1), 1) := by decide +kernel
theorem dX12_isWaste_33 : decode cX12_isWaste 33 = .ok (.if_icmp .eq 29, 3) := by decide +kernel
theorem dX12_isWaste_36 : decode cX12_isWaste 36 = .ok (.iload 6, 2) := by decide +kernel
theorem dX12_isWaste_38 : decode cX12_isWaste 38 = .ok (.iconst (-1), 1) := by decide +kernel
theorem dX12_isWaste_39 : decode cX12_isWaste 39 = .ok (.if_icmp .eq 23, 3) := by decide +kernel
theorem dX12_isWaste_42 : decode cX12_isWaste 42 = .ok (.aload_n 0, 1) := by decide +kernel
theorem dX12_isWaste_43 : decode cX12_isWaste 43 = .ok (.iload_n 1, 1) := by decide +kernel
theorem dX12_isWaste_44 : decode cX12_isWaste 44 = .ok (.iload 5, 2) := by decide +kernel
theorem dX12_isWaste_46 : decode cX12_isWaste 46 = .ok (.invokevirtual 348, 3) := by decide +kernel
theorem dX12_isWaste_49 : decode cX12_isWaste 49 = .ok (.ifCond .eq 13, 3) := by decide +kernel
theorem dX12_isWaste_52 : decode cX12_isWaste 52 = .ok (.aload_n 0, 1) := by decide +kernel
theorem dX12_isWaste_53 : decode cX12_isWaste 53 = .ok (.iload_n 2, 1) := by decide +kernel
theorem dX12_isWaste_54 : decode cX12_isWaste 54 = .ok (.iload 6, 2) := by decide +kernel
theorem dX12_isWaste_56 : decode cX12_isWaste 56 = .ok (.invokevirtual 348, 3) := by decide +kernel
theorem dX12_isWaste_59 : decode cX12_isWaste 59 = .ok (.ifCond .ne 5, 3) := by decide +kernel
theorem dX12_isWaste_62 : decode cX12_isWaste 62 = .ok (.iconst 0, 1) := by decide +kernel
theorem dX12_isWaste_63 : decode cX12_isWaste 63 = .ok (.ireturn, 1) := by decide +kernel
theorem dX12_isWaste_64 : decode cX12_isWaste 64 = .ok (.aload_n 0, 1) := by decide +kernel
theorem dX12_isWaste_65 : decode cX12_isWaste 65 = .ok (.iload_n 1, 1) := by decide +kernel
theorem dX12_isWaste_66 : decode cX12_isWaste 66 = .ok (.iload 5, 2) := by decide +kernel
theorem dX12_isWaste_68 : decode cX12_isWaste 68 = .ok (.invokevirtual 354, 3) := by decide +kernel
theorem dX12_isWaste_71 : decode cX12_isWaste 71 = .ok (.aload_n 0, 1) := by decide +kernel
theorem dX12_isWaste_72 : decode cX12_isWaste 72 = .ok (.iload_n 1, 1) := by decide +kernel
theorem dX12_isWaste_73 : decode cX12_isWaste 73 = .ok (.aload_n 0, 1) := by decide +kernel
theorem dX12_isWaste_74 : decode cX12_isWaste 74 = .ok (.getfield 119, 3) := by decide +kernel
theorem dX12_isWaste_77 : decode cX12_isWaste 77 = .ok (.iload_n 1, 1) := by decide +kernel
theorem dX12_isWaste_78 : decode cX12_isWaste 78 = .ok (.iaload, 1) := by decide +kernel
theorem dX12_isWaste_79 : decode cX12_isWaste 79 = .ok (.invokevirtual 354, 3) := by decide +kernel
theorem dX12_isWaste_82 : decode cX12_isWaste 82 = .ok (.isub, 1) := by decide +kernel
theorem dX12_isWaste_83 : decode cX12_isWaste 83 = .ok (.istore 7, 2) := by decide +kernel
theorem dX12_isWaste_85 : decode cX12_isWaste 85 = .ok (.aload_n 0, 1) := by decide +kernel
theorem dX12_isWaste_86 : decode cX12_isWaste 86 = .ok (.iload_n 2, 1) := by decide +kernel
theorem dX12_isWaste_87 : decode cX12_isWaste 87 = .ok (.iload 6, 2) := by decide +kernel
theorem dX12_isWaste_89 : decode cX12_isWaste 89 = .ok (.invokevirtual 354, 3) := by decide +kernel
theorem dX12_isWaste_92 : decode cX12_isWaste 92 = .ok (.aload_n 0, 1) := by decide +kernel
theorem dX12_isWaste_93 : decode cX12_isWaste 93 = .ok (.iload_n 2, 1) := by decide +kernel
theorem dX12_isWaste_94 : decode cX12_isWaste 94 = .ok (.aload_n 0, 1) := by decide +kernel
theorem dX12_isWaste_95 : decode cX12_isWaste 95 = .ok (.getfield 119, 3) := by decide +kernel
theorem dX12_isWaste_98 : decode cX12_isWaste 98 = .ok (.iload_n 2, 1) := by decide +kernel
theorem dX12_isWaste_99 : decode cX12_isWaste 99 = .ok (.iaload, 1) := by decide +kernel
theorem dX12_isWaste_100 : decode cX12_isWaste 100 = .ok (.invokevirtual 354, 3) := by decide +kernel
theorem dX12_isWaste_103 : decode cX12_isWaste 103 = .ok (.isub, 1) := by decide +kernel
theorem dX12_isWaste_104 : decode cX12_isWaste 104 = .ok (.istore 8, 2) := by decide +kernel
theorem dX12_isWaste_106 : decode cX12_isWaste 106 = .ok (.iload 7, 2) := by decide +kernel
theorem dX12_isWaste_108 : decode cX12_isWaste 108 = .ok (.ifCond .lt 20, 3) := by decide +kernel
theorem dX12_isWaste_111 : decode cX12_isWaste 111 = .ok (.iload 8, 2) := by decide +kernel
theorem dX12_isWaste_113 : decode cX12_isWaste 113 = .ok (.ifCond .lt 15, 3) := by decide +kernel
theorem dX12_isWaste_116 : decode cX12_isWaste 116 = .ok (.iload 7, 2) := by decide +kernel
theorem dX12_isWaste_118 : decode cX12_isWaste 118 = .ok (.iload 8, 2) := by decide +kernel
theorem dX12_isWaste_120 : decode cX12_isWaste 120 = .ok (.iadd, 1) := by decide +kernel
theorem dX12_isWaste_121 : decode cX12_isWaste 121 = .ok (.ifCond .le 7, 3) := by decide +kernel
theorem dX12_isWaste_124 : decode cX12_isWaste 124 = .ok (.iconst 1, 1) := by decide +kernel
theorem dX12_isWaste_125 : decode cX12_isWaste 125 = .ok (.goto 4, 3) := by decide +kernel
theorem dX12_isWaste_128 : decode cX12_isWaste 128 = .ok (.iconst 0, 1) := by decide +kernel
theorem dX12_isWaste_129 : decode cX12_isWaste 129 = .ok (.ireturn, 1) := by decide +kernel
theorem dX12_waste_0 : decode cX12_waste 0 = .ok (.iload_n 1, 1) := by decide +kernel
theorem dX12_waste_1 : decode cX12_waste 1 = .ok (.invokestatic 418, 3) := by decide +kernel
theorem dX12_waste_4 : decode cX12_waste 4 = .ok (.ifCond .eq 12, 3) := by decide +kernel
theorem dX12_waste_7 : decode cX12_waste 7 = .ok (.iload_n 2, 1) := by decide +kernel
theorem dX12_waste_8 : decode cX12_waste 8 = .ok (.iconst 0, 1) := by decide +kernel
theorem dX12_waste_9 : decode cX12_waste 9 = .ok (.iconst 3, 1) := by decide +kernel
theorem dX12_waste_10 : decode cX12_waste 10 = .ok (.invokestatic 134, 3) := by decide +kernel
theorem dX12_waste_13 : decode cX12_waste 13 = .ok (.ifCond .ne 5, 3) := by decide +kernel
theorem dX12_waste_16 : decode cX12_waste 16 = .ok (.iconst (-1), 1) := by decide +kernel
theorem dX12_waste_17 : decode cX12_waste 17 = .ok (.ireturn, 1) := by decide +kernel
theorem dX12_waste_18 : decode cX12_waste 18 = .ok (.aload_n 0, 1) := by decide +kernel
theorem dX12_waste_19 : decode cX12_waste 19 = .ok (.iload_n 1, 1) := by decide +kernel
theorem dX12_waste_20 : decode cX12_waste 20 = .ok (.invokevirtual 424, 3) := by decide +kernel
theorem dX12_waste_23 : decode cX12_waste 23 = .ok (.iconst 0, 1) := by decide +kernel
theorem dX12_waste_24 : decode cX12_waste 24 = .ok (.istore_n 3, 1) := by decide +kernel
theorem dX12_waste_25 : decode cX12_waste 25 = .ok (.iload_n 3, 1) := by decide +kernel
theorem dX12_waste_26 : decode cX12_waste 26 = .ok (.aload_n 0, 1) := by decide +kernel
theorem dX12_waste_27 : decode cX12_waste 27 = .ok (.getfield 138, 3) := by decide +kernel
theorem dX12_waste_30 : decode cX12_waste 30 = .ok (.if_icmp .ge 102, 3) := by decide +kernel
theorem dX12_waste_33 : decode cX12_waste 33 = .ok (.iload_n 3, 1) := by decide +kernel
theorem dX12_waste_34 : decode cX12_waste 34 = .ok (.iconst 1, 1) := by decide +kernel
theorem dX12_waste_35 : decode cX12_waste 35 = .ok (.iadd, 1) := by decide +kernel
theorem dX12_waste_36 : decode cX12_waste 36 = .ok (.istore 4, 2) := by decide +kernel
theorem dX12_waste_38 : decode cX12_waste 38 = .ok (.iload 4, 2) := by decide +kernel
theorem dX12_waste_40 : decode cX12_waste 40 = .ok (.aload_n 0, 1) := by decide +kernel
theorem dX12_waste_41 : decode cX12_waste 41 = .ok (.getfield 138, 3) := by decide +kernel
theorem dX12_waste_44 : decode cX12_waste 44 = .ok (.if_icmp .ge 82, 3) := by decide +kernel
theorem dX12_waste_47 : decode cX12_waste 47 = .ok (.iconst 0, 1) := by decide +kernel
theorem dX12_waste_48 : decode cX12_waste 48 = .ok (.istore 5, 2) := by decide +kernel
theorem dX12_waste_50 : decode cX12_waste 50 = .ok (.iload 5, 2) := by decide +kernel
theorem dX12_waste_52 : decode cX12_waste 52 = .ok (.bipush 120, 2) := by decide +kernel
theorem dX12_waste_54 : decode cX12_waste 54 = .ok (.if_icmp .ge 66, 3) := by decide +kernel
theorem dX12_waste_57 : decode cX12_waste 57 = .ok (.aload_n 0, 1) := by decide +kernel
theorem dX12_waste_58 : decode cX12_waste 58 = .ok (.iload_n 3, 1) := by decide +kernel
theorem dX12_waste_59 : decode cX12_waste 59 = .ok (.iload 4, 2) := by decide +kernel
theorem dX12_waste_61 : decode cX12_waste 61 = .ok (.iload 5, 2) := by decide +kernel
theorem dX12_waste_63 : decode cX12_waste 63 = .ok (.bipush 11, 2) := by decide +kernel
theorem dX12_waste_65 : decode cX12_waste 65 = .ok (.idiv, 1) := by decide +kernel
theorem dX12_waste_66 : decode cX12_waste 66 = .ok (.iload 5, 2) := by decide +kernel
theorem dX12_waste_68 : decode cX12_waste 68 = .ok (.bipush 11, 2) := by decide +kernel
theorem dX12_waste_70 : decode cX12_waste 70 = .ok (.irem, 1) := by decide +kernel
theorem dX12_waste_71 : decode cX12_waste 71 = .ok (.invokevirtual 437, 3) := by decide +kernel
theorem dX12_waste_74 : decode cX12_waste 74 = .ok (.ifCond .eq 40, 3) := by decide +kernel
theorem dX12_waste_77 : decode cX12_waste 77 = .ok (.iload_n 2, 1) := by decide +kernel
theorem dX12_waste_78 : decode cX12_waste 78 = .ok (.ifCond .ne 7, 3) := by decide +kernel
theorem dX12_waste_81 : decode cX12_waste 81 = .ok (.iload_n 3, 1) := by decide +kernel
theorem dX12_waste_82 : decode cX12_waste 82 = .ok (.goto 31, 3) := by decide +kernel
theorem dX12_waste_85 : decode cX12_waste 85 = .ok (.iload_n 2, 1) := by decide +kernel
theorem dX12_waste_86 : decode cX12_waste 86 = .ok (.iconst 1, 1) := by decide +kernel
theorem dX12_waste_87 : decode cX12_waste 87 = .ok (.if_icmp .ne 8, 3) := by decide +kernel
theorem dX12_waste_90 : decode cX12_waste 90 = .ok (.iload 4, 2) := by decide +kernel
theorem dX12_waste_92 : decode cX12_waste 92 = .ok (.goto 21, 3) := by decide +kernel
theorem dX12_waste_95 : decode cX12_waste 95 = .ok (.iload_n 2, 1) := by decide +kernel
theorem dX12_waste_96 : decode cX12_waste 96 = .ok (.iconst 2, 1) := by decide +kernel
theorem dX12_waste_97 : decode cX12_waste 97 = .ok (.if_icmp .ne 11, 3) := by decide +kernel
theorem dX12_waste_100 : decode cX12_waste 100 = .ok (.iload 5, 2) := by decide +kernel
theorem dX12_waste_102 : decode cX12_waste 102 = .ok (.bipush 11, 2) := by decide +kernel
theorem dX12_waste_104 : decode cX12_waste 104 = .ok (.idiv, 1) := by decide +kernel
theorem dX12_waste_105 : decode cX12_waste 105 = .ok (.goto 8, 3) := by decide +kernel
theorem dX12_waste_108 : decode cX12_waste 108 = .ok (.iload 5, 2) := by decide +kernel
theorem dX12_waste_110 : decode cX12_waste 110 = .ok (.bipush 11, 2) := by decide +kernel
theorem dX12_waste_112 : decode cX12_waste 112 = .ok (.irem, 1) := by decide +kernel
theorem dX12_waste_113 : decode cX12_waste 113 = .ok (.ireturn, 1) := by decide +kernel
theorem dX12_waste_114 : decode cX12_waste 114 = .ok (.iinc 5 1, 3) := by decide +kernel
theorem dX12_waste_117 : decode cX12_waste 117 = .ok (.goto (-67), 3) := by decide +kernel
theorem dX12_waste_120 : decode cX12_waste 120 = .ok (.iinc 4 1, 3) := by decide +kernel
theorem dX12_waste_123 : decode cX12_waste 123 = .ok (.goto (-85), 3) := by decide +kernel
theorem dX12_waste_126 : decode cX12_waste 126 = .ok (.iinc 3 1, 3) := by decide +kernel
theorem dX12_waste_129 : decode cX12_waste 129 = .ok (.goto (-104), 3) := by decide +kernel
theorem dX12_waste_132 : decode cX12_waste 132 = .ok (.iconst (-1), 1) := by decide +kernel
theorem dX12_waste_133 : decode cX12_waste 133 = .ok (.ireturn, 1) := by decide +kernel
theorem dX12_share_0 : decode cX12_share 0 = .ok (.aload_n 0, 1) := by decide +kernel
theorem dX12_share_1 : decode cX12_share 1 = .ok (.iload_n 1, 1) := by decide +kernel
theorem dX12_share_2 : decode cX12_share 2 = .ok (.invokevirtual 151, 3) := by decide +kernel
theorem dX12_share_5 : decode cX12_share 5 = .ok (.ifCond .eq 20, 3) := by decide +kernel
theorem dX12_share_8 : decode cX12_share 8 = .ok (.aload_n 0, 1) := by decide +kernel
theorem dX12_share_9 : decode cX12_share 9 = .ok (.getfield 138, 3) := by decide +kernel
theorem dX12_share_12 : decode cX12_share 12 = .ok (.iconst 3, 1) := by decide +kernel
theorem dX12_share_13 : decode cX12_share 13 = .ok (.if_icmp .gt 12, 3) := by decide +kernel
theorem dX12_share_16 : decode cX12_share 16 = .ok (.aload_n 0, 1) := by decide +kernel
theorem dX12_share_17 : decode cX12_share 17 = .ok (.getfield 131, 3) := by decide +kernel
theorem dX12_share_20 : decode cX12_share 20 = .ok (.bipush 6, 2) := by decide +kernel
theorem dX12_share_22 : decode cX12_share 22 = .ok (.if_icmp .le 7, 3) := by decide +kernel
theorem dX12_share_25 : decode cX12_share 25 = .ok (.ldc_w 331, 3) := by decide +kernel
theorem dX12_share_28 : decode cX12_share 28 = .ok (.ireturn, 1) := by decide +kernel
theorem dX12_share_29 : decode cX12_share 29 = .ok (.aload_n 0, 1) := by decide +kernel
theorem dX12_share_30 : decode cX12_share 30 = .ok (.invokevirtual 357, 3) := by decide +kernel
theorem dX12_share_33 : decode cX12_share 33 = .ok (.iconst 1, 1) := by decide +kernel
theorem dX12_share_34 : decode cX12_share 34 = .ok (.istore_n 2, 1) := by decide +kernel
theorem dX12_share_35 : decode cX12_share 35 = .ok (.iconst 0, 1) := by decide +kernel
theorem dX12_share_36 : decode cX12_share 36 = .ok (.istore_n 3, 1) := by decide +kernel
theorem dX12_share_37 : decode cX12_share 37 = .ok (.iload_n 3, 1) := by decide +kernel
theorem dX12_share_38 : decode cX12_share 38 = .ok (.aload_n 0, 1) := by decide +kernel
theorem dX12_share_39 : decode cX12_share 39 = .ok (.getfield 131, 3) := by decide +kernel
theorem dX12_share_42 : decode cX12_share 42 = .ok (.if_icmp .ge 16, 3) := by decide +kernel
theorem dX12_share_45 : decode cX12_share 45 = .ok (.iload_n 2, 1) := by decide +kernel
theorem dX12_share_46 : decode cX12_share 46 = .ok (.aload_n 0, 1) := by decide +kernel
theorem dX12_share_47 : decode cX12_share 47 = .ok (.getfield 138, 3) := by decide +kernel
theorem dX12_share_50 : decode cX12_share 50 = .ok (.imul, 1) := by decide +kernel
theorem dX12_share_51 : decode cX12_share 51 = .ok (.istore_n 2, 1) := by decide +kernel
theorem dX12_share_52 : decode cX12_share 52 = .ok (.iinc 3 1, 3) := by decide +kernel
theorem dX12_share_55 : decode cX12_share 55 = .ok (.goto (-18), 3) := by decide +kernel
theorem dX12_share_58 : decode cX12_share 58 = .ok (.iconst 0, 1) := by decide +kernel
theorem dX12_share_59 : decode cX12_share 59 = .ok (.istore_n 3, 1) := by decide +kernel
theorem dX12_share_60 : decode cX12_share 60 = .ok (.iload_n 3, 1) := by decide +kernel
theorem dX12_share_61 : decode cX12_share 61 = .ok (.iconst 1, 1) := by decide +kernel
theorem dX12_share_62 : decode cX12_share 62 = .ok (.aload_n 0, 1) := by decide +kernel
theorem dX12_share_63 : decode cX12_share 63 = .ok (.getfield 131, 3) := by decide +kernel
theorem dX12_share_66 : decode cX12_share 66 = .ok (.ishl, 1) := by decide +kernel
theorem dX12_share_67 : decode cX12_share 67 = .ok (.if_icmp .ge 98, 3) := by decide +kernel
theorem dX12_share_70 : decode cX12_share 70 = .ok (.aload_n 0, 1) := by decide +kernel
theorem dX12_share_71 : decode cX12_share 71 = .ok (.getfield 125, 3) := by decide +kernel
theorem dX12_share_74 : decode cX12_share 74 = .ok (.iload_n 3, 1) := by decide +kernel
theorem dX12_share_75 : decode cX12_share 75 = .ok (.ldc_w 441, 3) := by decide +kernel
theorem dX12_share_78 : decode cX12_share 78 = .ok (.iastore, 1) := by decide +kernel
theorem dX12_share_79 : decode cX12_share 79 = .ok (.iconst 0, 1) := by decide +kernel
theorem dX12_share_80 : decode cX12_share 80 = .ok (.istore 4, 2) := by decide +kernel
theorem dX12_share_82 : decode cX12_share 82 = .ok (.iconst 0, 1) := by decide +kernel
theorem dX12_share_83 : decode cX12_share 83 = .ok (.istore 5, 2) := by decide +kernel
theorem dX12_share_85 : decode cX12_share 85 = .ok (.iload 5, 2) := by decide +kernel
theorem dX12_share_87 : decode cX12_share 87 = .ok (.iload_n 3, 1) := by decide +kernel
theorem dX12_share_88 : decode cX12_share 88 = .ok (.if_icmp .gt 71, 3) := by decide +kernel
theorem dX12_share_91 : decode cX12_share 91 = .ok (.iload 5, 2) := by decide +kernel
theorem dX12_share_93 : decode cX12_share 93 = .ok (.iload_n 3, 1) := by decide +kernel
theorem dX12_share_94 : decode cX12_share 94 = .ok (.iconst (-1), 1) := by decide +kernel
theorem dX12_share_95 : decode cX12_share 95 = .ok (.ixor, 1) := by decide +kernel
theorem dX12_share_96 : decode cX12_share 96 = .ok (.iand, 1) := by decide +kernel
theorem dX12_share_97 : decode cX12_share 97 = .ok (.ifCond .ne 56, 3) := by decide +kernel
theorem dX12_share_100 : decode cX12_share 100 = .ok (.aload_n 0, 1) := by decide +kernel
theorem dX12_share_101 : decode cX12_share 101 = .ok (.iload_n 1, 1) := by decide +kernel
theorem dX12_share_102 : decode cX12_share 102 = .ok (.iload 5, 2) := by decide +kernel
theorem dX12_share_104 : decode cX12_share 104 = .ok (.invokevirtual 348, 3) := by decide +kernel
theorem dX12_share_107 : decode cX12_share 107 = .ok (.ifCond .ne 6, 3) := by decide +kernel
theorem dX12_share_110 : decode cX12_share 110 = .ok (.goto 43, 3) := by decide +kernel
theorem dX12_share_113 : decode cX12_share 113 = .ok (.aload_n 0, 1) := by decide +kernel
theorem dX12_share_114 : decode cX12_share 114 = .ok (.getfield 125, 3) := by decide +kernel
theorem dX12_share_117 : decode cX12_share 117 = .ok (.iload_n 3, 1) := by decide +kernel
theorem dX12_share_118 : decode cX12_share 118 = .ok (.iload 4, 2) := by decide +kernel
theorem dX12_share_120 : decode cX12_share 120 = .ok (.ifCond .eq 22, 3) := by decide +kernel
theorem dX12_share_123 : decode cX12_share 123 = .ok (.aload_n 0, 1) := by decide +kernel
theorem dX12_share_124 : decode cX12_share 124 = .ok (.getfield 125, 3) := by decide +kernel
theorem dX12_share_127 : decode cX12_share 127 = .ok (.iload_n 3, 1) := by decide +kernel
theorem dX12_share_128 : decode cX12_share 128 = .ok (.iaload, 1) := by decide +kernel
theorem dX12_share_129 : decode cX12_share 129 = .ok (.aload_n 0, 1) := by decide +kernel
theorem dX12_share_130 : decode cX12_share 130 = .ok (.iload_n 1, 1) := by decide +kernel
theorem dX12_share_131 : decode cX12_share 131 = .ok (.iload 5, 2) := by decide +kernel
theorem dX12_share_133 : decode cX12_share 133 = .ok (.invokevirtual 354, 3) := by decide +kernel
theorem dX12_share_136 : decode cX12_share 136 = .ok (.invokestatic 304, 3) := by decide +kernel
theorem dX12_share_139 : decode cX12_share 139 = .ok (.goto 10, 3) := by decide +kernel
theorem dX12_share_142 : decode cX12_share 142 = .ok (.aload_n 0, 1) := by decide +kernel
theorem dX12_share_143 : decode cX12_share 143 = .ok (.iload_n 1, 1) := by decide +kernel
theorem dX12_share_144 : decode cX12_share 144 = .ok (.iload 5, 2) := by decide +kernel
theorem dX12_share_146 : decode cX12_share 146 = .ok (.invokevirtual 354, 3) := by decide +kernel
theorem dX12_share_149 : decode cX12_share 149 = .ok (.iastore, 1) := by decide +kernel
theorem dX12_share_150 : decode cX12_share 150 = .ok (.iconst 1, 1) := by decide +kernel
theorem dX12_share_151 : decode cX12_share 151 = .ok (.istore 4, 2) := by decide +kernel
theorem dX12_share_153 : decode cX12_share 153 = .ok (.iinc 5 1, 3) := by decide +kernel
theorem dX12_share_156 : decode cX12_share 156 = .ok (.goto (-71), 3) := by decide +kernel
theorem dX12_share_159 : decode cX12_share 159 = .ok (.iinc 3 1, 3) := by decide +kernel
theorem dX12_share_162 : decode cX12_share 162 = .ok (.goto (-102), 3) := by decide +kernel
theorem dX12_share_165 : decode cX12_share 165 = .ok (.ldc_w 331, 3) := by decide +kernel
theorem dX12_share_168 : decode cX12_share 168 = .ok (.istore_n 3, 1) := by decide +kernel
theorem dX12_share_169 : decode cX12_share 169 = .ok (.iconst 0, 1) := by decide +kernel
theorem dX12_share_170 : decode cX12_share 170 = .ok (.istore 4, 2) := by decide +kernel
theorem dX12_share_172 : decode cX12_share 172 = .ok (.iload 4, 2) := by decide +kernel
theorem dX12_share_174 : decode cX12_share 174 = .ok (.iload_n 2, 1) := by decide +kernel
theorem dX12_share_175 : decode cX12_share 175 = .ok (.if_icmp .ge 59, 3) := by decide +kernel
theorem dX12_share_178 : decode cX12_share 178 = .ok (.ldc_w 442, 3) := by decide +kernel
theorem dX12_share_181 : decode cX12_share 181 = .ok (.istore 5, 2) := by decide +kernel
theorem dX12_share_183 : decode cX12_share 183 = .ok (.iconst 0, 1) := by decide +kernel
theorem dX12_share_184 : decode cX12_share 184 = .ok (.istore 6, 2) := by decide +kernel
theorem dX12_share_186 : decode cX12_share 186 = .ok (.iload 6, 2) := by decide +kernel
theorem dX12_share_188 : decode cX12_share 188 = .ok (.aload_n 0, 1) := by decide +kernel
theorem dX12_share_189 : decode cX12_share 189 = .ok (.getfield 138, 3) := by decide +kernel
theorem dX12_share_192 : decode cX12_share 192 = .ok (.if_icmp .ge 29, 3) := by decide +kernel
theorem dX12_share_195 : decode cX12_share 195 = .ok (.iload 5, 2) := by decide +kernel
theorem dX12_share_197 : decode cX12_share 197 = .ok (.aload_n 0, 1) := by decide +kernel
theorem dX12_share_198 : decode cX12_share 198 = .ok (.getfield 125, 3) := by decide +kernel
theorem dX12_share_201 : decode cX12_share 201 = .ok (.aload_n 0, 1) := by decide +kernel
theorem dX12_share_202 : decode cX12_share 202 = .ok (.iload 4, 2) := by decide +kernel
theorem dX12_share_204 : decode cX12_share 204 = .ok (.iload 6, 2) := by decide +kernel
theorem dX12_share_206 : decode cX12_share 206 = .ok (.invokevirtual 443, 3) := by decide +kernel
theorem dX12_share_209 : decode cX12_share 209 = .ok (.iaload, 1) := by decide +kernel
theorem dX12_share_210 : decode cX12_share 210 = .ok (.invokestatic 301, 3) := by decide +kernel
theorem dX12_share_213 : decode cX12_share 213 = .ok (.istore 5, 2) := by decide +kernel
theorem dX12_share_215 : decode cX12_share 215 = .ok (.iinc 6 1, 3) := by decide +kernel
theorem dX12_share_218 : decode cX12_share 218 = .ok (.goto (-32), 3) := by decide +kernel
theorem dX12_share_221 : decode cX12_share 221 = .ok (.iload_n 3, 1) := by decide +kernel
theorem dX12_share_222 : decode cX12_share 222 = .ok (.iload 5, 2) := by decide +kernel
theorem dX12_share_224 : decode cX12_share 224 = .ok (.invokestatic 304, 3) := by decide +kernel
theorem dX12_share_227 : decode cX12_share 227 = .ok (.istore_n 3, 1) := by decide +kernel
theorem dX12_share_228 : decode cX12_share 228 = .ok (.iinc 4 1, 3) := by decide +kernel
theorem dX12_share_231 : decode cX12_share 231 = .ok (.goto (-59), 3) := by decide +kernel
theorem dX12_share_234 : decode cX12_share 234 = .ok (.iload_n 3, 1) := by decide +kernel
theorem dX12_share_235 : decode cX12_share 235 = .ok (.ireturn, 1) := by decide +kernel
theorem dX12_heapOf_0 : decode cX12_heapOf 0 = .ok (.iload_n 1, 1) := by decide +kernel
theorem dX12_heapOf_1 : decode cX12_heapOf 1 = .ok (.istore_n 3, 1) := by decide +kernel
theorem dX12_heapOf_2 : decode cX12_heapOf 2 = .ok (.iconst 0, 1) := by decide +kernel
theorem dX12_heapOf_3 : decode cX12_heapOf 3 = .ok (.istore 4, 2) := by decide +kernel
theorem dX12_heapOf_5 : decode cX12_heapOf 5 = .ok (.iconst 0, 1) := by decide +kernel
theorem dX12_heapOf_6 : decode cX12_heapOf 6 = .ok (.istore 5, 2) := by decide +kernel
theorem dX12_heapOf_8 : decode cX12_heapOf 8 = .ok (.iload 5, 2) := by decide +kernel
theorem dX12_heapOf_10 : decode cX12_heapOf 10 = .ok (.aload_n 0, 1) := by decide +kernel
theorem dX12_heapOf_11 : decode cX12_heapOf 11 = .ok (.getfield 131, 3) := by decide +kernel
theorem dX12_heapOf_14 : decode cX12_heapOf 14 = .ok (.if_icmp .ge 35, 3) := by decide +kernel
theorem dX12_heapOf_17 : decode cX12_heapOf 17 = .ok (.iload_n 3, 1) := by decide +kernel
theorem dX12_heapOf_18 : decode cX12_heapOf 18 = .ok (.aload_n 0, 1) := by decide +kernel
theorem dX12_heapOf_19 : decode cX12_heapOf 19 = .ok (.getfield 138, 3) := by decide +kernel
theorem dX12_heapOf_22 : decode cX12_heapOf 22 = .ok (.irem, 1) := by decide +kernel
theorem dX12_heapOf_23 : decode cX12_heapOf 23 = .ok (.iload_n 2, 1) := by decide +kernel
theorem dX12_heapOf_24 : decode cX12_heapOf 24 = .ok (.if_icmp .ne 12, 3) := by decide +kernel
theorem dX12_heapOf_27 : decode cX12_heapOf 27 = .ok (.iload 4, 2) := by decide +kernel
theorem dX12_heapOf_29 : decode cX12_heapOf 29 = .ok (.iconst 1, 1) := by decide +kernel
theorem dX12_heapOf_30 : decode cX12_heapOf 30 = .ok (.iload 5, 2) := by decide +kernel
theorem dX12_heapOf_32 : decode cX12_heapOf 32 = .ok (.ishl, 1) := by decide +kernel
theorem dX12_heapOf_33 : decode cX12_heapOf 33 = .ok (.ior, 1) := by decide +kernel
theorem dX12_heapOf_34 : decode cX12_heapOf 34 = .ok (.istore 4, 2) := by decide +kernel
theorem dX12_heapOf_36 : decode cX12_heapOf 36 = .ok (.iload_n 3, 1) := by decide +kernel
theorem dX12_heapOf_37 : decode cX12_heapOf 37 = .ok (.aload_n 0, 1) := by decide +kernel
theorem dX12_heapOf_38 : decode cX12_heapOf 38 = .ok (.getfield 138, 3) := by decide +kernel
theorem dX12_heapOf_41 : decode cX12_heapOf 41 = .ok (.idiv, 1) := by decide +kernel
theorem dX12_heapOf_42 : decode cX12_heapOf 42 = .ok (.istore_n 3, 1) := by decide +kernel
theorem dX12_heapOf_43 : decode cX12_heapOf 43 = .ok (.iinc 5 1, 3) := by decide +kernel
theorem dX12_heapOf_46 : decode cX12_heapOf 46 = .ok (.goto (-38), 3) := by decide +kernel
theorem dX12_heapOf_49 : decode cX12_heapOf 49 = .ok (.iload 4, 2) := by decide +kernel
theorem dX12_heapOf_51 : decode cX12_heapOf 51 = .ok (.ireturn, 1) := by decide +kernel
theorem dX12_gain_0 : decode cX12_gain 0 = .ok (.iload_n 1, 1) := by decide +kernel
theorem dX12_gain_1 : decode cX12_gain 1 = .ok (.iconst 1, 1) := by decide +kernel
theorem dX12_gain_2 : decode cX12_gain 2 = .ok (.iconst 4, 1) := by decide +kernel
theorem dX12_gain_3 : decode cX12_gain 3 = .ok (.invokestatic 134, 3) := by decide +kernel
theorem dX12_gain_6 : decode cX12_gain 6 = .ok (.ifCond .eq 18, 3) := by decide +kernel
theorem dX12_gain_9 : decode cX12_gain 9 = .ok (.aload_n 0, 1) := by decide +kernel
theorem dX12_gain_10 : decode cX12_gain 10 = .ok (.iload_n 2, 1) := by decide +kernel
theorem dX12_gain_11 : decode cX12_gain 11 = .ok (.invokevirtual 151, 3) := by decide +kernel
theorem dX12_gain_14 : decode cX12_gain 14 = .ok (.ifCond .eq 10, 3) := by decide +kernel
theorem dX12_gain_17 : decode cX12_gain 17 = .ok (.aload_n 0, 1) := by decide +kernel
theorem dX12_gain_18 : decode cX12_gain 18 = .ok (.getfield 262, 3) := by decide +kernel
theorem dX12_gain_21 : decode cX12_gain 21 = .ok (.ifCond .ne 7, 3) := by decide +kernel
theorem dX12_gain_24 : decode cX12_gain 24 = .ok (.ldc_w 446, 3) := by decide +kernel
theorem dX12_gain_27 : decode cX12_gain 27 = .ok (.ireturn, 1) := by decide +kernel
theorem dX12_gain_28 : decode cX12_gain 28 = .ok (.aload_n 0, 1) := by decide +kernel
theorem dX12_gain_29 : decode cX12_gain 29 = .ok (.iload_n 1, 1) := by decide +kernel
theorem dX12_gain_30 : decode cX12_gain 30 = .ok (.iload_n 2, 1) := by decide +kernel
theorem dX12_gain_31 : decode cX12_gain 31 = .ok (.invokevirtual 421, 3) := by decide +kernel
theorem dX12_gain_34 : decode cX12_gain 34 = .ok (.istore_n 3, 1) := by decide +kernel
theorem dX12_gain_35 : decode cX12_gain 35 = .ok (.aload_n 0, 1) := by decide +kernel
theorem dX12_gain_36 : decode cX12_gain 36 = .ok (.bipush 8, 2) := by decide +kernel
theorem dX12_gain_38 : decode cX12_gain 38 = .ok (.bipush 8, 2) := by decide +kernel
theorem dX12_gain_40 : decode cX12_gain 40 = .ok (.iload_n 2, 1) := by decide +kernel
theorem dX12_gain_41 : decode cX12_gain 41 = .ok (.invokevirtual 335, 3) := by decide +kernel
theorem dX12_gain_44 : decode cX12_gain 44 = .ok (.aload_n 0, 1) := by decide +kernel
theorem dX12_gain_45 : decode cX12_gain 45 = .ok (.iload_n 2, 1) := by decide +kernel
theorem dX12_gain_46 : decode cX12_gain 46 = .ok (.putfield 92, 3) := by decide +kernel
theorem dX12_gain_49 : decode cX12_gain 49 = .ok (.aload_n 0, 1) := by decide +kernel
theorem dX12_gain_50 : decode cX12_gain 50 = .ok (.iload_n 1, 1) := by decide +kernel
theorem dX12_gain_51 : decode cX12_gain 51 = .ok (.iload_n 2, 1) := by decide +kernel
theorem dX12_gain_52 : decode cX12_gain 52 = .ok (.invokevirtual 421, 3) := by decide +kernel
theorem dX12_gain_55 : decode cX12_gain 55 = .ok (.istore 4, 2) := by decide +kernel
theorem dX12_gain_57 : decode cX12_gain 57 = .ok (.aload_n 0, 1) := by decide +kernel
theorem dX12_gain_58 : decode cX12_gain 58 = .ok (.iconst (-1), 1) := by decide +kernel
theorem dX12_gain_59 : decode cX12_gain 59 = .ok (.putfield 92, 3) := by decide +kernel
theorem dX12_gain_62 : decode cX12_gain 62 = .ok (.aload_n 0, 1) := by decide +kernel
theorem dX12_gain_63 : decode cX12_gain 63 = .ok (.iload_n 2, 1) := by decide +kernel
theorem dX12_gain_64 : decode cX12_gain 64 = .ok (.iload 4, 2) := by decide +kernel
theorem dX12_gain_66 : decode cX12_gain 66 = .ok (.invokevirtual 354, 3) := by decide +kernel
theorem dX12_gain_69 : decode cX12_gain 69 = .ok (.aload_n 0, 1) := by decide +kernel
theorem dX12_gain_70 : decode cX12_gain 70 = .ok (.iload_n 2, 1) := by decide +kernel
theorem dX12_gain_71 : decode cX12_gain 71 = .ok (.iload_n 3, 1) := by decide +kernel
theorem dX12_gain_72 : decode cX12_gain 72 = .ok (.invokevirtual 354, 3) := by decide +kernel
theorem dX12_gain_75 : decode cX12_gain 75 = .ok (.isub, 1) := by decide +kernel
theorem dX12_gain_76 : decode cX12_gain 76 = .ok (.ireturn, 1) := by decide +kernel
theorem dX12_rank_0 : decode cX12_rank 0 = .ok (.iload_n 1, 1) := by decide +kernel
theorem dX12_rank_1 : decode cX12_rank 1 = .ok (.invokestatic 418, 3) := by decide +kernel
theorem dX12_rank_4 : decode cX12_rank 4 = .ok (.ifCond .eq 11, 3) := by decide +kernel
theorem dX12_rank_7 : decode cX12_rank 7 = .ok (.aload_n 0, 1) := by decide +kernel
theorem dX12_rank_8 : decode cX12_rank 8 = .ok (.iload_n 2, 1) := by decide +kernel
theorem dX12_rank_9 : decode cX12_rank 9 = .ok (.invokevirtual 151, 3) := by decide +kernel
theorem dX12_rank_12 : decode cX12_rank 12 = .ok (.ifCond .ne 5, 3) := by decide +kernel
theorem dX12_rank_15 : decode cX12_rank 15 = .ok (.iconst (-1), 1) := by decide +kernel
theorem dX12_rank_16 : decode cX12_rank 16 = .ok (.ireturn, 1) := by decide +kernel
theorem dX12_rank_17 : decode cX12_rank 17 = .ok (.aload_n 0, 1) := by decide +kernel
theorem dX12_rank_18 : decode cX12_rank 18 = .ok (.iload_n 1, 1) := by decide +kernel
theorem dX12_rank_19 : decode cX12_rank 19 = .ok (.iload_n 2, 1) := by decide +kernel
theorem dX12_rank_20 : decode cX12_rank 20 = .ok (.invokevirtual 421, 3) := by decide +kernel
theorem dX12_rank_23 : decode cX12_rank 23 = .ok (.istore_n 3, 1) := by decide +kernel
theorem dX12_rank_24 : decode cX12_rank 24 = .ok (.iconst 0, 1) := by decide +kernel
theorem dX12_rank_25 : decode cX12_rank 25 = .ok (.istore 4, 2) := by decide +kernel
theorem dX12_rank_27 : decode cX12_rank 27 = .ok (.iconst 0, 1) := by decide +kernel
theorem dX12_rank_28 : decode cX12_rank 28 = .ok (.istore 5, 2) := by decide +kernel
theorem dX12_rank_30 : decode cX12_rank 30 = .ok (.iload 5, 2) := by decide +kernel
theorem dX12_rank_32 : decode cX12_rank 32 = .ok (.iconst 1, 1) := by decide +kernel
theorem dX12_rank_33 : decode cX12_rank 33 = .ok (.aload_n 0, 1) := by decide +kernel
theorem dX12_rank_34 : decode cX12_rank 34 = .ok (.getfield 131, 3) := by decide +kernel
theorem dX12_rank_37 : decode cX12_rank 37 = .ok (.ishl, 1) := by decide +kernel
theorem dX12_rank_38 : decode cX12_rank 38 = .ok (.if_icmp .ge 25, 3) := by decide +kernel
theorem dX12_rank_41 : decode cX12_rank 41 = .ok (.iload 4, 2) := by decide +kernel
theorem dX12_rank_43 : decode cX12_rank 43 = .ok (.aload_n 0, 1) := by decide +kernel
theorem dX12_rank_44 : decode cX12_rank 44 = .ok (.iload_n 2, 1) := by decide +kernel
theorem dX12_rank_45 : decode cX12_rank 45 = .ok (.iload 5, 2) := by decide +kernel
theorem dX12_rank_47 : decode cX12_rank 47 = .ok (.iload_n 3, 1) := by decide +kernel
theorem dX12_rank_48 : decode cX12_rank 48 = .ok (.invokevirtual 428, 3) := by decide +kernel
theorem dX12_rank_51 : decode cX12_rank 51 = .ok (.invokestatic 293, 3) := by decide +kernel
theorem dX12_rank_54 : decode cX12_rank 54 = .ok (.iadd, 1) := by decide +kernel
theorem dX12_rank_55 : decode cX12_rank 55 = .ok (.istore 4, 2) := by decide +kernel
theorem dX12_rank_57 : decode cX12_rank 57 = .ok (.iinc 5 1, 3) := by decide +kernel
theorem dX12_rank_60 : decode cX12_rank 60 = .ok (.goto (-30), 3) := by decide +kernel
theorem dX12_rank_63 : decode cX12_rank 63 = .ok (.iload 4, 2) := by decide +kernel
theorem dX12_rank_65 : decode cX12_rank 65 = .ok (.ireturn, 1) := by decide +kernel
theorem dX12_ties_0 : decode cX12_ties 0 = .ok (.aload_n 0, 1) := by decide +kernel
theorem dX12_ties_1 : decode cX12_ties 1 = .ok (.iload_n 1, 1) := by decide +kernel
theorem dX12_ties_2 : decode cX12_ties 2 = .ok (.invokevirtual 151, 3) := by decide +kernel
theorem dX12_ties_5 : decode cX12_ties 5 = .ok (.ifCond .ne 5, 3) := by decide +kernel
theorem dX12_ties_8 : decode cX12_ties 8 = .ok (.iconst (-1), 1) := by decide +kernel
theorem dX12_ties_9 : decode cX12_ties 9 = .ok (.ireturn, 1) := by decide +kernel
theorem dX12_ties_10 : decode cX12_ties 10 = .ok (.aload_n 0, 1) := by decide +kernel
theorem dX12_ties_11 : decode cX12_ties 11 = .ok (.invokevirtual 360, 3) := by decide +kernel
theorem dX12_ties_14 : decode cX12_ties 14 = .ok (.aload_n 0, 1) := by decide +kernel
theorem dX12_ties_15 : decode cX12_ties 15 = .ok (.iload_n 1, 1) := by decide +kernel
theorem dX12_ties_16 : decode cX12_ties 16 = .ok (.invokevirtual 363, 3) := by decide +kernel
theorem dX12_ties_19 : decode cX12_ties 19 = .ok (.istore_n 2, 1) := by decide +kernel
theorem dX12_ties_20 : decode cX12_ties 20 = .ok (.iconst 0, 1) := by decide +kernel
theorem dX12_ties_21 : decode cX12_ties 21 = .ok (.istore_n 3, 1) := by decide +kernel
theorem dX12_ties_22 : decode cX12_ties 22 = .ok (.iconst 0, 1) := by decide +kernel
theorem dX12_ties_23 : decode cX12_ties 23 = .ok (.istore 4, 2) := by decide +kernel
theorem dX12_ties_25 : decode cX12_ties 25 = .ok (.iload 4, 2) := by decide +kernel
theorem dX12_ties_27 : decode cX12_ties 27 = .ok (.iconst 1, 1) := by decide +kernel
theorem dX12_ties_28 : decode cX12_ties 28 = .ok (.aload_n 0, 1) := by decide +kernel
theorem dX12_ties_29 : decode cX12_ties 29 = .ok (.getfield 131, 3) := by decide +kernel
theorem dX12_ties_32 : decode cX12_ties 32 = .ok (.ishl, 1) := by decide +kernel
theorem dX12_ties_33 : decode cX12_ties 33 = .ok (.if_icmp .ge 65, 3) := by decide +kernel
theorem dX12_ties_36 : decode cX12_ties 36 = .ok (.iload_n 3, 1) := by decide +kernel
theorem dX12_ties_37 : decode cX12_ties 37 = .ok (.iload 4, 2) := by decide +kernel
theorem dX12_ties_39 : decode cX12_ties 39 = .ok (.iload_n 2, 1) := by decide +kernel
theorem dX12_ties_40 : decode cX12_ties 40 = .ok (.if_icmp .eq 46, 3) := by decide +kernel
theorem dX12_ties_43 : decode cX12_ties 43 = .ok (.aload_n 0, 1) := by decide +kernel
theorem dX12_ties_44 : decode cX12_ties 44 = .ok (.iload_n 1, 1) := by decide +kernel
theorem dX12_ties_45 : decode cX12_ties 45 = .ok (.iload 4, 2) := by decide +kernel
theorem dX12_ties_47 : decode cX12_ties 47 = .ok (.invokevirtual 348, 3) := by decide +kernel
theorem dX12_ties_50 : decode cX12_ties 50 = .ok (.ifCond .eq 36, 3) := by decide +kernel
theorem dX12_ties_53 : decode cX12_ties 53 = .ok (.aload_n 0, 1) := by decide +kernel
theorem dX12_ties_54 : decode cX12_ties 54 = .ok (.iload 4, 2) := by decide +kernel
theorem dX12_ties_56 : decode cX12_ties 56 = .ok (.invokevirtual 351, 3) := by decide +kernel
theorem dX12_ties_59 : decode cX12_ties 59 = .ok (.aload_n 0, 1) := by decide +kernel
theorem dX12_ties_60 : decode cX12_ties 60 = .ok (.getfield 35, 3) := by decide +kernel
theorem dX12_ties_63 : decode cX12_ties 63 = .ok (.iload_n 1, 1) := by decide +kernel
theorem dX12_ties_64 : decode cX12_ties 64 = .ok (.iaload, 1) := by decide +kernel
theorem dX12_ties_65 : decode cX12_ties 65 = .ok (.if_icmp .gt 21, 3) := by decide +kernel
theorem dX12_ties_68 : decode cX12_ties 68 = .ok (.aload_n 0, 1) := by decide +kernel
theorem dX12_ties_69 : decode cX12_ties 69 = .ok (.iload_n 1, 1) := by decide +kernel
theorem dX12_ties_70 : decode cX12_ties 70 = .ok (.iload 4, 2) := by decide +kernel
theorem dX12_ties_72 : decode cX12_ties 72 = .ok (.invokevirtual 354, 3) := by decide +kernel
theorem dX12_ties_75 : decode cX12_ties 75 = .ok (.aload_n 0, 1) := by decide +kernel
theorem dX12_ties_76 : decode cX12_ties 76 = .ok (.getfield 345, 3) := by decide +kernel
theorem dX12_ties_79 : decode cX12_ties 79 = .ok (.if_icmp .ne 7, 3) := by decide +kernel
theorem dX12_ties_82 : decode cX12_ties 82 = .ok (.iconst 1, 1) := by decide +kernel
theorem dX12_ties_83 : decode cX12_ties 83 = .ok (.goto 4, 3) := by decide +kernel
theorem dX12_ties_86 : decode cX12_ties 86 = .ok (.iconst 0, 1) := by decide +kernel
theorem dX12_ties_87 : decode cX12_ties 87 = .ok (.invokestatic 293, 3) := by decide +kernel
theorem dX12_ties_90 : decode cX12_ties 90 = .ok (.iadd, 1) := by decide +kernel
theorem dX12_ties_91 : decode cX12_ties 91 = .ok (.istore_n 3, 1) := by decide +kernel
theorem dX12_ties_92 : decode cX12_ties 92 = .ok (.iinc 4 1, 3) := by decide +kernel
theorem dX12_ties_95 : decode cX12_ties 95 = .ok (.goto (-70), 3) := by decide +kernel
theorem dX12_ties_98 : decode cX12_ties 98 = .ok (.iload_n 2, 1) := by decide +kernel
theorem dX12_ties_99 : decode cX12_ties 99 = .ok (.iconst (-1), 1) := by decide +kernel
theorem dX12_ties_100 : decode cX12_ties 100 = .ok (.if_icmp .ne 7, 3) := by decide +kernel
theorem dX12_ties_103 : decode cX12_ties 103 = .ok (.iconst (-1), 1) := by decide +kernel
theorem dX12_ties_104 : decode cX12_ties 104 = .ok (.goto 4, 3) := by decide +kernel
theorem dX12_ties_107 : decode cX12_ties 107 = .ok (.iload_n 3, 1) := by decide +kernel
theorem dX12_ties_108 : decode cX12_ties 108 = .ok (.ireturn, 1) := by decide +kernel
theorem dX12_edge_0 : decode cX12_edge 0 = .ok (.aload_n 0, 1) := by decide +kernel
theorem dX12_edge_1 : decode cX12_edge 1 = .ok (.iload_n 1, 1) := by decide +kernel
theorem dX12_edge_2 : decode cX12_edge 2 = .ok (.invokevirtual 151, 3) := by decide +kernel
theorem dX12_edge_5 : decode cX12_edge 5 = .ok (.ifCond .eq 11, 3) := by decide +kernel
theorem dX12_edge_8 : decode cX12_edge 8 = .ok (.aload_n 0, 1) := by decide +kernel
theorem dX12_edge_9 : decode cX12_edge 9 = .ok (.iload_n 2, 1) := by decide +kernel
theorem dX12_edge_10 : decode cX12_edge 10 = .ok (.invokevirtual 141, 3) := by decide +kernel
theorem dX12_edge_13 : decode cX12_edge 13 = .ok (.ifCond .ne 5, 3) := by decide +kernel
theorem dX12_edge_16 : decode cX12_edge 16 = .ok (.iconst (-1), 1) := by decide +kernel
theorem dX12_edge_17 : decode cX12_edge 17 = .ok (.ireturn, 1) := by decide +kernel
theorem dX12_edge_18 : decode cX12_edge 18 = .ok (.aload_n 0, 1) := by decide +kernel
theorem dX12_edge_19 : decode cX12_edge 19 = .ok (.invokevirtual 360, 3) := by decide +kernel
theorem dX12_edge_22 : decode cX12_edge 22 = .ok (.iconst 0, 1) := by decide +kernel
theorem dX12_edge_23 : decode cX12_edge 23 = .ok (.istore_n 3, 1) := by decide +kernel
theorem dX12_edge_24 : decode cX12_edge 24 = .ok (.iload_n 3, 1) := by decide +kernel
theorem dX12_edge_25 : decode cX12_edge 25 = .ok (.sipush 250, 3) := by decide +kernel
theorem dX12_edge_28 : decode cX12_edge 28 = .ok (.if_icmp .gt 40, 3) := by decide +kernel
theorem dX12_edge_31 : decode cX12_edge 31 = .ok (.aload_n 0, 1) := by decide +kernel
theorem dX12_edge_32 : decode cX12_edge 32 = .ok (.getfield 95, 3) := by decide +kernel
theorem dX12_edge_35 : decode cX12_edge 35 = .ok (.iload_n 2, 1) := by decide +kernel
theorem dX12_edge_36 : decode cX12_edge 36 = .ok (.iload_n 3, 1) := by decide +kernel
theorem dX12_edge_37 : decode cX12_edge 37 = .ok (.iastore, 1) := by decide +kernel
theorem dX12_edge_38 : decode cX12_edge 38 = .ok (.aload_n 0, 1) := by decide +kernel
theorem dX12_edge_39 : decode cX12_edge 39 = .ok (.iload_n 1, 1) := by decide +kernel
theorem dX12_edge_40 : decode cX12_edge 40 = .ok (.invokevirtual 363, 3) := by decide +kernel
theorem dX12_edge_43 : decode cX12_edge 43 = .ok (.istore 4, 2) := by decide +kernel
theorem dX12_edge_45 : decode cX12_edge 45 = .ok (.iload 4, 2) := by decide +kernel
theorem dX12_edge_47 : decode cX12_edge 47 = .ok (.iconst (-1), 1) := by decide +kernel
theorem dX12_edge_48 : decode cX12_edge 48 = .ok (.if_icmp .eq 12, 3) := by decide +kernel
theorem dX12_edge_51 : decode cX12_edge 51 = .ok (.iload 4, 2) := by decide +kernel
theorem dX12_edge_53 : decode cX12_edge 53 = .ok (.iload_n 2, 1) := by decide +kernel
theorem dX12_edge_54 : decode cX12_edge 54 = .ok (.invokestatic 289, 3) := by decide +kernel
theorem dX12_edge_57 : decode cX12_edge 57 = .ok (.ifCond .ne 5, 3) := by decide +kernel
theorem dX12_edge_60 : decode cX12_edge 60 = .ok (.iload_n 3, 1) := by decide +kernel
theorem dX12_edge_61 : decode cX12_edge 61 = .ok (.ireturn, 1) := by decide +kernel
theorem dX12_edge_62 : decode cX12_edge 62 = .ok (.iinc 3 1, 3) := by decide +kernel
theorem dX12_edge_65 : decode cX12_edge 65 = .ok (.goto (-41), 3) := by decide +kernel
theorem dX12_edge_68 : decode cX12_edge 68 = .ok (.iconst (-1), 1) := by decide +kernel
theorem dX12_edge_69 : decode cX12_edge 69 = .ok (.ireturn, 1) := by decide +kernel
theorem dX12_isWell_0 : decode cX12_isWell 0 = .ok (.iconst 0, 1) := by decide +kernel
theorem dX12_isWell_1 : decode cX12_isWell 1 = .ok (.istore_n 3, 1) := by decide +kernel
theorem dX12_isWell_2 : decode cX12_isWell 2 = .ok (.iload_n 3, 1) := by decide +kernel
theorem dX12_isWell_3 : decode cX12_isWell 3 = .ok (.aload_n 0, 1) := by decide +kernel
theorem dX12_isWell_4 : decode cX12_isWell 4 = .ok (.getfield 138, 3) := by decide +kernel
theorem dX12_isWell_7 : decode cX12_isWell 7 = .ok (.if_icmp .ge 33, 3) := by decide +kernel
theorem dX12_isWell_10 : decode cX12_isWell 10 = .ok (.aload_n 0, 1) := by decide +kernel
theorem dX12_isWell_11 : decode cX12_isWell 11 = .ok (.getfield 119, 3) := by decide +kernel
theorem dX12_isWell_14 : decode cX12_isWell 14 = .ok (.iload_n 3, 1) := by decide +kernel
theorem dX12_isWell_15 : decode cX12_isWell 15 = .ok (.iload_n 1, 1) := by decide +kernel
theorem dX12_isWell_16 : decode cX12_isWell 16 = .ok (.iload_n 3, 1) := by decide +kernel
theorem dX12_isWell_17 : decode cX12_isWell 17 = .ok (.invokestatic 289, 3) := by decide +kernel
theorem dX12_isWell_20 : decode cX12_isWell 20 = .ok (.ifCond .eq 7, 3) := by decide +kernel
theorem dX12_isWell_23 : decode cX12_isWell 23 = .ok (.iconst 0, 1) := by decide +kernel
theorem dX12_isWell_24 : decode cX12_isWell 24 = .ok (.goto 9, 3) := by decide +kernel
theorem dX12_isWell_27 : decode cX12_isWell 27 = .ok (.aload_n 0, 1) := by decide +kernel
theorem dX12_isWell_28 : decode cX12_isWell 28 = .ok (.getfield 128, 3) := by decide +kernel
theorem dX12_isWell_31 : decode cX12_isWell 31 = .ok (.iload_n 3, 1) := by decide +kernel
theorem dX12_isWell_32 : decode cX12_isWell 32 = .ok (.iaload, 1) := by decide +kernel
theorem dX12_isWell_33 : decode cX12_isWell 33 = .ok (.iastore, 1) := by decide +kernel
theorem dX12_isWell_34 : decode cX12_isWell 34 = .ok (.iinc 3 1, 3) := by decide +kernel
theorem dX12_isWell_37 : decode cX12_isWell 37 = .ok (.goto (-35), 3) := by decide +kernel
theorem dX12_isWell_40 : decode cX12_isWell 40 = .ok (.iconst 0, 1) := by decide +kernel
theorem dX12_isWell_41 : decode cX12_isWell 41 = .ok (.istore_n 3, 1) := by decide +kernel
theorem dX12_isWell_42 : decode cX12_isWell 42 = .ok (.iload_n 3, 1) := by decide +kernel
theorem dX12_isWell_43 : decode cX12_isWell 43 = .ok (.aload_n 0, 1) := by decide +kernel
theorem dX12_isWell_44 : decode cX12_isWell 44 = .ok (.getfield 138, 3) := by decide +kernel
theorem dX12_isWell_47 : decode cX12_isWell 47 = .ok (.if_icmp .ge 33, 3) := by decide +kernel
theorem dX12_isWell_50 : decode cX12_isWell 50 = .ok (.iload_n 1, 1) := by decide +kernel
theorem dX12_isWell_51 : decode cX12_isWell 51 = .ok (.iload_n 3, 1) := by decide +kernel
theorem dX12_isWell_52 : decode cX12_isWell 52 = .ok (.invokestatic 289, 3) := by decide +kernel
theorem dX12_isWell_55 : decode cX12_isWell 55 = .ok (.ifCond .eq 19, 3) := by decide +kernel
theorem dX12_isWell_58 : decode cX12_isWell 58 = .ok (.aload_n 0, 1) := by decide +kernel
theorem dX12_isWell_59 : decode cX12_isWell 59 = .ok (.getfield 119, 3) := by decide +kernel
theorem dX12_isWell_62 : decode cX12_isWell 62 = .ok (.iload_n 3, 1) := by decide +kernel
theorem dX12_isWell_63 : decode cX12_isWell 63 = .ok (.iconst 0, 1) := by decide +kernel
theorem dX12_isWell_64 : decode cX12_isWell 64 = .ok (.aload_n 0, 1) := by decide +kernel
theorem dX12_isWell_65 : decode cX12_isWell 65 = .ok (.iload_n 3, 1) := by decide +kernel
theorem dX12_isWell_66 : decode cX12_isWell 66 = .ok (.iload_n 2, 1) := by decide +kernel
theorem dX12_isWell_67 : decode cX12_isWell 67 = .ok (.invokevirtual 403, 3) := by decide +kernel
theorem dX12_isWell_70 : decode cX12_isWell 70 = .ok (.invokestatic 304, 3) := by decide +kernel
theorem dX12_isWell_73 : decode cX12_isWell 73 = .ok (.iastore, 1) := by decide +kernel
theorem dX12_isWell_74 : decode cX12_isWell 74 = .ok (.iinc 3 1, 3) := by decide +kernel
theorem dX12_isWell_77 : decode cX12_isWell 77 = .ok (.goto (-35), 3) := by decide +kernel
theorem dX12_isWell_80 : decode cX12_isWell 80 = .ok (.iconst 1, 1) := by decide +kernel
theorem dX12_isWell_81 : decode cX12_isWell 81 = .ok (.istore_n 3, 1) := by decide +kernel
theorem dX12_isWell_82 : decode cX12_isWell 82 = .ok (.iconst 0, 1) := by decide +kernel
theorem dX12_isWell_83 : decode cX12_isWell 83 = .ok (.istore 4, 2) := by decide +kernel
theorem dX12_isWell_85 : decode cX12_isWell 85 = .ok (.iload 4, 2) := by decide +kernel
theorem dX12_isWell_87 : decode cX12_isWell 87 = .ok (.aload_n 0, 1) := by decide +kernel
theorem dX12_isWell_88 : decode cX12_isWell 88 = .ok (.getfield 138, 3) := by decide +kernel
theorem dX12_isWell_91 : decode cX12_isWell 91 = .ok (.if_icmp .ge 35, 3) := by decide +kernel
theorem dX12_isWell_94 : decode cX12_isWell 94 = .ok (.iload_n 3, 1) := by decide +kernel
theorem dX12_isWell_95 : decode cX12_isWell 95 = .ok (.ifCond .eq 23, 3) := by decide +kernel
theorem dX12_isWell_98 : decode cX12_isWell 98 = .ok (.aload_n 0, 1) := by decide +kernel
theorem dX12_isWell_99 : decode cX12_isWell 99 = .ok (.iload 4, 2) := by decide +kernel
theorem dX12_isWell_101 : decode cX12_isWell 101 = .ok (.aload_n 0, 1) := by decide +kernel
theorem dX12_isWell_102 : decode cX12_isWell 102 = .ok (.getfield 119, 3) := by decide +kernel
theorem dX12_isWell_105 : decode cX12_isWell 105 = .ok (.iload 4, 2) := by decide +kernel
theorem dX12_isWell_107 : decode cX12_isWell 107 = .ok (.iaload, 1) := by decide +kernel
theorem dX12_isWell_108 : decode cX12_isWell 108 = .ok (.invokevirtual 348, 3) := by decide +kernel
theorem dX12_isWell_111 : decode cX12_isWell 111 = .ok (.ifCond .eq 7, 3) := by decide +kernel
theorem dX12_isWell_114 : decode cX12_isWell 114 = .ok (.iconst 1, 1) := by decide +kernel
theorem dX12_isWell_115 : decode cX12_isWell 115 = .ok (.goto 4, 3) := by decide +kernel
theorem dX12_isWell_118 : decode cX12_isWell 118 = .ok (.iconst 0, 1) := by decide +kernel
theorem dX12_isWell_119 : decode cX12_isWell 119 = .ok (.istore_n 3, 1) := by decide +kernel
theorem dX12_isWell_120 : decode cX12_isWell 120 = .ok (.iinc 4 1, 3) := by decide +kernel
theorem dX12_isWell_123 : decode cX12_isWell 123 = .ok (.goto (-38), 3) := by decide +kernel
theorem dX12_isWell_126 : decode cX12_isWell 126 = .ok (.iconst 0, 1) := by decide +kernel
theorem dX12_isWell_127 : decode cX12_isWell 127 = .ok (.istore 4, 2) := by decide +kernel
theorem dX12_isWell_129 : decode cX12_isWell 129 = .ok (.iload 4, 2) := by decide +kernel
theorem dX12_isWell_131 : decode cX12_isWell 131 = .ok (.aload_n 0, 1) := by decide +kernel
theorem dX12_isWell_132 : decode cX12_isWell 132 = .ok (.getfield 131, 3) := by decide +kernel
theorem dX12_isWell_135 : decode cX12_isWell 135 = .ok (.if_icmp .ge 28, 3) := by decide +kernel
theorem dX12_isWell_138 : decode cX12_isWell 138 = .ok (.iload_n 3, 1) := by decide +kernel
theorem dX12_isWell_139 : decode cX12_isWell 139 = .ok (.ifCond .eq 16, 3) := by decide +kernel
theorem dX12_isWell_142 : decode cX12_isWell 142 = .ok (.aload_n 0, 1) := by decide +kernel
theorem dX12_isWell_143 : decode cX12_isWell 143 = .ok (.iload 4, 2) := by decide +kernel
theorem dX12_isWell_145 : decode cX12_isWell 145 = .ok (.invokevirtual 390, 3) := by decide +kernel
theorem dX12_isWell_148 : decode cX12_isWell 148 = .ok (.ifCond .lt 7, 3) := by decide +kernel
theorem dX12_isWell_151 : decode cX12_isWell 151 = .ok (.iconst 1, 1) := by decide +kernel
theorem dX12_isWell_152 : decode cX12_isWell 152 = .ok (.goto 4, 3) := by decide +kernel
theorem dX12_isWell_155 : decode cX12_isWell 155 = .ok (.iconst 0, 1) := by decide +kernel
theorem dX12_isWell_156 : decode cX12_isWell 156 = .ok (.istore_n 3, 1) := by decide +kernel
theorem dX12_isWell_157 : decode cX12_isWell 157 = .ok (.iinc 4 1, 3) := by decide +kernel
theorem dX12_isWell_160 : decode cX12_isWell 160 = .ok (.goto (-31), 3) := by decide +kernel
theorem dX12_isWell_163 : decode cX12_isWell 163 = .ok (.iload_n 3, 1) := by decide +kernel
theorem dX12_isWell_164 : decode cX12_isWell 164 = .ok (.ireturn, 1) := by decide +kernel
theorem dX12_few_0 : decode cX12_few 0 = .ok (.iload_n 1, 1) := by decide +kernel
theorem dX12_few_1 : decode cX12_few 1 = .ok (.invokestatic 418, 3) := by decide +kernel
theorem dX12_few_4 : decode cX12_few 4 = .ok (.ifCond .eq 31, 3) := by decide +kernel
theorem dX12_few_7 : decode cX12_few 7 = .ok (.aload_n 0, 1) := by decide +kernel
theorem dX12_few_8 : decode cX12_few 8 = .ok (.iload_n 2, 1) := by decide +kernel
theorem dX12_few_9 : decode cX12_few 9 = .ok (.invokevirtual 141, 3) := by decide +kernel
theorem dX12_few_12 : decode cX12_few 12 = .ok (.ifCond .eq 23, 3) := by decide +kernel
theorem dX12_few_15 : decode cX12_few 15 = .ok (.iload_n 3, 1) := by decide +kernel
theorem dX12_few_16 : decode cX12_few 16 = .ok (.ifCond .eq 21, 3) := by decide +kernel
theorem dX12_few_19 : decode cX12_few 19 = .ok (.iload_n 3, 1) := by decide +kernel
theorem dX12_few_20 : decode cX12_few 20 = .ok (.bipush 10, 2) := by decide +kernel
theorem dX12_few_22 : decode cX12_few 22 = .ok (.bipush 9, 2) := by decide +kernel
theorem dX12_few_24 : decode cX12_few 24 = .ok (.aload_n 0, 1) := by decide +kernel
theorem dX12_few_25 : decode cX12_few 25 = .ok (.getfield 138, 3) := by decide +kernel
theorem dX12_few_28 : decode cX12_few 28 = .ok (.iadd, 1) := by decide +kernel
theorem dX12_few_29 : decode cX12_few 29 = .ok (.invokestatic 134, 3) := by decide +kernel
theorem dX12_few_32 : decode cX12_few 32 = .ok (.ifCond .ne 5, 3) := by decide +kernel
theorem dX12_few_35 : decode cX12_few 35 = .ok (.iconst (-1), 1) := by decide +kernel
theorem dX12_few_36 : decode cX12_few 36 = .ok (.ireturn, 1) := by decide +kernel
theorem dX12_few_37 : decode cX12_few 37 = .ok (.aload_n 0, 1) := by decide +kernel
theorem dX12_few_38 : decode cX12_few 38 = .ok (.iload_n 1, 1) := by decide +kernel
theorem dX12_few_39 : decode cX12_few 39 = .ok (.invokevirtual 424, 3) := by decide +kernel
theorem dX12_few_42 : decode cX12_few 42 = .ok (.iconst 0, 1) := by decide +kernel
theorem dX12_few_43 : decode cX12_few 43 = .ok (.istore 4, 2) := by decide +kernel
theorem dX12_few_45 : decode cX12_few 45 = .ok (.iload 4, 2) := by decide +kernel
theorem dX12_few_47 : decode cX12_few 47 = .ok (.aload_n 0, 1) := by decide +kernel
theorem dX12_few_48 : decode cX12_few 48 = .ok (.getfield 138, 3) := by decide +kernel
theorem dX12_few_51 : decode cX12_few 51 = .ok (.if_icmp .ge 29, 3) := by decide +kernel
theorem dX12_few_54 : decode cX12_few 54 = .ok (.aload_n 0, 1) := by decide +kernel
theorem dX12_few_55 : decode cX12_few 55 = .ok (.getfield 128, 3) := by decide +kernel
theorem dX12_few_58 : decode cX12_few 58 = .ok (.iload 4, 2) := by decide +kernel
theorem dX12_few_60 : decode cX12_few 60 = .ok (.aload_n 0, 1) := by decide +kernel
theorem dX12_few_61 : decode cX12_few 61 = .ok (.getfield 119, 3) := by decide +kernel
theorem dX12_few_64 : decode cX12_few 64 = .ok (.iload 4, 2) := by decide +kernel
theorem dX12_few_66 : decode cX12_few 66 = .ok (.iaload, 1) := by decide +kernel
theorem dX12_few_67 : decode cX12_few 67 = .ok (.iconst 1, 1) := by decide +kernel
theorem dX12_few_68 : decode cX12_few 68 = .ok (.iload_n 2, 1) := by decide +kernel
theorem dX12_few_69 : decode cX12_few 69 = .ok (.ishl, 1) := by decide +kernel
theorem dX12_few_70 : decode cX12_few 70 = .ok (.iconst (-1), 1) := by decide +kernel
theorem dX12_few_71 : decode cX12_few 71 = .ok (.ixor, 1) := by decide +kernel
theorem dX12_few_72 : decode cX12_few 72 = .ok (.iand, 1) := by decide +kernel
theorem dX12_few_73 : decode cX12_few 73 = .ok (.iastore, 1) := by decide +kernel
theorem dX12_few_74 : decode cX12_few 74 = .ok (.iinc 4 1, 3) := by decide +kernel
theorem dX12_few_77 : decode cX12_few 77 = .ok (.goto (-32), 3) := by decide +kernel
theorem dX12_few_80 : decode cX12_few 80 = .ok (.iconst (-1), 1) := by decide +kernel
theorem dX12_few_81 : decode cX12_few 81 = .ok (.istore 4, 2) := by decide +kernel
theorem dX12_few_83 : decode cX12_few 83 = .ok (.iconst 0, 1) := by decide +kernel
theorem dX12_few_84 : decode cX12_few 84 = .ok (.istore 5, 2) := by decide +kernel
theorem dX12_few_86 : decode cX12_few 86 = .ok (.iload 5, 2) := by decide +kernel
theorem dX12_few_88 : decode cX12_few 88 = .ok (.iconst 1, 1) := by decide +kernel
theorem dX12_few_89 : decode cX12_few 89 = .ok (.aload_n 0, 1) := by decide +kernel
theorem dX12_few_90 : decode cX12_few 90 = .ok (.getfield 138, 3) := by decide +kernel
theorem dX12_few_93 : decode cX12_few 93 = .ok (.ishl, 1) := by decide +kernel
theorem dX12_few_94 : decode cX12_few 94 = .ok (.if_icmp .ge 42, 3) := by decide +kernel
theorem dX12_few_97 : decode cX12_few 97 = .ok (.iload 4, 2) := by decide +kernel
theorem dX12_few_99 : decode cX12_few 99 = .ok (.iconst (-1), 1) := by decide +kernel
theorem dX12_few_100 : decode cX12_few 100 = .ok (.if_icmp .eq 16, 3) := by decide +kernel
theorem dX12_few_103 : decode cX12_few 103 = .ok (.iload 5, 2) := by decide +kernel
theorem dX12_few_105 : decode cX12_few 105 = .ok (.invokestatic 306, 3) := by decide +kernel
theorem dX12_few_108 : decode cX12_few 108 = .ok (.iload 4, 2) := by decide +kernel
theorem dX12_few_110 : decode cX12_few 110 = .ok (.invokestatic 306, 3) := by decide +kernel
theorem dX12_few_113 : decode cX12_few 113 = .ok (.if_icmp .ge 17, 3) := by decide +kernel
theorem dX12_few_116 : decode cX12_few 116 = .ok (.aload_n 0, 1) := by decide +kernel
theorem dX12_few_117 : decode cX12_few 117 = .ok (.iload 5, 2) := by decide +kernel
theorem dX12_few_119 : decode cX12_few 119 = .ok (.iload_n 2, 1) := by decide +kernel
theorem dX12_few_120 : decode cX12_few 120 = .ok (.invokevirtual 447, 3) := by decide +kernel
theorem dX12_few_123 : decode cX12_few 123 = .ok (.ifCond .eq 7, 3) := by decide +kernel
theorem dX12_few_126 : decode cX12_few 126 = .ok (.iload 5, 2) := by decide +kernel
theorem dX12_few_128 : decode cX12_few 128 = .ok (.istore 4, 2) := by decide +kernel
theorem dX12_few_130 : decode cX12_few 130 = .ok (.iinc 5 1, 3) := by decide +kernel
theorem dX12_few_133 : decode cX12_few 133 = .ok (.goto (-47), 3) := by decide +kernel
theorem dX12_few_136 : decode cX12_few 136 = .ok (.iload 4, 2) := by decide +kernel
theorem dX12_few_138 : decode cX12_few 138 = .ok (.iconst (-1), 1) := by decide +kernel
theorem dX12_few_139 : decode cX12_few 139 = .ok (.if_icmp .eq 7, 3) := by decide +kernel
theorem dX12_few_142 : decode cX12_few 142 = .ok (.iload_n 3, 1) := by decide +kernel
theorem dX12_few_143 : decode cX12_few 143 = .ok (.ifCond .ne 6, 3) := by decide +kernel
theorem dX12_few_146 : decode cX12_few 146 = .ok (.iload 4, 2) := by decide +kernel
theorem dX12_few_148 : decode cX12_few 148 = .ok (.ireturn, 1) := by decide +kernel
theorem dX12_few_149 : decode cX12_few 149 = .ok (.aload_n 0, 1) := by decide +kernel
theorem dX12_few_150 : decode cX12_few 150 = .ok (.iload 4, 2) := by decide +kernel
theorem dX12_few_152 : decode cX12_few 152 = .ok (.iload_n 2, 1) := by decide +kernel
theorem dX12_few_153 : decode cX12_few 153 = .ok (.invokevirtual 447, 3) := by decide +kernel
theorem dX12_few_156 : decode cX12_few 156 = .ok (.pop, 1) := by decide +kernel
theorem dX12_few_157 : decode cX12_few 157 = .ok (.aload_n 0, 1) := by decide +kernel
theorem dX12_few_158 : decode cX12_few 158 = .ok (.getfield 119, 3) := by decide +kernel
theorem dX12_few_161 : decode cX12_few 161 = .ok (.iload_n 3, 1) := by decide +kernel
theorem dX12_few_162 : decode cX12_few 162 = .ok (.bipush 10, 2) := by decide +kernel
theorem dX12_few_164 : decode cX12_few 164 = .ok (.isub, 1) := by decide +kernel
theorem dX12_few_165 : decode cX12_few 165 = .ok (.iaload, 1) := by decide +kernel
theorem dX12_few_166 : decode cX12_few 166 = .ok (.ireturn, 1) := by decide +kernel
theorem dX12_judge_0 : decode cX12_judge 0 = .ok (.iconst 0, 1) := by decide +kernel
theorem dX12_judge_1 : decode cX12_judge 1 = .ok (.istore_n 1, 1) := by decide +kernel
theorem dX12_judge_2 : decode cX12_judge 2 = .ok (.iload_n 1, 1) := by decide +kernel
theorem dX12_judge_3 : decode cX12_judge 3 = .ok (.aload_n 0, 1) := by decide +kernel
theorem dX12_judge_4 : decode cX12_judge 4 = .ok (.getfield 138, 3) := by decide +kernel
theorem dX12_judge_7 : decode cX12_judge 7 = .ok (.if_icmp .ge 42, 3) := by decide +kernel
theorem dX12_judge_10 : decode cX12_judge 10 = .ok (.aload_n 0, 1) := by decide +kernel
theorem dX12_judge_11 : decode cX12_judge 11 = .ok (.iload_n 1, 1) := by decide +kernel
theorem dX12_judge_12 : decode cX12_judge 12 = .ok (.iload_n 1, 1) := by decide +kernel
theorem dX12_judge_13 : decode cX12_judge 13 = .ok (.aload_n 0, 1) := by decide +kernel
theorem dX12_judge_14 : decode cX12_judge 14 = .ok (.getfield 41, 3) := by decide +kernel
theorem dX12_judge_17 : decode cX12_judge 17 = .ok (.iload_n 1, 1) := by decide +kernel
theorem dX12_judge_18 : decode cX12_judge 18 = .ok (.iaload, 1) := by decide +kernel
theorem dX12_judge_19 : decode cX12_judge 19 = .ok (.invokevirtual 324, 3) := by decide +kernel
theorem dX12_judge_22 : decode cX12_judge 22 = .ok (.ifCond .le 21, 3) := by decide +kernel
theorem dX12_judge_25 : decode cX12_judge 25 = .ok (.bipush 10, 2) := by decide +kernel
theorem dX12_judge_27 : decode cX12_judge 27 = .ok (.iload_n 1, 1) := by decide +kernel
theorem dX12_judge_28 : decode cX12_judge 28 = .ok (.imul, 1) := by decide +kernel
theorem dX12_judge_29 : decode cX12_judge 29 = .ok (.aload_n 0, 1) := by decide +kernel
theorem dX12_judge_30 : decode cX12_judge 30 = .ok (.iload_n 1, 1) := by decide +kernel
theorem dX12_judge_31 : decode cX12_judge 31 = .ok (.iload_n 1, 1) := by decide +kernel
theorem dX12_judge_32 : decode cX12_judge 32 = .ok (.aload_n 0, 1) := by decide +kernel
theorem dX12_judge_33 : decode cX12_judge 33 = .ok (.getfield 41, 3) := by decide +kernel
theorem dX12_judge_36 : decode cX12_judge 36 = .ok (.iload_n 1, 1) := by decide +kernel
theorem dX12_judge_37 : decode cX12_judge 37 = .ok (.iaload, 1) := by decide +kernel
theorem dX12_judge_38 : decode cX12_judge 38 = .ok (.invokevirtual 324, 3) := by decide +kernel
theorem dX12_judge_41 : decode cX12_judge 41 = .ok (.iadd, 1) := by decide +kernel
theorem dX12_judge_42 : decode cX12_judge 42 = .ok (.ireturn, 1) := by decide +kernel
theorem dX12_judge_43 : decode cX12_judge 43 = .ok (.iinc 1 1, 3) := by decide +kernel
theorem dX12_judge_46 : decode cX12_judge 46 = .ok (.goto (-44), 3) := by decide +kernel
theorem dX12_judge_49 : decode cX12_judge 49 = .ok (.iconst 0, 1) := by decide +kernel
theorem dX12_judge_50 : decode cX12_judge 50 = .ok (.istore_n 1, 1) := by decide +kernel
theorem dX12_judge_51 : decode cX12_judge 51 = .ok (.iload_n 1, 1) := by decide +kernel
theorem dX12_judge_52 : decode cX12_judge 52 = .ok (.bipush 8, 2) := by decide +kernel
theorem dX12_judge_54 : decode cX12_judge 54 = .ok (.if_icmp .ge 33, 3) := by decide +kernel
theorem dX12_judge_57 : decode cX12_judge 57 = .ok (.aload_n 0, 1) := by decide +kernel
theorem dX12_judge_58 : decode cX12_judge 58 = .ok (.getfield 119, 3) := by decide +kernel
theorem dX12_judge_61 : decode cX12_judge 61 = .ok (.iload_n 1, 1) := by decide +kernel
theorem dX12_judge_62 : decode cX12_judge 62 = .ok (.iload_n 1, 1) := by decide +kernel
theorem dX12_judge_63 : decode cX12_judge 63 = .ok (.aload_n 0, 1) := by decide +kernel
theorem dX12_judge_64 : decode cX12_judge 64 = .ok (.getfield 138, 3) := by decide +kernel
theorem dX12_judge_67 : decode cX12_judge 67 = .ok (.if_icmp .ge 12, 3) := by decide +kernel
theorem dX12_judge_70 : decode cX12_judge 70 = .ok (.aload_n 0, 1) := by decide +kernel
theorem dX12_judge_71 : decode cX12_judge 71 = .ok (.getfield 41, 3) := by decide +kernel
theorem dX12_judge_74 : decode cX12_judge 74 = .ok (.iload_n 1, 1) := by decide +kernel
theorem dX12_judge_75 : decode cX12_judge 75 = .ok (.iaload, 1) := by decide +kernel
theorem dX12_judge_76 : decode cX12_judge 76 = .ok (.goto 4, 3) := by decide +kernel
theorem dX12_judge_79 : decode cX12_judge 79 = .ok (.iconst 0, 1) := by decide +kernel
theorem dX12_judge_80 : decode cX12_judge 80 = .ok (.iastore, 1) := by decide +kernel
theorem dX12_judge_81 : decode cX12_judge 81 = .ok (.iinc 1 1, 3) := by decide +kernel
theorem dX12_judge_84 : decode cX12_judge 84 = .ok (.goto (-33), 3) := by decide +kernel
theorem dX12_judge_87 : decode cX12_judge 87 = .ok (.iconst 0, 1) := by decide +kernel
theorem dX12_judge_88 : decode cX12_judge 88 = .ok (.istore_n 1, 1) := by decide +kernel
theorem dX12_judge_89 : decode cX12_judge 89 = .ok (.iload_n 1, 1) := by decide +kernel
theorem dX12_judge_90 : decode cX12_judge 90 = .ok (.aload_n 0, 1) := by decide +kernel
theorem dX12_judge_91 : decode cX12_judge 91 = .ok (.getfield 131, 3) := by decide +kernel
theorem dX12_judge_94 : decode cX12_judge 94 = .ok (.if_icmp .ge 23, 3) := by decide +kernel
theorem dX12_judge_97 : decode cX12_judge 97 = .ok (.aload_n 0, 1) := by decide +kernel
theorem dX12_judge_98 : decode cX12_judge 98 = .ok (.iload_n 1, 1) := by decide +kernel
theorem dX12_judge_99 : decode cX12_judge 99 = .ok (.invokevirtual 390, 3) := by decide +kernel
theorem dX12_judge_102 : decode cX12_judge 102 = .ok (.ifCond .ge 9, 3) := by decide +kernel
theorem dX12_judge_105 : decode cX12_judge 105 = .ok (.sipush 1000, 3) := by decide +kernel
theorem dX12_judge_108 : decode cX12_judge 108 = .ok (.iload_n 1, 1) := by decide +kernel
theorem dX12_judge_109 : decode cX12_judge 109 = .ok (.iadd, 1) := by decide +kernel
theorem dX12_judge_110 : decode cX12_judge 110 = .ok (.ireturn, 1) := by decide +kernel
theorem dX12_judge_111 : decode cX12_judge 111 = .ok (.iinc 1 1, 3) := by decide +kernel
theorem dX12_judge_114 : decode cX12_judge 114 = .ok (.goto (-25), 3) := by decide +kernel
theorem dX12_judge_117 : decode cX12_judge 117 = .ok (.iconst (-1), 1) := by decide +kernel
theorem dX12_judge_118 : decode cX12_judge 118 = .ok (.ireturn, 1) := by decide +kernel
theorem dX12_count_0 : decode cX12_count 0 = .ok (.iconst 0, 1) := by decide +kernel
theorem dX12_count_1 : decode cX12_count 1 = .ok (.istore_n 2, 1) := by decide +kernel
theorem dX12_count_2 : decode cX12_count 2 = .ok (.iload_n 1, 1) := by decide +kernel
theorem dX12_count_3 : decode cX12_count 3 = .ok (.tableswitch 172 0 9 #[53, 58, 63, 68, 73, 78, 83, 110, 137, 164], 53) := by decide +kernel
theorem dX12_count_56 : decode cX12_count 56 = .ok (.aload_n 0, 1) := by decide +kernel
theorem dX12_count_57 : decode cX12_count 57 = .ok (.getfield 131, 3) := by decide +kernel
theorem dX12_count_60 : decode cX12_count 60 = .ok (.ireturn, 1) := by decide +kernel
theorem dX12_count_61 : decode cX12_count 61 = .ok (.aload_n 0, 1) := by decide +kernel
theorem dX12_count_62 : decode cX12_count 62 = .ok (.getfield 138, 3) := by decide +kernel
theorem dX12_count_65 : decode cX12_count 65 = .ok (.ireturn, 1) := by decide +kernel
theorem dX12_count_66 : decode cX12_count 66 = .ok (.aload_n 0, 1) := by decide +kernel
theorem dX12_count_67 : decode cX12_count 67 = .ok (.getfield 145, 3) := by decide +kernel
theorem dX12_count_70 : decode cX12_count 70 = .ok (.ireturn, 1) := by decide +kernel
theorem dX12_count_71 : decode cX12_count 71 = .ok (.aload_n 0, 1) := by decide +kernel
theorem dX12_count_72 : decode cX12_count 72 = .ok (.getfield 7, 3) := by decide +kernel
theorem dX12_count_75 : decode cX12_count 75 = .ok (.ireturn, 1) := by decide +kernel
theorem dX12_count_76 : decode cX12_count 76 = .ok (.aload_n 0, 1) := by decide +kernel
theorem dX12_count_77 : decode cX12_count 77 = .ok (.getfield 13, 3) := by decide +kernel
theorem dX12_count_80 : decode cX12_count 80 = .ok (.ireturn, 1) := by decide +kernel
theorem dX12_count_81 : decode cX12_count 81 = .ok (.aload_n 0, 1) := by decide +kernel
theorem dX12_count_82 : decode cX12_count 82 = .ok (.getfield 154, 3) := by decide +kernel
theorem dX12_count_85 : decode cX12_count 85 = .ok (.ireturn, 1) := by decide +kernel
theorem dX12_count_86 : decode cX12_count 86 = .ok (.iconst 0, 1) := by decide +kernel
theorem dX12_count_87 : decode cX12_count 87 = .ok (.istore_n 3, 1) := by decide +kernel
theorem dX12_count_88 : decode cX12_count 88 = .ok (.iload_n 3, 1) := by decide +kernel
theorem dX12_count_89 : decode cX12_count 89 = .ok (.aload_n 0, 1) := by decide +kernel
theorem dX12_count_90 : decode cX12_count 90 = .ok (.getfield 131, 3) := by decide +kernel
theorem dX12_count_93 : decode cX12_count 93 = .ok (.if_icmp .ge 18, 3) := by decide +kernel
theorem dX12_count_96 : decode cX12_count 96 = .ok (.iload_n 2, 1) := by decide +kernel
theorem dX12_count_97 : decode cX12_count 97 = .ok (.aload_n 0, 1) := by decide +kernel
theorem dX12_count_98 : decode cX12_count 98 = .ok (.getfield 16, 3) := by decide +kernel
theorem dX12_count_101 : decode cX12_count 101 = .ok (.iload_n 3, 1) := by decide +kernel
theorem dX12_count_102 : decode cX12_count 102 = .ok (.iaload, 1) := by decide +kernel
theorem dX12_count_103 : decode cX12_count 103 = .ok (.iadd, 1) := by decide +kernel
theorem dX12_count_104 : decode cX12_count 104 = .ok (.istore_n 2, 1) := by decide +kernel
theorem dX12_count_105 : decode cX12_count 105 = .ok (.iinc 3 1, 3) := by decide +kernel
theorem dX12_count_108 : decode cX12_count 108 = .ok (.goto (-20), 3) := by decide +kernel
theorem dX12_count_111 : decode cX12_count 111 = .ok (.iload_n 2, 1) := by decide +kernel
theorem dX12_count_112 : decode cX12_count 112 = .ok (.ireturn, 1) := by decide +kernel
theorem dX12_count_113 : decode cX12_count 113 = .ok (.iconst 0, 1) := by decide +kernel
theorem dX12_count_114 : decode cX12_count 114 = .ok (.istore_n 3, 1) := by decide +kernel
theorem dX12_count_115 : decode cX12_count 115 = .ok (.iload_n 3, 1) := by decide +kernel
theorem dX12_count_116 : decode cX12_count 116 = .ok (.aload_n 0, 1) := by decide +kernel
theorem dX12_count_117 : decode cX12_count 117 = .ok (.getfield 131, 3) := by decide +kernel
theorem dX12_count_120 : decode cX12_count 120 = .ok (.if_icmp .ge 18, 3) := by decide +kernel
theorem dX12_count_123 : decode cX12_count 123 = .ok (.iload_n 2, 1) := by decide +kernel
theorem dX12_count_124 : decode cX12_count 124 = .ok (.aload_n 0, 1) := by decide +kernel
theorem dX12_count_125 : decode cX12_count 125 = .ok (.getfield 26, 3) := by decide +kernel
theorem dX12_count_128 : decode cX12_count 128 = .ok (.iload_n 3, 1) := by decide +kernel
theorem dX12_count_129 : decode cX12_count 129 = .ok (.iaload, 1) := by decide +kernel
theorem dX12_count_130 : decode cX12_count 130 = .ok (.iadd, 1) := by decide +kernel
theorem dX12_count_131 : decode cX12_count 131 = .ok (.istore_n 2, 1) := by decide +kernel
theorem dX12_count_132 : decode cX12_count 132 = .ok (.iinc 3 1, 3) := by decide +kernel
theorem dX12_count_135 : decode cX12_count 135 = .ok (.goto (-20), 3) := by decide +kernel
theorem dX12_count_138 : decode cX12_count 138 = .ok (.iload_n 2, 1) := by decide +kernel
theorem dX12_count_139 : decode cX12_count 139 = .ok (.ireturn, 1) := by decide +kernel
theorem dX12_count_140 : decode cX12_count 140 = .ok (.iconst 0, 1) := by decide +kernel
theorem dX12_count_141 : decode cX12_count 141 = .ok (.istore_n 3, 1) := by decide +kernel
theorem dX12_count_142 : decode cX12_count 142 = .ok (.iload_n 3, 1) := by decide +kernel
theorem dX12_count_143 : decode cX12_count 143 = .ok (.aload_n 0, 1) := by decide +kernel
theorem dX12_count_144 : decode cX12_count 144 = .ok (.getfield 138, 3) := by decide +kernel
theorem dX12_count_147 : decode cX12_count 147 = .ok (.if_icmp .ge 18, 3) := by decide +kernel
theorem dX12_count_150 : decode cX12_count 150 = .ok (.iload_n 2, 1) := by decide +kernel
theorem dX12_count_151 : decode cX12_count 151 = .ok (.aload_n 0, 1) := by decide +kernel
theorem dX12_count_152 : decode cX12_count 152 = .ok (.getfield 35, 3) := by decide +kernel
theorem dX12_count_155 : decode cX12_count 155 = .ok (.iload_n 3, 1) := by decide +kernel
theorem dX12_count_156 : decode cX12_count 156 = .ok (.iaload, 1) := by decide +kernel
theorem dX12_count_157 : decode cX12_count 157 = .ok (.iadd, 1) := by decide +kernel
theorem dX12_count_158 : decode cX12_count 158 = .ok (.istore_n 2, 1) := by decide +kernel
theorem dX12_count_159 : decode cX12_count 159 = .ok (.iinc 3 1, 3) := by decide +kernel
theorem dX12_count_162 : decode cX12_count 162 = .ok (.goto (-20), 3) := by decide +kernel
theorem dX12_count_165 : decode cX12_count 165 = .ok (.iload_n 2, 1) := by decide +kernel
theorem dX12_count_166 : decode cX12_count 166 = .ok (.ireturn, 1) := by decide +kernel
theorem dX12_count_167 : decode cX12_count 167 = .ok (.aload_n 0, 1) := by decide +kernel
theorem dX12_count_168 : decode cX12_count 168 = .ok (.getfield 262, 3) := by decide +kernel
theorem dX12_count_171 : decode cX12_count 171 = .ok (.invokestatic 293, 3) := by decide +kernel
theorem dX12_count_174 : decode cX12_count 174 = .ok (.ireturn, 1) := by decide +kernel
theorem dX12_count_175 : decode cX12_count 175 = .ok (.iconst (-1), 1) := by decide +kernel
theorem dX12_count_176 : decode cX12_count 176 = .ok (.ireturn, 1) := by decide +kernel
