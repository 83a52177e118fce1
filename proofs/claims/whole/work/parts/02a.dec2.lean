theorem dX10_goesOn_119 : decode cX10_goesOn 119 = .ok (.getfield 184, 3) := by decide +kernel
theorem dX10_goesOn_122 : decode cX10_goesOn 122 = .ok (.invokevirtual 187, 3) := by decide +kernel
theorem dX10_goesOn_125 : decode cX10_goesOn 125 = .ok (.ifCond .eq 73, 3) := by decide +kernel
theorem dX10_goesOn_128 : decode cX10_goesOn 128 = .ok (.aload_n 0, 1) := by decide +kernel
theorem dX10_goesOn_129 : decode cX10_goesOn 129 = .ok (.aload_n 0, 1) := by decide +kernel
theorem dX10_goesOn_130 : decode cX10_goesOn 130 = .ok (.getfield 178, 3) := by decide +kernel
theorem dX10_goesOn_133 : decode cX10_goesOn 133 = .ok (.invokevirtual 187, 3) := by decide +kernel
theorem dX10_goesOn_136 : decode cX10_goesOn 136 = .ok (.ifCond .eq 16, 3) := by decide +kernel
theorem dX10_goesOn_139 : decode cX10_goesOn 139 = .ok (.aload_n 0, 1) := by decide +kernel
theorem dX10_goesOn_140 : decode cX10_goesOn 140 = .ok (.dup, 1) := by decide +kernel
theorem dX10_goesOn_141 : decode cX10_goesOn 141 = .ok (.getfield 178, 3) := by decide +kernel
theorem dX10_goesOn_144 : decode cX10_goesOn 144 = .ok (.iconst 1, 1) := by decide +kernel
theorem dX10_goesOn_145 : decode cX10_goesOn 145 = .ok (.iadd, 1) := by decide +kernel
theorem dX10_goesOn_146 : decode cX10_goesOn 146 = .ok (.putfield 178, 3) := by decide +kernel
theorem dX10_goesOn_149 : decode cX10_goesOn 149 = .ok (.goto (-21), 3) := by decide +kernel
theorem dX10_goesOn_152 : decode cX10_goesOn 152 = .ok (.aload_n 0, 1) := by decide +kernel
theorem dX10_goesOn_153 : decode cX10_goesOn 153 = .ok (.iload_n 1, 1) := by decide +kernel
theorem dX10_goesOn_154 : decode cX10_goesOn 154 = .ok (.ifCond .eq 7, 3) := by decide +kernel
theorem dX10_goesOn_157 : decode cX10_goesOn 157 = .ok (.iconst 4, 1) := by decide +kernel
theorem dX10_goesOn_158 : decode cX10_goesOn 158 = .ok (.goto 4, 3) := by decide +kernel
theorem dX10_goesOn_161 : decode cX10_goesOn 161 = .ok (.iconst 1, 1) := by decide +kernel
theorem dX10_goesOn_162 : decode cX10_goesOn 162 = .ok (.putfield 181, 3) := by decide +kernel
theorem dX10_goesOn_165 : decode cX10_goesOn 165 = .ok (.aload_n 0, 1) := by decide +kernel
theorem dX10_goesOn_166 : decode cX10_goesOn 166 = .ok (.aload_n 0, 1) := by decide +kernel
theorem dX10_goesOn_167 : decode cX10_goesOn 167 = .ok (.getfield 178, 3) := by decide +kernel
theorem dX10_goesOn_170 : decode cX10_goesOn 170 = .ok (.aload_n 0, 1) := by decide +kernel
theorem dX10_goesOn_171 : decode cX10_goesOn 171 = .ok (.getfield 184, 3) := by decide +kernel
theorem dX10_goesOn_174 : decode cX10_goesOn 174 = .ok (.isub, 1) := by decide +kernel
theorem dX10_goesOn_175 : decode cX10_goesOn 175 = .ok (.iconst 1, 1) := by decide +kernel
theorem dX10_goesOn_176 : decode cX10_goesOn 176 = .ok (.if_icmp .ne 15, 3) := by decide +kernel
theorem dX10_goesOn_179 : decode cX10_goesOn 179 = .ok (.aload_n 0, 1) := by decide +kernel
theorem dX10_goesOn_180 : decode cX10_goesOn 180 = .ok (.getfield 43, 3) := by decide +kernel
theorem dX10_goesOn_183 : decode cX10_goesOn 183 = .ok (.aload_n 0, 1) := by decide +kernel
theorem dX10_goesOn_184 : decode cX10_goesOn 184 = .ok (.getfield 184, 3) := by decide +kernel
theorem dX10_goesOn_187 : decode cX10_goesOn 187 = .ok (.iaload, 1) := by decide +kernel
theorem dX10_goesOn_188 : decode cX10_goesOn 188 = .ok (.goto 4, 3) := by decide +kernel
theorem dX10_goesOn_191 : decode cX10_goesOn 191 = .ok (.iconst 0, 1) := by decide +kernel
theorem dX10_goesOn_192 : decode cX10_goesOn 192 = .ok (.putfield 190, 3) := by decide +kernel
theorem dX10_goesOn_195 : decode cX10_goesOn 195 = .ok (.goto 144, 3) := by decide +kernel
theorem dX10_goesOn_198 : decode cX10_goesOn 198 = .ok (.aload_n 0, 1) := by decide +kernel
theorem dX10_goesOn_199 : decode cX10_goesOn 199 = .ok (.aload_n 0, 1) := by decide +kernel
theorem dX10_goesOn_200 : decode cX10_goesOn 200 = .ok (.getfield 184, 3) := by decide +kernel
theorem dX10_goesOn_203 : decode cX10_goesOn 203 = .ok (.invokevirtual 193, 3) := by decide +kernel
theorem dX10_goesOn_206 : decode cX10_goesOn 206 = .ok (.ifCond .eq 105, 3) := by decide +kernel
theorem dX10_goesOn_209 : decode cX10_goesOn 209 = .ok (.aload_n 0, 1) := by decide +kernel
theorem dX10_goesOn_210 : decode cX10_goesOn 210 = .ok (.iconst 0, 1) := by decide +kernel
theorem dX10_goesOn_211 : decode cX10_goesOn 211 = .ok (.putfield 196, 3) := by decide +kernel
theorem dX10_goesOn_214 : decode cX10_goesOn 214 = .ok (.aload_n 0, 1) := by decide +kernel
theorem dX10_goesOn_215 : decode cX10_goesOn 215 = .ok (.aload_n 0, 1) := by decide +kernel
theorem dX10_goesOn_216 : decode cX10_goesOn 216 = .ok (.getfield 178, 3) := by decide +kernel
theorem dX10_goesOn_219 : decode cX10_goesOn 219 = .ok (.invokevirtual 193, 3) := by decide +kernel
theorem dX10_goesOn_222 : decode cX10_goesOn 222 = .ok (.ifCond .eq 60, 3) := by decide +kernel
theorem dX10_goesOn_225 : decode cX10_goesOn 225 = .ok (.aload_n 0, 1) := by decide +kernel
theorem dX10_goesOn_226 : decode cX10_goesOn 226 = .ok (.aload_n 0, 1) := by decide +kernel
theorem dX10_goesOn_227 : decode cX10_goesOn 227 = .ok (.getfield 178, 3) := by decide +kernel
theorem dX10_goesOn_230 : decode cX10_goesOn 230 = .ok (.aload_n 0, 1) := by decide +kernel
theorem dX10_goesOn_231 : decode cX10_goesOn 231 = .ok (.getfield 184, 3) := by decide +kernel
theorem dX10_goesOn_234 : decode cX10_goesOn 234 = .ok (.isub, 1) := by decide +kernel
theorem dX10_goesOn_235 : decode cX10_goesOn 235 = .ok (.iconst 4, 1) := by decide +kernel
theorem dX10_goesOn_236 : decode cX10_goesOn 236 = .ok (.if_icmp .ge 26, 3) := by decide +kernel
theorem dX10_goesOn_239 : decode cX10_goesOn 239 = .ok (.bipush 10, 2) := by decide +kernel
theorem dX10_goesOn_241 : decode cX10_goesOn 241 = .ok (.aload_n 0, 1) := by decide +kernel
theorem dX10_goesOn_242 : decode cX10_goesOn 242 = .ok (.getfield 196, 3) := by decide +kernel
theorem dX10_goesOn_245 : decode cX10_goesOn 245 = .ok (.imul, 1) := by decide +kernel
theorem dX10_goesOn_246 : decode cX10_goesOn 246 = .ok (.aload_n 0, 1) := by decide +kernel
theorem dX10_goesOn_247 : decode cX10_goesOn 247 = .ok (.getfield 43, 3) := by decide +kernel
theorem dX10_goesOn_250 : decode cX10_goesOn 250 = .ok (.aload_n 0, 1) := by decide +kernel
theorem dX10_goesOn_251 : decode cX10_goesOn 251 = .ok (.getfield 178, 3) := by decide +kernel
theorem dX10_goesOn_254 : decode cX10_goesOn 254 = .ok (.iaload, 1) := by decide +kernel
theorem dX10_goesOn_255 : decode cX10_goesOn 255 = .ok (.iadd, 1) := by decide +kernel
theorem dX10_goesOn_256 : decode cX10_goesOn 256 = .ok (.bipush 48, 2) := by decide +kernel
theorem dX10_goesOn_258 : decode cX10_goesOn 258 = .ok (.isub, 1) := by decide +kernel
theorem dX10_goesOn_259 : decode cX10_goesOn 259 = .ok (.goto 7, 3) := by decide +kernel
theorem dX10_goesOn_262 : decode cX10_goesOn 262 = .ok (.aload_n 0, 1) := by decide +kernel
theorem dX10_goesOn_263 : decode cX10_goesOn 263 = .ok (.getfield 196, 3) := by decide +kernel
theorem dX10_goesOn_266 : decode cX10_goesOn 266 = .ok (.putfield 196, 3) := by decide +kernel
theorem dX10_goesOn_269 : decode cX10_goesOn 269 = .ok (.aload_n 0, 1) := by decide +kernel
theorem dX10_goesOn_270 : decode cX10_goesOn 270 = .ok (.dup, 1) := by decide +kernel
theorem dX10_goesOn_271 : decode cX10_goesOn 271 = .ok (.getfield 178, 3) := by decide +kernel
theorem dX10_goesOn_274 : decode cX10_goesOn 274 = .ok (.iconst 1, 1) := by decide +kernel
theorem dX10_goesOn_275 : decode cX10_goesOn 275 = .ok (.iadd, 1) := by decide +kernel
theorem dX10_goesOn_276 : decode cX10_goesOn 276 = .ok (.putfield 178, 3) := by decide +kernel
theorem dX10_goesOn_279 : decode cX10_goesOn 279 = .ok (.goto (-65), 3) := by decide +kernel
theorem dX10_goesOn_282 : decode cX10_goesOn 282 = .ok (.aload_n 0, 1) := by decide +kernel
theorem dX10_goesOn_283 : decode cX10_goesOn 283 = .ok (.iload_n 1, 1) := by decide +kernel
theorem dX10_goesOn_284 : decode cX10_goesOn 284 = .ok (.ifCond .ne 16, 3) := by decide +kernel
theorem dX10_goesOn_287 : decode cX10_goesOn 287 = .ok (.aload_n 0, 1) := by decide +kernel
theorem dX10_goesOn_288 : decode cX10_goesOn 288 = .ok (.getfield 178, 3) := by decide +kernel
theorem dX10_goesOn_291 : decode cX10_goesOn 291 = .ok (.aload_n 0, 1) := by decide +kernel
theorem dX10_goesOn_292 : decode cX10_goesOn 292 = .ok (.getfield 184, 3) := by decide +kernel
theorem dX10_goesOn_295 : decode cX10_goesOn 295 = .ok (.isub, 1) := by decide +kernel
theorem dX10_goesOn_296 : decode cX10_goesOn 296 = .ok (.iconst 4, 1) := by decide +kernel
theorem dX10_goesOn_297 : decode cX10_goesOn 297 = .ok (.if_icmp .le 7, 3) := by decide +kernel
theorem dX10_goesOn_300 : decode cX10_goesOn 300 = .ok (.iconst 4, 1) := by decide +kernel
theorem dX10_goesOn_301 : decode cX10_goesOn 301 = .ok (.goto 4, 3) := by decide +kernel
theorem dX10_goesOn_304 : decode cX10_goesOn 304 = .ok (.iconst 2, 1) := by decide +kernel
theorem dX10_goesOn_305 : decode cX10_goesOn 305 = .ok (.putfield 181, 3) := by decide +kernel
theorem dX10_goesOn_308 : decode cX10_goesOn 308 = .ok (.goto 31, 3) := by decide +kernel
theorem dX10_goesOn_311 : decode cX10_goesOn 311 = .ok (.aload_n 0, 1) := by decide +kernel
theorem dX10_goesOn_312 : decode cX10_goesOn 312 = .ok (.iconst 3, 1) := by decide +kernel
theorem dX10_goesOn_313 : decode cX10_goesOn 313 = .ok (.putfield 181, 3) := by decide +kernel
theorem dX10_goesOn_316 : decode cX10_goesOn 316 = .ok (.aload_n 0, 1) := by decide +kernel
theorem dX10_goesOn_317 : decode cX10_goesOn 317 = .ok (.aload_n 0, 1) := by decide +kernel
theorem dX10_goesOn_318 : decode cX10_goesOn 318 = .ok (.getfield 43, 3) := by decide +kernel
theorem dX10_goesOn_321 : decode cX10_goesOn 321 = .ok (.aload_n 0, 1) := by decide +kernel
theorem dX10_goesOn_322 : decode cX10_goesOn 322 = .ok (.getfield 184, 3) := by decide +kernel
theorem dX10_goesOn_325 : decode cX10_goesOn 325 = .ok (.iaload, 1) := by decide +kernel
theorem dX10_goesOn_326 : decode cX10_goesOn 326 = .ok (.putfield 190, 3) := by decide +kernel
theorem dX10_goesOn_329 : decode cX10_goesOn 329 = .ok (.aload_n 0, 1) := by decide +kernel
theorem dX10_goesOn_330 : decode cX10_goesOn 330 = .ok (.dup, 1) := by decide +kernel
theorem dX10_goesOn_331 : decode cX10_goesOn 331 = .ok (.getfield 178, 3) := by decide +kernel
theorem dX10_goesOn_334 : decode cX10_goesOn 334 = .ok (.iconst 1, 1) := by decide +kernel
theorem dX10_goesOn_335 : decode cX10_goesOn 335 = .ok (.iadd, 1) := by decide +kernel
theorem dX10_goesOn_336 : decode cX10_goesOn 336 = .ok (.putfield 178, 3) := by decide +kernel
theorem dX10_goesOn_339 : decode cX10_goesOn 339 = .ok (.return_, 1) := by decide +kernel
theorem dX10_isSign_0 : decode cX10_isSign 0 = .ok (.aload_n 0, 1) := by decide +kernel
theorem dX10_isSign_1 : decode cX10_isSign 1 = .ok (.getfield 181, 3) := by decide +kernel
theorem dX10_isSign_4 : decode cX10_isSign 4 = .ok (.iconst 3, 1) := by decide +kernel
theorem dX10_isSign_5 : decode cX10_isSign 5 = .ok (.if_icmp .ne 15, 3) := by decide +kernel
theorem dX10_isSign_8 : decode cX10_isSign 8 = .ok (.aload_n 0, 1) := by decide +kernel
theorem dX10_isSign_9 : decode cX10_isSign 9 = .ok (.getfield 190, 3) := by decide +kernel
theorem dX10_isSign_12 : decode cX10_isSign 12 = .ok (.iload_n 1, 1) := by decide +kernel
theorem dX10_isSign_13 : decode cX10_isSign 13 = .ok (.if_icmp .ne 7, 3) := by decide +kernel
theorem dX10_isSign_16 : decode cX10_isSign 16 = .ok (.iconst 1, 1) := by decide +kernel
theorem dX10_isSign_17 : decode cX10_isSign 17 = .ok (.goto 4, 3) := by decide +kernel
theorem dX10_isSign_20 : decode cX10_isSign 20 = .ok (.iconst 0, 1) := by decide +kernel
theorem dX10_isSign_21 : decode cX10_isSign 21 = .ok (.ireturn, 1) := by decide +kernel
theorem dX10_isWordAt_0 : decode cX10_isWordAt 0 = .ok (.iload 4, 2) := by decide +kernel
theorem dX10_isWordAt_2 : decode cX10_isWordAt 2 = .ok (.ifCond .ne 7, 3) := by decide +kernel
theorem dX10_isWordAt_5 : decode cX10_isWordAt 5 = .ok (.iconst 3, 1) := by decide +kernel
theorem dX10_isWordAt_6 : decode cX10_isWordAt 6 = .ok (.goto 4, 3) := by decide +kernel
theorem dX10_isWordAt_9 : decode cX10_isWordAt 9 = .ok (.iconst 4, 1) := by decide +kernel
theorem dX10_isWordAt_10 : decode cX10_isWordAt 10 = .ok (.istore 5, 2) := by decide +kernel
theorem dX10_isWordAt_12 : decode cX10_isWordAt 12 = .ok (.aload_n 0, 1) := by decide +kernel
theorem dX10_isWordAt_13 : decode cX10_isWordAt 13 = .ok (.getfield 181, 3) := by decide +kernel
theorem dX10_isWordAt_16 : decode cX10_isWordAt 16 = .ok (.iconst 1, 1) := by decide +kernel
theorem dX10_isWordAt_17 : decode cX10_isWordAt 17 = .ok (.if_icmp .ne 85, 3) := by decide +kernel
theorem dX10_isWordAt_20 : decode cX10_isWordAt 20 = .ok (.aload_n 0, 1) := by decide +kernel
theorem dX10_isWordAt_21 : decode cX10_isWordAt 21 = .ok (.getfield 178, 3) := by decide +kernel
theorem dX10_isWordAt_24 : decode cX10_isWordAt 24 = .ok (.aload_n 0, 1) := by decide +kernel
theorem dX10_isWordAt_25 : decode cX10_isWordAt 25 = .ok (.getfield 184, 3) := by decide +kernel
theorem dX10_isWordAt_28 : decode cX10_isWordAt 28 = .ok (.isub, 1) := by decide +kernel
theorem dX10_isWordAt_29 : decode cX10_isWordAt 29 = .ok (.iload 5, 2) := by decide +kernel
theorem dX10_isWordAt_31 : decode cX10_isWordAt 31 = .ok (.if_icmp .ne 71, 3) := by decide +kernel
theorem dX10_isWordAt_34 : decode cX10_isWordAt 34 = .ok (.aload_n 0, 1) := by decide +kernel
theorem dX10_isWordAt_35 : decode cX10_isWordAt 35 = .ok (.getfield 43, 3) := by decide +kernel
theorem dX10_isWordAt_38 : decode cX10_isWordAt 38 = .ok (.aload_n 0, 1) := by decide +kernel
theorem dX10_isWordAt_39 : decode cX10_isWordAt 39 = .ok (.getfield 184, 3) := by decide +kernel
theorem dX10_isWordAt_42 : decode cX10_isWordAt 42 = .ok (.iaload, 1) := by decide +kernel
theorem dX10_isWordAt_43 : decode cX10_isWordAt 43 = .ok (.iload_n 1, 1) := by decide +kernel
theorem dX10_isWordAt_44 : decode cX10_isWordAt 44 = .ok (.if_icmp .ne 58, 3) := by decide +kernel
theorem dX10_isWordAt_47 : decode cX10_isWordAt 47 = .ok (.aload_n 0, 1) := by decide +kernel
theorem dX10_isWordAt_48 : decode cX10_isWordAt 48 = .ok (.getfield 43, 3) := by decide +kernel
theorem dX10_isWordAt_51 : decode cX10_isWordAt 51 = .ok (.aload_n 0, 1) := by decide +kernel
theorem dX10_isWordAt_52 : decode cX10_isWordAt 52 = .ok (.getfield 184, 3) := by decide +kernel
theorem dX10_isWordAt_55 : decode cX10_isWordAt 55 = .ok (.iconst 1, 1) := by decide +kernel
theorem dX10_isWordAt_56 : decode cX10_isWordAt 56 = .ok (.iadd, 1) := by decide +kernel
theorem dX10_isWordAt_57 : decode cX10_isWordAt 57 = .ok (.iaload, 1) := by decide +kernel
theorem dX10_isWordAt_58 : decode cX10_isWordAt 58 = .ok (.iload_n 2, 1) := by decide +kernel
theorem dX10_isWordAt_59 : decode cX10_isWordAt 59 = .ok (.if_icmp .ne 43, 3) := by decide +kernel
theorem dX10_isWordAt_62 : decode cX10_isWordAt 62 = .ok (.aload_n 0, 1) := by decide +kernel
theorem dX10_isWordAt_63 : decode cX10_isWordAt 63 = .ok (.getfield 43, 3) := by decide +kernel
theorem dX10_isWordAt_66 : decode cX10_isWordAt 66 = .ok (.aload_n 0, 1) := by decide +kernel
theorem dX10_isWordAt_67 : decode cX10_isWordAt 67 = .ok (.getfield 184, 3) := by decide +kernel
theorem dX10_isWordAt_70 : decode cX10_isWordAt 70 = .ok (.iconst 2, 1) := by decide +kernel
theorem dX10_isWordAt_71 : decode cX10_isWordAt 71 = .ok (.iadd, 1) := by decide +kernel
theorem dX10_isWordAt_72 : decode cX10_isWordAt 72 = .ok (.iaload, 1) := by decide +kernel
theorem dX10_isWordAt_73 : decode cX10_isWordAt 73 = .ok (.iload_n 3, 1) := by decide +kernel
theorem dX10_isWordAt_74 : decode cX10_isWordAt 74 = .ok (.if_icmp .ne 28, 3) := by decide +kernel
theorem dX10_isWordAt_77 : decode cX10_isWordAt 77 = .ok (.iload 4, 2) := by decide +kernel
theorem dX10_isWordAt_79 : decode cX10_isWordAt 79 = .ok (.ifCond .eq 19, 3) := by decide +kernel
theorem dX10_isWordAt_82 : decode cX10_isWordAt 82 = .ok (.aload_n 0, 1) := by decide +kernel
theorem dX10_isWordAt_83 : decode cX10_isWordAt 83 = .ok (.getfield 43, 3) := by decide +kernel
theorem dX10_isWordAt_86 : decode cX10_isWordAt 86 = .ok (.aload_n 0, 1) := by decide +kernel
theorem dX10_isWordAt_87 : decode cX10_isWordAt 87 = .ok (.getfield 184, 3) := by decide +kernel
theorem dX10_isWordAt_90 : decode cX10_isWordAt 90 = .ok (.iconst 3, 1) := by decide +kernel
theorem dX10_isWordAt_91 : decode cX10_isWordAt 91 = .ok (.iadd, 1) := by decide +kernel
theorem dX10_isWordAt_92 : decode cX10_isWordAt 92 = .ok (.iaload, 1) := by decide +kernel
theorem dX10_isWordAt_93 : decode cX10_isWordAt 93 = .ok (.iload 4, 2) := by decide +kernel
theorem dX10_isWordAt_95 : decode cX10_isWordAt 95 = .ok (.if_icmp .ne 7, 3) := by decide +kernel
theorem dX10_isWordAt_98 : decode cX10_isWordAt 98 = .ok (.iconst 1, 1) := by decide +kernel
theorem dX10_isWordAt_99 : decode cX10_isWordAt 99 = .ok (.goto 4, 3) := by decide +kernel
theorem dX10_isWordAt_102 : decode cX10_isWordAt 102 = .ok (.iconst 0, 1) := by decide +kernel
theorem dX10_isWordAt_103 : decode cX10_isWordAt 103 = .ok (.ireturn, 1) := by decide +kernel
theorem dX10_isLong_0 : decode cX10_isLong 0 = .ok (.iload 6, 2) := by decide +kernel
theorem dX10_isLong_2 : decode cX10_isLong 2 = .ok (.ifCond .ne 7, 3) := by decide +kernel
theorem dX10_isLong_5 : decode cX10_isLong 5 = .ok (.iconst 5, 1) := by decide +kernel
theorem dX10_isLong_6 : decode cX10_isLong 6 = .ok (.goto 5, 3) := by decide +kernel
theorem dX10_isLong_9 : decode cX10_isLong 9 = .ok (.bipush 6, 2) := by decide +kernel
theorem dX10_isLong_11 : decode cX10_isLong 11 = .ok (.istore 7, 2) := by decide +kernel
theorem dX10_isLong_13 : decode cX10_isLong 13 = .ok (.aload_n 0, 1) := by decide +kernel
theorem dX10_isLong_14 : decode cX10_isLong 14 = .ok (.getfield 181, 3) := by decide +kernel
theorem dX10_isLong_17 : decode cX10_isLong 17 = .ok (.iconst 1, 1) := by decide +kernel
theorem dX10_isLong_18 : decode cX10_isLong 18 = .ok (.if_icmp .ne 117, 3) := by decide +kernel
theorem dX10_isLong_21 : decode cX10_isLong 21 = .ok (.aload_n 0, 1) := by decide +kernel
theorem dX10_isLong_22 : decode cX10_isLong 22 = .ok (.getfield 178, 3) := by decide +kernel
theorem dX10_isLong_25 : decode cX10_isLong 25 = .ok (.aload_n 0, 1) := by decide +kernel
theorem dX10_isLong_26 : decode cX10_isLong 26 = .ok (.getfield 184, 3) := by decide +kernel
theorem dX10_isLong_29 : decode cX10_isLong 29 = .ok (.isub, 1) := by decide +kernel
theorem dX10_isLong_30 : decode cX10_isLong 30 = .ok (.iload 7, 2) := by decide +kernel
theorem dX10_isLong_32 : decode cX10_isLong 32 = .ok (.if_icmp .ne 103, 3) := by decide +kernel
theorem dX10_isLong_35 : decode cX10_isLong 35 = .ok (.aload_n 0, 1) := by decide +kernel
theorem dX10_isLong_36 : decode cX10_isLong 36 = .ok (.getfield 43, 3) := by decide +kernel
theorem dX10_isLong_39 : decode cX10_isLong 39 = .ok (.aload_n 0, 1) := by decide +kernel
theorem dX10_isLong_40 : decode cX10_isLong 40 = .ok (.getfield 184, 3) := by decide +kernel
theorem dX10_isLong_43 : decode cX10_isLong 43 = .ok (.iaload, 1) := by decide +kernel
theorem dX10_isLong_44 : decode cX10_isLong 44 = .ok (.iload_n 1, 1) := by decide +kernel
theorem dX10_isLong_45 : decode cX10_isLong 45 = .ok (.if_icmp .ne 90, 3) := by decide +kernel
theorem dX10_isLong_48 : decode cX10_isLong 48 = .ok (.aload_n 0, 1) := by decide +kernel
theorem dX10_isLong_49 : decode cX10_isLong 49 = .ok (.getfield 43, 3) := by decide +kernel
theorem dX10_isLong_52 : decode cX10_isLong 52 = .ok (.aload_n 0, 1) := by decide +kernel
theorem dX10_isLong_53 : decode cX10_isLong 53 = .ok (.getfield 184, 3) := by decide +kernel
theorem dX10_isLong_56 : decode cX10_isLong 56 = .ok (.iconst 1, 1) := by decide +kernel
theorem dX10_isLong_57 : decode cX10_isLong 57 = .ok (.iadd, 1) := by decide +kernel
theorem dX10_isLong_58 : decode cX10_isLong 58 = .ok (.iaload, 1) := by decide +kernel
theorem dX10_isLong_59 : decode cX10_isLong 59 = .ok (.iload_n 2, 1) := by decide +kernel
theorem dX10_isLong_60 : decode cX10_isLong 60 = .ok (.if_icmp .ne 75, 3) := by decide +kernel
theorem dX10_isLong_63 : decode cX10_isLong 63 = .ok (.aload_n 0, 1) := by decide +kernel
theorem dX10_isLong_64 : decode cX10_isLong 64 = .ok (.getfield 43, 3) := by decide +kernel
theorem dX10_isLong_67 : decode cX10_isLong 67 = .ok (.aload_n 0, 1) := by decide +kernel
theorem dX10_isLong_68 : decode cX10_isLong 68 = .ok (.getfield 184, 3) := by decide +kernel
theorem dX10_isLong_71 : decode cX10_isLong 71 = .ok (.iconst 2, 1) := by decide +kernel
theorem dX10_isLong_72 : decode cX10_isLong 72 = .ok (.iadd, 1) := by decide +kernel
theorem dX10_isLong_73 : decode cX10_isLong 73 = .ok (.iaload, 1) := by decide +kernel
theorem dX10_isLong_74 : decode cX10_isLong 74 = .ok (.iload_n 3, 1) := by decide +kernel
theorem dX10_isLong_75 : decode cX10_isLong 75 = .ok (.if_icmp .ne 60, 3) := by decide +kernel
theorem dX10_isLong_78 : decode cX10_isLong 78 = .ok (.aload_n 0, 1) := by decide +kernel
theorem dX10_isLong_79 : decode cX10_isLong 79 = .ok (.getfield 43, 3) := by decide +kernel
theorem dX10_isLong_82 : decode cX10_isLong 82 = .ok (.aload_n 0, 1) := by decide +kernel
theorem dX10_isLong_83 : decode cX10_isLong 83 = .ok (.getfield 184, 3) := by decide +kernel
theorem dX10_isLong_86 : decode cX10_isLong 86 = .ok (.iconst 3, 1) := by decide +kernel
theorem dX10_isLong_87 : decode cX10_isLong 87 = .ok (.iadd, 1) := by decide +kernel
theorem dX10_isLong_88 : decode cX10_isLong 88 = .ok (.iaload, 1) := by decide +kernel
theorem dX10_isLong_89 : decode cX10_isLong 89 = .ok (.iload 4, 2) := by decide +kernel
theorem dX10_isLong_91 : decode cX10_isLong 91 = .ok (.if_icmp .ne 44, 3) := by decide +kernel
theorem dX10_isLong_94 : decode cX10_isLong 94 = .ok (.aload_n 0, 1) := by decide +kernel
theorem dX10_isLong_95 : decode cX10_isLong 95 = .ok (.getfield 43, 3) := by decide +kernel
theorem dX10_isLong_98 : decode cX10_isLong 98 = .ok (.aload_n 0, 1) := by decide +kernel
theorem dX10_isLong_99 : decode cX10_isLong 99 = .ok (.getfield 184, 3) := by decide +kernel
theorem dX10_isLong_102 : decode cX10_isLong 102 = .ok (.iconst 4, 1) := by decide +kernel
theorem dX10_isLong_103 : decode cX10_isLong 103 = .ok (.iadd, 1) := by decide +kernel
theorem dX10_isLong_104 : decode cX10_isLong 104 = .ok (.iaload, 1) := by decide +kernel
theorem dX10_isLong_105 : decode cX10_isLong 105 = .ok (.iload 5, 2) := by decide +kernel
theorem dX10_isLong_107 : decode cX10_isLong 107 = .ok (.if_icmp .ne 28, 3) := by decide +kernel
theorem dX10_isLong_110 : decode cX10_isLong 110 = .ok (.iload 6, 2) := by decide +kernel
theorem dX10_isLong_112 : decode cX10_isLong 112 = .ok (.ifCond .eq 19, 3) := by decide +kernel
theorem dX10_isLong_115 : decode cX10_isLong 115 = .ok (.aload_n 0, 1) := by decide +kernel
theorem dX10_isLong_116 : decode cX10_isLong 116 = .ok (.getfield 43, 3) := by decide +kernel
theorem dX10_isLong_119 : decode cX10_isLong 119 = .ok (.aload_n 0, 1) := by decide +kernel
theorem dX10_isLong_120 : decode cX10_isLong 120 = .ok (.getfield 184, 3) := by decide +kernel
theorem dX10_isLong_123 : decode cX10_isLong 123 = .ok (.iconst 5, 1) := by decide +kernel
theorem dX10_isLong_124 : decode cX10_isLong 124 = .ok (.iadd, 1) := by decide +kernel
theorem dX10_isLong_125 : decode cX10_isLong 125 = .ok (.iaload, 1) := by decide +kernel
theorem dX10_isLong_126 : decode cX10_isLong 126 = .ok (.iload 6, 2) := by decide +kernel
theorem dX10_isLong_128 : decode cX10_isLong 128 = .ok (.if_icmp .ne 7, 3) := by decide +kernel
theorem dX10_isLong_131 : decode cX10_isLong 131 = .ok (.iconst 1, 1) := by decide +kernel
theorem dX10_isLong_132 : decode cX10_isLong 132 = .ok (.goto 4, 3) := by decide +kernel
theorem dX10_isLong_135 : decode cX10_isLong 135 = .ok (.iconst 0, 1) := by decide +kernel
theorem dX10_isLong_136 : decode cX10_isLong 136 = .ok (.ireturn, 1) := by decide +kernel
theorem dX10_key_0 : decode cX10_key 0 = .ok (.aload_n 0, 1) := by decide +kernel
theorem dX10_key_1 : decode cX10_key 1 = .ok (.bipush 108, 2) := by decide +kernel
theorem dX10_key_3 : decode cX10_key 3 = .ok (.bipush 111, 2) := by decide +kernel
theorem dX10_key_5 : decode cX10_key 5 = .ok (.bipush 103, 2) := by decide +kernel
theorem dX10_key_7 : decode cX10_key 7 = .ok (.iconst 0, 1) := by decide +kernel
theorem dX10_key_8 : decode cX10_key 8 = .ok (.invokevirtual 199, 3) := by decide +kernel
theorem dX10_key_11 : decode cX10_key 11 = .ok (.ifCond .eq 7, 3) := by decide +kernel
theorem dX10_key_14 : decode cX10_key 14 = .ok (.iconst 0, 1) := by decide +kernel
theorem dX10_key_15 : decode cX10_key 15 = .ok (.goto 50, 3) := by decide +kernel
theorem dX10_key_18 : decode cX10_key 18 = .ok (.aload_n 0, 1) := by decide +kernel
theorem dX10_key_19 : decode cX10_key 19 = .ok (.bipush 110, 2) := by decide +kernel
theorem dX10_key_21 : decode cX10_key 21 = .ok (.bipush 101, 2) := by decide +kernel
theorem dX10_key_23 : decode cX10_key 23 = .ok (.bipush 101, 2) := by decide +kernel
theorem dX10_key_25 : decode cX10_key 25 = .ok (.bipush 100, 2) := by decide +kernel
theorem dX10_key_27 : decode cX10_key 27 = .ok (.bipush 108, 2) := by decide +kernel
theorem dX10_key_29 : decode cX10_key 29 = .ok (.bipush 101, 2) := by decide +kernel
theorem dX10_key_31 : decode cX10_key 31 = .ok (.invokevirtual 203, 3) := by decide +kernel
theorem dX10_key_34 : decode cX10_key 34 = .ok (.ifCond .eq 7, 3) := by decide +kernel
theorem dX10_key_37 : decode cX10_key 37 = .ok (.iconst 3, 1) := by decide +kernel
theorem dX10_key_38 : decode cX10_key 38 = .ok (.goto 27, 3) := by decide +kernel
theorem dX10_key_41 : decode cX10_key 41 = .ok (.aload_n 0, 1) := by decide +kernel
theorem dX10_key_42 : decode cX10_key 42 = .ok (.bipush 119, 2) := by decide +kernel
theorem dX10_key_44 : decode cX10_key 44 = .ok (.bipush 97, 2) := by decide +kernel
theorem dX10_key_46 : decode cX10_key 46 = .ok (.bipush 116, 2) := by decide +kernel
theorem dX10_key_48 : decode cX10_key 48 = .ok (.bipush 99, 2) := by decide +kernel
theorem dX10_key_50 : decode cX10_key 50 = .ok (.bipush 104, 2) := by decide +kernel
theorem dX10_key_52 : decode cX10_key 52 = .ok (.iconst 0, 1) := by decide +kernel
theorem dX10_key_53 : decode cX10_key 53 = .ok (.invokevirtual 203, 3) := by decide +kernel
theorem dX10_key_56 : decode cX10_key 56 = .ok (.ifCond .eq 8, 3) := by decide +kernel
theorem dX10_key_59 : decode cX10_key 59 = .ok (.bipush 6, 2) := by decide +kernel
theorem dX10_key_61 : decode cX10_key 61 = .ok (.goto 4, 3) := by decide +kernel
theorem dX10_key_64 : decode cX10_key 64 = .ok (.iconst (-1), 1) := by decide +kernel
theorem dX10_key_65 : decode cX10_key 65 = .ok (.istore_n 1, 1) := by decide +kernel
theorem dX10_key_66 : decode cX10_key 66 = .ok (.iload_n 1, 1) := by decide +kernel
theorem dX10_key_67 : decode cX10_key 67 = .ok (.ifCond .ge 5, 3) := by decide +kernel
theorem dX10_key_70 : decode cX10_key 70 = .ok (.iconst (-1), 1) := by decide +kernel
theorem dX10_key_71 : decode cX10_key 71 = .ok (.ireturn, 1) := by decide +kernel
theorem dX10_key_72 : decode cX10_key 72 = .ok (.aload_n 0, 1) := by decide +kernel
theorem dX10_key_73 : decode cX10_key 73 = .ok (.invokevirtual 207, 3) := by decide +kernel
theorem dX10_key_76 : decode cX10_key 76 = .ok (.aload_n 0, 1) := by decide +kernel
theorem dX10_key_77 : decode cX10_key 77 = .ok (.getfield 181, 3) := by decide +kernel
theorem dX10_key_80 : decode cX10_key 80 = .ok (.iconst 2, 1) := by decide +kernel
theorem dX10_key_81 : decode cX10_key 81 = .ok (.if_icmp .ne 20, 3) := by decide +kernel
theorem dX10_key_84 : decode cX10_key 84 = .ok (.aload_n 0, 1) := by decide +kernel
theorem dX10_key_85 : decode cX10_key 85 = .ok (.getfield 196, 3) := by decide +kernel
theorem dX10_key_88 : decode cX10_key 88 = .ok (.iconst 3, 1) := by decide +kernel
theorem dX10_key_89 : decode cX10_key 89 = .ok (.if_icmp .ge 12, 3) := by decide +kernel
theorem dX10_key_92 : decode cX10_key 92 = .ok (.iload_n 1, 1) := by decide +kernel
theorem dX10_key_93 : decode cX10_key 93 = .ok (.aload_n 0, 1) := by decide +kernel
theorem dX10_key_94 : decode cX10_key 94 = .ok (.getfield 196, 3) := by decide +kernel
theorem dX10_key_97 : decode cX10_key 97 = .ok (.iadd, 1) := by decide +kernel
theorem dX10_key_98 : decode cX10_key 98 = .ok (.goto 4, 3) := by decide +kernel
theorem dX10_key_101 : decode cX10_key 101 = .ok (.iconst (-1), 1) := by decide +kernel
theorem dX10_key_102 : decode cX10_key 102 = .ok (.ireturn, 1) := by decide +kernel
theorem dX10_isName_0 : decode cX10_isName 0 = .ok (.iload_n 1, 1) := by decide +kernel
theorem dX10_isName_1 : decode cX10_isName 1 = .ok (.bipush 100, 2) := by decide +kernel
theorem dX10_isName_3 : decode cX10_isName 3 = .ok (.if_icmp .eq 22, 3) := by decide +kernel
theorem dX10_isName_6 : decode cX10_isName 6 = .ok (.iload_n 1, 1) := by decide +kernel
theorem dX10_isName_7 : decode cX10_isName 7 = .ok (.bipush 97, 2) := by decide +kernel
theorem dX10_isName_9 : decode cX10_isName 9 = .ok (.if_icmp .eq 16, 3) := by decide +kernel
theorem dX10_isName_12 : decode cX10_isName 12 = .ok (.iload_n 1, 1) := by decide +kernel
theorem dX10_isName_13 : decode cX10_isName 13 = .ok (.bipush 111, 2) := by decide +kernel
theorem dX10_isName_15 : decode cX10_isName 15 = .ok (.if_icmp .ne 14, 3) := by decide +kernel
theorem dX10_isName_18 : decode cX10_isName 18 = .ok (.iload_n 0, 1) := by decide +kernel
theorem dX10_isName_19 : decode cX10_isName 19 = .ok (.iconst 3, 1) := by decide +kernel
theorem dX10_isName_20 : decode cX10_isName 20 = .ok (.idiv, 1) := by decide +kernel
theorem dX10_isName_21 : decode cX10_isName 21 = .ok (.iconst 1, 1) := by decide +kernel
theorem dX10_isName_22 : decode cX10_isName 22 = .ok (.if_icmp .ne 7, 3) := by decide +kernel
theorem dX10_isName_25 : decode cX10_isName 25 = .ok (.iconst 1, 1) := by decide +kernel
theorem dX10_isName_26 : decode cX10_isName 26 = .ok (.goto 4, 3) := by decide +kernel
theorem dX10_isName_29 : decode cX10_isName 29 = .ok (.iconst 0, 1) := by decide +kernel
theorem dX10_isName_30 : decode cX10_isName 30 = .ok (.ireturn, 1) := by decide +kernel
theorem dX10_step_0 : decode cX10_step 0 = .ok (.aload_n 0, 1) := by decide +kernel
theorem dX10_step_1 : decode cX10_step 1 = .ok (.getfield 7, 3) := by decide +kernel
theorem dX10_step_4 : decode cX10_step 4 = .ok (.aload_n 0, 1) := by decide +kernel
theorem dX10_step_5 : decode cX10_step 5 = .ok (.getfield 210, 3) := by decide +kernel
theorem dX10_step_8 : decode cX10_step 8 = .ok (.iconst 2, 1) := by decide +kernel
theorem dX10_step_9 : decode cX10_step 9 = .ok (.aload_n 0, 1) := by decide +kernel
theorem dX10_step_10 : decode cX10_step 10 = .ok (.getfield 213, 3) := by decide +kernel
theorem dX10_step_13 : decode cX10_step 13 = .ok (.imul, 1) := by decide +kernel
theorem dX10_step_14 : decode cX10_step 14 = .ok (.iadd, 1) := by decide +kernel
theorem dX10_step_15 : decode cX10_step 15 = .ok (.iload_n 1, 1) := by decide +kernel
theorem dX10_step_16 : decode cX10_step 16 = .ok (.iastore, 1) := by decide +kernel
theorem dX10_step_17 : decode cX10_step 17 = .ok (.aload_n 0, 1) := by decide +kernel
theorem dX10_step_18 : decode cX10_step 18 = .ok (.getfield 7, 3) := by decide +kernel
theorem dX10_step_21 : decode cX10_step 21 = .ok (.aload_n 0, 1) := by decide +kernel
theorem dX10_step_22 : decode cX10_step 22 = .ok (.getfield 210, 3) := by decide +kernel
theorem dX10_step_25 : decode cX10_step 25 = .ok (.iconst 2, 1) := by decide +kernel
theorem dX10_step_26 : decode cX10_step 26 = .ok (.aload_n 0, 1) := by decide +kernel
theorem dX10_step_27 : decode cX10_step 27 = .ok (.getfield 213, 3) := by decide +kernel
theorem dX10_step_30 : decode cX10_step 30 = .ok (.imul, 1) := by decide +kernel
theorem dX10_step_31 : decode cX10_step 31 = .ok (.iadd, 1) := by decide +kernel
theorem dX10_step_32 : decode cX10_step 32 = .ok (.iconst 1, 1) := by decide +kernel
theorem dX10_step_33 : decode cX10_step 33 = .ok (.iadd, 1) := by decide +kernel
theorem dX10_step_34 : decode cX10_step 34 = .ok (.iload_n 2, 1) := by decide +kernel
theorem dX10_step_35 : decode cX10_step 35 = .ok (.iastore, 1) := by decide +kernel
theorem dX10_step_36 : decode cX10_step 36 = .ok (.aload_n 0, 1) := by decide +kernel
theorem dX10_step_37 : decode cX10_step 37 = .ok (.dup, 1) := by decide +kernel
theorem dX10_step_38 : decode cX10_step 38 = .ok (.getfield 213, 3) := by decide +kernel
theorem dX10_step_41 : decode cX10_step 41 = .ok (.iconst 1, 1) := by decide +kernel
theorem dX10_step_42 : decode cX10_step 42 = .ok (.iadd, 1) := by decide +kernel
theorem dX10_step_43 : decode cX10_step 43 = .ok (.putfield 213, 3) := by decide +kernel
theorem dX10_step_46 : decode cX10_step 46 = .ok (.return_, 1) := by decide +kernel
theorem dX10_either_0 : decode cX10_either 0 = .ok (.aload_n 0, 1) := by decide +kernel
theorem dX10_either_1 : decode cX10_either 1 = .ok (.iload_n 1, 1) := by decide +kernel
theorem dX10_either_2 : decode cX10_either 2 = .ok (.invokevirtual 216, 3) := by decide +kernel
theorem dX10_either_5 : decode cX10_either 5 = .ok (.ifCond .ne 5, 3) := by decide +kernel
theorem dX10_either_8 : decode cX10_either 8 = .ok (.iconst 0, 1) := by decide +kernel
theorem dX10_either_9 : decode cX10_either 9 = .ok (.ireturn, 1) := by decide +kernel
theorem dX10_either_10 : decode cX10_either 10 = .ok (.aload_n 0, 1) := by decide +kernel
theorem dX10_either_11 : decode cX10_either 11 = .ok (.bipush 124, 2) := by decide +kernel
theorem dX10_either_13 : decode cX10_either 13 = .ok (.invokevirtual 219, 3) := by decide +kernel
theorem dX10_either_16 : decode cX10_either 16 = .ok (.ifCond .eq 27, 3) := by decide +kernel
theorem dX10_either_19 : decode cX10_either 19 = .ok (.aload_n 0, 1) := by decide +kernel
theorem dX10_either_20 : decode cX10_either 20 = .ok (.invokevirtual 207, 3) := by decide +kernel
theorem dX10_either_23 : decode cX10_either 23 = .ok (.aload_n 0, 1) := by decide +kernel
theorem dX10_either_24 : decode cX10_either 24 = .ok (.iload_n 1, 1) := by decide +kernel
theorem dX10_either_25 : decode cX10_either 25 = .ok (.invokevirtual 216, 3) := by decide +kernel
theorem dX10_either_28 : decode cX10_either 28 = .ok (.ifCond .ne 5, 3) := by decide +kernel
theorem dX10_either_31 : decode cX10_either 31 = .ok (.iconst 0, 1) := by decide +kernel
theorem dX10_either_32 : decode cX10_either 32 = .ok (.ireturn, 1) := by decide +kernel
theorem dX10_either_33 : decode cX10_either 33 = .ok (.aload_n 0, 1) := by decide +kernel
theorem dX10_either_34 : decode cX10_either 34 = .ok (.iconst 2, 1) := by decide +kernel
theorem dX10_either_35 : decode cX10_either 35 = .ok (.bipush 124, 2) := by decide +kernel
theorem dX10_either_37 : decode cX10_either 37 = .ok (.invokevirtual 222, 3) := by decide +kernel
theorem dX10_either_40 : decode cX10_either 40 = .ok (.goto (-30), 3) := by decide +kernel
theorem dX10_either_43 : decode cX10_either 43 = .ok (.iconst 1, 1) := by decide +kernel
theorem dX10_either_44 : decode cX10_either 44 = .ok (.ireturn, 1) := by decide +kernel
theorem dX10_both_0 : decode cX10_both 0 = .ok (.aload_n 0, 1) := by decide +kernel
theorem dX10_both_1 : decode cX10_both 1 = .ok (.iload_n 1, 1) := by decide +kernel
theorem dX10_both_2 : decode cX10_both 2 = .ok (.invokevirtual 226, 3) := by decide +kernel
theorem dX10_both_5 : decode cX10_both 5 = .ok (.ifCond .ne 5, 3) := by decide +kernel
theorem dX10_both_8 : decode cX10_both 8 = .ok (.iconst 0, 1) := by decide +kernel
theorem dX10_both_9 : decode cX10_both 9 = .ok (.ireturn, 1) := by decide +kernel
theorem dX10_both_10 : decode cX10_both 10 = .ok (.aload_n 0, 1) := by decide +kernel
theorem dX10_both_11 : decode cX10_both 11 = .ok (.bipush 38, 2) := by decide +kernel
theorem dX10_both_13 : decode cX10_both 13 = .ok (.invokevirtual 219, 3) := by decide +kernel
theorem dX10_both_16 : decode cX10_both 16 = .ok (.ifCond .eq 27, 3) := by decide +kernel
theorem dX10_both_19 : decode cX10_both 19 = .ok (.aload_n 0, 1) := by decide +kernel
theorem dX10_both_20 : decode cX10_both 20 = .ok (.invokevirtual 207, 3) := by decide +kernel
theorem dX10_both_23 : decode cX10_both 23 = .ok (.aload_n 0, 1) := by decide +kernel
theorem dX10_both_24 : decode cX10_both 24 = .ok (.iload_n 1, 1) := by decide +kernel
theorem dX10_both_25 : decode cX10_both 25 = .ok (.invokevirtual 226, 3) := by decide +kernel
theorem dX10_both_28 : decode cX10_both 28 = .ok (.ifCond .ne 5, 3) := by decide +kernel
theorem dX10_both_31 : decode cX10_both 31 = .ok (.iconst 0, 1) := by decide +kernel
theorem dX10_both_32 : decode cX10_both 32 = .ok (.ireturn, 1) := by decide +kernel
theorem dX10_both_33 : decode cX10_both 33 = .ok (.aload_n 0, 1) := by decide +kernel
theorem dX10_both_34 : decode cX10_both 34 = .ok (.iconst 2, 1) := by decide +kernel
theorem dX10_both_35 : decode cX10_both 35 = .ok (.bipush 38, 2) := by decide +kernel
theorem dX10_both_37 : decode cX10_both 37 = .ok (.invokevirtual 222, 3) := by decide +kernel
theorem dX10_both_40 : decode cX10_both 40 = .ok (.goto (-30), 3) := by decide +kernel
theorem dX10_both_43 : decode cX10_both 43 = .ok (.iconst 1, 1) := by decide +kernel
theorem dX10_both_44 : decode cX10_both 44 = .ok (.ireturn, 1) := by decide +kernel
theorem dX10_test_0 : decode cX10_test 0 = .ok (.aload_n 0, 1) := by decide +kernel
theorem dX10_test_1 : decode cX10_test 1 = .ok (.iload_n 1, 1) := by decide +kernel
theorem dX10_test_2 : decode cX10_test 2 = .ok (.invokevirtual 229, 3) := by decide +kernel
theorem dX10_test_5 : decode cX10_test 5 = .ok (.ifCond .ne 5, 3) := by decide +kernel
theorem dX10_test_8 : decode cX10_test 8 = .ok (.iconst 0, 1) := by decide +kernel
theorem dX10_test_9 : decode cX10_test 9 = .ok (.ireturn, 1) := by decide +kernel
theorem dX10_test_10 : decode cX10_test 10 = .ok (.aload_n 0, 1) := by decide +kernel
theorem dX10_test_11 : decode cX10_test 11 = .ok (.bipush 60, 2) := by decide +kernel
theorem dX10_test_13 : decode cX10_test 13 = .ok (.invokevirtual 219, 3) := by decide +kernel
theorem dX10_test_16 : decode cX10_test 16 = .ok (.ifCond .ne 21, 3) := by decide +kernel
theorem dX10_test_19 : decode cX10_test 19 = .ok (.aload_n 0, 1) := by decide +kernel
theorem dX10_test_20 : decode cX10_test 20 = .ok (.bipush 61, 2) := by decide +kernel
theorem dX10_test_22 : decode cX10_test 22 = .ok (.invokevirtual 219, 3) := by decide +kernel
theorem dX10_test_25 : decode cX10_test 25 = .ok (.ifCond .ne 12, 3) := by decide +kernel
theorem dX10_test_28 : decode cX10_test 28 = .ok (.aload_n 0, 1) := by decide +kernel
theorem dX10_test_29 : decode cX10_test 29 = .ok (.bipush 62, 2) := by decide +kernel
theorem dX10_test_31 : decode cX10_test 31 = .ok (.invokevirtual 219, 3) := by decide +kernel
theorem dX10_test_34 : decode cX10_test 34 = .ok (.ifCond .eq 28, 3) := by decide +kernel
theorem dX10_test_37 : decode cX10_test 37 = .ok (.aload_n 0, 1) := by decide +kernel
theorem dX10_test_38 : decode cX10_test 38 = .ok (.getfield 190, 3) := by decide +kernel
theorem dX10_test_41 : decode cX10_test 41 = .ok (.istore_n 2, 1) := by decide +kernel
theorem dX10_test_42 : decode cX10_test 42 = .ok (.aload_n 0, 1) := by decide +kernel
theorem dX10_test_43 : decode cX10_test 43 = .ok (.invokevirtual 207, 3) := by decide +kernel
theorem dX10_test_46 : decode cX10_test 46 = .ok (.aload_n 0, 1) := by decide +kernel
theorem dX10_test_47 : decode cX10_test 47 = .ok (.iload_n 1, 1) := by decide +kernel
theorem dX10_test_48 : decode cX10_test 48 = .ok (.invokevirtual 229, 3) := by decide +kernel
theorem dX10_test_51 : decode cX10_test 51 = .ok (.ifCond .ne 5, 3) := by decide +kernel
theorem dX10_test_54 : decode cX10_test 54 = .ok (.iconst 0, 1) := by decide +kernel
theorem dX10_test_55 : decode cX10_test 55 = .ok (.ireturn, 1) := by decide +kernel
theorem dX10_test_56 : decode cX10_test 56 = .ok (.aload_n 0, 1) := by decide +kernel
theorem dX10_test_57 : decode cX10_test 57 = .ok (.iconst 2, 1) := by decide +kernel
theorem dX10_test_58 : decode cX10_test 58 = .ok (.iload_n 2, 1) := by decide +kernel
theorem dX10_test_59 : decode cX10_test 59 = .ok (.invokevirtual 222, 3) := by decide +kernel
theorem dX10_test_62 : decode cX10_test 62 = .ok (.iconst 1, 1) := by decide +kernel
theorem dX10_test_63 : decode cX10_test 63 = .ok (.ireturn, 1) := by decide +kernel
theorem dX10_sum_0 : decode cX10_sum 0 = .ok (.aload_n 0, 1) := by decide +kernel
theorem dX10_sum_1 : decode cX10_sum 1 = .ok (.iload_n 1, 1) := by decide +kernel
theorem dX10_sum_2 : decode cX10_sum 2 = .ok (.invokevirtual 232, 3) := by decide +kernel
theorem dX10_sum_5 : decode cX10_sum 5 = .ok (.ifCond .ne 5, 3) := by decide +kernel
theorem dX10_sum_8 : decode cX10_sum 8 = .ok (.iconst 0, 1) := by decide +kernel
theorem dX10_sum_9 : decode cX10_sum 9 = .ok (.ireturn, 1) := by decide +kernel
theorem dX10_sum_10 : decode cX10_sum 10 = .ok (.aload_n 0, 1) := by decide +kernel
theorem dX10_sum_11 : decode cX10_sum 11 = .ok (.bipush 43, 2) := by decide +kernel
theorem dX10_sum_13 : decode cX10_sum 13 = .ok (.invokevirtual 219, 3) := by decide +kernel
theorem dX10_sum_16 : decode cX10_sum 16 = .ok (.ifCond .ne 12, 3) := by decide +kernel
theorem dX10_sum_19 : decode cX10_sum 19 = .ok (.aload_n 0, 1) := by decide +kernel
theorem dX10_sum_20 : decode cX10_sum 20 = .ok (.bipush 45, 2) := by decide +kernel
theorem dX10_sum_22 : decode cX10_sum 22 = .ok (.invokevirtual 219, 3) := by decide +kernel
theorem dX10_sum_25 : decode cX10_sum 25 = .ok (.ifCond .eq 31, 3) := by decide +kernel
theorem dX10_sum_28 : decode cX10_sum 28 = .ok (.aload_n 0, 1) := by decide +kernel
theorem dX10_sum_29 : decode cX10_sum 29 = .ok (.getfield 190, 3) := by decide +kernel
theorem dX10_sum_32 : decode cX10_sum 32 = .ok (.istore_n 2, 1) := by decide +kernel
theorem dX10_sum_33 : decode cX10_sum 33 = .ok (.aload_n 0, 1) := by decide +kernel
theorem dX10_sum_34 : decode cX10_sum 34 = .ok (.invokevirtual 207, 3) := by decide +kernel
theorem dX10_sum_37 : decode cX10_sum 37 = .ok (.aload_n 0, 1) := by decide +kernel
theorem dX10_sum_38 : decode cX10_sum 38 = .ok (.iload_n 1, 1) := by decide +kernel
theorem dX10_sum_39 : decode cX10_sum 39 = .ok (.invokevirtual 232, 3) := by decide +kernel
theorem dX10_sum_42 : decode cX10_sum 42 = .ok (.ifCond .ne 5, 3) := by decide +kernel
theorem dX10_sum_45 : decode cX10_sum 45 = .ok (.iconst 0, 1) := by decide +kernel
theorem dX10_sum_46 : decode cX10_sum 46 = .ok (.ireturn, 1) := by decide +kernel
theorem dX10_sum_47 : decode cX10_sum 47 = .ok (.aload_n 0, 1) := by decide +kernel
theorem dX10_sum_48 : decode cX10_sum 48 = .ok (.iconst 2, 1) := by decide +kernel
theorem dX10_sum_49 : decode cX10_sum 49 = .ok (.iload_n 2, 1) := by decide +kernel
theorem dX10_sum_50 : decode cX10_sum 50 = .ok (.invokevirtual 222, 3) := by decide +kernel
theorem dX10_sum_53 : decode cX10_sum 53 = .ok (.goto (-43), 3) := by decide +kernel
theorem dX10_sum_56 : decode cX10_sum 56 = .ok (.iconst 1, 1) := by decide +kernel
theorem dX10_sum_57 : decode cX10_sum 57 = .ok (.ireturn, 1) := by decide +kernel
theorem dX10_term_0 : decode cX10_term 0 = .ok (.aload_n 0, 1) := by decide +kernel
theorem dX10_term_1 : decode cX10_term 1 = .ok (.iload_n 1, 1) := by decide +kernel
theorem dX10_term_2 : decode cX10_term 2 = .ok (.invokevirtual 235, 3) := by decide +kernel
theorem dX10_term_5 : decode cX10_term 5 = .ok (.ifCond .ne 5, 3) := by decide +kernel
theorem dX10_term_8 : decode cX10_term 8 = .ok (.iconst 0, 1) := by decide +kernel
theorem dX10_term_9 : decode cX10_term 9 = .ok (.ireturn, 1) := by decide +kernel
theorem dX10_term_10 : decode cX10_term 10 = .ok (.aload_n 0, 1) := by decide +kernel
theorem dX10_term_11 : decode cX10_term 11 = .ok (.bipush 42, 2) := by decide +kernel
theorem dX10_term_13 : decode cX10_term 13 = .ok (.invokevirtual 219, 3) := by decide +kernel
theorem dX10_term_16 : decode cX10_term 16 = .ok (.ifCond .ne 12, 3) := by decide +kernel
theorem dX10_term_19 : decode cX10_term 19 = .ok (.aload_n 0, 1) := by decide +kernel
theorem dX10_term_20 : decode cX10_term 20 = .ok (.bipush 47, 2) := by decide +kernel
theorem dX10_term_22 : decode cX10_term 22 = .ok (.invokevirtual 219, 3) := by decide +kernel
theorem dX10_term_25 : decode cX10_term 25 = .ok (.ifCond .eq 31, 3) := by decide +kernel
theorem dX10_term_28 : decode cX10_term 28 = .ok (.aload_n 0, 1) := by decide +kernel
theorem dX10_term_29 : decode cX10_term 29 = .ok (.getfield 190, 3) := by decide +kernel
theorem dX10_term_32 : decode cX10_term 32 = .ok (.istore_n 2, 1) := by decide +kernel
theorem dX10_term_33 : decode cX10_term 33 = .ok (.aload_n 0, 1) := by decide +kernel
theorem dX10_term_34 : decode cX10_term 34 = .ok (.invokevirtual 207, 3) := by decide +kernel
theorem dX10_term_37 : decode cX10_term 37 = .ok (.aload_n 0, 1) := by decide +kernel
theorem dX10_term_38 : decode cX10_term 38 = .ok (.iload_n 1, 1) := by decide +kernel
theorem dX10_term_39 : decode cX10_term 39 = .ok (.invokevirtual 235, 3) := by decide +kernel
theorem dX10_term_42 : decode cX10_term 42 = .ok (.ifCond .ne 5, 3) := by decide +kernel
theorem dX10_term_45 : decode cX10_term 45 = .ok (.iconst 0, 1) := by decide +kernel
theorem dX10_term_46 : decode cX10_term 46 = .ok (.ireturn, 1) := by decide +kernel
theorem dX10_term_47 : decode cX10_term 47 = .ok (.aload_n 0, 1) := by decide +kernel
theorem dX10_term_48 : decode cX10_term 48 = .ok (.iconst 2, 1) := by decide +kernel
theorem dX10_term_49 : decode cX10_term 49 = .ok (.iload_n 2, 1) := by decide +kernel
theorem dX10_term_50 : decode cX10_term 50 = .ok (.invokevirtual 222, 3) := by decide +kernel
theorem dX10_term_53 : decode cX10_term 53 = .ok (.goto (-43), 3) := by decide +kernel
theorem dX10_term_56 : decode cX10_term 56 = .ok (.iconst 1, 1) := by decide +kernel
theorem dX10_term_57 : decode cX10_term 57 = .ok (.ireturn, 1) := by decide +kernel
theorem dX10_part0_0 : decode cX10_part0 0 = .ok (.aload_n 0, 1) := by decide +kernel
theorem dX10_part0_1 : decode cX10_part0 1 = .ok (.getfield 181, 3) := by decide +kernel
theorem dX10_part0_4 : decode cX10_part0 4 = .ok (.iconst 2, 1) := by decide +kernel
theorem dX10_part0_5 : decode cX10_part0 5 = .ok (.if_icmp .ne 28, 3) := by decide +kernel
theorem dX10_part0_8 : decode cX10_part0 8 = .ok (.aload_n 0, 1) := by decide +kernel
theorem dX10_part0_9 : decode cX10_part0 9 = .ok (.iconst 0, 1) := by decide +kernel
theorem dX10_part0_10 : decode cX10_part0 10 = .ok (.aload_n 0, 1) := by decide +kernel
theorem dX10_part0_11 : decode cX10_part0 11 = .ok (.getfield 196, 3) := by decide +kernel
theorem dX10_part0_14 : decode cX10_part0 14 = .ok (.invokevirtual 222, 3) := by decide +kernel
theorem dX10_part0_17 : decode cX10_part0 17 = .ok (.aload_n 0, 1) := by decide +kernel
theorem dX10_part0_18 : decode cX10_part0 18 = .ok (.dup, 1) := by decide +kernel
theorem dX10_part0_19 : decode cX10_part0 19 = .ok (.getfield 238, 3) := by decide +kernel
theorem dX10_part0_22 : decode cX10_part0 22 = .ok (.iconst 1, 1) := by decide +kernel
theorem dX10_part0_23 : decode cX10_part0 23 = .ok (.iadd, 1) := by decide +kernel
theorem dX10_part0_24 : decode cX10_part0 24 = .ok (.putfield 238, 3) := by decide +kernel
theorem dX10_part0_27 : decode cX10_part0 27 = .ok (.aload_n 0, 1) := by decide +kernel
theorem dX10_part0_28 : decode cX10_part0 28 = .ok (.invokevirtual 207, 3) := by decide +kernel
theorem dX10_part0_31 : decode cX10_part0 31 = .ok (.iconst 1, 1) := by decide +kernel
theorem dX10_part0_32 : decode cX10_part0 32 = .ok (.ireturn, 1) := by decide +kernel
theorem dX10_part0_33 : decode cX10_part0 33 = .ok (.aload_n 0, 1) := by decide +kernel
theorem dX10_part0_34 : decode cX10_part0 34 = .ok (.getfield 181, 3) := by decide +kernel
theorem dX10_part0_37 : decode cX10_part0 37 = .ok (.iconst 1, 1) := by decide +kernel
theorem dX10_part0_38 : decode cX10_part0 38 = .ok (.if_icmp .ne 46, 3) := by decide +kernel
theorem dX10_part0_41 : decode cX10_part0 41 = .ok (.aload_n 0, 1) := by decide +kernel
theorem dX10_part0_42 : decode cX10_part0 42 = .ok (.getfield 190, 3) := by decide +kernel
theorem dX10_part0_45 : decode cX10_part0 45 = .ok (.ifCond .eq 39, 3) := by decide +kernel
theorem dX10_part0_48 : decode cX10_part0 48 = .ok (.iload_n 1, 1) := by decide +kernel
theorem dX10_part0_49 : decode cX10_part0 49 = .ok (.aload_n 0, 1) := by decide +kernel
theorem dX10_part0_50 : decode cX10_part0 50 = .ok (.getfield 190, 3) := by decide +kernel
theorem dX10_part0_53 : decode cX10_part0 53 = .ok (.invokestatic 241, 3) := by decide +kernel
theorem dX10_part0_56 : decode cX10_part0 56 = .ok (.ifCond .eq 28, 3) := by decide +kernel
theorem dX10_part0_59 : decode cX10_part0 59 = .ok (.aload_n 0, 1) := by decide +kernel
theorem dX10_part0_60 : decode cX10_part0 60 = .ok (.iconst 1, 1) := by decide +kernel
theorem dX10_part0_61 : decode cX10_part0 61 = .ok (.aload_n 0, 1) := by decide +kernel
theorem dX10_part0_62 : decode cX10_part0 62 = .ok (.getfield 190, 3) := by decide +kernel
theorem dX10_part0_65 : decode cX10_part0 65 = .ok (.invokevirtual 222, 3) := by decide +kernel
theorem dX10_part0_68 : decode cX10_part0 68 = .ok (.aload_n 0, 1) := by decide +kernel
theorem dX10_part0_69 : decode cX10_part0 69 = .ok (.dup, 1) := by decide +kernel
theorem dX10_part0_70 : decode cX10_part0 70 = .ok (.getfield 238, 3) := by decide +kernel
theorem dX10_part0_73 : decode cX10_part0 73 = .ok (.iconst 1, 1) := by decide +kernel
theorem dX10_part0_74 : decode cX10_part0 74 = .ok (.iadd, 1) := by decide +kernel
theorem dX10_part0_75 : decode cX10_part0 75 = .ok (.putfield 238, 3) := by decide +kernel
theorem dX10_part0_78 : decode cX10_part0 78 = .ok (.aload_n 0, 1) := by decide +kernel
theorem dX10_part0_79 : decode cX10_part0 79 = .ok (.invokevirtual 207, 3) := by decide +kernel
theorem dX10_part0_82 : decode cX10_part0 82 = .ok (.iconst 1, 1) := by decide +kernel
theorem dX10_part0_83 : decode cX10_part0 83 = .ok (.ireturn, 1) := by decide +kernel
theorem dX10_part0_84 : decode cX10_part0 84 = .ok (.aload_n 0, 1) := by decide +kernel
theorem dX10_part0_85 : decode cX10_part0 85 = .ok (.bipush 33, 2) := by decide +kernel
theorem dX10_part0_87 : decode cX10_part0 87 = .ok (.invokevirtual 219, 3) := by decide +kernel
theorem dX10_part0_90 : decode cX10_part0 90 = .ok (.ifCond .eq 55, 3) := by decide +kernel
theorem dX10_part0_93 : decode cX10_part0 93 = .ok (.aload_n 0, 1) := by decide +kernel
theorem dX10_part0_94 : decode cX10_part0 94 = .ok (.getfield 244, 3) := by decide +kernel
theorem dX10_part0_97 : decode cX10_part0 97 = .ok (.bipush 8, 2) := by decide +kernel
theorem dX10_part0_99 : decode cX10_part0 99 = .ok (.if_icmp .ge 46, 3) := by decide +kernel
theorem dX10_part0_102 : decode cX10_part0 102 = .ok (.aload_n 0, 1) := by decide +kernel
theorem dX10_part0_103 : decode cX10_part0 103 = .ok (.dup, 1) := by decide +kernel
theorem dX10_part0_104 : decode cX10_part0 104 = .ok (.getfield 244, 3) := by decide +kernel
theorem dX10_part0_107 : decode cX10_part0 107 = .ok (.iconst 1, 1) := by decide +kernel
theorem dX10_part0_108 : decode cX10_part0 108 = .ok (.iadd, 1) := by decide +kernel
theorem dX10_part0_109 : decode cX10_part0 109 = .ok (.putfield 244, 3) := by decide +kernel
theorem dX10_part0_112 : decode cX10_part0 112 = .ok (.aload_n 0, 1) := by decide +kernel
theorem dX10_part0_113 : decode cX10_part0 113 = .ok (.invokevirtual 207, 3) := by decide +kernel
theorem dX10_part0_116 : decode cX10_part0 116 = .ok (.aload_n 0, 1) := by decide +kernel
theorem dX10_part0_117 : decode cX10_part0 117 = .ok (.iload_n 1, 1) := by decide +kernel
theorem dX10_part0_118 : decode cX10_part0 118 = .ok (.invokevirtual 235, 3) := by decide +kernel
theorem dX10_part0_121 : decode cX10_part0 121 = .ok (.ifCond .ne 5, 3) := by decide +kernel
theorem dX10_part0_124 : decode cX10_part0 124 = .ok (.iconst 0, 1) := by decide +kernel
theorem dX10_part0_125 : decode cX10_part0 125 = .ok (.ireturn, 1) := by decide +kernel
theorem dX10_part0_126 : decode cX10_part0 126 = .ok (.aload_n 0, 1) := by decide +kernel
theorem dX10_part0_127 : decode cX10_part0 127 = .ok (.dup, 1) := by decide +kernel
theorem dX10_part0_128 : decode cX10_part0 128 = .ok (.getfield 244, 3) := by decide +kernel
theorem dX10_part0_131 : decode cX10_part0 131 = .ok (.iconst 1, 1) := by decide +kernel
theorem dX10_part0_132 : decode cX10_part0 132 = .ok (.isub, 1) := by decide +kernel
theorem dX10_part0_133 : decode cX10_part0 133 = .ok (.putfield 244, 3) := by decide +kernel
theorem dX10_part0_136 : decode cX10_part0 136 = .ok (.aload_n 0, 1) := by decide +kernel
theorem dX10_part0_137 : decode cX10_part0 137 = .ok (.iconst 2, 1) := by decide +kernel
theorem dX10_part0_138 : decode cX10_part0 138 = .ok (.bipush 33, 2) := by decide +kernel
theorem dX10_part0_140 : decode cX10_part0 140 = .ok (.invokevirtual 222, 3) := by decide +kernel
theorem dX10_part0_143 : decode cX10_part0 143 = .ok (.iconst 1, 1) := by decide +kernel
theorem dX10_part0_144 : decode cX10_part0 144 = .ok (.ireturn, 1) := by decide +kernel
theorem dX10_part0_145 : decode cX10_part0 145 = .ok (.aload_n 0, 1) := by decide +kernel
theorem dX10_part0_146 : decode cX10_part0 146 = .ok (.bipush 40, 2) := by decide +kernel
theorem dX10_part0_148 : decode cX10_part0 148 = .ok (.invokevirtual 219, 3) := by decide +kernel
theorem dX10_part0_151 : decode cX10_part0 151 = .ok (.ifCond .eq 12, 3) := by decide +kernel
theorem dX10_part0_154 : decode cX10_part0 154 = .ok (.aload_n 0, 1) := by decide +kernel
theorem dX10_part0_155 : decode cX10_part0 155 = .ok (.getfield 247, 3) := by decide +kernel
theorem dX10_part0_158 : decode cX10_part0 158 = .ok (.bipush 8, 2) := by decide +kernel
theorem dX10_part0_160 : decode cX10_part0 160 = .ok (.if_icmp .ne 5, 3) := by decide +kernel
theorem dX10_part0_163 : decode cX10_part0 163 = .ok (.iconst 0, 1) := by decide +kernel
theorem dX10_part0_164 : decode cX10_part0 164 = .ok (.ireturn, 1) := by decide +kernel
theorem dX10_part0_165 : decode cX10_part0 165 = .ok (.aload_n 0, 1) := by decide +kernel
theorem dX10_part0_166 : decode cX10_part0 166 = .ok (.dup, 1) := by decide +kernel
theorem dX10_part0_167 : decode cX10_part0 167 = .ok (.getfield 247, 3) := by decide +kernel
theorem dX10_part0_170 : decode cX10_part0 170 = .ok (.iconst 1, 1) := by decide +kernel
theorem dX10_part0_171 : decode cX10_part0 171 = .ok (.iadd, 1) := by decide +kernel
theorem dX10_part0_172 : decode cX10_part0 172 = .ok (.putfield 247, 3) := by decide +kernel
theorem dX10_part0_175 : decode cX10_part0 175 = .ok (.aload_n 0, 1) := by decide +kernel
theorem dX10_part0_176 : decode cX10_part0 176 = .ok (.invokevirtual 207, 3) := by decide +kernel
theorem dX10_part0_179 : decode cX10_part0 179 = .ok (.aload_n 0, 1) := by decide +kernel
theorem dX10_part0_180 : decode cX10_part0 180 = .ok (.iload_n 1, 1) := by decide +kernel
theorem dX10_part0_181 : decode cX10_part0 181 = .ok (.invokevirtual 250, 3) := by decide +kernel
theorem dX10_part0_184 : decode cX10_part0 184 = .ok (.ifCond .eq 12, 3) := by decide +kernel
theorem dX10_part0_187 : decode cX10_part0 187 = .ok (.aload_n 0, 1) := by decide +kernel
theorem dX10_part0_188 : decode cX10_part0 188 = .ok (.bipush 41, 2) := by decide +kernel
theorem dX10_part0_190 : decode cX10_part0 190 = .ok (.invokevirtual 219, 3) := by decide +kernel
theorem dX10_part0_193 : decode cX10_part0 193 = .ok (.ifCond .ne 5, 3) := by decide +kernel
theorem dX10_part0_196 : decode cX10_part0 196 = .ok (.iconst 0, 1) := by decide +kernel
theorem dX10_part0_197 : decode cX10_part0 197 = .ok (.ireturn, 1) := by decide +kernel
theorem dX10_part0_198 : decode cX10_part0 198 = .ok (.aload_n 0, 1) := by decide +kernel
theorem dX10_part0_199 : decode cX10_part0 199 = .ok (.dup, 1) := by decide +kernel
theorem dX10_part0_200 : decode cX10_part0 200 = .ok (.getfield 247, 3) := by decide +kernel
theorem dX10_part0_203 : decode cX10_part0 203 = .ok (.iconst 1, 1) := by decide +kernel
theorem dX10_part0_204 : decode cX10_part0 204 = .ok (.isub, 1) := by decide +kernel
theorem dX10_part0_205 : decode cX10_part0 205 = .ok (.putfield 247, 3) := by decide +kernel
theorem dX10_part0_208 : decode cX10_part0 208 = .ok (.aload_n 0, 1) := by decide +kernel
theorem dX10_part0_209 : decode cX10_part0 209 = .ok (.invokevirtual 207, 3) := by decide +kernel
theorem dX10_part0_212 : decode cX10_part0 212 = .ok (.iconst 1, 1) := by decide +kernel
theorem dX10_part0_213 : decode cX10_part0 213 = .ok (.ireturn, 1) := by decide +kernel
theorem dX10_parse_0 : decode cX10_parse 0 = .ok (.aload_n 0, 1) := by decide +kernel
theorem dX10_parse_1 : decode cX10_parse 1 = .ok (.iconst 0, 1) := by decide +kernel
theorem dX10_parse_2 : decode cX10_parse 2 = .ok (.putfield 178, 3) := by decide +kernel
theorem dX10_parse_5 : decode cX10_parse 5 = .ok (.aload_n 0, 1) := by decide +kernel
theorem dX10_parse_6 : decode cX10_parse 6 = .ok (.iconst 3, 1) := by decide +kernel
theorem dX10_parse_7 : decode cX10_parse 7 = .ok (.putfield 181, 3) := by decide +kernel
theorem dX10_parse_10 : decode cX10_parse 10 = .ok (.aload_n 0, 1) := by decide +kernel
theorem dX10_parse_11 : decode cX10_parse 11 = .ok (.iconst 0, 1) := by decide +kernel
theorem dX10_parse_12 : decode cX10_parse 12 = .ok (.putfield 247, 3) := by decide +kernel
theorem dX10_parse_15 : decode cX10_parse 15 = .ok (.aload_n 0, 1) := by decide +kernel
theorem dX10_parse_16 : decode cX10_parse 16 = .ok (.iconst 0, 1) := by decide +kernel
theorem dX10_parse_17 : decode cX10_parse 17 = .ok (.putfield 244, 3) := by decide +kernel
theorem dX10_parse_20 : decode cX10_parse 20 = .ok (.aload_n 0, 1) := by decide +kernel
theorem dX10_parse_21 : decode cX10_parse 21 = .ok (.iconst 0, 1) := by decide +kernel
theorem dX10_parse_22 : decode cX10_parse 22 = .ok (.putfield 213, 3) := by decide +kernel
theorem dX10_parse_25 : decode cX10_parse 25 = .ok (.aload_n 0, 1) := by decide +kernel
theorem dX10_parse_26 : decode cX10_parse 26 = .ok (.iconst 0, 1) := by decide +kernel
theorem dX10_parse_27 : decode cX10_parse 27 = .ok (.putfield 238, 3) := by decide +kernel
theorem dX10_parse_30 : decode cX10_parse 30 = .ok (.aload_n 0, 1) := by decide +kernel
theorem dX10_parse_31 : decode cX10_parse 31 = .ok (.aload_n 0, 1) := by decide +kernel
theorem dX10_parse_32 : decode cX10_parse 32 = .ok (.getfield 7, 3) := by decide +kernel
theorem dX10_parse_35 : decode cX10_parse 35 = .ok (.iconst 1, 1) := by decide +kernel
theorem dX10_parse_36 : decode cX10_parse 36 = .ok (.iaload, 1) := by decide +kernel
theorem dX10_parse_37 : decode cX10_parse 37 = .ok (.bipush 14, 2) := by decide +kernel
theorem dX10_parse_39 : decode cX10_parse 39 = .ok (.if_icmp .ge 18, 3) := by decide +kernel
theorem dX10_parse_42 : decode cX10_parse 42 = .ok (.aload_n 0, 1) := by decide +kernel
theorem dX10_parse_43 : decode cX10_parse 43 = .ok (.aload_n 0, 1) := by decide +kernel
theorem dX10_parse_44 : decode cX10_parse 44 = .ok (.getfield 7, 3) := by decide +kernel
theorem dX10_parse_47 : decode cX10_parse 47 = .ok (.iconst 1, 1) := by decide +kernel
theorem dX10_parse_48 : decode cX10_parse 48 = .ok (.iaload, 1) := by decide +kernel
theorem dX10_parse_49 : decode cX10_parse 49 = .ok (.invokevirtual 108, 3) := by decide +kernel
theorem dX10_parse_52 : decode cX10_parse 52 = .ok (.iconst 4, 1) := by decide +kernel
theorem dX10_parse_53 : decode cX10_parse 53 = .ok (.iadd, 1) := by decide +kernel
theorem dX10_parse_54 : decode cX10_parse 54 = .ok (.goto 6, 3) := by decide +kernel
theorem dX10_parse_57 : decode cX10_parse 57 = .ok (.sipush 3100, 3) := by decide +kernel
theorem dX10_parse_60 : decode cX10_parse 60 = .ok (.putfield 210, 3) := by decide +kernel
theorem dX10_parse_63 : decode cX10_parse 63 = .ok (.aload_n 0, 1) := by decide +kernel
theorem dX10_parse_64 : decode cX10_parse 64 = .ok (.invokevirtual 207, 3) := by decide +kernel
theorem dX10_parse_67 : decode cX10_parse 67 = .ok (.aload_n 0, 1) := by decide +kernel
theorem dX10_parse_68 : decode cX10_parse 68 = .ok (.invokevirtual 253, 3) := by decide +kernel
theorem dX10_parse_71 : decode cX10_parse 71 = .ok (.istore_n 1, 1) := by decide +kernel
theorem dX10_parse_72 : decode cX10_parse 72 = .ok (.iload_n 1, 1) := by decide +kernel
theorem dX10_parse_73 : decode cX10_parse 73 = .ok (.ifCond .lt 7, 3) := by decide +kernel
theorem dX10_parse_76 : decode cX10_parse 76 = .ok (.iconst 1, 1) := by decide +kernel
theorem dX10_parse_77 : decode cX10_parse 77 = .ok (.goto 4, 3) := by decide +kernel
theorem dX10_parse_80 : decode cX10_parse 80 = .ok (.iconst 0, 1) := by decide +kernel
theorem dX10_parse_81 : decode cX10_parse 81 = .ok (.istore_n 2, 1) := by decide +kernel
theorem dX10_parse_82 : decode cX10_parse 82 = .ok (.iload_n 2, 1) := by decide +kernel
theorem dX10_parse_83 : decode cX10_parse 83 = .ok (.ifCond .eq 28, 3) := by decide +kernel
theorem dX10_parse_86 : decode cX10_parse 86 = .ok (.aload_n 0, 1) := by decide +kernel
theorem dX10_parse_87 : decode cX10_parse 87 = .ok (.invokevirtual 207, 3) := by decide +kernel
theorem dX10_parse_90 : decode cX10_parse 90 = .ok (.aload_n 0, 1) := by decide +kernel
theorem dX10_parse_91 : decode cX10_parse 91 = .ok (.iload_n 1, 1) := by decide +kernel
theorem dX10_parse_92 : decode cX10_parse 92 = .ok (.invokevirtual 250, 3) := by decide +kernel
theorem dX10_parse_95 : decode cX10_parse 95 = .ok (.ifCond .eq 14, 3) := by decide +kernel
theorem dX10_parse_98 : decode cX10_parse 98 = .ok (.aload_n 0, 1) := by decide +kernel
theorem dX10_parse_99 : decode cX10_parse 99 = .ok (.getfield 181, 3) := by decide +kernel
theorem dX10_parse_102 : decode cX10_parse 102 = .ok (.ifCond .ne 7, 3) := by decide +kernel
theorem dX10_parse_105 : decode cX10_parse 105 = .ok (.iconst 1, 1) := by decide +kernel
theorem dX10_parse_106 : decode cX10_parse 106 = .ok (.goto 4, 3) := by decide +kernel
theorem dX10_parse_109 : decode cX10_parse 109 = .ok (.iconst 0, 1) := by decide +kernel
theorem dX10_parse_110 : decode cX10_parse 110 = .ok (.istore_n 2, 1) := by decide +kernel
theorem dX10_parse_111 : decode cX10_parse 111 = .ok (.aload_n 0, 1) := by decide +kernel
theorem dX10_parse_112 : decode cX10_parse 112 = .ok (.iconst 0, 1) := by decide +kernel
theorem dX10_parse_113 : decode cX10_parse 113 = .ok (.putfield 166, 3) := by decide +kernel
theorem dX10_parse_116 : decode cX10_parse 116 = .ok (.iload_n 2, 1) := by decide +kernel
theorem dX10_parse_117 : decode cX10_parse 117 = .ok (.ifCond .eq 7, 3) := by decide +kernel
theorem dX10_parse_120 : decode cX10_parse 120 = .ok (.iload_n 1, 1) := by decide +kernel
theorem dX10_parse_121 : decode cX10_parse 121 = .ok (.goto 4, 3) := by decide +kernel
theorem dX10_parse_124 : decode cX10_parse 124 = .ok (.iconst (-1), 1) := by decide +kernel
theorem dX10_parse_125 : decode cX10_parse 125 = .ok (.ireturn, 1) := by decide +kernel
theorem dX10_law_0 : decode cX10_law 0 = .ok (.aload_n 0, 1) := by decide +kernel
theorem dX10_law_1 : decode cX10_law 1 = .ok (.invokevirtual 257, 3) := by decide +kernel
theorem dX10_law_4 : decode cX10_law 4 = .ok (.istore_n 1, 1) := by decide +kernel
theorem dX10_law_5 : decode cX10_law 5 = .ok (.iload_n 1, 1) := by decide +kernel
theorem dX10_law_6 : decode cX10_law 6 = .ok (.ifCond .ge 11, 3) := by decide +kernel
theorem dX10_law_9 : decode cX10_law 9 = .ok (.bipush (-100), 2) := by decide +kernel
theorem dX10_law_11 : decode cX10_law 11 = .ok (.aload_n 0, 1) := by decide +kernel
theorem dX10_law_12 : decode cX10_law 12 = .ok (.getfield 184, 3) := by decide +kernel
theorem dX10_law_15 : decode cX10_law 15 = .ok (.isub, 1) := by decide +kernel
theorem dX10_law_16 : decode cX10_law 16 = .ok (.ireturn, 1) := by decide +kernel
theorem dX10_law_17 : decode cX10_law 17 = .ok (.aload_n 0, 1) := by decide +kernel
theorem dX10_law_18 : decode cX10_law 18 = .ok (.getfield 7, 3) := by decide +kernel
theorem dX10_law_21 : decode cX10_law 21 = .ok (.iconst 1, 1) := by decide +kernel
theorem dX10_law_22 : decode cX10_law 22 = .ok (.iaload, 1) := by decide +kernel
theorem dX10_law_23 : decode cX10_law 23 = .ok (.bipush 14, 2) := by decide +kernel
theorem dX10_law_25 : decode cX10_law 25 = .ok (.if_icmp .ne 6, 3) := by decide +kernel
theorem dX10_law_28 : decode cX10_law 28 = .ok (.ldc 103, 2) := by decide +kernel
theorem dX10_law_30 : decode cX10_law 30 = .ok (.ireturn, 1) := by decide +kernel
theorem dX10_law_31 : decode cX10_law 31 = .ok (.aload_n 0, 1) := by decide +kernel
theorem dX10_law_32 : decode cX10_law 32 = .ok (.aload_n 0, 1) := by decide +kernel
theorem dX10_law_33 : decode cX10_law 33 = .ok (.getfield 7, 3) := by decide +kernel
theorem dX10_law_36 : decode cX10_law 36 = .ok (.iconst 1, 1) := by decide +kernel
theorem dX10_law_37 : decode cX10_law 37 = .ok (.iaload, 1) := by decide +kernel
theorem dX10_law_38 : decode cX10_law 38 = .ok (.invokevirtual 108, 3) := by decide +kernel
theorem dX10_law_41 : decode cX10_law 41 = .ok (.istore_n 2, 1) := by decide +kernel
theorem dX10_law_42 : decode cX10_law 42 = .ok (.aload_n 0, 1) := by decide +kernel
theorem dX10_law_43 : decode cX10_law 43 = .ok (.getfield 7, 3) := by decide +kernel
theorem dX10_law_46 : decode cX10_law 46 = .ok (.iload_n 2, 1) := by decide +kernel
theorem dX10_law_47 : decode cX10_law 47 = .ok (.iconst 0, 1) := by decide +kernel
theorem dX10_law_48 : decode cX10_law 48 = .ok (.iadd, 1) := by decide +kernel
theorem dX10_law_49 : decode cX10_law 49 = .ok (.iload_n 1, 1) := by decide +kernel
theorem dX10_law_50 : decode cX10_law 50 = .ok (.iastore, 1) := by decide +kernel
theorem dX10_law_51 : decode cX10_law 51 = .ok (.aload_n 0, 1) := by decide +kernel
theorem dX10_law_52 : decode cX10_law 52 = .ok (.getfield 7, 3) := by decide +kernel
theorem dX10_law_55 : decode cX10_law 55 = .ok (.iload_n 2, 1) := by decide +kernel
theorem dX10_law_56 : decode cX10_law 56 = .ok (.iconst 1, 1) := by decide +kernel
theorem dX10_law_57 : decode cX10_law 57 = .ok (.iadd, 1) := by decide +kernel
theorem dX10_law_58 : decode cX10_law 58 = .ok (.aload_n 0, 1) := by decide +kernel
theorem dX10_law_59 : decode cX10_law 59 = .ok (.getfield 238, 3) := by decide +kernel
theorem dX10_law_62 : decode cX10_law 62 = .ok (.iastore, 1) := by decide +kernel
theorem dX10_law_63 : decode cX10_law 63 = .ok (.aload_n 0, 1) := by decide +kernel
theorem dX10_law_64 : decode cX10_law 64 = .ok (.getfield 7, 3) := by decide +kernel
theorem dX10_law_67 : decode cX10_law 67 = .ok (.iload_n 2, 1) := by decide +kernel
theorem dX10_law_68 : decode cX10_law 68 = .ok (.iconst 2, 1) := by decide +kernel
theorem dX10_law_69 : decode cX10_law 69 = .ok (.iadd, 1) := by decide +kernel
theorem dX10_law_70 : decode cX10_law 70 = .ok (.aload_n 0, 1) := by decide +kernel
theorem dX10_law_71 : decode cX10_law 71 = .ok (.getfield 213, 3) := by decide +kernel
theorem dX10_law_74 : decode cX10_law 74 = .ok (.iastore, 1) := by decide +kernel
theorem dX10_law_75 : decode cX10_law 75 = .ok (.aload_n 0, 1) := by decide +kernel
theorem dX10_law_76 : decode cX10_law 76 = .ok (.getfield 7, 3) := by decide +kernel
theorem dX10_law_79 : decode cX10_law 79 = .ok (.iconst 1, 1) := by decide +kernel
theorem dX10_law_80 : decode cX10_law 80 = .ok (.dup2, 1) := by decide +kernel
theorem dX10_law_81 : decode cX10_law 81 = .ok (.iaload, 1) := by decide +kernel
theorem dX10_law_82 : decode cX10_law 82 = .ok (.iconst 1, 1) := by decide +kernel
theorem dX10_law_83 : decode cX10_law 83 = .ok (.iadd, 1) := by decide +kernel
theorem dX10_law_84 : decode cX10_law 84 = .ok (.iastore, 1) := by decide +kernel
theorem dX10_law_85 : decode cX10_law 85 = .ok (.aload_n 0, 1) := by decide +kernel
theorem dX10_law_86 : decode cX10_law 86 = .ok (.getfield 7, 3) := by decide +kernel
theorem dX10_law_89 : decode cX10_law 89 = .ok (.iconst 1, 1) := by decide +kernel
theorem dX10_law_90 : decode cX10_law 90 = .ok (.iaload, 1) := by decide +kernel
theorem dX10_law_91 : decode cX10_law 91 = .ok (.iconst 1, 1) := by decide +kernel
theorem dX10_law_92 : decode cX10_law 92 = .ok (.isub, 1) := by decide +kernel
theorem dX10_law_93 : decode cX10_law 93 = .ok (.ireturn, 1) := by decide +kernel
theorem dX10_of_0 : decode cX10_of 0 = .ok (.aload_n 0, 1) := by decide +kernel
theorem dX10_of_1 : decode cX10_of 1 = .ok (.iload_n 1, 1) := by decide +kernel
theorem dX10_of_2 : decode cX10_of 2 = .ok (.invokevirtual 260, 3) := by decide +kernel
theorem dX10_of_5 : decode cX10_of 5 = .ok (.ifCond .eq 15, 3) := by decide +kernel
theorem dX10_of_8 : decode cX10_of 8 = .ok (.iload_n 2, 1) := by decide +kernel
theorem dX10_of_9 : decode cX10_of 9 = .ok (.i2l, 1) := by decide +kernel
theorem dX10_of_10 : decode cX10_of 10 = .ok (.lconst 0, 1) := by decide +kernel
theorem dX10_of_11 : decode cX10_of 11 = .ok (.ldc2_w 86, 3) := by decide +kernel
theorem dX10_of_14 : decode cX10_of 14 = .ok (.invokestatic 80, 3) := by decide +kernel
theorem dX10_of_17 : decode cX10_of 17 = .ok (.ifCond .ne 6, 3) := by decide +kernel
theorem dX10_of_20 : decode cX10_of 20 = .ok (.ldc 102, 2) := by decide +kernel
theorem dX10_of_22 : decode cX10_of 22 = .ok (.ireturn, 1) := by decide +kernel
theorem dX10_of_23 : decode cX10_of 23 = .ok (.aload_n 0, 1) := by decide +kernel
theorem dX10_of_24 : decode cX10_of 24 = .ok (.getfield 7, 3) := by decide +kernel
theorem dX10_of_27 : decode cX10_of 27 = .ok (.aload_n 0, 1) := by decide +kernel
theorem dX10_of_28 : decode cX10_of 28 = .ok (.iload_n 1, 1) := by decide +kernel
theorem dX10_of_29 : decode cX10_of 29 = .ok (.invokevirtual 108, 3) := by decide +kernel
theorem dX10_of_32 : decode cX10_of 32 = .ok (.iaload, 1) := by decide +kernel
theorem dX10_of_33 : decode cX10_of 33 = .ok (.istore_n 3, 1) := by decide +kernel
theorem dX10_of_34 : decode cX10_of 34 = .ok (.iload_n 2, 1) := by decide +kernel
theorem dX10_of_35 : decode cX10_of 35 = .ok (.ifCond .ne 9, 3) := by decide +kernel
theorem dX10_of_38 : decode cX10_of 38 = .ok (.iload_n 3, 1) := by decide +kernel
theorem dX10_of_39 : decode cX10_of 39 = .ok (.iconst 3, 1) := by decide +kernel
theorem dX10_of_40 : decode cX10_of 40 = .ok (.idiv, 1) := by decide +kernel
theorem dX10_of_41 : decode cX10_of 41 = .ok (.goto 26, 3) := by decide +kernel
theorem dX10_of_44 : decode cX10_of 44 = .ok (.iload_n 2, 1) := by decide +kernel
theorem dX10_of_45 : decode cX10_of 45 = .ok (.iconst 1, 1) := by decide +kernel
theorem dX10_of_46 : decode cX10_of 46 = .ok (.if_icmp .ne 9, 3) := by decide +kernel
theorem dX10_of_49 : decode cX10_of 49 = .ok (.iload_n 3, 1) := by decide +kernel
theorem dX10_of_50 : decode cX10_of 50 = .ok (.iconst 3, 1) := by decide +kernel
theorem dX10_of_51 : decode cX10_of 51 = .ok (.irem, 1) := by decide +kernel
theorem dX10_of_52 : decode cX10_of 52 = .ok (.goto 15, 3) := by decide +kernel
theorem dX10_of_55 : decode cX10_of 55 = .ok (.aload_n 0, 1) := by decide +kernel
theorem dX10_of_56 : decode cX10_of 56 = .ok (.getfield 7, 3) := by decide +kernel
theorem dX10_of_59 : decode cX10_of 59 = .ok (.aload_n 0, 1) := by decide +kernel
theorem dX10_of_60 : decode cX10_of 60 = .ok (.iload_n 1, 1) := by decide +kernel
theorem dX10_of_61 : decode cX10_of 61 = .ok (.invokevirtual 108, 3) := by decide +kernel
theorem dX10_of_64 : decode cX10_of 64 = .ok (.iconst 1, 1) := by decide +kernel
theorem dX10_of_65 : decode cX10_of 65 = .ok (.iadd, 1) := by decide +kernel
theorem dX10_of_66 : decode cX10_of 66 = .ok (.iaload, 1) := by decide +kernel
theorem dX10_of_67 : decode cX10_of 67 = .ok (.ireturn, 1) := by decide +kernel
theorem dX10_why_0 : decode cX10_why 0 = .ok (.iload_n 1, 1) := by decide +kernel
theorem dX10_why_1 : decode cX10_why 1 = .ok (.invokestatic 263, 3) := by decide +kernel
theorem dX10_why_4 : decode cX10_why 4 = .ok (.ifCond .eq 27, 3) := by decide +kernel
theorem dX10_why_7 : decode cX10_why 7 = .ok (.iload_n 2, 1) := by decide +kernel
theorem dX10_why_8 : decode cX10_why 8 = .ok (.i2l, 1) := by decide +kernel
theorem dX10_why_9 : decode cX10_why 9 = .ok (.lconst 0, 1) := by decide +kernel
theorem dX10_why_10 : decode cX10_why 10 = .ok (.ldc2_w 86, 3) := by decide +kernel
theorem dX10_why_13 : decode cX10_why 13 = .ok (.invokestatic 80, 3) := by decide +kernel
theorem dX10_why_16 : decode cX10_why 16 = .ok (.ifCond .eq 15, 3) := by decide +kernel
theorem dX10_why_19 : decode cX10_why 19 = .ok (.aload_n 0, 1) := by decide +kernel
theorem dX10_why_20 : decode cX10_why 20 = .ok (.iload_n 1, 1) := by decide +kernel
theorem dX10_why_21 : decode cX10_why 21 = .ok (.iload_n 2, 1) := by decide +kernel
theorem dX10_why_22 : decode cX10_why 22 = .ok (.invokevirtual 115, 3) := by decide +kernel
theorem dX10_why_25 : decode cX10_why 25 = .ok (.invokestatic 142, 3) := by decide +kernel
theorem dX10_why_28 : decode cX10_why 28 = .ok (.goto 5, 3) := by decide +kernel
theorem dX10_why_31 : decode cX10_why 31 = .ok (.ldc 102, 2) := by decide +kernel
theorem dX10_why_33 : decode cX10_why 33 = .ok (.ireturn, 1) := by decide +kernel
theorem dX10_joined_0 : decode cX10_joined 0 = .ok (.iload_n 0, 1) := by decide +kernel
theorem dX10_joined_1 : decode cX10_joined 1 = .ok (.tableswitch 196 38 62 #[182, 196, 196, 196, 123, 115, 196, 119, 196, 127, 196, 196, 196, 196, 196, 196, 196, 196, 196, 196, 196, 196, 149, 171, 160], 115) := by decide +kernel
theorem dX10_joined_116 : decode cX10_joined 116 = .ok (.iload_n 1, 1) := by decide +kernel
theorem dX10_joined_117 : decode cX10_joined 117 = .ok (.iload_n 2, 1) := by decide +kernel
theorem dX10_joined_118 : decode cX10_joined 118 = .ok (.iadd, 1) := by decide +kernel
theorem dX10_joined_119 : decode cX10_joined 119 = .ok (.ireturn, 1) := by decide +kernel
theorem dX10_joined_120 : decode cX10_joined 120 = .ok (.iload_n 1, 1) := by decide +kernel
theorem dX10_joined_121 : decode cX10_joined 121 = .ok (.iload_n 2, 1) := by decide +kernel
theorem dX10_joined_122 : decode cX10_joined 122 = .ok (.isub, 1) := by decide +kernel
theorem dX10_joined_123 : decode cX10_joined 123 = .ok (.ireturn, 1) := by decide +kernel
theorem dX10_joined_124 : decode cX10_joined 124 = .ok (.iload_n 1, 1) := by decide +kernel
theorem dX10_joined_125 : decode cX10_joined 125 = .ok (.iload_n 2, 1) := by decide +kernel
theorem dX10_joined_126 : decode cX10_joined 126 = .ok (.imul, 1) := by decide +kernel
theorem dX10_joined_127 : decode cX10_joined 127 = .ok (.ireturn, 1) := by decide +kernel
theorem dX10_joined_128 : decode cX10_joined 128 = .ok (.iload_n 2, 1) := by decide +kernel
theorem dX10_joined_129 : decode cX10_joined 129 = .ok (.ifCond .ne 7, 3) := by decide +kernel
theorem dX10_joined_132 : decode cX10_joined 132 = .ok (.iconst 0, 1) := by decide +kernel
theorem dX10_joined_133 : decode cX10_joined 133 = .ok (.goto 16, 3) := by decide +kernel
theorem dX10_joined_136 : decode cX10_joined 136 = .ok (.iload_n 2, 1) := by decide +kernel
theorem dX10_joined_137 : decode cX10_joined 137 = .ok (.iconst (-1), 1) := by decide +kernel
theorem dX10_joined_138 : decode cX10_joined 138 = .ok (.if_icmp .ne 8, 3) := by decide +kernel
theorem dX10_joined_141 : decode cX10_joined 141 = .ok (.iload_n 1, 1) := by decide +kernel
theorem dX10_joined_142 : decode cX10_joined 142 = .ok (.ineg, 1) := by decide +kernel
theorem dX10_joined_143 : decode cX10_joined 143 = .ok (.goto 6, 3) := by decide +kernel
theorem dX10_joined_146 : decode cX10_joined 146 = .ok (.iload_n 1, 1) := by decide +kernel
theorem dX10_joined_147 : decode cX10_joined 147 = .ok (.iload_n 2, 1) := by decide +kernel
theorem dX10_joined_148 : decode cX10_joined 148 = .ok (.idiv, 1) := by decide +kernel
theorem dX10_joined_149 : decode cX10_joined 149 = .ok (.ireturn, 1) := by decide +kernel
theorem dX10_joined_150 : decode cX10_joined 150 = .ok (.iload_n 1, 1) := by decide +kernel
theorem dX10_joined_151 : decode cX10_joined 151 = .ok (.iload_n 2, 1) := by decide +kernel
theorem dX10_joined_152 : decode cX10_joined 152 = .ok (.if_icmp .ge 7, 3) := by decide +kernel
theorem dX10_joined_155 : decode cX10_joined 155 = .ok (.iconst 1, 1) := by decide +kernel
theorem dX10_joined_156 : decode cX10_joined 156 = .ok (.goto 4, 3) := by decide +kernel
theorem dX10_joined_159 : decode cX10_joined 159 = .ok (.iconst 0, 1) := by decide +kernel
theorem dX10_joined_160 : decode cX10_joined 160 = .ok (.ireturn, 1) := by decide +kernel
theorem dX10_joined_161 : decode cX10_joined 161 = .ok (.iload_n 1, 1) := by decide +kernel
theorem dX10_joined_162 : decode cX10_joined 162 = .ok (.iload_n 2, 1) := by decide +kernel
theorem dX10_joined_163 : decode cX10_joined 163 = .ok (.if_icmp .le 7, 3) := by decide +kernel
theorem dX10_joined_166 : decode cX10_joined 166 = .ok (.iconst 1, 1) := by decide +kernel
theorem dX10_joined_167 : decode cX10_joined 167 = .ok (.goto 4, 3) := by decide +kernel
theorem dX10_joined_170 : decode cX10_joined 170 = .ok (.iconst 0, 1) := by decide +kernel
theorem dX10_joined_171 : decode cX10_joined 171 = .ok (.ireturn, 1) := by decide +kernel
theorem dX10_joined_172 : decode cX10_joined 172 = .ok (.iload_n 1, 1) := by decide +kernel
theorem dX10_joined_173 : decode cX10_joined 173 = .ok (.iload_n 2, 1) := by decide +kernel
theorem dX10_joined_174 : decode cX10_joined 174 = .ok (.if_icmp .ne 7, 3) := by decide +kernel
theorem dX10_joined_177 : decode cX10_joined 177 = .ok (.iconst 1, 1) := by decide +kernel
theorem dX10_joined_178 : decode cX10_joined 178 = .ok (.goto 4, 3) := by decide +kernel
theorem dX10_joined_181 : decode cX10_joined 181 = .ok (.iconst 0, 1) := by decide +kernel
theorem dX10_joined_182 : decode cX10_joined 182 = .ok (.ireturn, 1) := by decide +kernel
theorem dX10_joined_183 : decode cX10_joined 183 = .ok (.iload_n 1, 1) := by decide +kernel
theorem dX10_joined_184 : decode cX10_joined 184 = .ok (.ifCond .eq 11, 3) := by decide +kernel
theorem dX10_joined_187 : decode cX10_joined 187 = .ok (.iload_n 2, 1) := by decide +kernel
theorem dX10_joined_188 : decode cX10_joined 188 = .ok (.ifCond .eq 7, 3) := by decide +kernel
theorem dX10_joined_191 : decode cX10_joined 191 = .ok (.iconst 1, 1) := by decide +kernel
theorem dX10_joined_192 : decode cX10_joined 192 = .ok (.goto 4, 3) := by decide +kernel
theorem dX10_joined_195 : decode cX10_joined 195 = .ok (.iconst 0, 1) := by decide +kernel
theorem dX10_joined_196 : decode cX10_joined 196 = .ok (.ireturn, 1) := by decide +kernel
theorem dX10_joined_197 : decode cX10_joined 197 = .ok (.iload_n 1, 1) := by decide +kernel
theorem dX10_joined_198 : decode cX10_joined 198 = .ok (.ifCond .ne 7, 3) := by decide +kernel
theorem dX10_joined_201 : decode cX10_joined 201 = .ok (.iload_n 2, 1) := by decide +kernel
theorem dX10_joined_202 : decode cX10_joined 202 = .ok (.ifCond .eq 7, 3) := by decide +kernel
theorem dX10_joined_205 : decode cX10_joined 205 = .ok (.iconst 1, 1) := by decide +kernel
theorem dX10_joined_206 : decode cX10_joined 206 = .ok (.goto 4, 3) := by decide +kernel
theorem dX10_joined_209 : decode cX10_joined 209 = .ok (.iconst 0, 1) := by decide +kernel
theorem dX10_joined_210 : decode cX10_joined 210 = .ok (.ireturn, 1) := by decide +kernel
theorem dX10_worked_0 : decode cX10_worked 0 = .ok (.iconst 0, 1) := by decide +kernel
theorem dX10_worked_1 : decode cX10_worked 1 = .ok (.istore_n 2, 1) := by decide +kernel
theorem dX10_worked_2 : decode cX10_worked 2 = .ok (.iconst 0, 1) := by decide +kernel
theorem dX10_worked_3 : decode cX10_worked 3 = .ok (.istore_n 3, 1) := by decide +kernel
theorem dX10_worked_4 : decode cX10_worked 4 = .ok (.iload_n 3, 1) := by decide +kernel
theorem dX10_worked_5 : decode cX10_worked 5 = .ok (.aload_n 0, 1) := by decide +kernel
theorem dX10_worked_6 : decode cX10_worked 6 = .ok (.getfield 7, 3) := by decide +kernel
theorem dX10_worked_9 : decode cX10_worked 9 = .ok (.aload_n 0, 1) := by decide +kernel
theorem dX10_worked_10 : decode cX10_worked 10 = .ok (.iload_n 1, 1) := by decide +kernel
theorem dX10_worked_11 : decode cX10_worked 11 = .ok (.invokevirtual 108, 3) := by decide +kernel
theorem dX10_worked_14 : decode cX10_worked 14 = .ok (.iconst 2, 1) := by decide +kernel
theorem dX10_worked_15 : decode cX10_worked 15 = .ok (.iadd, 1) := by decide +kernel
theorem dX10_worked_16 : decode cX10_worked 16 = .ok (.iaload, 1) := by decide +kernel
theorem dX10_worked_17 : decode cX10_worked 17 = .ok (.if_icmp .ge 146, 3) := by decide +kernel
theorem dX10_worked_20 : decode cX10_worked 20 = .ok (.aload_n 0, 1) := by decide +kernel
theorem dX10_worked_21 : decode cX10_worked 21 = .ok (.getfield 7, 3) := by decide +kernel
theorem dX10_worked_24 : decode cX10_worked 24 = .ok (.aload_n 0, 1) := by decide +kernel
theorem dX10_worked_25 : decode cX10_worked 25 = .ok (.iload_n 1, 1) := by decide +kernel
theorem dX10_worked_26 : decode cX10_worked 26 = .ok (.invokevirtual 108, 3) := by decide +kernel
theorem dX10_worked_29 : decode cX10_worked 29 = .ok (.iconst 4, 1) := by decide +kernel
theorem dX10_worked_30 : decode cX10_worked 30 = .ok (.iadd, 1) := by decide +kernel
theorem dX10_worked_31 : decode cX10_worked 31 = .ok (.iconst 2, 1) := by decide +kernel
theorem dX10_worked_32 : decode cX10_worked 32 = .ok (.iload_n 3, 1) := by decide +kernel
theorem dX10_worked_33 : decode cX10_worked 33 = .ok (.imul, 1) := by decide +kernel
theorem dX10_worked_34 : decode cX10_worked 34 = .ok (.iadd, 1) := by decide +kernel
theorem dX10_worked_35 : decode cX10_worked 35 = .ok (.iaload, 1) := by decide +kernel
theorem dX10_worked_36 : decode cX10_worked 36 = .ok (.istore 4, 2) := by decide +kernel
theorem dX10_worked_38 : decode cX10_worked 38 = .ok (.aload_n 0, 1) := by decide +kernel
theorem dX10_worked_39 : decode cX10_worked 39 = .ok (.getfield 7, 3) := by decide +kernel
theorem dX10_worked_42 : decode cX10_worked 42 = .ok (.aload_n 0, 1) := by decide +kernel
theorem dX10_worked_43 : decode cX10_worked 43 = .ok (.iload_n 1, 1) := by decide +kernel
theorem dX10_worked_44 : decode cX10_worked 44 = .ok (.invokevirtual 108, 3) := by decide +kernel
theorem dX10_worked_47 : decode cX10_worked 47 = .ok (.iconst 4, 1) := by decide +kernel
theorem dX10_worked_48 : decode cX10_worked 48 = .ok (.iadd, 1) := by decide +kernel
theorem dX10_worked_49 : decode cX10_worked 49 = .ok (.iconst 2, 1) := by decide +kernel
theorem dX10_worked_50 : decode cX10_worked 50 = .ok (.iload_n 3, 1) := by decide +kernel
theorem dX10_worked_51 : decode cX10_worked 51 = .ok (.imul, 1) := by decide +kernel
theorem dX10_worked_52 : decode cX10_worked 52 = .ok (.iadd, 1) := by decide +kernel
theorem dX10_worked_53 : decode cX10_worked 53 = .ok (.iconst 1, 1) := by decide +kernel
theorem dX10_worked_54 : decode cX10_worked 54 = .ok (.iadd, 1) := by decide +kernel
theorem dX10_worked_55 : decode cX10_worked 55 = .ok (.iaload, 1) := by decide +kernel
theorem dX10_worked_56 : decode cX10_worked 56 = .ok (.istore 5, 2) := by decide +kernel
theorem dX10_worked_58 : decode cX10_worked 58 = .ok (.iload 4, 2) := by decide +kernel
theorem dX10_worked_60 : decode cX10_worked 60 = .ok (.iconst 2, 1) := by decide +kernel
theorem dX10_worked_61 : decode cX10_worked 61 = .ok (.if_icmp .eq 32, 3) := by decide +kernel
theorem dX10_worked_64 : decode cX10_worked 64 = .ok (.aload_n 0, 1) := by decide +kernel
theorem dX10_worked_65 : decode cX10_worked 65 = .ok (.getfield 49, 3) := by decide +kernel
theorem dX10_worked_68 : decode cX10_worked 68 = .ok (.iload_n 2, 1) := by decide +kernel
theorem dX10_worked_69 : decode cX10_worked 69 = .ok (.iload 4, 2) := by decide +kernel
theorem dX10_worked_71 : decode cX10_worked 71 = .ok (.ifCond .ne 8, 3) := by decide +kernel
theorem dX10_worked_74 : decode cX10_worked 74 = .ok (.iload 5, 2) := by decide +kernel
theorem dX10_worked_76 : decode cX10_worked 76 = .ok (.goto 10, 3) := by decide +kernel
theorem dX10_worked_79 : decode cX10_worked 79 = .ok (.aload_n 0, 1) := by decide +kernel
theorem dX10_worked_80 : decode cX10_worked 80 = .ok (.getfield 46, 3) := by decide +kernel
theorem dX10_worked_83 : decode cX10_worked 83 = .ok (.iload 5, 2) := by decide +kernel
theorem dX10_worked_85 : decode cX10_worked 85 = .ok (.iaload, 1) := by decide +kernel
theorem dX10_worked_86 : decode cX10_worked 86 = .ok (.iastore, 1) := by decide +kernel
theorem dX10_worked_87 : decode cX10_worked 87 = .ok (.iinc 2 1, 3) := by decide +kernel
theorem dX10_worked_90 : decode cX10_worked 90 = .ok (.goto 67, 3) := by decide +kernel
theorem dX10_worked_93 : decode cX10_worked 93 = .ok (.iload 5, 2) := by decide +kernel
theorem dX10_worked_95 : decode cX10_worked 95 = .ok (.bipush 33, 2) := by decide +kernel
theorem dX10_worked_97 : decode cX10_worked 97 = .ok (.if_icmp .ne 30, 3) := by decide +kernel
theorem dX10_worked_100 : decode cX10_worked 100 = .ok (.aload_n 0, 1) := by decide +kernel
theorem dX10_worked_101 : decode cX10_worked 101 = .ok (.getfield 49, 3) := by decide +kernel
theorem dX10_worked_104 : decode cX10_worked 104 = .ok (.iload_n 2, 1) := by decide +kernel
theorem dX10_worked_105 : decode cX10_worked 105 = .ok (.iconst 1, 1) := by decide +kernel
theorem dX10_worked_106 : decode cX10_worked 106 = .ok (.isub, 1) := by decide +kernel
theorem dX10_worked_107 : decode cX10_worked 107 = .ok (.aload_n 0, 1) := by decide +kernel
theorem dX10_worked_108 : decode cX10_worked 108 = .ok (.getfield 49, 3) := by decide +kernel
theorem dX10_worked_111 : decode cX10_worked 111 = .ok (.iload_n 2, 1) := by decide +kernel
theorem dX10_worked_112 : decode cX10_worked 112 = .ok (.iconst 1, 1) := by decide +kernel
theorem dX10_worked_113 : decode cX10_worked 113 = .ok (.isub, 1) := by decide +kernel
theorem dX10_worked_114 : decode cX10_worked 114 = .ok (.iaload, 1) := by decide +kernel
theorem dX10_worked_115 : decode cX10_worked 115 = .ok (.ifCond .ne 7, 3) := by decide +kernel
theorem dX10_worked_118 : decode cX10_worked 118 = .ok (.iconst 1, 1) := by decide +kernel
theorem dX10_worked_119 : decode cX10_worked 119 = .ok (.goto 4, 3) := by decide +kernel
theorem dX10_worked_122 : decode cX10_worked 122 = .ok (.iconst 0, 1) := by decide +kernel
theorem dX10_worked_123 : decode cX10_worked 123 = .ok (.iastore, 1) := by decide +kernel
theorem dX10_worked_124 : decode cX10_worked 124 = .ok (.goto 33, 3) := by decide +kernel
theorem dX10_worked_127 : decode cX10_worked 127 = .ok (.iinc 2 (-1), 3) := by decide +kernel
theorem dX10_worked_130 : decode cX10_worked 130 = .ok (.aload_n 0, 1) := by decide +kernel
theorem dX10_worked_131 : decode cX10_worked 131 = .ok (.getfield 49, 3) := by decide +kernel
theorem dX10_worked_134 : decode cX10_worked 134 = .ok (.iload_n 2, 1) := by decide +kernel
theorem dX10_worked_135 : decode cX10_worked 135 = .ok (.iconst 1, 1) := by decide +kernel
theorem dX10_worked_136 : decode cX10_worked 136 = .ok (.isub, 1) := by decide +kernel
theorem dX10_worked_137 : decode cX10_worked 137 = .ok (.iload 5, 2) := by decide +kernel
theorem dX10_worked_139 : decode cX10_worked 139 = .ok (.aload_n 0, 1) := by decide +kernel
theorem dX10_worked_140 : decode cX10_worked 140 = .ok (.getfield 49, 3) := by decide +kernel
theorem dX10_worked_143 : decode cX10_worked 143 = .ok (.iload_n 2, 1) := by decide +kernel
theorem dX10_worked_144 : decode cX10_worked 144 = .ok (.iconst 1, 1) := by decide +kernel
theorem dX10_worked_145 : decode cX10_worked 145 = .ok (.isub, 1) := by decide +kernel
theorem dX10_worked_146 : decode cX10_worked 146 = .ok (.iaload, 1) := by decide +kernel
theorem dX10_worked_147 : decode cX10_worked 147 = .ok (.aload_n 0, 1) := by decide +kernel
theorem dX10_worked_148 : decode cX10_worked 148 = .ok (.getfield 49, 3) := by decide +kernel
theorem dX10_worked_151 : decode cX10_worked 151 = .ok (.iload_n 2, 1) := by decide +kernel
theorem dX10_worked_152 : decode cX10_worked 152 = .ok (.iaload, 1) := by decide +kernel
theorem dX10_worked_153 : decode cX10_worked 153 = .ok (.invokestatic 266, 3) := by decide +kernel
theorem dX10_worked_156 : decode cX10_worked 156 = .ok (.iastore, 1) := by decide +kernel
theorem dX10_worked_157 : decode cX10_worked 157 = .ok (.iinc 3 1, 3) := by decide +kernel
theorem dX10_worked_160 : decode cX10_worked 160 = .ok (.goto (-156), 3) := by decide +kernel
theorem dX10_worked_163 : decode cX10_worked 163 = .ok (.aload_n 0, 1) := by decide +kernel
theorem dX10_worked_164 : decode cX10_worked 164 = .ok (.getfield 49, 3) := by decide +kernel
theorem dX10_worked_167 : decode cX10_worked 167 = .ok (.iconst 0, 1) := by decide +kernel
theorem dX10_worked_168 : decode cX10_worked 168 = .ok (.iaload, 1) := by decide +kernel
theorem dX10_worked_169 : decode cX10_worked 169 = .ok (.ireturn, 1) := by decide +kernel
theorem dX10_find_0 : decode cX10_find 0 = .ok (.aload_n 0, 1) := by decide +kernel
theorem dX10_find_1 : decode cX10_find 1 = .ok (.iconst 0, 1) := by decide +kernel
theorem dX10_find_2 : decode cX10_find 2 = .ok (.putfield 269, 3) := by decide +kernel
theorem dX10_find_5 : decode cX10_find 5 = .ok (.aload_n 0, 1) := by decide +kernel
theorem dX10_find_6 : decode cX10_find 6 = .ok (.ldc_w 272, 3) := by decide +kernel
theorem dX10_find_9 : decode cX10_find 9 = .ok (.putfield 273, 3) := by decide +kernel
theorem dX10_find_12 : decode cX10_find 12 = .ok (.aload_n 0, 1) := by decide +kernel
theorem dX10_find_13 : decode cX10_find 13 = .ok (.ldc_w 276, 3) := by decide +kernel
theorem dX10_find_16 : decode cX10_find 16 = .ok (.putfield 277, 3) := by decide +kernel
theorem dX10_find_19 : decode cX10_find 19 = .ok (.aload_n 0, 1) := by decide +kernel
theorem dX10_find_20 : decode cX10_find 20 = .ok (.iconst 0, 1) := by decide +kernel
theorem dX10_find_21 : decode cX10_find 21 = .ok (.putfield 280, 3) := by decide +kernel
theorem dX10_find_24 : decode cX10_find 24 = .ok (.aload_n 0, 1) := by decide +kernel
theorem dX10_find_25 : decode cX10_find 25 = .ok (.iconst 0, 1) := by decide +kernel
theorem dX10_find_26 : decode cX10_find 26 = .ok (.putfield 283, 3) := by decide +kernel
theorem dX10_find_29 : decode cX10_find 29 = .ok (.iconst 0, 1) := by decide +kernel
theorem dX10_find_30 : decode cX10_find 30 = .ok (.istore_n 2, 1) := by decide +kernel
theorem dX10_find_31 : decode cX10_find 31 = .ok (.iload_n 2, 1) := by decide +kernel
theorem dX10_find_32 : decode cX10_find 32 = .ok (.aload_n 0, 1) := by decide +kernel
theorem dX10_find_33 : decode cX10_find 33 = .ok (.getfield 7, 3) := by decide +kernel
theorem dX10_find_36 : decode cX10_find 36 = .ok (.iconst 0, 1) := by decide +kernel
theorem dX10_find_37 : decode cX10_find 37 = .ok (.iaload, 1) := by decide +kernel
theorem dX10_find_38 : decode cX10_find 38 = .ok (.if_icmp .ge 118, 3) := by decide +kernel
theorem dX10_find_41 : decode cX10_find 41 = .ok (.aload_n 0, 1) := by decide +kernel
theorem dX10_find_42 : decode cX10_find 42 = .ok (.iload_n 2, 1) := by decide +kernel
theorem dX10_find_43 : decode cX10_find 43 = .ok (.iconst 5, 1) := by decide +kernel
theorem dX10_find_44 : decode cX10_find 44 = .ok (.invokevirtual 111, 3) := by decide +kernel
theorem dX10_find_47 : decode cX10_find 47 = .ok (.iload_n 1, 1) := by decide +kernel
theorem dX10_find_48 : decode cX10_find 48 = .ok (.if_icmp .ne 102, 3) := by decide +kernel
theorem dX10_find_51 : decode cX10_find 51 = .ok (.aload_n 0, 1) := by decide +kernel
theorem dX10_find_52 : decode cX10_find 52 = .ok (.iload_n 2, 1) := by decide +kernel
theorem dX10_find_53 : decode cX10_find 53 = .ok (.invokevirtual 145, 3) := by decide +kernel
theorem dX10_find_56 : decode cX10_find 56 = .ok (.istore_n 3, 1) := by decide +kernel
theorem dX10_find_57 : decode cX10_find 57 = .ok (.aload_n 0, 1) := by decide +kernel
theorem dX10_find_58 : decode cX10_find 58 = .ok (.iload_n 2, 1) := by decide +kernel
theorem dX10_find_59 : decode cX10_find 59 = .ok (.invokevirtual 148, 3) := by decide +kernel
theorem dX10_find_62 : decode cX10_find 62 = .ok (.istore 4, 2) := by decide +kernel
theorem dX10_find_64 : decode cX10_find 64 = .ok (.aload_n 0, 1) := by decide +kernel
theorem dX10_find_65 : decode cX10_find 65 = .ok (.dup, 1) := by decide +kernel
theorem dX10_find_66 : decode cX10_find 66 = .ok (.getfield 269, 3) := by decide +kernel
theorem dX10_find_69 : decode cX10_find 69 = .ok (.iconst 1, 1) := by decide +kernel
theorem dX10_find_70 : decode cX10_find 70 = .ok (.iadd, 1) := by decide +kernel
theorem dX10_find_71 : decode cX10_find 71 = .ok (.putfield 269, 3) := by decide +kernel
theorem dX10_find_74 : decode cX10_find 74 = .ok (.aload_n 0, 1) := by decide +kernel
theorem dX10_find_75 : decode cX10_find 75 = .ok (.iload_n 3, 1) := by decide +kernel
theorem dX10_find_76 : decode cX10_find 76 = .ok (.iload 4, 2) := by decide +kernel
theorem dX10_find_78 : decode cX10_find 78 = .ok (.isub, 1) := by decide +kernel
theorem dX10_find_79 : decode cX10_find 79 = .ok (.aload_n 0, 1) := by decide +kernel
theorem dX10_find_80 : decode cX10_find 80 = .ok (.getfield 273, 3) := by decide +kernel
theorem dX10_find_83 : decode cX10_find 83 = .ok (.if_icmp .le 10, 3) := by decide +kernel
theorem dX10_find_86 : decode cX10_find 86 = .ok (.iload_n 3, 1) := by decide +kernel
theorem dX10_find_87 : decode cX10_find 87 = .ok (.iload 4, 2) := by decide +kernel
theorem dX10_find_89 : decode cX10_find 89 = .ok (.isub, 1) := by decide +kernel
theorem dX10_find_90 : decode cX10_find 90 = .ok (.goto 7, 3) := by decide +kernel
theorem dX10_find_93 : decode cX10_find 93 = .ok (.aload_n 0, 1) := by decide +kernel
theorem dX10_find_94 : decode cX10_find 94 = .ok (.getfield 273, 3) := by decide +kernel
theorem dX10_find_97 : decode cX10_find 97 = .ok (.putfield 273, 3) := by decide +kernel
theorem dX10_find_100 : decode cX10_find 100 = .ok (.aload_n 0, 1) := by decide +kernel
theorem dX10_find_101 : decode cX10_find 101 = .ok (.aload_n 0, 1) := by decide +kernel
theorem dX10_find_102 : decode cX10_find 102 = .ok (.getfield 277, 3) := by decide +kernel
theorem dX10_find_105 : decode cX10_find 105 = .ok (.iload_n 3, 1) := by decide +kernel
theorem dX10_find_106 : decode cX10_find 106 = .ok (.iload 4, 2) := by decide +kernel
theorem dX10_find_108 : decode cX10_find 108 = .ok (.iadd, 1) := by decide +kernel
theorem dX10_find_109 : decode cX10_find 109 = .ok (.invokestatic 286, 3) := by decide +kernel
theorem dX10_find_112 : decode cX10_find 112 = .ok (.putfield 277, 3) := by decide +kernel
theorem dX10_find_115 : decode cX10_find 115 = .ok (.aload_n 0, 1) := by decide +kernel
theorem dX10_find_116 : decode cX10_find 116 = .ok (.dup, 1) := by decide +kernel
theorem dX10_find_117 : decode cX10_find 117 = .ok (.getfield 280, 3) := by decide +kernel
theorem dX10_find_120 : decode cX10_find 120 = .ok (.aload_n 0, 1) := by decide +kernel
theorem dX10_find_121 : decode cX10_find 121 = .ok (.iload_n 2, 1) := by decide +kernel
theorem dX10_find_122 : decode cX10_find 122 = .ok (.iconst 0, 1) := by decide +kernel
theorem dX10_find_123 : decode cX10_find 123 = .ok (.invokevirtual 111, 3) := by decide +kernel
theorem dX10_find_126 : decode cX10_find 126 = .ok (.invokestatic 151, 3) := by decide +kernel
theorem dX10_find_129 : decode cX10_find 129 = .ok (.iadd, 1) := by decide +kernel
theorem dX10_find_130 : decode cX10_find 130 = .ok (.putfield 280, 3) := by decide +kernel
theorem dX10_find_133 : decode cX10_find 133 = .ok (.aload_n 0, 1) := by decide +kernel
theorem dX10_find_134 : decode cX10_find 134 = .ok (.dup, 1) := by decide +kernel
theorem dX10_find_135 : decode cX10_find 135 = .ok (.getfield 283, 3) := by decide +kernel
theorem dX10_find_138 : decode cX10_find 138 = .ok (.iconst 1, 1) := by decide +kernel
theorem dX10_find_139 : decode cX10_find 139 = .ok (.aload_n 0, 1) := by decide +kernel
theorem dX10_find_140 : decode cX10_find 140 = .ok (.iload_n 2, 1) := by decide +kernel
theorem dX10_find_141 : decode cX10_find 141 = .ok (.iconst 1, 1) := by decide +kernel
theorem dX10_find_142 : decode cX10_find 142 = .ok (.invokevirtual 111, 3) := by decide +kernel
theorem dX10_find_145 : decode cX10_find 145 = .ok (.ishl, 1) := by decide +kernel
theorem dX10_find_146 : decode cX10_find 146 = .ok (.ior, 1) := by decide +kernel
theorem dX10_find_147 : decode cX10_find 147 = .ok (.putfield 283, 3) := by decide +kernel
theorem dX10_find_150 : decode cX10_find 150 = .ok (.iinc 2 1, 3) := by decide +kernel
theorem dX10_find_153 : decode cX10_find 153 = .ok (.goto (-122), 3) := by decide +kernel
theorem dX10_find_156 : decode cX10_find 156 = .ok (.return_, 1) := by decide +kernel
theorem dX10_holds_0 : decode cX10_holds 0 = .ok (.aload_n 0, 1) := by decide +kernel
theorem dX10_holds_1 : decode cX10_holds 1 = .ok (.iload_n 1, 1) := by decide +kernel
theorem dX10_holds_2 : decode cX10_holds 2 = .ok (.invokevirtual 289, 3) := by decide +kernel
theorem dX10_holds_5 : decode cX10_holds 5 = .ok (.aload_n 0, 1) := by decide +kernel
theorem dX10_holds_6 : decode cX10_holds 6 = .ok (.getfield 269, 3) := by decide +kernel
theorem dX10_holds_9 : decode cX10_holds 9 = .ok (.ifCond .le 18, 3) := by decide +kernel
theorem dX10_holds_12 : decode cX10_holds 12 = .ok (.aload_n 0, 1) := by decide +kernel
theorem dX10_holds_13 : decode cX10_holds 13 = .ok (.getfield 273, 3) := by decide +kernel
theorem dX10_holds_16 : decode cX10_holds 16 = .ok (.aload_n 0, 1) := by decide +kernel
theorem dX10_holds_17 : decode cX10_holds 17 = .ok (.getfield 277, 3) := by decide +kernel
theorem dX10_holds_20 : decode cX10_holds 20 = .ok (.if_icmp .gt 7, 3) := by decide +kernel
theorem dX10_holds_23 : decode cX10_holds 23 = .ok (.iconst 1, 1) := by decide +kernel
theorem dX10_holds_24 : decode cX10_holds 24 = .ok (.goto 4, 3) := by decide +kernel
theorem dX10_holds_27 : decode cX10_holds 27 = .ok (.iconst 0, 1) := by decide +kernel
theorem dX10_holds_28 : decode cX10_holds 28 = .ok (.ireturn, 1) := by decide +kernel
theorem dX10_standsOnOne_0 : decode cX10_standsOnOne 0 = .ok (.aload_n 0, 1) := by decide +kernel
theorem dX10_standsOnOne_1 : decode cX10_standsOnOne 1 = .ok (.iload_n 1, 1) := by decide +kernel
theorem dX10_standsOnOne_2 : decode cX10_standsOnOne 2 = .ok (.invokevirtual 289, 3) := by decide +kernel
theorem dX10_standsOnOne_5 : decode cX10_standsOnOne 5 = .ok (.aload_n 0, 1) := by decide +kernel
theorem dX10_standsOnOne_6 : decode cX10_standsOnOne 6 = .ok (.getfield 283, 3) := by decide +kernel
theorem dX10_standsOnOne_9 : decode cX10_standsOnOne 9 = .ok (.iconst 1, 1) := by decide +kernel
theorem dX10_standsOnOne_10 : decode cX10_standsOnOne 10 = .ok (.if_icmp .eq 19, 3) := by decide +kernel
theorem dX10_standsOnOne_13 : decode cX10_standsOnOne 13 = .ok (.aload_n 0, 1) := by decide +kernel
theorem dX10_standsOnOne_14 : decode cX10_standsOnOne 14 = .ok (.getfield 283, 3) := by decide +kernel
theorem dX10_standsOnOne_17 : decode cX10_standsOnOne 17 = .ok (.iconst 2, 1) := by decide +kernel
theorem dX10_standsOnOne_18 : decode cX10_standsOnOne 18 = .ok (.if_icmp .eq 11, 3) := by decide +kernel
theorem dX10_standsOnOne_21 : decode cX10_standsOnOne 21 = .ok (.aload_n 0, 1) := by decide +kernel
theorem dX10_standsOnOne_22 : decode cX10_standsOnOne 22 = .ok (.getfield 283, 3) := by decide +kernel
theorem dX10_standsOnOne_25 : decode cX10_standsOnOne 25 = .ok (.iconst 4, 1) := by decide +kernel
theorem dX10_standsOnOne_26 : decode cX10_standsOnOne 26 = .ok (.if_icmp .ne 7, 3) := by decide +kernel
theorem dX10_standsOnOne_29 : decode cX10_standsOnOne 29 = .ok (.iconst 1, 1) := by decide +kernel
theorem dX10_standsOnOne_30 : decode cX10_standsOnOne 30 = .ok (.goto 4, 3) := by decide +kernel
theorem dX10_standsOnOne_33 : decode cX10_standsOnOne 33 = .ok (.iconst 0, 1) := by decide +kernel
theorem dX10_standsOnOne_34 : decode cX10_standsOnOne 34 = .ok (.ireturn, 1) := by decide +kernel
theorem dX10_cape_0 : decode cX10_cape 0 = .ok (.iload_n 1, 1) := by decide +kernel
theorem dX10_cape_1 : decode cX10_cape 1 = .ok (.invokestatic 293, 3) := by decide +kernel
theorem dX10_cape_4 : decode cX10_cape 4 = .ok (.ifCond .eq 15, 3) := by decide +kernel
theorem dX10_cape_7 : decode cX10_cape 7 = .ok (.iload_n 2, 1) := by decide +kernel
theorem dX10_cape_8 : decode cX10_cape 8 = .ok (.i2l, 1) := by decide +kernel
theorem dX10_cape_9 : decode cX10_cape 9 = .ok (.lconst 0, 1) := by decide +kernel
theorem dX10_cape_10 : decode cX10_cape 10 = .ok (.ldc2_w 92, 3) := by decide +kernel
theorem dX10_cape_13 : decode cX10_cape 13 = .ok (.invokestatic 80, 3) := by decide +kernel
theorem dX10_cape_16 : decode cX10_cape 16 = .ok (.ifCond .ne 6, 3) := by decide +kernel
theorem dX10_cape_19 : decode cX10_cape 19 = .ok (.ldc 102, 2) := by decide +kernel
theorem dX10_cape_21 : decode cX10_cape 21 = .ok (.ireturn, 1) := by decide +kernel
theorem dX10_cape_22 : decode cX10_cape 22 = .ok (.aload_n 0, 1) := by decide +kernel
theorem dX10_cape_23 : decode cX10_cape 23 = .ok (.iload_n 1, 1) := by decide +kernel
theorem dX10_cape_24 : decode cX10_cape 24 = .ok (.invokevirtual 289, 3) := by decide +kernel
theorem dX10_cape_27 : decode cX10_cape 27 = .ok (.aload_n 0, 1) := by decide +kernel
theorem dX10_cape_28 : decode cX10_cape 28 = .ok (.getfield 269, 3) := by decide +kernel
theorem dX10_cape_31 : decode cX10_cape 31 = .ok (.ifCond .ne 18, 3) := by decide +kernel
theorem dX10_cape_34 : decode cX10_cape 34 = .ok (.iload_n 2, 1) := by decide +kernel
theorem dX10_cape_35 : decode cX10_cape 35 = .ok (.i2l, 1) := by decide +kernel
theorem dX10_cape_36 : decode cX10_cape 36 = .ok (.lconst 1, 1) := by decide +kernel
theorem dX10_cape_37 : decode cX10_cape 37 = .ok (.ldc2_w 296, 3) := by decide +kernel
theorem dX10_cape_40 : decode cX10_cape 40 = .ok (.invokestatic 80, 3) := by decide +kernel
theorem dX10_cape_43 : decode cX10_cape 43 = .ok (.ifCond .eq 6, 3) := by decide +kernel
theorem dX10_cape_46 : decode cX10_cape 46 = .ok (.ldc 79, 2) := by decide +kernel
theorem dX10_cape_48 : decode cX10_cape 48 = .ok (.ireturn, 1) := by decide +kernel
theorem dX10_cape_49 : decode cX10_cape 49 = .ok (.iload_n 2, 1) := by decide +kernel
theorem dX10_cape_50 : decode cX10_cape 50 = .ok (.tableswitch 98 0 6 #[42, 47, 52, 57, 67, 79, 93], 42) := by decide +kernel
theorem dX10_cape_92 : decode cX10_cape 92 = .ok (.aload_n 0, 1) := by decide +kernel
theorem dX10_cape_93 : decode cX10_cape 93 = .ok (.getfield 269, 3) := by decide +kernel
theorem dX10_cape_96 : decode cX10_cape 96 = .ok (.ireturn, 1) := by decide +kernel
theorem dX10_cape_97 : decode cX10_cape 97 = .ok (.aload_n 0, 1) := by decide +kernel
theorem dX10_cape_98 : decode cX10_cape 98 = .ok (.getfield 273, 3) := by decide +kernel
theorem dX10_cape_101 : decode cX10_cape 101 = .ok (.ireturn, 1) := by decide +kernel
theorem dX10_cape_102 : decode cX10_cape 102 = .ok (.aload_n 0, 1) := by decide +kernel
theorem dX10_cape_103 : decode cX10_cape 103 = .ok (.getfield 277, 3) := by decide +kernel
theorem dX10_cape_106 : decode cX10_cape 106 = .ok (.ireturn, 1) := by decide +kernel
theorem dX10_cape_107 : decode cX10_cape 107 = .ok (.aload_n 0, 1) := by decide +kernel
theorem dX10_cape_108 : decode cX10_cape 108 = .ok (.getfield 277, 3) := by decide +kernel
theorem dX10_cape_111 : decode cX10_cape 111 = .ok (.aload_n 0, 1) := by decide +kernel
theorem dX10_cape_112 : decode cX10_cape 112 = .ok (.getfield 273, 3) := by decide +kernel
theorem dX10_cape_115 : decode cX10_cape 115 = .ok (.isub, 1) := by decide +kernel
theorem dX10_cape_116 : decode cX10_cape 116 = .ok (.ireturn, 1) := by decide +kernel
theorem dX10_cape_117 : decode cX10_cape 117 = .ok (.aload_n 0, 1) := by decide +kernel
theorem dX10_cape_118 : decode cX10_cape 118 = .ok (.getfield 273, 3) := by decide +kernel
theorem dX10_cape_121 : decode cX10_cape 121 = .ok (.aload_n 0, 1) := by decide +kernel
theorem dX10_cape_122 : decode cX10_cape 122 = .ok (.getfield 277, 3) := by decide +kernel
theorem dX10_cape_125 : decode cX10_cape 125 = .ok (.iadd, 1) := by decide +kernel
theorem dX10_cape_126 : decode cX10_cape 126 = .ok (.iconst 2, 1) := by decide +kernel
theorem dX10_cape_127 : decode cX10_cape 127 = .ok (.idiv, 1) := by decide +kernel
theorem dX10_cape_128 : decode cX10_cape 128 = .ok (.ireturn, 1) := by decide +kernel
theorem dX10_cape_129 : decode cX10_cape 129 = .ok (.aload_n 0, 1) := by decide +kernel
theorem dX10_cape_130 : decode cX10_cape 130 = .ok (.iload_n 1, 1) := by decide +kernel
theorem dX10_cape_131 : decode cX10_cape 131 = .ok (.invokevirtual 298, 3) := by decide +kernel
theorem dX10_cape_134 : decode cX10_cape 134 = .ok (.ifCond .eq 7, 3) := by decide +kernel
theorem dX10_cape_137 : decode cX10_cape 137 = .ok (.iconst 1, 1) := by decide +kernel
theorem dX10_cape_138 : decode cX10_cape 138 = .ok (.goto 4, 3) := by decide +kernel
theorem dX10_cape_141 : decode cX10_cape 141 = .ok (.iconst 0, 1) := by decide +kernel
theorem dX10_cape_142 : decode cX10_cape 142 = .ok (.ireturn, 1) := by decide +kernel
theorem dX10_cape_143 : decode cX10_cape 143 = .ok (.aload_n 0, 1) := by decide +kernel
theorem dX10_cape_144 : decode cX10_cape 144 = .ok (.getfield 280, 3) := by decide +kernel
theorem dX10_cape_147 : decode cX10_cape 147 = .ok (.ireturn, 1) := by decide +kernel
theorem dX10_cape_148 : decode cX10_cape 148 = .ok (.aload_n 0, 1) := by decide +kernel
theorem dX10_cape_149 : decode cX10_cape 149 = .ok (.iload_n 1, 1) := by decide +kernel
theorem dX10_cape_150 : decode cX10_cape 150 = .ok (.invokevirtual 301, 3) := by decide +kernel
theorem dX10_cape_153 : decode cX10_cape 153 = .ok (.ifCond .eq 7, 3) := by decide +kernel
theorem dX10_cape_156 : decode cX10_cape 156 = .ok (.iconst 1, 1) := by decide +kernel
theorem dX10_cape_157 : decode cX10_cape 157 = .ok (.goto 4, 3) := by decide +kernel
theorem dX10_cape_160 : decode cX10_cape 160 = .ok (.iconst 0, 1) := by decide +kernel
theorem dX10_cape_161 : decode cX10_cape 161 = .ok (.ireturn, 1) := by decide +kernel
theorem dX10_capes_0 : decode cX10_capes 0 = .ok (.iload_n 1, 1) := by decide +kernel
theorem dX10_capes_1 : decode cX10_capes 1 = .ok (.i2l, 1) := by decide +kernel
theorem dX10_capes_2 : decode cX10_capes 2 = .ok (.lconst 0, 1) := by decide +kernel
theorem dX10_capes_3 : decode cX10_capes 3 = .ok (.ldc2_w 86, 3) := by decide +kernel
theorem dX10_capes_6 : decode cX10_capes 6 = .ok (.invokestatic 80, 3) := by decide +kernel
theorem dX10_capes_9 : decode cX10_capes 9 = .ok (.ifCond .ne 6, 3) := by decide +kernel
theorem dX10_capes_12 : decode cX10_capes 12 = .ok (.ldc 102, 2) := by decide +kernel
theorem dX10_capes_14 : decode cX10_capes 14 = .ok (.ireturn, 1) := by decide +kernel
theorem dX10_capes_15 : decode cX10_capes 15 = .ok (.iconst 0, 1) := by decide +kernel
theorem dX10_capes_16 : decode cX10_capes 16 = .ok (.istore_n 2, 1) := by decide +kernel
theorem dX10_capes_17 : decode cX10_capes 17 = .ok (.iconst 0, 1) := by decide +kernel
theorem dX10_capes_18 : decode cX10_capes 18 = .ok (.istore_n 3, 1) := by decide +kernel
theorem dX10_capes_19 : decode cX10_capes 19 = .ok (.iload_n 3, 1) := by decide +kernel
theorem dX10_capes_20 : decode cX10_capes 20 = .ok (.bipush 9, 2) := by decide +kernel
theorem dX10_capes_22 : decode cX10_capes 22 = .ok (.if_icmp .ge 73, 3) := by decide +kernel
theorem dX10_capes_25 : decode cX10_capes 25 = .ok (.iload_n 1, 1) := by decide +kernel
theorem dX10_capes_26 : decode cX10_capes 26 = .ok (.iconst 1, 1) := by decide +kernel
theorem dX10_capes_27 : decode cX10_capes 27 = .ok (.if_icmp .ne 11, 3) := by decide +kernel
theorem dX10_capes_30 : decode cX10_capes 30 = .ok (.aload_n 0, 1) := by decide +kernel
theorem dX10_capes_31 : decode cX10_capes 31 = .ok (.iload_n 3, 1) := by decide +kernel
theorem dX10_capes_32 : decode cX10_capes 32 = .ok (.invokevirtual 298, 3) := by decide +kernel
theorem dX10_capes_35 : decode cX10_capes 35 = .ok (.goto 21, 3) := by decide +kernel
theorem dX10_capes_38 : decode cX10_capes 38 = .ok (.iload_n 1, 1) := by decide +kernel
theorem dX10_capes_39 : decode cX10_capes 39 = .ok (.iconst 2, 1) := by decide +kernel
theorem dX10_capes_40 : decode cX10_capes 40 = .ok (.if_icmp .ne 15, 3) := by decide +kernel
theorem dX10_capes_43 : decode cX10_capes 43 = .ok (.aload_n 0, 1) := by decide +kernel
theorem dX10_capes_44 : decode cX10_capes 44 = .ok (.iload_n 3, 1) := by decide +kernel
theorem dX10_capes_45 : decode cX10_capes 45 = .ok (.invokevirtual 301, 3) := by decide +kernel
theorem dX10_capes_48 : decode cX10_capes 48 = .ok (.ifCond .eq 7, 3) := by decide +kernel
theorem dX10_capes_51 : decode cX10_capes 51 = .ok (.iconst 1, 1) := by decide +kernel
theorem dX10_capes_52 : decode cX10_capes 52 = .ok (.goto 4, 3) := by decide +kernel
theorem dX10_capes_55 : decode cX10_capes 55 = .ok (.iconst 0, 1) := by decide +kernel
theorem dX10_capes_56 : decode cX10_capes 56 = .ok (.istore 4, 2) := by decide +kernel
theorem dX10_capes_58 : decode cX10_capes 58 = .ok (.aload_n 0, 1) := by decide +kernel
theorem dX10_capes_59 : decode cX10_capes 59 = .ok (.iload_n 3, 1) := by decide +kernel
theorem dX10_capes_60 : decode cX10_capes 60 = .ok (.invokevirtual 289, 3) := by decide +kernel
theorem dX10_capes_63 : decode cX10_capes 63 = .ok (.iload_n 2, 1) := by decide +kernel
theorem dX10_capes_64 : decode cX10_capes 64 = .ok (.iload 4, 2) := by decide +kernel
theorem dX10_capes_66 : decode cX10_capes 66 = .ok (.ifCond .ne 14, 3) := by decide +kernel
theorem dX10_capes_69 : decode cX10_capes 69 = .ok (.iload_n 1, 1) := by decide +kernel
theorem dX10_capes_70 : decode cX10_capes 70 = .ok (.ifCond .ne 16, 3) := by decide +kernel
theorem dX10_capes_73 : decode cX10_capes 73 = .ok (.aload_n 0, 1) := by decide +kernel
theorem dX10_capes_74 : decode cX10_capes 74 = .ok (.getfield 269, 3) := by decide +kernel
theorem dX10_capes_77 : decode cX10_capes 77 = .ok (.ifCond .le 9, 3) := by decide +kernel
theorem dX10_capes_80 : decode cX10_capes 80 = .ok (.iconst 1, 1) := by decide +kernel
theorem dX10_capes_81 : decode cX10_capes 81 = .ok (.iload_n 3, 1) := by decide +kernel
theorem dX10_capes_82 : decode cX10_capes 82 = .ok (.ishl, 1) := by decide +kernel
theorem dX10_capes_83 : decode cX10_capes 83 = .ok (.goto 4, 3) := by decide +kernel
theorem dX10_capes_86 : decode cX10_capes 86 = .ok (.iconst 0, 1) := by decide +kernel
theorem dX10_capes_87 : decode cX10_capes 87 = .ok (.ior, 1) := by decide +kernel
theorem dX10_capes_88 : decode cX10_capes 88 = .ok (.istore_n 2, 1) := by decide +kernel
theorem dX10_capes_89 : decode cX10_capes 89 = .ok (.iinc 3 1, 3) := by decide +kernel
theorem dX10_capes_92 : decode cX10_capes 92 = .ok (.goto (-73), 3) := by decide +kernel
theorem dX10_capes_95 : decode cX10_capes 95 = .ok (.iload_n 2, 1) := by decide +kernel
theorem dX10_capes_96 : decode cX10_capes 96 = .ok (.ireturn, 1) := by decide +kernel
theorem dX10_next_0 : decode cX10_next 0 = .ok (.iconst (-1), 1) := by decide +kernel
theorem dX10_next_1 : decode cX10_next 1 = .ok (.istore_n 1, 1) := by decide +kernel
theorem dX10_next_2 : decode cX10_next 2 = .ok (.iconst (-1), 1) := by decide +kernel
theorem dX10_next_3 : decode cX10_next 3 = .ok (.istore_n 2, 1) := by decide +kernel
theorem dX10_next_4 : decode cX10_next 4 = .ok (.iconst 0, 1) := by decide +kernel
theorem dX10_next_5 : decode cX10_next 5 = .ok (.istore_n 3, 1) := by decide +kernel
theorem dX10_next_6 : decode cX10_next 6 = .ok (.iload_n 3, 1) := by decide +kernel
theorem dX10_next_7 : decode cX10_next 7 = .ok (.bipush 9, 2) := by decide +kernel
theorem dX10_next_9 : decode cX10_next 9 = .ok (.if_icmp .ge 42, 3) := by decide +kernel
theorem dX10_next_12 : decode cX10_next 12 = .ok (.aload_n 0, 1) := by decide +kernel
theorem dX10_next_13 : decode cX10_next 13 = .ok (.iload_n 3, 1) := by decide +kernel
theorem dX10_next_14 : decode cX10_next 14 = .ok (.invokevirtual 298, 3) := by decide +kernel
theorem dX10_next_17 : decode cX10_next 17 = .ok (.ifCond .eq 28, 3) := by decide +kernel
theorem dX10_next_20 : decode cX10_next 20 = .ok (.aload_n 0, 1) := by decide +kernel
theorem dX10_next_21 : decode cX10_next 21 = .ok (.getfield 277, 3) := by decide +kernel
theorem dX10_next_24 : decode cX10_next 24 = .ok (.aload_n 0, 1) := by decide +kernel
theorem dX10_next_25 : decode cX10_next 25 = .ok (.getfield 273, 3) := by decide +kernel
theorem dX10_next_28 : decode cX10_next 28 = .ok (.isub, 1) := by decide +kernel
theorem dX10_next_29 : decode cX10_next 29 = .ok (.iload_n 2, 1) := by decide +kernel
theorem dX10_next_30 : decode cX10_next 30 = .ok (.if_icmp .le 15, 3) := by decide +kernel
theorem dX10_next_33 : decode cX10_next 33 = .ok (.iload_n 3, 1) := by decide +kernel
theorem dX10_next_34 : decode cX10_next 34 = .ok (.istore_n 1, 1) := by decide +kernel
theorem dX10_next_35 : decode cX10_next 35 = .ok (.aload_n 0, 1) := by decide +kernel
theorem dX10_next_36 : decode cX10_next 36 = .ok (.getfield 277, 3) := by decide +kernel
theorem dX10_next_39 : decode cX10_next 39 = .ok (.aload_n 0, 1) := by decide +kernel
theorem dX10_next_40 : decode cX10_next 40 = .ok (.getfield 273, 3) := by decide +kernel
theorem dX10_next_43 : decode cX10_next 43 = .ok (.isub, 1) := by decide +kernel
theorem dX10_next_44 : decode cX10_next 44 = .ok (.istore_n 2, 1) := by decide +kernel
theorem dX10_next_45 : decode cX10_next 45 = .ok (.iinc 3 1, 3) := by decide +kernel
theorem dX10_next_48 : decode cX10_next 48 = .ok (.goto (-42), 3) := by decide +kernel
theorem dX10_next_51 : decode cX10_next 51 = .ok (.iload_n 1, 1) := by decide +kernel
theorem dX10_next_52 : decode cX10_next 52 = .ok (.invokestatic 142, 3) := by decide +kernel
theorem dX10_next_55 : decode cX10_next 55 = .ok (.ireturn, 1) := by decide +kernel
theorem dX10_toldOf_0 : decode cX10_toldOf 0 = .ok (.iconst 0, 1) := by decide +kernel
theorem dX10_toldOf_1 : decode cX10_toldOf 1 = .ok (.istore_n 2, 1) := by decide +kernel
theorem dX10_toldOf_2 : decode cX10_toldOf 2 = .ok (.iconst 0, 1) := by decide +kernel
theorem dX10_toldOf_3 : decode cX10_toldOf 3 = .ok (.istore_n 3, 1) := by decide +kernel
theorem dX10_toldOf_4 : decode cX10_toldOf 4 = .ok (.iload_n 3, 1) := by decide +kernel
theorem dX10_toldOf_5 : decode cX10_toldOf 5 = .ok (.aload_n 0, 1) := by decide +kernel
theorem dX10_toldOf_6 : decode cX10_toldOf 6 = .ok (.getfield 7, 3) := by decide +kernel
theorem dX10_toldOf_9 : decode cX10_toldOf 9 = .ok (.iconst 3, 1) := by decide +kernel
theorem dX10_toldOf_10 : decode cX10_toldOf 10 = .ok (.iaload, 1) := by decide +kernel
theorem dX10_toldOf_11 : decode cX10_toldOf 11 = .ok (.if_icmp .ge 35, 3) := by decide +kernel
theorem dX10_toldOf_14 : decode cX10_toldOf 14 = .ok (.iload_n 2, 1) := by decide +kernel
theorem dX10_toldOf_15 : decode cX10_toldOf 15 = .ok (.aload_n 0, 1) := by decide +kernel
theorem dX10_toldOf_16 : decode cX10_toldOf 16 = .ok (.aload_n 0, 1) := by decide +kernel
theorem dX10_toldOf_17 : decode cX10_toldOf 17 = .ok (.getfield 7, 3) := by decide +kernel
theorem dX10_toldOf_20 : decode cX10_toldOf 20 = .ok (.bipush 30, 2) := by decide +kernel
theorem dX10_toldOf_22 : decode cX10_toldOf 22 = .ok (.iload_n 3, 1) := by decide +kernel
theorem dX10_toldOf_23 : decode cX10_toldOf 23 = .ok (.iadd, 1) := by decide +kernel
theorem dX10_toldOf_24 : decode cX10_toldOf 24 = .ok (.iaload, 1) := by decide +kernel
theorem dX10_toldOf_25 : decode cX10_toldOf 25 = .ok (.iconst 1, 1) := by decide +kernel
theorem dX10_toldOf_26 : decode cX10_toldOf 26 = .ok (.invokevirtual 111, 3) := by decide +kernel
theorem dX10_toldOf_29 : decode cX10_toldOf 29 = .ok (.iload_n 1, 1) := by decide +kernel
theorem dX10_toldOf_30 : decode cX10_toldOf 30 = .ok (.if_icmp .ne 7, 3) := by decide +kernel
theorem dX10_toldOf_33 : decode cX10_toldOf 33 = .ok (.iconst 1, 1) := by decide +kernel
theorem dX10_toldOf_34 : decode cX10_toldOf 34 = .ok (.goto 4, 3) := by decide +kernel
theorem dX10_toldOf_37 : decode cX10_toldOf 37 = .ok (.iconst 0, 1) := by decide +kernel
theorem dX10_toldOf_38 : decode cX10_toldOf 38 = .ok (.iadd, 1) := by decide +kernel
theorem dX10_toldOf_39 : decode cX10_toldOf 39 = .ok (.istore_n 2, 1) := by decide +kernel
theorem dX10_toldOf_40 : decode cX10_toldOf 40 = .ok (.iinc 3 1, 3) := by decide +kernel
theorem dX10_toldOf_43 : decode cX10_toldOf 43 = .ok (.goto (-39), 3) := by decide +kernel
theorem dX10_toldOf_46 : decode cX10_toldOf 46 = .ok (.iload_n 2, 1) := by decide +kernel
theorem dX10_toldOf_47 : decode cX10_toldOf 47 = .ok (.ireturn, 1) := by decide +kernel
theorem dX10_toldMark_0 : decode cX10_toldMark 0 = .ok (.iload_n 2, 1) := by decide +kernel
theorem dX10_toldMark_1 : decode cX10_toldMark 1 = .ok (.istore_n 3, 1) := by decide +kernel
theorem dX10_toldMark_2 : decode cX10_toldMark 2 = .ok (.iconst 0, 1) := by decide +kernel
theorem dX10_toldMark_3 : decode cX10_toldMark 3 = .ok (.istore 4, 2) := by decide +kernel
theorem dX10_toldMark_5 : decode cX10_toldMark 5 = .ok (.iload 4, 2) := by decide +kernel
theorem dX10_toldMark_7 : decode cX10_toldMark 7 = .ok (.aload_n 0, 1) := by decide +kernel
theorem dX10_toldMark_8 : decode cX10_toldMark 8 = .ok (.getfield 7, 3) := by decide +kernel
theorem dX10_toldMark_11 : decode cX10_toldMark 11 = .ok (.iconst 3, 1) := by decide +kernel
theorem dX10_toldMark_12 : decode cX10_toldMark 12 = .ok (.iaload, 1) := by decide +kernel
theorem dX10_toldMark_13 : decode cX10_toldMark 13 = .ok (.if_icmp .ge 46, 3) := by decide +kernel
theorem dX10_toldMark_16 : decode cX10_toldMark 16 = .ok (.aload_n 0, 1) := by decide +kernel
theorem dX10_toldMark_17 : decode cX10_toldMark 17 = .ok (.aload_n 0, 1) := by decide +kernel
theorem dX10_toldMark_18 : decode cX10_toldMark 18 = .ok (.getfield 7, 3) := by decide +kernel
theorem dX10_toldMark_21 : decode cX10_toldMark 21 = .ok (.bipush 30, 2) := by decide +kernel
theorem dX10_toldMark_23 : decode cX10_toldMark 23 = .ok (.iload 4, 2) := by decide +kernel
theorem dX10_toldMark_25 : decode cX10_toldMark 25 = .ok (.iadd, 1) := by decide +kernel
theorem dX10_toldMark_26 : decode cX10_toldMark 26 = .ok (.iaload, 1) := by decide +kernel
theorem dX10_toldMark_27 : decode cX10_toldMark 27 = .ok (.iconst 1, 1) := by decide +kernel
theorem dX10_toldMark_28 : decode cX10_toldMark 28 = .ok (.invokevirtual 111, 3) := by decide +kernel
theorem dX10_toldMark_31 : decode cX10_toldMark 31 = .ok (.iload_n 1, 1) := by decide +kernel
theorem dX10_toldMark_32 : decode cX10_toldMark 32 = .ok (.if_icmp .ne 21, 3) := by decide +kernel
theorem dX10_toldMark_35 : decode cX10_toldMark 35 = .ok (.iload_n 3, 1) := by decide +kernel
theorem dX10_toldMark_36 : decode cX10_toldMark 36 = .ok (.ifCond .ne 14, 3) := by decide +kernel
theorem dX10_toldMark_39 : decode cX10_toldMark 39 = .ok (.aload_n 0, 1) := by decide +kernel
theorem dX10_toldMark_40 : decode cX10_toldMark 40 = .ok (.getfield 7, 3) := by decide +kernel
theorem dX10_toldMark_43 : decode cX10_toldMark 43 = .ok (.bipush 30, 2) := by decide +kernel
theorem dX10_toldMark_45 : decode cX10_toldMark 45 = .ok (.iload 4, 2) := by decide +kernel
theorem dX10_toldMark_47 : decode cX10_toldMark 47 = .ok (.iadd, 1) := by decide +kernel
theorem dX10_toldMark_48 : decode cX10_toldMark 48 = .ok (.iaload, 1) := by decide +kernel
theorem dX10_toldMark_49 : decode cX10_toldMark 49 = .ok (.ireturn, 1) := by decide +kernel
theorem dX10_toldMark_50 : decode cX10_toldMark 50 = .ok (.iinc 3 (-1), 3) := by decide +kernel
theorem dX10_toldMark_53 : decode cX10_toldMark 53 = .ok (.iinc 4 1, 3) := by decide +kernel
theorem dX10_toldMark_56 : decode cX10_toldMark 56 = .ok (.goto (-51), 3) := by decide +kernel
theorem dX10_toldMark_59 : decode cX10_toldMark 59 = .ok (.iconst (-1), 1) := by decide +kernel
theorem dX10_toldMark_60 : decode cX10_toldMark 60 = .ok (.ireturn, 1) := by decide +kernel
theorem dX10_choose_0 : decode cX10_choose 0 = .ok (.aload_n 0, 1) := by decide +kernel
theorem dX10_choose_1 : decode cX10_choose 1 = .ok (.iload_n 1, 1) := by decide +kernel
theorem dX10_choose_2 : decode cX10_choose 2 = .ok (.invokevirtual 138, 3) := by decide +kernel
theorem dX10_choose_5 : decode cX10_choose 5 = .ok (.ifCond .ne 6, 3) := by decide +kernel
theorem dX10_choose_8 : decode cX10_choose 8 = .ok (.ldc 102, 2) := by decide +kernel
theorem dX10_choose_10 : decode cX10_choose 10 = .ok (.ireturn, 1) := by decide +kernel
theorem dX10_choose_11 : decode cX10_choose 11 = .ok (.iconst 0, 1) := by decide +kernel
theorem dX10_choose_12 : decode cX10_choose 12 = .ok (.istore_n 2, 1) := by decide +kernel
theorem dX10_choose_13 : decode cX10_choose 13 = .ok (.iload_n 2, 1) := by decide +kernel
theorem dX10_choose_14 : decode cX10_choose 14 = .ok (.aload_n 0, 1) := by decide +kernel
theorem dX10_choose_15 : decode cX10_choose 15 = .ok (.getfield 7, 3) := by decide +kernel
theorem dX10_choose_18 : decode cX10_choose 18 = .ok (.iconst 3, 1) := by decide +kernel
theorem dX10_choose_19 : decode cX10_choose 19 = .ok (.iaload, 1) := by decide +kernel
theorem dX10_choose_20 : decode cX10_choose 20 = .ok (.if_icmp .ge 26, 3) := by decide +kernel
theorem dX10_choose_23 : decode cX10_choose 23 = .ok (.aload_n 0, 1) := by decide +kernel
theorem dX10_choose_24 : decode cX10_choose 24 = .ok (.getfield 7, 3) := by decide +kernel
theorem dX10_choose_27 : decode cX10_choose 27 = .ok (.bipush 30, 2) := by decide +kernel
theorem dX10_choose_29 : decode cX10_choose 29 = .ok (.iload_n 2, 1) := by decide +kernel
theorem dX10_choose_30 : decode cX10_choose 30 = .ok (.iadd, 1) := by decide +kernel
theorem dX10_choose_31 : decode cX10_choose 31 = .ok (.iaload, 1) := by decide +kernel
theorem dX10_choose_32 : decode cX10_choose 32 = .ok (.iload_n 1, 1) := by decide +kernel
theorem dX10_choose_33 : decode cX10_choose 33 = .ok (.if_icmp .ne 7, 3) := by decide +kernel
theorem dX10_choose_36 : decode cX10_choose 36 = .ok (.ldc_w 304, 3) := by decide +kernel
theorem dX10_choose_39 : decode cX10_choose 39 = .ok (.ireturn, 1) := by decide +kernel
theorem dX10_choose_40 : decode cX10_choose 40 = .ok (.iinc 2 1, 3) := by decide +kernel
theorem dX10_choose_43 : decode cX10_choose 43 = .ok (.goto (-30), 3) := by decide +kernel
theorem dX10_choose_46 : decode cX10_choose 46 = .ok (.aload_n 0, 1) := by decide +kernel
theorem dX10_choose_47 : decode cX10_choose 47 = .ok (.iload_n 1, 1) := by decide +kernel
theorem dX10_choose_48 : decode cX10_choose 48 = .ok (.iconst 1, 1) := by decide +kernel
theorem dX10_choose_49 : decode cX10_choose 49 = .ok (.invokevirtual 111, 3) := by decide +kernel
theorem dX10_choose_52 : decode cX10_choose 52 = .ok (.istore_n 2, 1) := by decide +kernel
theorem dX10_choose_53 : decode cX10_choose 53 = .ok (.aload_n 0, 1) := by decide +kernel
theorem dX10_choose_54 : decode cX10_choose 54 = .ok (.iload_n 2, 1) := by decide +kernel
theorem dX10_choose_55 : decode cX10_choose 55 = .ok (.invokevirtual 305, 3) := by decide +kernel
theorem dX10_choose_58 : decode cX10_choose 58 = .ok (.iconst 5, 1) := by decide +kernel
theorem dX10_choose_59 : decode cX10_choose 59 = .ok (.if_icmp .ne 6, 3) := by decide +kernel
theorem dX10_choose_62 : decode cX10_choose 62 = .ok (.ldc 103, 2) := by decide +kernel
theorem dX10_choose_64 : decode cX10_choose 64 = .ok (.ireturn, 1) := by decide +kernel
theorem dX10_choose_65 : decode cX10_choose 65 = .ok (.aload_n 0, 1) := by decide +kernel
theorem dX10_choose_66 : decode cX10_choose 66 = .ok (.getfield 7, 3) := by decide +kernel
theorem dX10_choose_69 : decode cX10_choose 69 = .ok (.bipush 30, 2) := by decide +kernel
theorem dX10_choose_71 : decode cX10_choose 71 = .ok (.aload_n 0, 1) := by decide +kernel
theorem dX10_choose_72 : decode cX10_choose 72 = .ok (.getfield 7, 3) := by decide +kernel
theorem dX10_choose_75 : decode cX10_choose 75 = .ok (.iconst 3, 1) := by decide +kernel
theorem dX10_choose_76 : decode cX10_choose 76 = .ok (.iaload, 1) := by decide +kernel
theorem dX10_choose_77 : decode cX10_choose 77 = .ok (.iadd, 1) := by decide +kernel
theorem dX10_choose_78 : decode cX10_choose 78 = .ok (.iload_n 1, 1) := by decide +kernel
theorem dX10_choose_79 : decode cX10_choose 79 = .ok (.iastore, 1) := by decide +kernel
theorem dX10_choose_80 : decode cX10_choose 80 = .ok (.aload_n 0, 1) := by decide +kernel
theorem dX10_choose_81 : decode cX10_choose 81 = .ok (.getfield 7, 3) := by decide +kernel
theorem dX10_choose_84 : decode cX10_choose 84 = .ok (.iconst 3, 1) := by decide +kernel
theorem dX10_choose_85 : decode cX10_choose 85 = .ok (.dup2, 1) := by decide +kernel
theorem dX10_choose_86 : decode cX10_choose 86 = .ok (.iaload, 1) := by decide +kernel
theorem dX10_choose_87 : decode cX10_choose 87 = .ok (.iconst 1, 1) := by decide +kernel
theorem dX10_choose_88 : decode cX10_choose 88 = .ok (.iadd, 1) := by decide +kernel
theorem dX10_choose_89 : decode cX10_choose 89 = .ok (.iastore, 1) := by decide +kernel
theorem dX10_choose_90 : decode cX10_choose 90 = .ok (.aload_n 0, 1) := by decide +kernel
theorem dX10_choose_91 : decode cX10_choose 91 = .ok (.iload_n 2, 1) := by decide +kernel
theorem dX10_choose_92 : decode cX10_choose 92 = .ok (.invokevirtual 305, 3) := by decide +kernel
theorem dX10_choose_95 : decode cX10_choose 95 = .ok (.ireturn, 1) := by decide +kernel
theorem dX10_clear_0 : decode cX10_clear 0 = .ok (.aload_n 0, 1) := by decide +kernel
theorem dX10_clear_1 : decode cX10_clear 1 = .ok (.iconst 3, 1) := by decide +kernel
theorem dX10_clear_2 : decode cX10_clear 2 = .ok (.iconst 0, 1) := by decide +kernel
theorem dX10_clear_3 : decode cX10_clear 3 = .ok (.invokevirtual 161, 3) := by decide +kernel
theorem dX10_clear_6 : decode cX10_clear 6 = .ok (.ireturn, 1) := by decide +kernel
theorem dX10_tries_0 : decode cX10_tries 0 = .ok (.iload_n 1, 1) := by decide +kernel
theorem dX10_tries_1 : decode cX10_tries 1 = .ok (.aload_n 0, 1) := by decide +kernel
theorem dX10_tries_2 : decode cX10_tries 2 = .ok (.getfield 308, 3) := by decide +kernel
theorem dX10_tries_5 : decode cX10_tries 5 = .ok (.if_icmp .ne 70, 3) := by decide +kernel
theorem dX10_tries_8 : decode cX10_tries 8 = .ok (.iload_n 2, 1) := by decide +kernel
theorem dX10_tries_9 : decode cX10_tries 9 = .ok (.aload_n 0, 1) := by decide +kernel
theorem dX10_tries_10 : decode cX10_tries 10 = .ok (.getfield 311, 3) := by decide +kernel
theorem dX10_tries_13 : decode cX10_tries 13 = .ok (.if_icmp .gt 19, 3) := by decide +kernel
theorem dX10_tries_16 : decode cX10_tries 16 = .ok (.iload_n 2, 1) := by decide +kernel
theorem dX10_tries_17 : decode cX10_tries 17 = .ok (.aload_n 0, 1) := by decide +kernel
theorem dX10_tries_18 : decode cX10_tries 18 = .ok (.getfield 311, 3) := by decide +kernel
theorem dX10_tries_21 : decode cX10_tries 21 = .ok (.if_icmp .ne 53, 3) := by decide +kernel
theorem dX10_tries_24 : decode cX10_tries 24 = .ok (.iload_n 3, 1) := by decide +kernel
theorem dX10_tries_25 : decode cX10_tries 25 = .ok (.aload_n 0, 1) := by decide +kernel
theorem dX10_tries_26 : decode cX10_tries 26 = .ok (.getfield 314, 3) := by decide +kernel
theorem dX10_tries_29 : decode cX10_tries 29 = .ok (.if_icmp .ge 45, 3) := by decide +kernel
theorem dX10_tries_32 : decode cX10_tries 32 = .ok (.aload_n 0, 1) := by decide +kernel
theorem dX10_tries_33 : decode cX10_tries 33 = .ok (.iload_n 2, 1) := by decide +kernel
theorem dX10_tries_34 : decode cX10_tries 34 = .ok (.putfield 311, 3) := by decide +kernel
theorem dX10_tries_37 : decode cX10_tries 37 = .ok (.aload_n 0, 1) := by decide +kernel
theorem dX10_tries_38 : decode cX10_tries 38 = .ok (.iload_n 3, 1) := by decide +kernel
theorem dX10_tries_39 : decode cX10_tries 39 = .ok (.putfield 314, 3) := by decide +kernel
theorem dX10_tries_42 : decode cX10_tries 42 = .ok (.iconst 0, 1) := by decide +kernel
theorem dX10_tries_43 : decode cX10_tries 43 = .ok (.istore 5, 2) := by decide +kernel
theorem dX10_tries_45 : decode cX10_tries 45 = .ok (.iload 5, 2) := by decide +kernel
theorem dX10_tries_47 : decode cX10_tries 47 = .ok (.aload_n 0, 1) := by decide +kernel
theorem dX10_tries_48 : decode cX10_tries 48 = .ok (.getfield 308, 3) := by decide +kernel
theorem dX10_tries_51 : decode cX10_tries 51 = .ok (.if_icmp .ge 23, 3) := by decide +kernel
theorem dX10_tries_54 : decode cX10_tries 54 = .ok (.aload_n 0, 1) := by decide +kernel
theorem dX10_tries_55 : decode cX10_tries 55 = .ok (.getfield 58, 3) := by decide +kernel
theorem dX10_tries_58 : decode cX10_tries 58 = .ok (.iload 5, 2) := by decide +kernel
theorem dX10_tries_60 : decode cX10_tries 60 = .ok (.aload_n 0, 1) := by decide +kernel
theorem dX10_tries_61 : decode cX10_tries 61 = .ok (.getfield 55, 3) := by decide +kernel
theorem dX10_tries_64 : decode cX10_tries 64 = .ok (.iload 5, 2) := by decide +kernel
theorem dX10_tries_66 : decode cX10_tries 66 = .ok (.iaload, 1) := by decide +kernel
theorem dX10_tries_67 : decode cX10_tries 67 = .ok (.iastore, 1) := by decide +kernel
theorem dX10_tries_68 : decode cX10_tries 68 = .ok (.iinc 5 1, 3) := by decide +kernel
theorem dX10_tries_71 : decode cX10_tries 71 = .ok (.goto (-26), 3) := by decide +kernel
theorem dX10_tries_74 : decode cX10_tries 74 = .ok (.return_, 1) := by decide +kernel
theorem dX10_tries_75 : decode cX10_tries 75 = .ok (.iconst 0, 1) := by decide +kernel
theorem dX10_tries_76 : decode cX10_tries 76 = .ok (.istore 5, 2) := by decide +kernel
theorem dX10_tries_78 : decode cX10_tries 78 = .ok (.iload 5, 2) := by decide +kernel
theorem dX10_tries_80 : decode cX10_tries 80 = .ok (.aload_n 0, 1) := by decide +kernel
theorem dX10_tries_81 : decode cX10_tries 81 = .ok (.getfield 317, 3) := by decide +kernel
theorem dX10_tries_84 : decode cX10_tries 84 = .ok (.if_icmp .ge 71, 3) := by decide +kernel
theorem dX10_tries_87 : decode cX10_tries 87 = .ok (.iload 4, 2) := by decide +kernel
theorem dX10_tries_89 : decode cX10_tries 89 = .ok (.iload 5, 2) := by decide +kernel
theorem dX10_tries_91 : decode cX10_tries 91 = .ok (.ishr, 1) := by decide +kernel
theorem dX10_tries_92 : decode cX10_tries 92 = .ok (.iconst 1, 1) := by decide +kernel
theorem dX10_tries_93 : decode cX10_tries 93 = .ok (.iand, 1) := by decide +kernel
theorem dX10_tries_94 : decode cX10_tries 94 = .ok (.ifCond .ne 55, 3) := by decide +kernel
theorem dX10_tries_97 : decode cX10_tries 97 = .ok (.aload_n 0, 1) := by decide +kernel
theorem dX10_tries_98 : decode cX10_tries 98 = .ok (.getfield 52, 3) := by decide +kernel
theorem dX10_tries_101 : decode cX10_tries 101 = .ok (.iconst 5, 1) := by decide +kernel
theorem dX10_tries_102 : decode cX10_tries 102 = .ok (.iload_n 1, 1) := by decide +kernel
theorem dX10_tries_103 : decode cX10_tries 103 = .ok (.imul, 1) := by decide +kernel
theorem dX10_tries_104 : decode cX10_tries 104 = .ok (.iload 5, 2) := by decide +kernel
theorem dX10_tries_106 : decode cX10_tries 106 = .ok (.iadd, 1) := by decide +kernel
theorem dX10_tries_107 : decode cX10_tries 107 = .ok (.iaload, 1) := by decide +kernel
theorem dX10_tries_108 : decode cX10_tries 108 = .ok (.ifCond .lt 41, 3) := by decide +kernel
theorem dX10_tries_111 : decode cX10_tries 111 = .ok (.aload_n 0, 1) := by decide +kernel
theorem dX10_tries_112 : decode cX10_tries 112 = .ok (.getfield 55, 3) := by decide +kernel
theorem dX10_tries_115 : decode cX10_tries 115 = .ok (.iload_n 1, 1) := by decide +kernel
theorem dX10_tries_116 : decode cX10_tries 116 = .ok (.iload 5, 2) := by decide +kernel
theorem dX10_tries_118 : decode cX10_tries 118 = .ok (.iastore, 1) := by decide +kernel
theorem dX10_tries_119 : decode cX10_tries 119 = .ok (.aload_n 0, 1) := by decide +kernel
theorem dX10_tries_120 : decode cX10_tries 120 = .ok (.iload_n 1, 1) := by decide +kernel
theorem dX10_tries_121 : decode cX10_tries 121 = .ok (.iconst 1, 1) := by decide +kernel
theorem dX10_tries_122 : decode cX10_tries 122 = .ok (.iadd, 1) := by decide +kernel
theorem dX10_tries_123 : decode cX10_tries 123 = .ok (.iload_n 2, 1) := by decide +kernel
theorem dX10_tries_124 : decode cX10_tries 124 = .ok (.iconst 1, 1) := by decide +kernel
theorem dX10_tries_125 : decode cX10_tries 125 = .ok (.iadd, 1) := by decide +kernel
theorem dX10_tries_126 : decode cX10_tries 126 = .ok (.iload_n 3, 1) := by decide +kernel
theorem dX10_tries_127 : decode cX10_tries 127 = .ok (.aload_n 0, 1) := by decide +kernel
theorem dX10_tries_128 : decode cX10_tries 128 = .ok (.getfield 52, 3) := by decide +kernel
theorem dX10_tries_131 : decode cX10_tries 131 = .ok (.iconst 5, 1) := by decide +kernel
theorem dX10_tries_132 : decode cX10_tries 132 = .ok (.iload_n 1, 1) := by decide +kernel
theorem dX10_tries_133 : decode cX10_tries 133 = .ok (.imul, 1) := by decide +kernel
theorem dX10_tries_134 : decode cX10_tries 134 = .ok (.iload 5, 2) := by decide +kernel
theorem dX10_tries_136 : decode cX10_tries 136 = .ok (.iadd, 1) := by decide +kernel
theorem dX10_tries_137 : decode cX10_tries 137 = .ok (.iaload, 1) := by decide +kernel
theorem dX10_tries_138 : decode cX10_tries 138 = .ok (.iadd, 1) := by decide +kernel
theorem dX10_tries_139 : decode cX10_tries 139 = .ok (.iload 4, 2) := by decide +kernel
theorem dX10_tries_141 : decode cX10_tries 141 = .ok (.iconst 1, 1) := by decide +kernel
theorem dX10_tries_142 : decode cX10_tries 142 = .ok (.iload 5, 2) := by decide +kernel
theorem dX10_tries_144 : decode cX10_tries 144 = .ok (.ishl, 1) := by decide +kernel
theorem dX10_tries_145 : decode cX10_tries 145 = .ok (.ior, 1) := by decide +kernel
theorem dX10_tries_146 : decode cX10_tries 146 = .ok (.invokevirtual 320, 3) := by decide +kernel
theorem dX10_tries_149 : decode cX10_tries 149 = .ok (.iinc 5 1, 3) := by decide +kernel
theorem dX10_tries_152 : decode cX10_tries 152 = .ok (.goto (-74), 3) := by decide +kernel
theorem dX10_tries_155 : decode cX10_tries 155 = .ok (.aload_n 0, 1) := by decide +kernel
theorem dX10_tries_156 : decode cX10_tries 156 = .ok (.getfield 55, 3) := by decide +kernel
theorem dX10_tries_159 : decode cX10_tries 159 = .ok (.iload_n 1, 1) := by decide +kernel
theorem dX10_tries_160 : decode cX10_tries 160 = .ok (.iconst (-1), 1) := by decide +kernel
theorem dX10_tries_161 : decode cX10_tries 161 = .ok (.iastore, 1) := by decide +kernel
theorem dX10_tries_162 : decode cX10_tries 162 = .ok (.aload_n 0, 1) := by decide +kernel
theorem dX10_tries_163 : decode cX10_tries 163 = .ok (.iload_n 1, 1) := by decide +kernel
theorem dX10_tries_164 : decode cX10_tries 164 = .ok (.iconst 1, 1) := by decide +kernel
theorem dX10_tries_165 : decode cX10_tries 165 = .ok (.iadd, 1) := by decide +kernel
theorem dX10_tries_166 : decode cX10_tries 166 = .ok (.iload_n 2, 1) := by decide +kernel
theorem dX10_tries_167 : decode cX10_tries 167 = .ok (.iload_n 3, 1) := by decide +kernel
theorem dX10_tries_168 : decode cX10_tries 168 = .ok (.iload 4, 2) := by decide +kernel
theorem dX10_tries_170 : decode cX10_tries 170 = .ok (.invokevirtual 320, 3) := by decide +kernel
theorem dX10_tries_173 : decode cX10_tries 173 = .ok (.return_, 1) := by decide +kernel
theorem dX10_findMatch_0 : decode cX10_findMatch 0 = .ok (.aload_n 0, 1) := by decide +kernel
theorem dX10_findMatch_1 : decode cX10_findMatch 1 = .ok (.aload_n 0, 1) := by decide +kernel
theorem dX10_findMatch_2 : decode cX10_findMatch 2 = .ok (.iload_n 1, 1) := by decide +kernel
theorem dX10_findMatch_3 : decode cX10_findMatch 3 = .ok (.invokevirtual 305, 3) := by decide +kernel
theorem dX10_findMatch_6 : decode cX10_findMatch 6 = .ok (.putfield 308, 3) := by decide +kernel
theorem dX10_findMatch_9 : decode cX10_findMatch 9 = .ok (.aload_n 0, 1) := by decide +kernel
theorem dX10_findMatch_10 : decode cX10_findMatch 10 = .ok (.aload_n 0, 1) := by decide +kernel
theorem dX10_findMatch_11 : decode cX10_findMatch 11 = .ok (.iload_n 2, 1) := by decide +kernel
theorem dX10_findMatch_12 : decode cX10_findMatch 12 = .ok (.invokevirtual 305, 3) := by decide +kernel
theorem dX10_findMatch_15 : decode cX10_findMatch 15 = .ok (.putfield 317, 3) := by decide +kernel
theorem dX10_findMatch_18 : decode cX10_findMatch 18 = .ok (.iconst 0, 1) := by decide +kernel
theorem dX10_findMatch_19 : decode cX10_findMatch 19 = .ok (.istore_n 3, 1) := by decide +kernel
theorem dX10_findMatch_20 : decode cX10_findMatch 20 = .ok (.iload_n 3, 1) := by decide +kernel
theorem dX10_findMatch_21 : decode cX10_findMatch 21 = .ok (.aload_n 0, 1) := by decide +kernel
theorem dX10_findMatch_22 : decode cX10_findMatch 22 = .ok (.getfield 308, 3) := by decide +kernel
theorem dX10_findMatch_25 : decode cX10_findMatch 25 = .ok (.if_icmp .ge 97, 3) := by decide +kernel
theorem dX10_findMatch_28 : decode cX10_findMatch 28 = .ok (.iconst 0, 1) := by decide +kernel
theorem dX10_findMatch_29 : decode cX10_findMatch 29 = .ok (.istore 4, 2) := by decide +kernel
theorem dX10_findMatch_31 : decode cX10_findMatch 31 = .ok (.iload 4, 2) := by decide +kernel
theorem dX10_findMatch_33 : decode cX10_findMatch 33 = .ok (.aload_n 0, 1) := by decide +kernel
theorem dX10_findMatch_34 : decode cX10_findMatch 34 = .ok (.getfield 317, 3) := by decide +kernel
theorem dX10_findMatch_37 : decode cX10_findMatch 37 = .ok (.if_icmp .ge 79, 3) := by decide +kernel
theorem dX10_findMatch_40 : decode cX10_findMatch 40 = .ok (.aload_n 0, 1) := by decide +kernel
theorem dX10_findMatch_41 : decode cX10_findMatch 41 = .ok (.iload_n 1, 1) := by decide +kernel
theorem dX10_findMatch_42 : decode cX10_findMatch 42 = .ok (.iload_n 3, 1) := by decide +kernel
theorem dX10_findMatch_43 : decode cX10_findMatch 43 = .ok (.invokevirtual 324, 3) := by decide +kernel
theorem dX10_findMatch_46 : decode cX10_findMatch 46 = .ok (.istore 5, 2) := by decide +kernel
theorem dX10_findMatch_48 : decode cX10_findMatch 48 = .ok (.aload_n 0, 1) := by decide +kernel
theorem dX10_findMatch_49 : decode cX10_findMatch 49 = .ok (.iload_n 2, 1) := by decide +kernel
theorem dX10_findMatch_50 : decode cX10_findMatch 50 = .ok (.iload 4, 2) := by decide +kernel
theorem dX10_findMatch_52 : decode cX10_findMatch 52 = .ok (.invokevirtual 324, 3) := by decide +kernel
theorem dX10_findMatch_55 : decode cX10_findMatch 55 = .ok (.istore 6, 2) := by decide +kernel
theorem dX10_findMatch_57 : decode cX10_findMatch 57 = .ok (.aload_n 0, 1) := by decide +kernel
theorem dX10_findMatch_58 : decode cX10_findMatch 58 = .ok (.iload 5, 2) := by decide +kernel
theorem dX10_findMatch_60 : decode cX10_findMatch 60 = .ok (.invokevirtual 145, 3) := by decide +kernel
theorem dX10_findMatch_63 : decode cX10_findMatch 63 = .ok (.aload_n 0, 1) := by decide +kernel
theorem dX10_findMatch_64 : decode cX10_findMatch 64 = .ok (.iload 6, 2) := by decide +kernel
theorem dX10_findMatch_66 : decode cX10_findMatch 66 = .ok (.invokevirtual 145, 3) := by decide +kernel
theorem dX10_findMatch_69 : decode cX10_findMatch 69 = .ok (.isub, 1) := by decide +kernel
theorem dX10_findMatch_70 : decode cX10_findMatch 70 = .ok (.invokestatic 327, 3) := by decide +kernel
theorem dX10_findMatch_73 : decode cX10_findMatch 73 = .ok (.istore 7, 2) := by decide +kernel
theorem dX10_findMatch_75 : decode cX10_findMatch 75 = .ok (.aload_n 0, 1) := by decide +kernel
theorem dX10_findMatch_76 : decode cX10_findMatch 76 = .ok (.getfield 52, 3) := by decide +kernel
theorem dX10_findMatch_79 : decode cX10_findMatch 79 = .ok (.iconst 5, 1) := by decide +kernel
theorem dX10_findMatch_80 : decode cX10_findMatch 80 = .ok (.iload_n 3, 1) := by decide +kernel
theorem dX10_findMatch_81 : decode cX10_findMatch 81 = .ok (.imul, 1) := by decide +kernel
theorem dX10_findMatch_82 : decode cX10_findMatch 82 = .ok (.iload 4, 2) := by decide +kernel
theorem dX10_findMatch_84 : decode cX10_findMatch 84 = .ok (.iadd, 1) := by decide +kernel
theorem dX10_findMatch_85 : decode cX10_findMatch 85 = .ok (.iload 7, 2) := by decide +kernel
theorem dX10_findMatch_87 : decode cX10_findMatch 87 = .ok (.aload_n 0, 1) := by decide +kernel
theorem dX10_findMatch_88 : decode cX10_findMatch 88 = .ok (.iload 5, 2) := by decide +kernel
theorem dX10_findMatch_90 : decode cX10_findMatch 90 = .ok (.invokevirtual 148, 3) := by decide +kernel
theorem dX10_findMatch_93 : decode cX10_findMatch 93 = .ok (.aload_n 0, 1) := by decide +kernel
theorem dX10_findMatch_94 : decode cX10_findMatch 94 = .ok (.iload 6, 2) := by decide +kernel
theorem dX10_findMatch_96 : decode cX10_findMatch 96 = .ok (.invokevirtual 148, 3) := by decide +kernel
theorem dX10_findMatch_99 : decode cX10_findMatch 99 = .ok (.iadd, 1) := by decide +kernel
theorem dX10_findMatch_100 : decode cX10_findMatch 100 = .ok (.if_icmp .gt 8, 3) := by decide +kernel
theorem dX10_findMatch_103 : decode cX10_findMatch 103 = .ok (.iload 7, 2) := by decide +kernel
theorem dX10_findMatch_105 : decode cX10_findMatch 105 = .ok (.goto 4, 3) := by decide +kernel
theorem dX10_findMatch_108 : decode cX10_findMatch 108 = .ok (.iconst (-1), 1) := by decide +kernel
theorem dX10_findMatch_109 : decode cX10_findMatch 109 = .ok (.iastore, 1) := by decide +kernel
theorem dX10_findMatch_110 : decode cX10_findMatch 110 = .ok (.iinc 4 1, 3) := by decide +kernel
theorem dX10_findMatch_113 : decode cX10_findMatch 113 = .ok (.goto (-82), 3) := by decide +kernel
theorem dX10_findMatch_116 : decode cX10_findMatch 116 = .ok (.iinc 3 1, 3) := by decide +kernel
theorem dX10_findMatch_119 : decode cX10_findMatch 119 = .ok (.goto (-99), 3) := by decide +kernel
theorem dX10_findMatch_122 : decode cX10_findMatch 122 = .ok (.aload_n 0, 1) := by decide +kernel
theorem dX10_findMatch_123 : decode cX10_findMatch 123 = .ok (.iconst (-1), 1) := by decide +kernel
theorem dX10_findMatch_124 : decode cX10_findMatch 124 = .ok (.putfield 311, 3) := by decide +kernel
theorem dX10_findMatch_127 : decode cX10_findMatch 127 = .ok (.aload_n 0, 1) := by decide +kernel
theorem dX10_findMatch_128 : decode cX10_findMatch 128 = .ok (.iconst 0, 1) := by decide +kernel
theorem dX10_findMatch_129 : decode cX10_findMatch 129 = .ok (.putfield 314, 3) := by decide +kernel
theorem dX10_findMatch_132 : decode cX10_findMatch 132 = .ok (.aload_n 0, 1) := by decide +kernel
theorem dX10_findMatch_133 : decode cX10_findMatch 133 = .ok (.iconst 0, 1) := by decide +kernel
theorem dX10_findMatch_134 : decode cX10_findMatch 134 = .ok (.iconst 0, 1) := by decide +kernel
theorem dX10_findMatch_135 : decode cX10_findMatch 135 = .ok (.iconst 0, 1) := by decide +kernel
theorem dX10_findMatch_136 : decode cX10_findMatch 136 = .ok (.iconst 0, 1) := by decide +kernel
theorem dX10_findMatch_137 : decode cX10_findMatch 137 = .ok (.invokevirtual 320, 3) := by decide +kernel
theorem dX10_findMatch_140 : decode cX10_findMatch 140 = .ok (.return_, 1) := by decide +kernel
theorem dX10_areTwo_0 : decode cX10_areTwo 0 = .ok (.iload_n 0, 1) := by decide +kernel
theorem dX10_areTwo_1 : decode cX10_areTwo 1 = .ok (.invokestatic 263, 3) := by decide +kernel
theorem dX10_areTwo_4 : decode cX10_areTwo 4 = .ok (.ifCond .eq 19, 3) := by decide +kernel
theorem dX10_areTwo_7 : decode cX10_areTwo 7 = .ok (.iload_n 1, 1) := by decide +kernel
theorem dX10_areTwo_8 : decode cX10_areTwo 8 = .ok (.invokestatic 263, 3) := by decide +kernel
theorem dX10_areTwo_11 : decode cX10_areTwo 11 = .ok (.ifCond .eq 12, 3) := by decide +kernel
theorem dX10_areTwo_14 : decode cX10_areTwo 14 = .ok (.iload_n 0, 1) := by decide +kernel
theorem dX10_areTwo_15 : decode cX10_areTwo 15 = .ok (.iload_n 1, 1) := by decide +kernel
theorem dX10_areTwo_16 : decode cX10_areTwo 16 = .ok (.if_icmp .eq 7, 3) := by decide +kernel
theorem dX10_areTwo_19 : decode cX10_areTwo 19 = .ok (.iconst 1, 1) := by decide +kernel
theorem dX10_areTwo_20 : decode cX10_areTwo 20 = .ok (.goto 4, 3) := by decide +kernel
theorem dX10_areTwo_23 : decode cX10_areTwo 23 = .ok (.iconst 0, 1) := by decide +kernel
theorem dX10_areTwo_24 : decode cX10_areTwo 24 = .ok (.ireturn, 1) := by decide +kernel
theorem dX10_match_0 : decode cX10_match 0 = .ok (.iload_n 1, 1) := by decide +kernel
theorem dX10_match_1 : decode cX10_match 1 = .ok (.iload_n 2, 1) := by decide +kernel
theorem dX10_match_2 : decode cX10_match 2 = .ok (.invokestatic 330, 3) := by decide +kernel
theorem dX10_match_5 : decode cX10_match 5 = .ok (.ifCond .eq 22, 3) := by decide +kernel
theorem dX10_match_8 : decode cX10_match 8 = .ok (.iload_n 3, 1) := by decide +kernel
theorem dX10_match_9 : decode cX10_match 9 = .ok (.i2l, 1) := by decide +kernel
theorem dX10_match_10 : decode cX10_match 10 = .ok (.ldc2_w 333, 3) := by decide +kernel
theorem dX10_match_13 : decode cX10_match 13 = .ok (.aload_n 0, 1) := by decide +kernel
theorem dX10_match_14 : decode cX10_match 14 = .ok (.iload_n 1, 1) := by decide +kernel
theorem dX10_match_15 : decode cX10_match 15 = .ok (.invokevirtual 305, 3) := by decide +kernel
theorem dX10_match_18 : decode cX10_match 18 = .ok (.iconst 1, 1) := by decide +kernel
theorem dX10_match_19 : decode cX10_match 19 = .ok (.isub, 1) := by decide +kernel
theorem dX10_match_20 : decode cX10_match 20 = .ok (.i2l, 1) := by decide +kernel
theorem dX10_match_21 : decode cX10_match 21 = .ok (.invokestatic 80, 3) := by decide +kernel
theorem dX10_match_24 : decode cX10_match 24 = .ok (.ifCond .ne 6, 3) := by decide +kernel
theorem dX10_match_27 : decode cX10_match 27 = .ok (.ldc 102, 2) := by decide +kernel
theorem dX10_match_29 : decode cX10_match 29 = .ok (.ireturn, 1) := by decide +kernel
theorem dX10_match_30 : decode cX10_match 30 = .ok (.aload_n 0, 1) := by decide +kernel
theorem dX10_match_31 : decode cX10_match 31 = .ok (.iload_n 1, 1) := by decide +kernel
theorem dX10_match_32 : decode cX10_match 32 = .ok (.iload_n 2, 1) := by decide +kernel
theorem dX10_match_33 : decode cX10_match 33 = .ok (.invokevirtual 335, 3) := by decide +kernel
theorem dX10_match_36 : decode cX10_match 36 = .ok (.iload_n 3, 1) := by decide +kernel
theorem dX10_match_37 : decode cX10_match 37 = .ok (.ifCond .ge 21, 3) := by decide +kernel
theorem dX10_match_40 : decode cX10_match 40 = .ok (.iload_n 3, 1) := by decide +kernel
theorem dX10_match_41 : decode cX10_match 41 = .ok (.bipush (-2), 2) := by decide +kernel
theorem dX10_match_43 : decode cX10_match 43 = .ok (.if_icmp .ne 10, 3) := by decide +kernel
theorem dX10_match_46 : decode cX10_match 46 = .ok (.aload_n 0, 1) := by decide +kernel
theorem dX10_match_47 : decode cX10_match 47 = .ok (.getfield 311, 3) := by decide +kernel
theorem dX10_match_50 : decode cX10_match 50 = .ok (.goto 7, 3) := by decide +kernel
theorem dX10_match_53 : decode cX10_match 53 = .ok (.aload_n 0, 1) := by decide +kernel
theorem dX10_match_54 : decode cX10_match 54 = .ok (.getfield 314, 3) := by decide +kernel
theorem dX10_match_57 : decode cX10_match 57 = .ok (.ireturn, 1) := by decide +kernel
theorem dX10_match_58 : decode cX10_match 58 = .ok (.aload_n 0, 1) := by decide +kernel
theorem dX10_match_59 : decode cX10_match 59 = .ok (.getfield 58, 3) := by decide +kernel
theorem dX10_match_62 : decode cX10_match 62 = .ok (.iload_n 3, 1) := by decide +kernel
theorem dX10_match_63 : decode cX10_match 63 = .ok (.iaload, 1) := by decide +kernel
theorem dX10_match_64 : decode cX10_match 64 = .ok (.ifCond .ge 8, 3) := by decide +kernel
theorem dX10_match_67 : decode cX10_match 67 = .ok (.ldc 79, 2) := by decide +kernel
theorem dX10_match_69 : decode cX10_match 69 = .ok (.goto 14, 3) := by decide +kernel
theorem dX10_match_72 : decode cX10_match 72 = .ok (.aload_n 0, 1) := by decide +kernel
theorem dX10_match_73 : decode cX10_match 73 = .ok (.iload_n 2, 1) := by decide +kernel
theorem dX10_match_74 : decode cX10_match 74 = .ok (.aload_n 0, 1) := by decide +kernel
theorem dX10_match_75 : decode cX10_match 75 = .ok (.getfield 58, 3) := by decide +kernel
theorem dX10_match_78 : decode cX10_match 78 = .ok (.iload_n 3, 1) := by decide +kernel
theorem dX10_match_79 : decode cX10_match 79 = .ok (.iaload, 1) := by decide +kernel
theorem dX10_match_80 : decode cX10_match 80 = .ok (.invokevirtual 324, 3) := by decide +kernel
theorem dX10_match_83 : decode cX10_match 83 = .ok (.ireturn, 1) := by decide +kernel
theorem dX10_join_0 : decode cX10_join 0 = .ok (.iload_n 1, 1) := by decide +kernel
theorem dX10_join_1 : decode cX10_join 1 = .ok (.iload_n 2, 1) := by decide +kernel
theorem dX10_join_2 : decode cX10_join 2 = .ok (.invokestatic 330, 3) := by decide +kernel
theorem dX10_join_5 : decode cX10_join 5 = .ok (.ifCond .ne 6, 3) := by decide +kernel
theorem dX10_join_8 : decode cX10_join 8 = .ok (.ldc 102, 2) := by decide +kernel
theorem dX10_join_10 : decode cX10_join 10 = .ok (.ireturn, 1) := by decide +kernel
theorem dX10_join_11 : decode cX10_join 11 = .ok (.aload_n 0, 1) := by decide +kernel
theorem dX10_join_12 : decode cX10_join 12 = .ok (.iload_n 1, 1) := by decide +kernel
theorem dX10_join_13 : decode cX10_join 13 = .ok (.iload_n 2, 1) := by decide +kernel
theorem dX10_join_14 : decode cX10_join 14 = .ok (.invokevirtual 335, 3) := by decide +kernel
theorem dX10_join_17 : decode cX10_join 17 = .ok (.iconst 0, 1) := by decide +kernel
theorem dX10_join_18 : decode cX10_join 18 = .ok (.istore_n 3, 1) := by decide +kernel
theorem dX10_join_19 : decode cX10_join 19 = .ok (.iconst 0, 1) := by decide +kernel
theorem dX10_join_20 : decode cX10_join 20 = .ok (.istore 4, 2) := by decide +kernel
theorem dX10_join_22 : decode cX10_join 22 = .ok (.iload 4, 2) := by decide +kernel
theorem dX10_join_24 : decode cX10_join 24 = .ok (.aload_n 0, 1) := by decide +kernel
theorem dX10_join_25 : decode cX10_join 25 = .ok (.getfield 308, 3) := by decide +kernel
theorem dX10_join_28 : decode cX10_join 28 = .ok (.if_icmp .ge 75, 3) := by decide +kernel
theorem dX10_join_31 : decode cX10_join 31 = .ok (.aload_n 0, 1) := by decide +kernel
theorem dX10_join_32 : decode cX10_join 32 = .ok (.aload_n 0, 1) := by decide +kernel
theorem dX10_join_33 : decode cX10_join 33 = .ok (.iload_n 1, 1) := by decide +kernel
theorem dX10_join_34 : decode cX10_join 34 = .ok (.iload 4, 2) := by decide +kernel
theorem dX10_join_36 : decode cX10_join 36 = .ok (.invokevirtual 324, 3) := by decide +kernel
theorem dX10_join_39 : decode cX10_join 39 = .ok (.iconst 5, 1) := by decide +kernel
theorem dX10_join_40 : decode cX10_join 40 = .ok (.invokevirtual 111, 3) := by decide +kernel
theorem dX10_join_43 : decode cX10_join 43 = .ok (.istore 5, 2) := by decide +kernel
theorem dX10_join_45 : decode cX10_join 45 = .ok (.aload_n 0, 1) := by decide +kernel
theorem dX10_join_46 : decode cX10_join 46 = .ok (.getfield 58, 3) := by decide +kernel
theorem dX10_join_49 : decode cX10_join 49 = .ok (.iload 4, 2) := by decide +kernel
theorem dX10_join_51 : decode cX10_join 51 = .ok (.iaload, 1) := by decide +kernel
theorem dX10_join_52 : decode cX10_join 52 = .ok (.ifCond .lt 45, 3) := by decide +kernel
theorem dX10_join_55 : decode cX10_join 55 = .ok (.iload 5, 2) := by decide +kernel
theorem dX10_join_57 : decode cX10_join 57 = .ok (.ifCond .lt 40, 3) := by decide +kernel
theorem dX10_join_60 : decode cX10_join 60 = .ok (.iload_n 3, 1) := by decide +kernel
theorem dX10_join_61 : decode cX10_join 61 = .ok (.aload_n 0, 1) := by decide +kernel
theorem dX10_join_62 : decode cX10_join 62 = .ok (.aload_n 0, 1) := by decide +kernel
theorem dX10_join_63 : decode cX10_join 63 = .ok (.aload_n 0, 1) := by decide +kernel
theorem dX10_join_64 : decode cX10_join 64 = .ok (.iload_n 2, 1) := by decide +kernel
theorem dX10_join_65 : decode cX10_join 65 = .ok (.aload_n 0, 1) := by decide +kernel
theorem dX10_join_66 : decode cX10_join 66 = .ok (.getfield 58, 3) := by decide +kernel
theorem dX10_join_69 : decode cX10_join 69 = .ok (.iload 4, 2) := by decide +kernel
theorem dX10_join_71 : decode cX10_join 71 = .ok (.iaload, 1) := by decide +kernel
theorem dX10_join_72 : decode cX10_join 72 = .ok (.invokevirtual 324, 3) := by decide +kernel
theorem dX10_join_75 : decode cX10_join 75 = .ok (.invokevirtual 88, 3) := by decide +kernel
theorem dX10_join_78 : decode cX10_join 78 = .ok (.iconst 5, 1) := by decide +kernel
theorem dX10_join_79 : decode cX10_join 79 = .ok (.iadd, 1) := by decide +kernel
theorem dX10_join_80 : decode cX10_join 80 = .ok (.iload 5, 2) := by decide +kernel
theorem dX10_join_82 : decode cX10_join 82 = .ok (.invokevirtual 161, 3) := by decide +kernel
theorem dX10_join_85 : decode cX10_join 85 = .ok (.iload 5, 2) := by decide +kernel
theorem dX10_join_87 : decode cX10_join 87 = .ok (.if_icmp .ne 7, 3) := by decide +kernel
theorem dX10_join_90 : decode cX10_join 90 = .ok (.iconst 0, 1) := by decide +kernel
theorem dX10_join_91 : decode cX10_join 91 = .ok (.goto 4, 3) := by decide +kernel
theorem dX10_join_94 : decode cX10_join 94 = .ok (.iconst 1, 1) := by decide +kernel
theorem dX10_join_95 : decode cX10_join 95 = .ok (.iadd, 1) := by decide +kernel
theorem dX10_join_96 : decode cX10_join 96 = .ok (.istore_n 3, 1) := by decide +kernel
theorem dX10_join_97 : decode cX10_join 97 = .ok (.iinc 4 1, 3) := by decide +kernel
theorem dX10_join_100 : decode cX10_join 100 = .ok (.goto (-78), 3) := by decide +kernel
theorem dX10_join_103 : decode cX10_join 103 = .ok (.iload_n 3, 1) := by decide +kernel
theorem dX10_join_104 : decode cX10_join 104 = .ok (.ireturn, 1) := by decide +kernel
theorem dX10_areCapes_0 : decode cX10_areCapes 0 = .ok (.iload_n 0, 1) := by decide +kernel
theorem dX10_areCapes_1 : decode cX10_areCapes 1 = .ok (.invokestatic 293, 3) := by decide +kernel
theorem dX10_areCapes_4 : decode cX10_areCapes 4 = .ok (.ifCond .eq 19, 3) := by decide +kernel
theorem dX10_areCapes_7 : decode cX10_areCapes 7 = .ok (.iload_n 1, 1) := by decide +kernel
theorem dX10_areCapes_8 : decode cX10_areCapes 8 = .ok (.invokestatic 293, 3) := by decide +kernel
theorem dX10_areCapes_11 : decode cX10_areCapes 11 = .ok (.ifCond .eq 12, 3) := by decide +kernel
theorem dX10_areCapes_14 : decode cX10_areCapes 14 = .ok (.iload_n 0, 1) := by decide +kernel
theorem dX10_areCapes_15 : decode cX10_areCapes 15 = .ok (.iload_n 1, 1) := by decide +kernel
theorem dX10_areCapes_16 : decode cX10_areCapes 16 = .ok (.if_icmp .eq 7, 3) := by decide +kernel
theorem dX10_areCapes_19 : decode cX10_areCapes 19 = .ok (.iconst 1, 1) := by decide +kernel
theorem dX10_areCapes_20 : decode cX10_areCapes 20 = .ok (.goto 4, 3) := by decide +kernel
theorem dX10_areCapes_23 : decode cX10_areCapes 23 = .ok (.iconst 0, 1) := by decide +kernel
theorem dX10_areCapes_24 : decode cX10_areCapes 24 = .ok (.ireturn, 1) := by decide +kernel
theorem dX10_passage_0 : decode cX10_passage 0 = .ok (.iload_n 1, 1) := by decide +kernel
theorem dX10_passage_1 : decode cX10_passage 1 = .ok (.iload_n 2, 1) := by decide +kernel
theorem dX10_passage_2 : decode cX10_passage 2 = .ok (.invokestatic 338, 3) := by decide +kernel
theorem dX10_passage_5 : decode cX10_passage 5 = .ok (.ifCond .eq 15, 3) := by decide +kernel
theorem dX10_passage_8 : decode cX10_passage 8 = .ok (.iload_n 3, 1) := by decide +kernel
theorem dX10_passage_9 : decode cX10_passage 9 = .ok (.i2l, 1) := by decide +kernel
theorem dX10_passage_10 : decode cX10_passage 10 = .ok (.lconst 0, 1) := by decide +kernel
theorem dX10_passage_11 : decode cX10_passage 11 = .ok (.ldc2_w 341, 3) := by decide +kernel
theorem dX10_passage_14 : decode cX10_passage 14 = .ok (.invokestatic 80, 3) := by decide +kernel
theorem dX10_passage_17 : decode cX10_passage 17 = .ok (.ifCond .ne 6, 3) := by decide +kernel
theorem dX10_passage_20 : decode cX10_passage 20 = .ok (.ldc 102, 2) := by decide +kernel
theorem dX10_passage_22 : decode cX10_passage 22 = .ok (.ireturn, 1) := by decide +kernel
theorem dX10_passage_23 : decode cX10_passage 23 = .ok (.aload_n 0, 1) := by decide +kernel
theorem dX10_passage_24 : decode cX10_passage 24 = .ok (.getfield 7, 3) := by decide +kernel
theorem dX10_passage_27 : decode cX10_passage 27 = .ok (.iconst 2, 1) := by decide +kernel
theorem dX10_passage_28 : decode cX10_passage 28 = .ok (.iaload, 1) := by decide +kernel
theorem dX10_passage_29 : decode cX10_passage 29 = .ok (.bipush 20, 2) := by decide +kernel
theorem dX10_passage_31 : decode cX10_passage 31 = .ok (.if_icmp .ne 6, 3) := by decide +kernel
theorem dX10_passage_34 : decode cX10_passage 34 = .ok (.ldc 103, 2) := by decide +kernel
theorem dX10_passage_36 : decode cX10_passage 36 = .ok (.ireturn, 1) := by decide +kernel
theorem dX10_passage_37 : decode cX10_passage 37 = .ok (.bipush 50, 2) := by decide +kernel
theorem dX10_passage_39 : decode cX10_passage 39 = .ok (.iconst 3, 1) := by decide +kernel
theorem dX10_passage_40 : decode cX10_passage 40 = .ok (.aload_n 0, 1) := by decide +kernel
theorem dX10_passage_41 : decode cX10_passage 41 = .ok (.getfield 7, 3) := by decide +kernel
theorem dX10_passage_44 : decode cX10_passage 44 = .ok (.iconst 2, 1) := by decide +kernel
theorem dX10_passage_45 : decode cX10_passage 45 = .ok (.iaload, 1) := by decide +kernel
theorem dX10_passage_46 : decode cX10_passage 46 = .ok (.imul, 1) := by decide +kernel
theorem dX10_passage_47 : decode cX10_passage 47 = .ok (.iadd, 1) := by decide +kernel
theorem dX10_passage_48 : decode cX10_passage 48 = .ok (.istore 4, 2) := by decide +kernel
theorem dX10_passage_50 : decode cX10_passage 50 = .ok (.aload_n 0, 1) := by decide +kernel
theorem dX10_passage_51 : decode cX10_passage 51 = .ok (.getfield 7, 3) := by decide +kernel
theorem dX10_passage_54 : decode cX10_passage 54 = .ok (.iload 4, 2) := by decide +kernel
theorem dX10_passage_56 : decode cX10_passage 56 = .ok (.iload_n 1, 1) := by decide +kernel
theorem dX10_passage_57 : decode cX10_passage 57 = .ok (.iastore, 1) := by decide +kernel
theorem dX10_passage_58 : decode cX10_passage 58 = .ok (.aload_n 0, 1) := by decide +kernel
theorem dX10_passage_59 : decode cX10_passage 59 = .ok (.getfield 7, 3) := by decide +kernel
theorem dX10_passage_62 : decode cX10_passage 62 = .ok (.iload 4, 2) := by decide +kernel
theorem dX10_passage_64 : decode cX10_passage 64 = .ok (.iconst 1, 1) := by decide +kernel
theorem dX10_passage_65 : decode cX10_passage 65 = .ok (.iadd, 1) := by decide +kernel
theorem dX10_passage_66 : decode cX10_passage 66 = .ok (.iload_n 2, 1) := by decide +kernel
theorem dX10_passage_67 : decode cX10_passage 67 = .ok (.iastore, 1) := by decide +kernel
theorem dX10_passage_68 : decode cX10_passage 68 = .ok (.aload_n 0, 1) := by decide +kernel
theorem dX10_passage_69 : decode cX10_passage 69 = .ok (.getfield 7, 3) := by decide +kernel
theorem dX10_passage_72 : decode cX10_passage 72 = .ok (.iload 4, 2) := by decide +kernel
theorem dX10_passage_74 : decode cX10_passage 74 = .ok (.iconst 2, 1) := by decide +kernel
theorem dX10_passage_75 : decode cX10_passage 75 = .ok (.iadd, 1) := by decide +kernel
theorem dX10_passage_76 : decode cX10_passage 76 = .ok (.iload_n 3, 1) := by decide +kernel
theorem dX10_passage_77 : decode cX10_passage 77 = .ok (.iastore, 1) := by decide +kernel
theorem dX10_passage_78 : decode cX10_passage 78 = .ok (.aload_n 0, 1) := by decide +kernel
theorem dX10_passage_79 : decode cX10_passage 79 = .ok (.getfield 7, 3) := by decide +kernel
theorem dX10_passage_82 : decode cX10_passage 82 = .ok (.iconst 2, 1) := by decide +kernel
theorem dX10_passage_83 : decode cX10_passage 83 = .ok (.dup2, 1) := by decide +kernel
theorem dX10_passage_84 : decode cX10_passage 84 = .ok (.iaload, 1) := by decide +kernel
theorem dX10_passage_85 : decode cX10_passage 85 = .ok (.iconst 1, 1) := by decide +kernel
theorem dX10_passage_86 : decode cX10_passage 86 = .ok (.iadd, 1) := by decide +kernel
theorem dX10_passage_87 : decode cX10_passage 87 = .ok (.iastore, 1) := by decide +kernel
theorem dX10_passage_88 : decode cX10_passage 88 = .ok (.aload_n 0, 1) := by decide +kernel
theorem dX10_passage_89 : decode cX10_passage 89 = .ok (.getfield 7, 3) := by decide +kernel
theorem dX10_passage_92 : decode cX10_passage 92 = .ok (.iconst 2, 1) := by decide +kernel
theorem dX10_passage_93 : decode cX10_passage 93 = .ok (.iaload, 1) := by decide +kernel
theorem dX10_passage_94 : decode cX10_passage 94 = .ok (.ireturn, 1) := by decide +kernel
theorem dX10_passed_0 : decode cX10_passed 0 = .ok (.iconst 0, 1) := by decide +kernel
theorem dX10_passed_1 : decode cX10_passed 1 = .ok (.istore 4, 2) := by decide +kernel
theorem dX10_passed_3 : decode cX10_passed 3 = .ok (.iconst 0, 1) := by decide +kernel
theorem dX10_passed_4 : decode cX10_passed 4 = .ok (.istore 5, 2) := by decide +kernel
theorem dX10_passed_6 : decode cX10_passed 6 = .ok (.iload 5, 2) := by decide +kernel
theorem dX10_passed_8 : decode cX10_passed 8 = .ok (.aload_n 0, 1) := by decide +kernel
theorem dX10_passed_9 : decode cX10_passed 9 = .ok (.getfield 7, 3) := by decide +kernel
theorem dX10_passed_12 : decode cX10_passed 12 = .ok (.iconst 2, 1) := by decide +kernel
theorem dX10_passed_13 : decode cX10_passed 13 = .ok (.iaload, 1) := by decide +kernel
theorem dX10_passed_14 : decode cX10_passed 14 = .ok (.if_icmp .ge 101, 3) := by decide +kernel
theorem dX10_passed_17 : decode cX10_passed 17 = .ok (.bipush 50, 2) := by decide +kernel
theorem dX10_passed_19 : decode cX10_passed 19 = .ok (.iconst 3, 1) := by decide +kernel
theorem dX10_passed_20 : decode cX10_passed 20 = .ok (.iload 5, 2) := by decide +kernel
theorem dX10_passed_22 : decode cX10_passed 22 = .ok (.imul, 1) := by decide +kernel
theorem dX10_passed_23 : decode cX10_passed 23 = .ok (.iadd, 1) := by decide +kernel
theorem dX10_passed_24 : decode cX10_passed 24 = .ok (.istore 6, 2) := by decide +kernel
theorem dX10_passed_26 : decode cX10_passed 26 = .ok (.aload_n 0, 1) := by decide +kernel
theorem dX10_passed_27 : decode cX10_passed 27 = .ok (.getfield 7, 3) := by decide +kernel
theorem dX10_passed_30 : decode cX10_passed 30 = .ok (.iload 6, 2) := by decide +kernel
theorem dX10_passed_32 : decode cX10_passed 32 = .ok (.iaload, 1) := by decide +kernel
theorem dX10_passed_33 : decode cX10_passed 33 = .ok (.iload_n 1, 1) := by decide +kernel
theorem dX10_passed_34 : decode cX10_passed 34 = .ok (.if_icmp .ne 16, 3) := by decide +kernel
theorem dX10_passed_37 : decode cX10_passed 37 = .ok (.aload_n 0, 1) := by decide +kernel
theorem dX10_passed_38 : decode cX10_passed 38 = .ok (.getfield 7, 3) := by decide +kernel
theorem dX10_passed_41 : decode cX10_passed 41 = .ok (.iload 6, 2) := by decide +kernel
theorem dX10_passed_43 : decode cX10_passed 43 = .ok (.iconst 1, 1) := by decide +kernel
theorem dX10_passed_44 : decode cX10_passed 44 = .ok (.iadd, 1) := by decide +kernel
theorem dX10_passed_45 : decode cX10_passed 45 = .ok (.iaload, 1) := by decide +kernel
theorem dX10_passed_46 : decode cX10_passed 46 = .ok (.iload_n 2, 1) := by decide +kernel
theorem dX10_passed_47 : decode cX10_passed 47 = .ok (.if_icmp .eq 27, 3) := by decide +kernel
theorem dX10_passed_50 : decode cX10_passed 50 = .ok (.aload_n 0, 1) := by decide +kernel
theorem dX10_passed_51 : decode cX10_passed 51 = .ok (.getfield 7, 3) := by decide +kernel
theorem dX10_passed_54 : decode cX10_passed 54 = .ok (.iload 6, 2) := by decide +kernel
theorem dX10_passed_56 : decode cX10_passed 56 = .ok (.iaload, 1) := by decide +kernel
theorem dX10_passed_57 : decode cX10_passed 57 = .ok (.iload_n 2, 1) := by decide +kernel
theorem dX10_passed_58 : decode cX10_passed 58 = .ok (.if_icmp .ne 20, 3) := by decide +kernel
theorem dX10_passed_61 : decode cX10_passed 61 = .ok (.aload_n 0, 1) := by decide +kernel
theorem dX10_passed_62 : decode cX10_passed 62 = .ok (.getfield 7, 3) := by decide +kernel
theorem dX10_passed_65 : decode cX10_passed 65 = .ok (.iload 6, 2) := by decide +kernel
theorem dX10_passed_67 : decode cX10_passed 67 = .ok (.iconst 1, 1) := by decide +kernel
theorem dX10_passed_68 : decode cX10_passed 68 = .ok (.iadd, 1) := by decide +kernel
theorem dX10_passed_69 : decode cX10_passed 69 = .ok (.iaload, 1) := by decide +kernel
theorem dX10_passed_70 : decode cX10_passed 70 = .ok (.iload_n 1, 1) := by decide +kernel
theorem dX10_passed_71 : decode cX10_passed 71 = .ok (.if_icmp .ne 7, 3) := by decide +kernel
theorem dX10_passed_74 : decode cX10_passed 74 = .ok (.iconst 1, 1) := by decide +kernel
theorem dX10_passed_75 : decode cX10_passed 75 = .ok (.goto 4, 3) := by decide +kernel
theorem dX10_passed_78 : decode cX10_passed 78 = .ok (.iconst 0, 1) := by decide +kernel
theorem dX10_passed_79 : decode cX10_passed 79 = .ok (.istore 7, 2) := by decide +kernel
theorem dX10_passed_81 : decode cX10_passed 81 = .ok (.iload 4, 2) := by decide +kernel
theorem dX10_passed_83 : decode cX10_passed 83 = .ok (.iload 7, 2) := by decide +kernel
theorem dX10_passed_85 : decode cX10_passed 85 = .ok (.ifCond .eq 20, 3) := by decide +kernel
theorem dX10_passed_88 : decode cX10_passed 88 = .ok (.aload_n 0, 1) := by decide +kernel
theorem dX10_passed_89 : decode cX10_passed 89 = .ok (.getfield 7, 3) := by decide +kernel
theorem dX10_passed_92 : decode cX10_passed 92 = .ok (.iload 6, 2) := by decide +kernel
theorem dX10_passed_94 : decode cX10_passed 94 = .ok (.iconst 2, 1) := by decide +kernel
theorem dX10_passed_95 : decode cX10_passed 95 = .ok (.iadd, 1) := by decide +kernel
theorem dX10_passed_96 : decode cX10_passed 96 = .ok (.iaload, 1) := by decide +kernel
theorem dX10_passed_97 : decode cX10_passed 97 = .ok (.iload_n 3, 1) := by decide +kernel
theorem dX10_passed_98 : decode cX10_passed 98 = .ok (.if_icmp .ne 7, 3) := by decide +kernel
theorem dX10_passed_101 : decode cX10_passed 101 = .ok (.iconst 1, 1) := by decide +kernel
theorem dX10_passed_102 : decode cX10_passed 102 = .ok (.goto 4, 3) := by decide +kernel
theorem dX10_passed_105 : decode cX10_passed 105 = .ok (.iconst 0, 1) := by decide +kernel
theorem dX10_passed_106 : decode cX10_passed 106 = .ok (.iadd, 1) := by decide +kernel
theorem dX10_passed_107 : decode cX10_passed 107 = .ok (.istore 4, 2) := by decide +kernel
theorem dX10_passed_109 : decode cX10_passed 109 = .ok (.iinc 5 1, 3) := by decide +kernel
theorem dX10_passed_112 : decode cX10_passed 112 = .ok (.goto (-106), 3) := by decide +kernel
theorem dX10_passed_115 : decode cX10_passed 115 = .ok (.iload 4, 2) := by decide +kernel
theorem dX10_passed_117 : decode cX10_passed 117 = .ok (.ireturn, 1) := by decide +kernel
theorem dX10_between_0 : decode cX10_between 0 = .ok (.iload_n 1, 1) := by decide +kernel
theorem dX10_between_1 : decode cX10_between 1 = .ok (.iload_n 2, 1) := by decide +kernel
theorem dX10_between_2 : decode cX10_between 2 = .ok (.invokestatic 338, 3) := by decide +kernel
theorem dX10_between_5 : decode cX10_between 5 = .ok (.ifCond .ne 6, 3) := by decide +kernel
theorem dX10_between_8 : decode cX10_between 8 = .ok (.ldc 102, 2) := by decide +kernel
theorem dX10_between_10 : decode cX10_between 10 = .ok (.ireturn, 1) := by decide +kernel
theorem dX10_between_11 : decode cX10_between 11 = .ok (.aload_n 0, 1) := by decide +kernel
theorem dX10_between_12 : decode cX10_between 12 = .ok (.iload_n 1, 1) := by decide +kernel
theorem dX10_between_13 : decode cX10_between 13 = .ok (.iload_n 2, 1) := by decide +kernel
theorem dX10_between_14 : decode cX10_between 14 = .ok (.iconst 0, 1) := by decide +kernel
theorem dX10_between_15 : decode cX10_between 15 = .ok (.invokevirtual 343, 3) := by decide +kernel
theorem dX10_between_18 : decode cX10_between 18 = .ok (.ifCond .le 7, 3) := by decide +kernel
theorem dX10_between_21 : decode cX10_between 21 = .ok (.iconst 1, 1) := by decide +kernel
theorem dX10_between_22 : decode cX10_between 22 = .ok (.goto 4, 3) := by decide +kernel
theorem dX10_between_25 : decode cX10_between 25 = .ok (.iconst 0, 1) := by decide +kernel
theorem dX10_between_26 : decode cX10_between 26 = .ok (.istore_n 3, 1) := by decide +kernel
theorem dX10_between_27 : decode cX10_between 27 = .ok (.aload_n 0, 1) := by decide +kernel
theorem dX10_between_28 : decode cX10_between 28 = .ok (.iload_n 1, 1) := by decide +kernel
theorem dX10_between_29 : decode cX10_between 29 = .ok (.iload_n 2, 1) := by decide +kernel
theorem dX10_between_30 : decode cX10_between 30 = .ok (.iconst 1, 1) := by decide +kernel
theorem dX10_between_31 : decode cX10_between 31 = .ok (.invokevirtual 343, 3) := by decide +kernel
theorem dX10_between_34 : decode cX10_between 34 = .ok (.ifCond .le 7, 3) := by decide +kernel
theorem dX10_between_37 : decode cX10_between 37 = .ok (.iconst 1, 1) := by decide +kernel
theorem dX10_between_38 : decode cX10_between 38 = .ok (.goto 4, 3) := by decide +kernel
theorem dX10_between_41 : decode cX10_between 41 = .ok (.iconst 0, 1) := by decide +kernel
theorem dX10_between_42 : decode cX10_between 42 = .ok (.istore 4, 2) := by decide +kernel
theorem dX10_between_44 : decode cX10_between 44 = .ok (.aload_n 0, 1) := by decide +kernel
theorem dX10_between_45 : decode cX10_between 45 = .ok (.iload_n 1, 1) := by decide +kernel
theorem dX10_between_46 : decode cX10_between 46 = .ok (.iload_n 2, 1) := by decide +kernel
theorem dX10_between_47 : decode cX10_between 47 = .ok (.iconst 2, 1) := by decide +kernel
theorem dX10_between_48 : decode cX10_between 48 = .ok (.invokevirtual 343, 3) := by decide +kernel
theorem dX10_between_51 : decode cX10_between 51 = .ok (.istore 5, 2) := by decide +kernel
theorem dX10_between_53 : decode cX10_between 53 = .ok (.aload_n 0, 1) := by decide +kernel
theorem dX10_between_54 : decode cX10_between 54 = .ok (.iload_n 1, 1) := by decide +kernel
theorem dX10_between_55 : decode cX10_between 55 = .ok (.iload_n 2, 1) := by decide +kernel
theorem dX10_between_56 : decode cX10_between 56 = .ok (.iconst 3, 1) := by decide +kernel
theorem dX10_between_57 : decode cX10_between 57 = .ok (.invokevirtual 343, 3) := by decide +kernel
theorem dX10_between_60 : decode cX10_between 60 = .ok (.istore 6, 2) := by decide +kernel
theorem dX10_between_62 : decode cX10_between 62 = .ok (.iload_n 3, 1) := by decide +kernel
theorem dX10_between_63 : decode cX10_between 63 = .ok (.ifCond .ne 8, 3) := by decide +kernel
theorem dX10_between_66 : decode cX10_between 66 = .ok (.iload 4, 2) := by decide +kernel
theorem dX10_between_68 : decode cX10_between 68 = .ok (.ifCond .eq 26, 3) := by decide +kernel
theorem dX10_between_71 : decode cX10_between 71 = .ok (.iload_n 3, 1) := by decide +kernel
theorem dX10_between_72 : decode cX10_between 72 = .ok (.ifCond .eq 12, 3) := by decide +kernel
theorem dX10_between_75 : decode cX10_between 75 = .ok (.iload 4, 2) := by decide +kernel
theorem dX10_between_77 : decode cX10_between 77 = .ok (.ifCond .eq 7, 3) := by decide +kernel
theorem dX10_between_80 : decode cX10_between 80 = .ok (.iconst 3, 1) := by decide +kernel
theorem dX10_between_81 : decode cX10_between 81 = .ok (.goto 12, 3) := by decide +kernel
theorem dX10_between_84 : decode cX10_between 84 = .ok (.iload_n 3, 1) := by decide +kernel
theorem dX10_between_85 : decode cX10_between 85 = .ok (.ifCond .eq 7, 3) := by decide +kernel
theorem dX10_between_88 : decode cX10_between 88 = .ok (.iconst 2, 1) := by decide +kernel
theorem dX10_between_89 : decode cX10_between 89 = .ok (.goto 4, 3) := by decide +kernel
theorem dX10_between_92 : decode cX10_between 92 = .ok (.iconst 1, 1) := by decide +kernel
theorem dX10_between_93 : decode cX10_between 93 = .ok (.ireturn, 1) := by decide +kernel
theorem dX10_between_94 : decode cX10_between 94 = .ok (.iload 6, 2) := by decide +kernel
theorem dX10_between_96 : decode cX10_between 96 = .ok (.iload 5, 2) := by decide +kernel
theorem dX10_between_98 : decode cX10_between 98 = .ok (.if_icmp .le 7, 3) := by decide +kernel
theorem dX10_between_101 : decode cX10_between 101 = .ok (.iconst 4, 1) := by decide +kernel
theorem dX10_between_102 : decode cX10_between 102 = .ok (.goto 15, 3) := by decide +kernel
theorem dX10_between_105 : decode cX10_between 105 = .ok (.iload 6, 2) := by decide +kernel
theorem dX10_between_107 : decode cX10_between 107 = .ok (.iload 5, 2) := by decide +kernel
theorem dX10_between_109 : decode cX10_between 109 = .ok (.if_icmp .ge 7, 3) := by decide +kernel
theorem dX10_between_112 : decode cX10_between 112 = .ok (.iconst 5, 1) := by decide +kernel
theorem dX10_between_113 : decode cX10_between 113 = .ok (.goto 4, 3) := by decide +kernel
theorem dX10_between_116 : decode cX10_between 116 = .ok (.iconst 0, 1) := by decide +kernel
theorem dX10_between_117 : decode cX10_between 117 = .ok (.ireturn, 1) := by decide +kernel
theorem dX10_same_0 : decode cX10_same 0 = .ok (.iload_n 1, 1) := by decide +kernel
theorem dX10_same_1 : decode cX10_same 1 = .ok (.i2l, 1) := by decide +kernel
theorem dX10_same_2 : decode cX10_same 2 = .ok (.lconst 0, 1) := by decide +kernel
theorem dX10_same_3 : decode cX10_same 3 = .ok (.ldc2_w 164, 3) := by decide +kernel
theorem dX10_same_6 : decode cX10_same 6 = .ok (.invokestatic 80, 3) := by decide +kernel
theorem dX10_same_9 : decode cX10_same 9 = .ok (.ifCond .eq 20, 3) := by decide +kernel
theorem dX10_same_12 : decode cX10_same 12 = .ok (.iload_n 2, 1) := by decide +kernel
theorem dX10_same_13 : decode cX10_same 13 = .ok (.i2l, 1) := by decide +kernel
theorem dX10_same_14 : decode cX10_same 14 = .ok (.lconst 0, 1) := by decide +kernel
theorem dX10_same_15 : decode cX10_same 15 = .ok (.ldc2_w 164, 3) := by decide +kernel
theorem dX10_same_18 : decode cX10_same 18 = .ok (.invokestatic 80, 3) := by decide +kernel
theorem dX10_same_21 : decode cX10_same 21 = .ok (.ifCond .eq 8, 3) := by decide +kernel
theorem dX10_same_24 : decode cX10_same 24 = .ok (.iload_n 1, 1) := by decide +kernel
theorem dX10_same_25 : decode cX10_same 25 = .ok (.iload_n 2, 1) := by decide +kernel
theorem dX10_same_26 : decode cX10_same 26 = .ok (.if_icmp .ne 6, 3) := by decide +kernel
theorem dX10_same_29 : decode cX10_same 29 = .ok (.ldc 102, 2) := by decide +kernel
theorem dX10_same_31 : decode cX10_same 31 = .ok (.ireturn, 1) := by decide +kernel
theorem dX10_same_32 : decode cX10_same 32 = .ok (.iconst 0, 1) := by decide +kernel
theorem dX10_same_33 : decode cX10_same 33 = .ok (.istore_n 3, 1) := by decide +kernel
theorem dX10_same_34 : decode cX10_same 34 = .ok (.iconst 0, 1) := by decide +kernel
theorem dX10_same_35 : decode cX10_same 35 = .ok (.istore 4, 2) := by decide +kernel
theorem dX10_same_37 : decode cX10_same 37 = .ok (.iload 4, 2) := by decide +kernel
theorem dX10_same_39 : decode cX10_same 39 = .ok (.aload_n 0, 1) := by decide +kernel
theorem dX10_same_40 : decode cX10_same 40 = .ok (.getfield 7, 3) := by decide +kernel
theorem dX10_same_43 : decode cX10_same 43 = .ok (.iconst 0, 1) := by decide +kernel
theorem dX10_same_44 : decode cX10_same 44 = .ok (.iaload, 1) := by decide +kernel
theorem dX10_same_45 : decode cX10_same 45 = .ok (.if_icmp .ge 90, 3) := by decide +kernel
theorem dX10_same_48 : decode cX10_same 48 = .ok (.iconst 0, 1) := by decide +kernel
theorem dX10_same_49 : decode cX10_same 49 = .ok (.istore 5, 2) := by decide +kernel
theorem dX10_same_51 : decode cX10_same 51 = .ok (.iload 5, 2) := by decide +kernel
theorem dX10_same_53 : decode cX10_same 53 = .ok (.aload_n 0, 1) := by decide +kernel
theorem dX10_same_54 : decode cX10_same 54 = .ok (.getfield 7, 3) := by decide +kernel
theorem dX10_same_57 : decode cX10_same 57 = .ok (.iconst 0, 1) := by decide +kernel
theorem dX10_same_58 : decode cX10_same 58 = .ok (.iaload, 1) := by decide +kernel
theorem dX10_same_59 : decode cX10_same 59 = .ok (.if_icmp .ge 70, 3) := by decide +kernel
theorem dX10_same_62 : decode cX10_same 62 = .ok (.iload_n 3, 1) := by decide +kernel
theorem dX10_same_63 : decode cX10_same 63 = .ok (.ifCond .ne 54, 3) := by decide +kernel
theorem dX10_same_66 : decode cX10_same 66 = .ok (.aload_n 0, 1) := by decide +kernel
theorem dX10_same_67 : decode cX10_same 67 = .ok (.iload 4, 2) := by decide +kernel
theorem dX10_same_69 : decode cX10_same 69 = .ok (.bipush 6, 2) := by decide +kernel
theorem dX10_same_71 : decode cX10_same 71 = .ok (.invokevirtual 111, 3) := by decide +kernel
theorem dX10_same_74 : decode cX10_same 74 = .ok (.iload_n 1, 1) := by decide +kernel
theorem dX10_same_75 : decode cX10_same 75 = .ok (.if_icmp .ne 46, 3) := by decide +kernel
theorem dX10_same_78 : decode cX10_same 78 = .ok (.aload_n 0, 1) := by decide +kernel
theorem dX10_same_79 : decode cX10_same 79 = .ok (.iload 5, 2) := by decide +kernel
theorem dX10_same_81 : decode cX10_same 81 = .ok (.bipush 6, 2) := by decide +kernel
theorem dX10_same_83 : decode cX10_same 83 = .ok (.invokevirtual 111, 3) := by decide +kernel
theorem dX10_same_86 : decode cX10_same 86 = .ok (.iload_n 2, 1) := by decide +kernel
theorem dX10_same_87 : decode cX10_same 87 = .ok (.if_icmp .ne 34, 3) := by decide +kernel
theorem dX10_same_90 : decode cX10_same 90 = .ok (.aload_n 0, 1) := by decide +kernel
theorem dX10_same_91 : decode cX10_same 91 = .ok (.iload 4, 2) := by decide +kernel
theorem dX10_same_93 : decode cX10_same 93 = .ok (.iconst 5, 1) := by decide +kernel
theorem dX10_same_94 : decode cX10_same 94 = .ok (.invokevirtual 111, 3) := by decide +kernel
theorem dX10_same_97 : decode cX10_same 97 = .ok (.ifCond .lt 24, 3) := by decide +kernel
theorem dX10_same_100 : decode cX10_same 100 = .ok (.aload_n 0, 1) := by decide +kernel
theorem dX10_same_101 : decode cX10_same 101 = .ok (.iload 4, 2) := by decide +kernel
theorem dX10_same_103 : decode cX10_same 103 = .ok (.iconst 5, 1) := by decide +kernel
theorem dX10_same_104 : decode cX10_same 104 = .ok (.invokevirtual 111, 3) := by decide +kernel
theorem dX10_same_107 : decode cX10_same 107 = .ok (.aload_n 0, 1) := by decide +kernel
theorem dX10_same_108 : decode cX10_same 108 = .ok (.iload 5, 2) := by decide +kernel
theorem dX10_same_110 : decode cX10_same 110 = .ok (.iconst 5, 1) := by decide +kernel
theorem dX10_same_111 : decode cX10_same 111 = .ok (.invokevirtual 111, 3) := by decide +kernel
theorem dX10_same_114 : decode cX10_same 114 = .ok (.if_icmp .ne 7, 3) := by decide +kernel
theorem dX10_same_117 : decode cX10_same 117 = .ok (.iconst 1, 1) := by decide +kernel
theorem dX10_same_118 : decode cX10_same 118 = .ok (.goto 4, 3) := by decide +kernel
theorem dX10_same_121 : decode cX10_same 121 = .ok (.iconst 0, 1) := by decide +kernel
theorem dX10_same_122 : decode cX10_same 122 = .ok (.istore_n 3, 1) := by decide +kernel
theorem dX10_same_123 : decode cX10_same 123 = .ok (.iinc 5 1, 3) := by decide +kernel
theorem dX10_same_126 : decode cX10_same 126 = .ok (.goto (-75), 3) := by decide +kernel
theorem dX10_same_129 : decode cX10_same 129 = .ok (.iinc 4 1, 3) := by decide +kernel
theorem dX10_same_132 : decode cX10_same 132 = .ok (.goto (-95), 3) := by decide +kernel
theorem dX10_same_135 : decode cX10_same 135 = .ok (.iload_n 3, 1) := by decide +kernel
theorem dX10_same_136 : decode cX10_same 136 = .ok (.ifCond .eq 7, 3) := by decide +kernel
theorem dX10_same_139 : decode cX10_same 139 = .ok (.iconst 1, 1) := by decide +kernel
theorem dX10_same_140 : decode cX10_same 140 = .ok (.goto 4, 3) := by decide +kernel
theorem dX10_same_143 : decode cX10_same 143 = .ok (.iconst 0, 1) := by decide +kernel
theorem dX10_same_144 : decode cX10_same 144 = .ok (.ireturn, 1) := by decide +kernel
theorem dX10_kept_0 : decode cX10_kept 0 = .ok (.iload_n 1, 1) := by decide +kernel
theorem dX10_kept_1 : decode cX10_kept 1 = .ok (.invokestatic 293, 3) := by decide +kernel
theorem dX10_kept_4 : decode cX10_kept 4 = .ok (.ifCond .ne 6, 3) := by decide +kernel
theorem dX10_kept_7 : decode cX10_kept 7 = .ok (.ldc 102, 2) := by decide +kernel
theorem dX10_kept_9 : decode cX10_kept 9 = .ok (.ireturn, 1) := by decide +kernel
theorem dX10_kept_10 : decode cX10_kept 10 = .ok (.iconst (-1), 1) := by decide +kernel
theorem dX10_kept_11 : decode cX10_kept 11 = .ok (.istore_n 2, 1) := by decide +kernel
theorem dX10_kept_12 : decode cX10_kept 12 = .ok (.iconst 0, 1) := by decide +kernel
theorem dX10_kept_13 : decode cX10_kept 13 = .ok (.istore_n 3, 1) := by decide +kernel
theorem dX10_kept_14 : decode cX10_kept 14 = .ok (.iload_n 3, 1) := by decide +kernel
theorem dX10_kept_15 : decode cX10_kept 15 = .ok (.aload_n 0, 1) := by decide +kernel
theorem dX10_kept_16 : decode cX10_kept 16 = .ok (.getfield 7, 3) := by decide +kernel
theorem dX10_kept_19 : decode cX10_kept 19 = .ok (.iconst 0, 1) := by decide +kernel
theorem dX10_kept_20 : decode cX10_kept 20 = .ok (.iaload, 1) := by decide +kernel
theorem dX10_kept_21 : decode cX10_kept 21 = .ok (.if_icmp .ge 66, 3) := by decide +kernel
theorem dX10_kept_24 : decode cX10_kept 24 = .ok (.aload_n 0, 1) := by decide +kernel
theorem dX10_kept_25 : decode cX10_kept 25 = .ok (.iload_n 3, 1) := by decide +kernel
theorem dX10_kept_26 : decode cX10_kept 26 = .ok (.iconst 5, 1) := by decide +kernel
theorem dX10_kept_27 : decode cX10_kept 27 = .ok (.invokevirtual 111, 3) := by decide +kernel
theorem dX10_kept_30 : decode cX10_kept 30 = .ok (.iload_n 1, 1) := by decide +kernel
theorem dX10_kept_31 : decode cX10_kept 31 = .ok (.if_icmp .ne 17, 3) := by decide +kernel
theorem dX10_kept_34 : decode cX10_kept 34 = .ok (.aload_n 0, 1) := by decide +kernel
theorem dX10_kept_35 : decode cX10_kept 35 = .ok (.iload_n 3, 1) := by decide +kernel
theorem dX10_kept_36 : decode cX10_kept 36 = .ok (.bipush 6, 2) := by decide +kernel
theorem dX10_kept_38 : decode cX10_kept 38 = .ok (.invokevirtual 111, 3) := by decide +kernel
theorem dX10_kept_41 : decode cX10_kept 41 = .ok (.ifCond .lt 7, 3) := by decide +kernel
theorem dX10_kept_44 : decode cX10_kept 44 = .ok (.iconst 1, 1) := by decide +kernel
theorem dX10_kept_45 : decode cX10_kept 45 = .ok (.goto 4, 3) := by decide +kernel
theorem dX10_kept_48 : decode cX10_kept 48 = .ok (.iconst 0, 1) := by decide +kernel
theorem dX10_kept_49 : decode cX10_kept 49 = .ok (.istore 4, 2) := by decide +kernel
theorem dX10_kept_51 : decode cX10_kept 51 = .ok (.iload 4, 2) := by decide +kernel
theorem dX10_kept_53 : decode cX10_kept 53 = .ok (.ifCond .eq 26, 3) := by decide +kernel
theorem dX10_kept_56 : decode cX10_kept 56 = .ok (.iload_n 2, 1) := by decide +kernel
theorem dX10_kept_57 : decode cX10_kept 57 = .ok (.ifCond .lt 18, 3) := by decide +kernel
theorem dX10_kept_60 : decode cX10_kept 60 = .ok (.aload_n 0, 1) := by decide +kernel
theorem dX10_kept_61 : decode cX10_kept 61 = .ok (.iload_n 3, 1) := by decide +kernel
theorem dX10_kept_62 : decode cX10_kept 62 = .ok (.iconst 2, 1) := by decide +kernel
theorem dX10_kept_63 : decode cX10_kept 63 = .ok (.invokevirtual 111, 3) := by decide +kernel
theorem dX10_kept_66 : decode cX10_kept 66 = .ok (.aload_n 0, 1) := by decide +kernel
theorem dX10_kept_67 : decode cX10_kept 67 = .ok (.iload_n 2, 1) := by decide +kernel
theorem dX10_kept_68 : decode cX10_kept 68 = .ok (.iconst 2, 1) := by decide +kernel
theorem dX10_kept_69 : decode cX10_kept 69 = .ok (.invokevirtual 111, 3) := by decide +kernel
theorem dX10_kept_72 : decode cX10_kept 72 = .ok (.if_icmp .ge 7, 3) := by decide +kernel
theorem dX10_kept_75 : decode cX10_kept 75 = .ok (.iload_n 3, 1) := by decide +kernel
theorem dX10_kept_76 : decode cX10_kept 76 = .ok (.goto 4, 3) := by decide +kernel
theorem dX10_kept_79 : decode cX10_kept 79 = .ok (.iload_n 2, 1) := by decide +kernel
theorem dX10_kept_80 : decode cX10_kept 80 = .ok (.istore_n 2, 1) := by decide +kernel
theorem dX10_kept_81 : decode cX10_kept 81 = .ok (.iinc 3 1, 3) := by decide +kernel
theorem dX10_kept_84 : decode cX10_kept 84 = .ok (.goto (-70), 3) := by decide +kernel
theorem dX10_kept_87 : decode cX10_kept 87 = .ok (.iload_n 2, 1) := by decide +kernel
theorem dX10_kept_88 : decode cX10_kept 88 = .ok (.ifCond .ge 8, 3) := by decide +kernel
theorem dX10_kept_91 : decode cX10_kept 91 = .ok (.ldc 79, 2) := by decide +kernel
theorem dX10_kept_93 : decode cX10_kept 93 = .ok (.goto 10, 3) := by decide +kernel
theorem dX10_kept_96 : decode cX10_kept 96 = .ok (.aload_n 0, 1) := by decide +kernel
theorem dX10_kept_97 : decode cX10_kept 97 = .ok (.iload_n 2, 1) := by decide +kernel
theorem dX10_kept_98 : decode cX10_kept 98 = .ok (.bipush 6, 2) := by decide +kernel
theorem dX10_kept_100 : decode cX10_kept 100 = .ok (.invokevirtual 111, 3) := by decide +kernel
theorem dX10_kept_103 : decode cX10_kept 103 = .ok (.ireturn, 1) := by decide +kernel
theorem dX10_set_0 : decode cX10_set 0 = .ok (.iload_n 1, 1) := by decide +kernel
theorem dX10_set_1 : decode cX10_set 1 = .ok (.invokestatic 263, 3) := by decide +kernel
theorem dX10_set_4 : decode cX10_set 4 = .ok (.ifCond .eq 29, 3) := by decide +kernel
theorem dX10_set_7 : decode cX10_set 7 = .ok (.iload_n 2, 1) := by decide +kernel
theorem dX10_set_8 : decode cX10_set 8 = .ok (.i2l, 1) := by decide +kernel
theorem dX10_set_9 : decode cX10_set 9 = .ok (.lconst 0, 1) := by decide +kernel
theorem dX10_set_10 : decode cX10_set 10 = .ok (.ldc2_w 100, 3) := by decide +kernel
theorem dX10_set_13 : decode cX10_set 13 = .ok (.invokestatic 80, 3) := by decide +kernel
theorem dX10_set_16 : decode cX10_set 16 = .ok (.ifCond .eq 17, 3) := by decide +kernel
theorem dX10_set_19 : decode cX10_set 19 = .ok (.iload_n 3, 1) := by decide +kernel
theorem dX10_set_20 : decode cX10_set 20 = .ok (.i2l, 1) := by decide +kernel
theorem dX10_set_21 : decode cX10_set 21 = .ok (.ldc2_w 346, 3) := by decide +kernel
theorem dX10_set_24 : decode cX10_set 24 = .ok (.ldc2_w 348, 3) := by decide +kernel
theorem dX10_set_27 : decode cX10_set 27 = .ok (.invokestatic 80, 3) := by decide +kernel
theorem dX10_set_30 : decode cX10_set 30 = .ok (.ifCond .ne 6, 3) := by decide +kernel
theorem dX10_set_33 : decode cX10_set 33 = .ok (.ldc 102, 2) := by decide +kernel
theorem dX10_set_35 : decode cX10_set 35 = .ok (.ireturn, 1) := by decide +kernel
theorem dX10_set_36 : decode cX10_set 36 = .ok (.aload_n 0, 1) := by decide +kernel
theorem dX10_set_37 : decode cX10_set 37 = .ok (.getfield 7, 3) := by decide +kernel
theorem dX10_set_40 : decode cX10_set 40 = .ok (.bipush 10, 2) := by decide +kernel
theorem dX10_set_42 : decode cX10_set 42 = .ok (.iconst 3, 1) := by decide +kernel
theorem dX10_set_43 : decode cX10_set 43 = .ok (.iload_n 1, 1) := by decide +kernel
theorem dX10_set_44 : decode cX10_set 44 = .ok (.imul, 1) := by decide +kernel
theorem dX10_set_45 : decode cX10_set 45 = .ok (.iadd, 1) := by decide +kernel
theorem dX10_set_46 : decode cX10_set 46 = .ok (.iconst 1, 1) := by decide +kernel
theorem dX10_set_47 : decode cX10_set 47 = .ok (.iastore, 1) := by decide +kernel
theorem dX10_set_48 : decode cX10_set 48 = .ok (.aload_n 0, 1) := by decide +kernel
theorem dX10_set_49 : decode cX10_set 49 = .ok (.getfield 7, 3) := by decide +kernel
theorem dX10_set_52 : decode cX10_set 52 = .ok (.bipush 10, 2) := by decide +kernel
theorem dX10_set_54 : decode cX10_set 54 = .ok (.iconst 3, 1) := by decide +kernel
theorem dX10_set_55 : decode cX10_set 55 = .ok (.iload_n 1, 1) := by decide +kernel
theorem dX10_set_56 : decode cX10_set 56 = .ok (.imul, 1) := by decide +kernel
theorem dX10_set_57 : decode cX10_set 57 = .ok (.iadd, 1) := by decide +kernel
theorem dX10_set_58 : decode cX10_set 58 = .ok (.iconst 1, 1) := by decide +kernel
theorem dX10_set_59 : decode cX10_set 59 = .ok (.iadd, 1) := by decide +kernel
theorem dX10_set_60 : decode cX10_set 60 = .ok (.iload_n 2, 1) := by decide +kernel
theorem dX10_set_61 : decode cX10_set 61 = .ok (.iastore, 1) := by decide +kernel
theorem dX10_set_62 : decode cX10_set 62 = .ok (.aload_n 0, 1) := by decide +kernel
theorem dX10_set_63 : decode cX10_set 63 = .ok (.getfield 7, 3) := by decide +kernel
theorem dX10_set_66 : decode cX10_set 66 = .ok (.bipush 10, 2) := by decide +kernel
theorem dX10_set_68 : decode cX10_set 68 = .ok (.iconst 3, 1) := by decide +kernel
theorem dX10_set_69 : decode cX10_set 69 = .ok (.iload_n 1, 1) := by decide +kernel
theorem dX10_set_70 : decode cX10_set 70 = .ok (.imul, 1) := by decide +kernel
theorem dX10_set_71 : decode cX10_set 71 = .ok (.iadd, 1) := by decide +kernel
theorem dX10_set_72 : decode cX10_set 72 = .ok (.iconst 2, 1) := by decide +kernel
theorem dX10_set_73 : decode cX10_set 73 = .ok (.iadd, 1) := by decide +kernel
theorem dX10_set_74 : decode cX10_set 74 = .ok (.iload_n 3, 1) := by decide +kernel
theorem dX10_set_75 : decode cX10_set 75 = .ok (.iastore, 1) := by decide +kernel
theorem dX10_set_76 : decode cX10_set 76 = .ok (.iconst 1, 1) := by decide +kernel
theorem dX10_set_77 : decode cX10_set 77 = .ok (.ireturn, 1) := by decide +kernel
theorem dX10_isFixOf_0 : decode cX10_isFixOf 0 = .ok (.aload_n 0, 1) := by decide +kernel
theorem dX10_isFixOf_1 : decode cX10_isFixOf 1 = .ok (.iload_n 1, 1) := by decide +kernel
theorem dX10_isFixOf_2 : decode cX10_isFixOf 2 = .ok (.iconst 0, 1) := by decide +kernel
theorem dX10_isFixOf_3 : decode cX10_isFixOf 3 = .ok (.invokevirtual 111, 3) := by decide +kernel
theorem dX10_isFixOf_6 : decode cX10_isFixOf 6 = .ok (.iconst 3, 1) := by decide +kernel
theorem dX10_isFixOf_7 : decode cX10_isFixOf 7 = .ok (.if_icmp .ne 17, 3) := by decide +kernel
theorem dX10_isFixOf_10 : decode cX10_isFixOf 10 = .ok (.aload_n 0, 1) := by decide +kernel
theorem dX10_isFixOf_11 : decode cX10_isFixOf 11 = .ok (.iload_n 1, 1) := by decide +kernel
theorem dX10_isFixOf_12 : decode cX10_isFixOf 12 = .ok (.iconst 1, 1) := by decide +kernel
theorem dX10_isFixOf_13 : decode cX10_isFixOf 13 = .ok (.invokevirtual 111, 3) := by decide +kernel
theorem dX10_isFixOf_16 : decode cX10_isFixOf 16 = .ok (.iload_n 2, 1) := by decide +kernel
theorem dX10_isFixOf_17 : decode cX10_isFixOf 17 = .ok (.if_icmp .ne 7, 3) := by decide +kernel
theorem dX10_isFixOf_20 : decode cX10_isFixOf 20 = .ok (.iconst 1, 1) := by decide +kernel
theorem dX10_isFixOf_21 : decode cX10_isFixOf 21 = .ok (.goto 4, 3) := by decide +kernel
theorem dX10_isFixOf_24 : decode cX10_isFixOf 24 = .ok (.iconst 0, 1) := by decide +kernel
theorem dX10_isFixOf_25 : decode cX10_isFixOf 25 = .ok (.ireturn, 1) := by decide +kernel
theorem dX10_hasFix_0 : decode cX10_hasFix 0 = .ok (.iconst 0, 1) := by decide +kernel
theorem dX10_hasFix_1 : decode cX10_hasFix 1 = .ok (.istore_n 3, 1) := by decide +kernel
theorem dX10_hasFix_2 : decode cX10_hasFix 2 = .ok (.iconst 0, 1) := by decide +kernel
theorem dX10_hasFix_3 : decode cX10_hasFix 3 = .ok (.istore 4, 2) := by decide +kernel
theorem dX10_hasFix_5 : decode cX10_hasFix 5 = .ok (.iload 4, 2) := by decide +kernel
theorem dX10_hasFix_7 : decode cX10_hasFix 7 = .ok (.aload_n 0, 1) := by decide +kernel
theorem dX10_hasFix_8 : decode cX10_hasFix 8 = .ok (.getfield 7, 3) := by decide +kernel
theorem dX10_hasFix_11 : decode cX10_hasFix 11 = .ok (.iconst 0, 1) := by decide +kernel
theorem dX10_hasFix_12 : decode cX10_hasFix 12 = .ok (.iaload, 1) := by decide +kernel
theorem dX10_hasFix_13 : decode cX10_hasFix 13 = .ok (.if_icmp .ge 40, 3) := by decide +kernel
theorem dX10_hasFix_16 : decode cX10_hasFix 16 = .ok (.iload_n 3, 1) := by decide +kernel
theorem dX10_hasFix_17 : decode cX10_hasFix 17 = .ok (.ifCond .ne 24, 3) := by decide +kernel
theorem dX10_hasFix_20 : decode cX10_hasFix 20 = .ok (.aload_n 0, 1) := by decide +kernel
theorem dX10_hasFix_21 : decode cX10_hasFix 21 = .ok (.iload 4, 2) := by decide +kernel
theorem dX10_hasFix_23 : decode cX10_hasFix 23 = .ok (.iconst 5, 1) := by decide +kernel
theorem dX10_hasFix_24 : decode cX10_hasFix 24 = .ok (.invokevirtual 111, 3) := by decide +kernel
theorem dX10_hasFix_27 : decode cX10_hasFix 27 = .ok (.iload_n 1, 1) := by decide +kernel
theorem dX10_hasFix_28 : decode cX10_hasFix 28 = .ok (.if_icmp .ne 17, 3) := by decide +kernel
theorem dX10_hasFix_31 : decode cX10_hasFix 31 = .ok (.aload_n 0, 1) := by decide +kernel
theorem dX10_hasFix_32 : decode cX10_hasFix 32 = .ok (.iload 4, 2) := by decide +kernel
theorem dX10_hasFix_34 : decode cX10_hasFix 34 = .ok (.iload_n 2, 1) := by decide +kernel
theorem dX10_hasFix_35 : decode cX10_hasFix 35 = .ok (.invokevirtual 350, 3) := by decide +kernel
theorem dX10_hasFix_38 : decode cX10_hasFix 38 = .ok (.ifCond .eq 7, 3) := by decide +kernel
theorem dX10_hasFix_41 : decode cX10_hasFix 41 = .ok (.iconst 1, 1) := by decide +kernel
theorem dX10_hasFix_42 : decode cX10_hasFix 42 = .ok (.goto 4, 3) := by decide +kernel
theorem dX10_hasFix_45 : decode cX10_hasFix 45 = .ok (.iconst 0, 1) := by decide +kernel
theorem dX10_hasFix_46 : decode cX10_hasFix 46 = .ok (.istore_n 3, 1) := by decide +kernel
theorem dX10_hasFix_47 : decode cX10_hasFix 47 = .ok (.iinc 4 1, 3) := by decide +kernel
theorem dX10_hasFix_50 : decode cX10_hasFix 50 = .ok (.goto (-45), 3) := by decide +kernel
theorem dX10_hasFix_53 : decode cX10_hasFix 53 = .ok (.iload_n 3, 1) := by decide +kernel
theorem dX10_hasFix_54 : decode cX10_hasFix 54 = .ok (.ireturn, 1) := by decide +kernel
theorem dX10_wouldHold_0 : decode cX10_wouldHold 0 = .ok (.ldc_w 272, 3) := by decide +kernel
theorem dX10_wouldHold_3 : decode cX10_wouldHold 3 = .ok (.istore 5, 2) := by decide +kernel
theorem dX10_wouldHold_5 : decode cX10_wouldHold 5 = .ok (.ldc_w 276, 3) := by decide +kernel
theorem dX10_wouldHold_8 : decode cX10_wouldHold 8 = .ok (.istore 6, 2) := by decide +kernel
theorem dX10_wouldHold_10 : decode cX10_wouldHold 10 = .ok (.iconst 0, 1) := by decide +kernel
theorem dX10_wouldHold_11 : decode cX10_wouldHold 11 = .ok (.istore 7, 2) := by decide +kernel
theorem dX10_wouldHold_13 : decode cX10_wouldHold 13 = .ok (.iload 7, 2) := by decide +kernel
theorem dX10_wouldHold_15 : decode cX10_wouldHold 15 = .ok (.aload_n 0, 1) := by decide +kernel
theorem dX10_wouldHold_16 : decode cX10_wouldHold 16 = .ok (.getfield 7, 3) := by decide +kernel
theorem dX10_wouldHold_19 : decode cX10_wouldHold 19 = .ok (.iconst 0, 1) := by decide +kernel
theorem dX10_wouldHold_20 : decode cX10_wouldHold 20 = .ok (.iaload, 1) := by decide +kernel
theorem dX10_wouldHold_21 : decode cX10_wouldHold 21 = .ok (.if_icmp .ge 136, 3) := by decide +kernel
theorem dX10_wouldHold_24 : decode cX10_wouldHold 24 = .ok (.aload_n 0, 1) := by decide +kernel
theorem dX10_wouldHold_25 : decode cX10_wouldHold 25 = .ok (.iload 7, 2) := by decide +kernel
theorem dX10_wouldHold_27 : decode cX10_wouldHold 27 = .ok (.iconst 5, 1) := by decide +kernel
theorem dX10_wouldHold_28 : decode cX10_wouldHold 28 = .ok (.invokevirtual 111, 3) := by decide +kernel
theorem dX10_wouldHold_31 : decode cX10_wouldHold 31 = .ok (.iload_n 1, 1) := by decide +kernel
theorem dX10_wouldHold_32 : decode cX10_wouldHold 32 = .ok (.if_icmp .ne 119, 3) := by decide +kernel
theorem dX10_wouldHold_35 : decode cX10_wouldHold 35 = .ok (.aload_n 0, 1) := by decide +kernel
theorem dX10_wouldHold_36 : decode cX10_wouldHold 36 = .ok (.iload 7, 2) := by decide +kernel
theorem dX10_wouldHold_38 : decode cX10_wouldHold 38 = .ok (.iconst 2, 1) := by decide +kernel
theorem dX10_wouldHold_39 : decode cX10_wouldHold 39 = .ok (.invokevirtual 111, 3) := by decide +kernel
theorem dX10_wouldHold_42 : decode cX10_wouldHold 42 = .ok (.iload_n 3, 1) := by decide +kernel
theorem dX10_wouldHold_43 : decode cX10_wouldHold 43 = .ok (.if_icmp .lt 8, 3) := by decide +kernel
theorem dX10_wouldHold_46 : decode cX10_wouldHold 46 = .ok (.iload 4, 2) := by decide +kernel
theorem dX10_wouldHold_48 : decode cX10_wouldHold 48 = .ok (.goto 4, 3) := by decide +kernel
theorem dX10_wouldHold_51 : decode cX10_wouldHold 51 = .ok (.iconst 0, 1) := by decide +kernel
theorem dX10_wouldHold_52 : decode cX10_wouldHold 52 = .ok (.istore 8, 2) := by decide +kernel
theorem dX10_wouldHold_54 : decode cX10_wouldHold 54 = .ok (.aload_n 0, 1) := by decide +kernel
theorem dX10_wouldHold_55 : decode cX10_wouldHold 55 = .ok (.iload 7, 2) := by decide +kernel
theorem dX10_wouldHold_57 : decode cX10_wouldHold 57 = .ok (.iload_n 2, 1) := by decide +kernel
theorem dX10_wouldHold_58 : decode cX10_wouldHold 58 = .ok (.invokevirtual 350, 3) := by decide +kernel
theorem dX10_wouldHold_61 : decode cX10_wouldHold 61 = .ok (.ifCond .eq 35, 3) := by decide +kernel
theorem dX10_wouldHold_64 : decode cX10_wouldHold 64 = .ok (.aload_n 0, 1) := by decide +kernel
theorem dX10_wouldHold_65 : decode cX10_wouldHold 65 = .ok (.iload 7, 2) := by decide +kernel
theorem dX10_wouldHold_67 : decode cX10_wouldHold 67 = .ok (.iconst 3, 1) := by decide +kernel
theorem dX10_wouldHold_68 : decode cX10_wouldHold 68 = .ok (.invokevirtual 111, 3) := by decide +kernel
theorem dX10_wouldHold_71 : decode cX10_wouldHold 71 = .ok (.aload_n 0, 1) := by decide +kernel
theorem dX10_wouldHold_72 : decode cX10_wouldHold 72 = .ok (.getfield 64, 3) := by decide +kernel
theorem dX10_wouldHold_75 : decode cX10_wouldHold 75 = .ok (.iload 7, 2) := by decide +kernel
theorem dX10_wouldHold_77 : decode cX10_wouldHold 77 = .ok (.iaload, 1) := by decide +kernel
theorem dX10_wouldHold_78 : decode cX10_wouldHold 78 = .ok (.i2l, 1) := by decide +kernel
theorem dX10_wouldHold_79 : decode cX10_wouldHold 79 = .ok (.iload 8, 2) := by decide +kernel
theorem dX10_wouldHold_81 : decode cX10_wouldHold 81 = .ok (.i2l, 1) := by decide +kernel
theorem dX10_wouldHold_82 : decode cX10_wouldHold 82 = .ok (.ladd, 1) := by decide +kernel
theorem dX10_wouldHold_83 : decode cX10_wouldHold 83 = .ok (.sipush (-200), 3) := by decide +kernel
theorem dX10_wouldHold_86 : decode cX10_wouldHold 86 = .ok (.sipush 200, 3) := by decide +kernel
theorem dX10_wouldHold_89 : decode cX10_wouldHold 89 = .ok (.invokestatic 125, 3) := by decide +kernel
theorem dX10_wouldHold_92 : decode cX10_wouldHold 92 = .ok (.iadd, 1) := by decide +kernel
theorem dX10_wouldHold_93 : decode cX10_wouldHold 93 = .ok (.goto 10, 3) := by decide +kernel
theorem dX10_wouldHold_96 : decode cX10_wouldHold 96 = .ok (.aload_n 0, 1) := by decide +kernel
theorem dX10_wouldHold_97 : decode cX10_wouldHold 97 = .ok (.getfield 61, 3) := by decide +kernel
theorem dX10_wouldHold_100 : decode cX10_wouldHold 100 = .ok (.iload 7, 2) := by decide +kernel
theorem dX10_wouldHold_102 : decode cX10_wouldHold 102 = .ok (.iaload, 1) := by decide +kernel
theorem dX10_wouldHold_103 : decode cX10_wouldHold 103 = .ok (.istore 9, 2) := by decide +kernel
theorem dX10_wouldHold_105 : decode cX10_wouldHold 105 = .ok (.iload 9, 2) := by decide +kernel
theorem dX10_wouldHold_107 : decode cX10_wouldHold 107 = .ok (.aload_n 0, 1) := by decide +kernel
theorem dX10_wouldHold_108 : decode cX10_wouldHold 108 = .ok (.iload 7, 2) := by decide +kernel
theorem dX10_wouldHold_110 : decode cX10_wouldHold 110 = .ok (.invokevirtual 148, 3) := by decide +kernel
theorem dX10_wouldHold_113 : decode cX10_wouldHold 113 = .ok (.isub, 1) := by decide +kernel
theorem dX10_wouldHold_114 : decode cX10_wouldHold 114 = .ok (.iload 5, 2) := by decide +kernel
theorem dX10_wouldHold_116 : decode cX10_wouldHold 116 = .ok (.if_icmp .le 15, 3) := by decide +kernel
theorem dX10_wouldHold_119 : decode cX10_wouldHold 119 = .ok (.iload 9, 2) := by decide +kernel
theorem dX10_wouldHold_121 : decode cX10_wouldHold 121 = .ok (.aload_n 0, 1) := by decide +kernel
theorem dX10_wouldHold_122 : decode cX10_wouldHold 122 = .ok (.iload 7, 2) := by decide +kernel
theorem dX10_wouldHold_124 : decode cX10_wouldHold 124 = .ok (.invokevirtual 148, 3) := by decide +kernel
theorem dX10_wouldHold_127 : decode cX10_wouldHold 127 = .ok (.isub, 1) := by decide +kernel
theorem dX10_wouldHold_128 : decode cX10_wouldHold 128 = .ok (.goto 5, 3) := by decide +kernel
theorem dX10_wouldHold_131 : decode cX10_wouldHold 131 = .ok (.iload 5, 2) := by decide +kernel
theorem dX10_wouldHold_133 : decode cX10_wouldHold 133 = .ok (.istore 5, 2) := by decide +kernel
theorem dX10_wouldHold_135 : decode cX10_wouldHold 135 = .ok (.iload 6, 2) := by decide +kernel
theorem dX10_wouldHold_137 : decode cX10_wouldHold 137 = .ok (.iload 9, 2) := by decide +kernel
theorem dX10_wouldHold_139 : decode cX10_wouldHold 139 = .ok (.aload_n 0, 1) := by decide +kernel
theorem dX10_wouldHold_140 : decode cX10_wouldHold 140 = .ok (.iload 7, 2) := by decide +kernel
theorem dX10_wouldHold_142 : decode cX10_wouldHold 142 = .ok (.invokevirtual 148, 3) := by decide +kernel
theorem dX10_wouldHold_145 : decode cX10_wouldHold 145 = .ok (.iadd, 1) := by decide +kernel
theorem dX10_wouldHold_146 : decode cX10_wouldHold 146 = .ok (.invokestatic 286, 3) := by decide +kernel
theorem dX10_wouldHold_149 : decode cX10_wouldHold 149 = .ok (.istore 6, 2) := by decide +kernel
theorem dX10_wouldHold_151 : decode cX10_wouldHold 151 = .ok (.iinc 7 1, 3) := by decide +kernel
theorem dX10_wouldHold_154 : decode cX10_wouldHold 154 = .ok (.goto (-141), 3) := by decide +kernel
theorem dX10_wouldHold_157 : decode cX10_wouldHold 157 = .ok (.iload 5, 2) := by decide +kernel
theorem dX10_wouldHold_159 : decode cX10_wouldHold 159 = .ok (.iload 6, 2) := by decide +kernel
theorem dX10_wouldHold_161 : decode cX10_wouldHold 161 = .ok (.if_icmp .gt 7, 3) := by decide +kernel
theorem dX10_wouldHold_164 : decode cX10_wouldHold 164 = .ok (.iconst 1, 1) := by decide +kernel
theorem dX10_wouldHold_165 : decode cX10_wouldHold 165 = .ok (.goto 4, 3) := by decide +kernel
theorem dX10_wouldHold_168 : decode cX10_wouldHold 168 = .ok (.iconst 0, 1) := by decide +kernel
theorem dX10_wouldHold_169 : decode cX10_wouldHold 169 = .ok (.ireturn, 1) := by decide +kernel
theorem dX10_clock_0 : decode cX10_clock 0 = .ok (.iload_n 1, 1) := by decide +kernel
theorem dX10_clock_1 : decode cX10_clock 1 = .ok (.invokestatic 263, 3) := by decide +kernel
theorem dX10_clock_4 : decode cX10_clock 4 = .ok (.ifCond .eq 27, 3) := by decide +kernel
theorem dX10_clock_7 : decode cX10_clock 7 = .ok (.iload_n 2, 1) := by decide +kernel
theorem dX10_clock_8 : decode cX10_clock 8 = .ok (.i2l, 1) := by decide +kernel
theorem dX10_clock_9 : decode cX10_clock 9 = .ok (.lconst 0, 1) := by decide +kernel
theorem dX10_clock_10 : decode cX10_clock 10 = .ok (.ldc2_w 100, 3) := by decide +kernel
theorem dX10_clock_13 : decode cX10_clock 13 = .ok (.invokestatic 80, 3) := by decide +kernel
theorem dX10_clock_16 : decode cX10_clock 16 = .ok (.ifCond .eq 15, 3) := by decide +kernel
theorem dX10_clock_19 : decode cX10_clock 19 = .ok (.iload_n 3, 1) := by decide +kernel
theorem dX10_clock_20 : decode cX10_clock 20 = .ok (.i2l, 1) := by decide +kernel
theorem dX10_clock_21 : decode cX10_clock 21 = .ok (.lconst 0, 1) := by decide +kernel
theorem dX10_clock_22 : decode cX10_clock 22 = .ok (.ldc2_w 86, 3) := by decide +kernel
theorem dX10_clock_25 : decode cX10_clock 25 = .ok (.invokestatic 80, 3) := by decide +kernel
theorem dX10_clock_28 : decode cX10_clock 28 = .ok (.ifCond .ne 6, 3) := by decide +kernel
theorem dX10_clock_31 : decode cX10_clock 31 = .ok (.ldc 102, 2) := by decide +kernel
theorem dX10_clock_33 : decode cX10_clock 33 = .ok (.ireturn, 1) := by decide +kernel
theorem dX10_clock_34 : decode cX10_clock 34 = .ok (.iconst 0, 1) := by decide +kernel
theorem dX10_clock_35 : decode cX10_clock 35 = .ok (.istore 4, 2) := by decide +kernel
theorem dX10_clock_37 : decode cX10_clock 37 = .ok (.iload 4, 2) := by decide +kernel
theorem dX10_clock_39 : decode cX10_clock 39 = .ok (.aload_n 0, 1) := by decide +kernel
theorem dX10_clock_40 : decode cX10_clock 40 = .ok (.getfield 7, 3) := by decide +kernel
theorem dX10_clock_43 : decode cX10_clock 43 = .ok (.iconst 0, 1) := by decide +kernel
theorem dX10_clock_44 : decode cX10_clock 44 = .ok (.iaload, 1) := by decide +kernel
theorem dX10_clock_45 : decode cX10_clock 45 = .ok (.if_icmp .ge 37, 3) := by decide +kernel
theorem dX10_clock_48 : decode cX10_clock 48 = .ok (.aload_n 0, 1) := by decide +kernel
theorem dX10_clock_49 : decode cX10_clock 49 = .ok (.getfield 61, 3) := by decide +kernel
theorem dX10_clock_52 : decode cX10_clock 52 = .ok (.iload 4, 2) := by decide +kernel
theorem dX10_clock_54 : decode cX10_clock 54 = .ok (.aload_n 0, 1) := by decide +kernel
theorem dX10_clock_55 : decode cX10_clock 55 = .ok (.iload 4, 2) := by decide +kernel
theorem dX10_clock_57 : decode cX10_clock 57 = .ok (.invokevirtual 145, 3) := by decide +kernel
theorem dX10_clock_60 : decode cX10_clock 60 = .ok (.iastore, 1) := by decide +kernel
theorem dX10_clock_61 : decode cX10_clock 61 = .ok (.aload_n 0, 1) := by decide +kernel
theorem dX10_clock_62 : decode cX10_clock 62 = .ok (.getfield 64, 3) := by decide +kernel
theorem dX10_clock_65 : decode cX10_clock 65 = .ok (.iload 4, 2) := by decide +kernel
theorem dX10_clock_67 : decode cX10_clock 67 = .ok (.aload_n 0, 1) := by decide +kernel
theorem dX10_clock_68 : decode cX10_clock 68 = .ok (.iload 4, 2) := by decide +kernel
theorem dX10_clock_70 : decode cX10_clock 70 = .ok (.iconst 2, 1) := by decide +kernel
theorem dX10_clock_71 : decode cX10_clock 71 = .ok (.iconst 0, 1) := by decide +kernel
theorem dX10_clock_72 : decode cX10_clock 72 = .ok (.invokevirtual 121, 3) := by decide +kernel
theorem dX10_clock_75 : decode cX10_clock 75 = .ok (.iastore, 1) := by decide +kernel
theorem dX10_clock_76 : decode cX10_clock 76 = .ok (.iinc 4 1, 3) := by decide +kernel
theorem dX10_clock_79 : decode cX10_clock 79 = .ok (.goto (-42), 3) := by decide +kernel
theorem dX10_clock_82 : decode cX10_clock 82 = .ok (.iconst 0, 1) := by decide +kernel
theorem dX10_clock_83 : decode cX10_clock 83 = .ok (.istore 4, 2) := by decide +kernel
theorem dX10_clock_85 : decode cX10_clock 85 = .ok (.iconst 0, 1) := by decide +kernel
theorem dX10_clock_86 : decode cX10_clock 86 = .ok (.istore 5, 2) := by decide +kernel
theorem dX10_clock_88 : decode cX10_clock 88 = .ok (.iconst 0, 1) := by decide +kernel
theorem dX10_clock_89 : decode cX10_clock 89 = .ok (.istore 6, 2) := by decide +kernel
theorem dX10_clock_91 : decode cX10_clock 91 = .ok (.bipush (-50), 2) := by decide +kernel
theorem dX10_clock_93 : decode cX10_clock 93 = .ok (.istore 7, 2) := by decide +kernel
theorem dX10_clock_95 : decode cX10_clock 95 = .ok (.iload 7, 2) := by decide +kernel
theorem dX10_clock_97 : decode cX10_clock 97 = .ok (.bipush 50, 2) := by decide +kernel
theorem dX10_clock_99 : decode cX10_clock 99 = .ok (.if_icmp .gt 89, 3) := by decide +kernel
theorem dX10_clock_102 : decode cX10_clock 102 = .ok (.iconst 1, 1) := by decide +kernel
theorem dX10_clock_103 : decode cX10_clock 103 = .ok (.istore 8, 2) := by decide +kernel
theorem dX10_clock_105 : decode cX10_clock 105 = .ok (.iconst 0, 1) := by decide +kernel
theorem dX10_clock_106 : decode cX10_clock 106 = .ok (.istore 9, 2) := by decide +kernel
theorem dX10_clock_108 : decode cX10_clock 108 = .ok (.iload 9, 2) := by decide +kernel
theorem dX10_clock_110 : decode cX10_clock 110 = .ok (.bipush 9, 2) := by decide +kernel
theorem dX10_clock_112 : decode cX10_clock 112 = .ok (.if_icmp .ge 44, 3) := by decide +kernel
theorem dX10_clock_115 : decode cX10_clock 115 = .ok (.iload 8, 2) := by decide +kernel
theorem dX10_clock_117 : decode cX10_clock 117 = .ok (.ifCond .eq 39, 3) := by decide +kernel
theorem dX10_clock_120 : decode cX10_clock 120 = .ok (.aload_n 0, 1) := by decide +kernel
theorem dX10_clock_121 : decode cX10_clock 121 = .ok (.iload 9, 2) := by decide +kernel
theorem dX10_clock_123 : decode cX10_clock 123 = .ok (.iload_n 1, 1) := by decide +kernel
theorem dX10_clock_124 : decode cX10_clock 124 = .ok (.invokevirtual 353, 3) := by decide +kernel
theorem dX10_clock_127 : decode cX10_clock 127 = .ok (.ifCond .eq 16, 3) := by decide +kernel
theorem dX10_clock_130 : decode cX10_clock 130 = .ok (.aload_n 0, 1) := by decide +kernel
theorem dX10_clock_131 : decode cX10_clock 131 = .ok (.iload 9, 2) := by decide +kernel
theorem dX10_clock_133 : decode cX10_clock 133 = .ok (.iload_n 1, 1) := by decide +kernel
theorem dX10_clock_134 : decode cX10_clock 134 = .ok (.iload_n 2, 1) := by decide +kernel
theorem dX10_clock_135 : decode cX10_clock 135 = .ok (.iload 7, 2) := by decide +kernel
theorem dX10_clock_137 : decode cX10_clock 137 = .ok (.invokevirtual 356, 3) := by decide +kernel
theorem dX10_clock_140 : decode cX10_clock 140 = .ok (.ifCond .eq 7, 3) := by decide +kernel
theorem dX10_clock_143 : decode cX10_clock 143 = .ok (.iconst 1, 1) := by decide +kernel
theorem dX10_clock_144 : decode cX10_clock 144 = .ok (.goto 4, 3) := by decide +kernel
theorem dX10_clock_147 : decode cX10_clock 147 = .ok (.iconst 0, 1) := by decide +kernel
theorem dX10_clock_148 : decode cX10_clock 148 = .ok (.istore 8, 2) := by decide +kernel
theorem dX10_clock_150 : decode cX10_clock 150 = .ok (.iinc 9 1, 3) := by decide +kernel
theorem dX10_clock_153 : decode cX10_clock 153 = .ok (.goto (-45), 3) := by decide +kernel
theorem dX10_clock_156 : decode cX10_clock 156 = .ok (.iload 8, 2) := by decide +kernel
theorem dX10_clock_158 : decode cX10_clock 158 = .ok (.ifCond .eq 24, 3) := by decide +kernel
theorem dX10_clock_161 : decode cX10_clock 161 = .ok (.iload 4, 2) := by decide +kernel
theorem dX10_clock_163 : decode cX10_clock 163 = .ok (.ifCond .ne 8, 3) := by decide +kernel
theorem dX10_clock_166 : decode cX10_clock 166 = .ok (.iload 7, 2) := by decide +kernel
theorem dX10_clock_168 : decode cX10_clock 168 = .ok (.goto 5, 3) := by decide +kernel
theorem dX10_clock_171 : decode cX10_clock 171 = .ok (.iload 5, 2) := by decide +kernel
theorem dX10_clock_173 : decode cX10_clock 173 = .ok (.istore 5, 2) := by decide +kernel
theorem dX10_clock_175 : decode cX10_clock 175 = .ok (.iload 7, 2) := by decide +kernel
theorem dX10_clock_177 : decode cX10_clock 177 = .ok (.istore 6, 2) := by decide +kernel
theorem dX10_clock_179 : decode cX10_clock 179 = .ok (.iinc 4 1, 3) := by decide +kernel
theorem dX10_clock_182 : decode cX10_clock 182 = .ok (.iinc 7 1, 3) := by decide +kernel
theorem dX10_clock_185 : decode cX10_clock 185 = .ok (.goto (-90), 3) := by decide +kernel
theorem dX10_clock_188 : decode cX10_clock 188 = .ok (.iload_n 3, 1) := by decide +kernel
theorem dX10_clock_189 : decode cX10_clock 189 = .ok (.ifCond .ne 8, 3) := by decide +kernel
theorem dX10_clock_192 : decode cX10_clock 192 = .ok (.iload 4, 2) := by decide +kernel
theorem dX10_clock_194 : decode cX10_clock 194 = .ok (.goto 25, 3) := by decide +kernel
theorem dX10_clock_197 : decode cX10_clock 197 = .ok (.iload 4, 2) := by decide +kernel
theorem dX10_clock_199 : decode cX10_clock 199 = .ok (.ifCond .ne 8, 3) := by decide +kernel
theorem dX10_clock_202 : decode cX10_clock 202 = .ok (.ldc 79, 2) := by decide +kernel
theorem dX10_clock_204 : decode cX10_clock 204 = .ok (.goto 15, 3) := by decide +kernel
theorem dX10_clock_207 : decode cX10_clock 207 = .ok (.iload_n 3, 1) := by decide +kernel
theorem dX10_clock_208 : decode cX10_clock 208 = .ok (.iconst 1, 1) := by decide +kernel
theorem dX10_clock_209 : decode cX10_clock 209 = .ok (.if_icmp .ne 8, 3) := by decide +kernel
theorem dX10_clock_212 : decode cX10_clock 212 = .ok (.iload 5, 2) := by decide +kernel
theorem dX10_clock_214 : decode cX10_clock 214 = .ok (.goto 5, 3) := by decide +kernel
theorem dX10_clock_217 : decode cX10_clock 217 = .ok (.iload 6, 2) := by decide +kernel
theorem dX10_clock_219 : decode cX10_clock 219 = .ok (.ireturn, 1) := by decide +kernel
theorem dX10_isSheet_0 : decode cX10_isSheet 0 = .ok (.iload_n 0, 1) := by decide +kernel
theorem dX10_isSheet_1 : decode cX10_isSheet 1 = .ok (.i2l, 1) := by decide +kernel
theorem dX10_isSheet_2 : decode cX10_isSheet 2 = .ok (.lconst 0, 1) := by decide +kernel
theorem dX10_isSheet_3 : decode cX10_isSheet 3 = .ok (.ldc2_w 341, 3) := by decide +kernel
theorem dX10_isSheet_6 : decode cX10_isSheet 6 = .ok (.invokestatic 80, 3) := by decide +kernel
theorem dX10_isSheet_9 : decode cX10_isSheet 9 = .ok (.ireturn, 1) := by decide +kernel
theorem dX10_isNumber_0 : decode cX10_isNumber 0 = .ok (.aload_n 0, 1) := by decide +kernel
theorem dX10_isNumber_1 : decode cX10_isNumber 1 = .ok (.getfield 19, 3) := by decide +kernel
theorem dX10_isNumber_4 : decode cX10_isNumber 4 = .ok (.iload_n 1, 1) := by decide +kernel
theorem dX10_isNumber_5 : decode cX10_isNumber 5 = .ok (.iaload, 1) := by decide +kernel
theorem dX10_isNumber_6 : decode cX10_isNumber 6 = .ok (.ifCond .eq 19, 3) := by decide +kernel
theorem dX10_isNumber_9 : decode cX10_isNumber 9 = .ok (.aload_n 0, 1) := by decide +kernel
theorem dX10_isNumber_10 : decode cX10_isNumber 10 = .ok (.getfield 25, 3) := by decide +kernel
theorem dX10_isNumber_13 : decode cX10_isNumber 13 = .ok (.bipush 24, 2) := by decide +kernel
theorem dX10_isNumber_15 : decode cX10_isNumber 15 = .ok (.iload_n 1, 1) := by decide +kernel
theorem dX10_isNumber_16 : decode cX10_isNumber 16 = .ok (.imul, 1) := by decide +kernel
theorem dX10_isNumber_17 : decode cX10_isNumber 17 = .ok (.iload_n 2, 1) := by decide +kernel
theorem dX10_isNumber_18 : decode cX10_isNumber 18 = .ok (.iadd, 1) := by decide +kernel
theorem dX10_isNumber_19 : decode cX10_isNumber 19 = .ok (.iaload, 1) := by decide +kernel
theorem dX10_isNumber_20 : decode cX10_isNumber 20 = .ok (.ldc 79, 2) := by decide +kernel
theorem dX10_isNumber_22 : decode cX10_isNumber 22 = .ok (.if_icmp .eq 7, 3) := by decide +kernel
theorem dX10_isNumber_25 : decode cX10_isNumber 25 = .ok (.iconst 1, 1) := by decide +kernel
theorem dX10_isNumber_26 : decode cX10_isNumber 26 = .ok (.goto 4, 3) := by decide +kernel
theorem dX10_isNumber_29 : decode cX10_isNumber 29 = .ok (.iconst 0, 1) := by decide +kernel
theorem dX10_isNumber_30 : decode cX10_isNumber 30 = .ok (.ireturn, 1) := by decide +kernel
theorem dX10_smooth_0 : decode cX10_smooth 0 = .ok (.iload_n 1, 1) := by decide +kernel
theorem dX10_smooth_1 : decode cX10_smooth 1 = .ok (.invokestatic 359, 3) := by decide +kernel
theorem dX10_smooth_4 : decode cX10_smooth 4 = .ok (.ifCond .ne 6, 3) := by decide +kernel
theorem dX10_smooth_7 : decode cX10_smooth 7 = .ok (.ldc 102, 2) := by decide +kernel
theorem dX10_smooth_9 : decode cX10_smooth 9 = .ok (.ireturn, 1) := by decide +kernel
theorem dX10_smooth_10 : decode cX10_smooth 10 = .ok (.aload_n 0, 1) := by decide +kernel
theorem dX10_smooth_11 : decode cX10_smooth 11 = .ok (.getfield 19, 3) := by decide +kernel
theorem dX10_smooth_14 : decode cX10_smooth 14 = .ok (.iload_n 1, 1) := by decide +kernel
theorem dX10_smooth_15 : decode cX10_smooth 15 = .ok (.iaload, 1) := by decide +kernel
theorem dX10_smooth_16 : decode cX10_smooth 16 = .ok (.ifCond .ge 7, 3) := by decide +kernel
theorem dX10_smooth_19 : decode cX10_smooth 19 = .ok (.ldc_w 362, 3) := by decide +kernel
theorem dX10_smooth_22 : decode cX10_smooth 22 = .ok (.ireturn, 1) := by decide +kernel
theorem dX10_smooth_23 : decode cX10_smooth 23 = .ok (.iconst 0, 1) := by decide +kernel
theorem dX10_smooth_24 : decode cX10_smooth 24 = .ok (.istore_n 2, 1) := by decide +kernel
theorem dX10_smooth_25 : decode cX10_smooth 25 = .ok (.iconst 0, 1) := by decide +kernel
theorem dX10_smooth_26 : decode cX10_smooth 26 = .ok (.istore_n 3, 1) := by decide +kernel
theorem dX10_smooth_27 : decode cX10_smooth 27 = .ok (.iload_n 3, 1) := by decide +kernel
theorem dX10_smooth_28 : decode cX10_smooth 28 = .ok (.aload_n 0, 1) := by decide +kernel
theorem dX10_smooth_29 : decode cX10_smooth 29 = .ok (.getfield 22, 3) := by decide +kernel
theorem dX10_smooth_32 : decode cX10_smooth 32 = .ok (.iload_n 1, 1) := by decide +kernel
theorem dX10_smooth_33 : decode cX10_smooth 33 = .ok (.iaload, 1) := by decide +kernel
theorem dX10_smooth_34 : decode cX10_smooth 34 = .ok (.if_icmp .ge 26, 3) := by decide +kernel
theorem dX10_smooth_37 : decode cX10_smooth 37 = .ok (.aload_n 0, 1) := by decide +kernel
theorem dX10_smooth_38 : decode cX10_smooth 38 = .ok (.getfield 67, 3) := by decide +kernel
theorem dX10_smooth_41 : decode cX10_smooth 41 = .ok (.iload_n 3, 1) := by decide +kernel
theorem dX10_smooth_42 : decode cX10_smooth 42 = .ok (.aload_n 0, 1) := by decide +kernel
theorem dX10_smooth_43 : decode cX10_smooth 43 = .ok (.getfield 25, 3) := by decide +kernel
theorem dX10_smooth_46 : decode cX10_smooth 46 = .ok (.bipush 24, 2) := by decide +kernel
theorem dX10_smooth_48 : decode cX10_smooth 48 = .ok (.iload_n 1, 1) := by decide +kernel
theorem dX10_smooth_49 : decode cX10_smooth 49 = .ok (.imul, 1) := by decide +kernel
theorem dX10_smooth_50 : decode cX10_smooth 50 = .ok (.iload_n 3, 1) := by decide +kernel
theorem dX10_smooth_51 : decode cX10_smooth 51 = .ok (.iadd, 1) := by decide +kernel
theorem dX10_smooth_52 : decode cX10_smooth 52 = .ok (.iaload, 1) := by decide +kernel
theorem dX10_smooth_53 : decode cX10_smooth 53 = .ok (.iastore, 1) := by decide +kernel
theorem dX10_smooth_54 : decode cX10_smooth 54 = .ok (.iinc 3 1, 3) := by decide +kernel
theorem dX10_smooth_57 : decode cX10_smooth 57 = .ok (.goto (-30), 3) := by decide +kernel
theorem dX10_smooth_60 : decode cX10_smooth 60 = .ok (.iconst 1, 1) := by decide +kernel
theorem dX10_smooth_61 : decode cX10_smooth 61 = .ok (.istore_n 3, 1) := by decide +kernel
theorem dX10_smooth_62 : decode cX10_smooth 62 = .ok (.iload_n 3, 1) := by decide +kernel
theorem dX10_smooth_63 : decode cX10_smooth 63 = .ok (.iconst 1, 1) := by decide +kernel
theorem dX10_smooth_64 : decode cX10_smooth 64 = .ok (.iadd, 1) := by decide +kernel
theorem dX10_smooth_65 : decode cX10_smooth 65 = .ok (.aload_n 0, 1) := by decide +kernel
theorem dX10_smooth_66 : decode cX10_smooth 66 = .ok (.getfield 22, 3) := by decide +kernel
theorem dX10_smooth_69 : decode cX10_smooth 69 = .ok (.iload_n 1, 1) := by decide +kernel
theorem dX10_smooth_70 : decode cX10_smooth 70 = .ok (.iaload, 1) := by decide +kernel
theorem dX10_smooth_71 : decode cX10_smooth 71 = .ok (.if_icmp .ge 125, 3) := by decide +kernel
theorem dX10_smooth_74 : decode cX10_smooth 74 = .ok (.aload_n 0, 1) := by decide +kernel
theorem dX10_smooth_75 : decode cX10_smooth 75 = .ok (.iload_n 1, 1) := by decide +kernel
theorem dX10_smooth_76 : decode cX10_smooth 76 = .ok (.iload_n 3, 1) := by decide +kernel
theorem dX10_smooth_77 : decode cX10_smooth 77 = .ok (.iconst 1, 1) := by decide +kernel
theorem dX10_smooth_78 : decode cX10_smooth 78 = .ok (.isub, 1) := by decide +kernel
theorem dX10_smooth_79 : decode cX10_smooth 79 = .ok (.invokevirtual 363, 3) := by decide +kernel
theorem dX10_smooth_82 : decode cX10_smooth 82 = .ok (.ifCond .eq 108, 3) := by decide +kernel
theorem dX10_smooth_85 : decode cX10_smooth 85 = .ok (.aload_n 0, 1) := by decide +kernel
theorem dX10_smooth_86 : decode cX10_smooth 86 = .ok (.iload_n 1, 1) := by decide +kernel
theorem dX10_smooth_87 : decode cX10_smooth 87 = .ok (.iload_n 3, 1) := by decide +kernel
theorem dX10_smooth_88 : decode cX10_smooth 88 = .ok (.invokevirtual 363, 3) := by decide +kernel
theorem dX10_smooth_91 : decode cX10_smooth 91 = .ok (.ifCond .eq 99, 3) := by decide +kernel
theorem dX10_smooth_94 : decode cX10_smooth 94 = .ok (.aload_n 0, 1) := by decide +kernel
theorem dX10_smooth_95 : decode cX10_smooth 95 = .ok (.iload_n 1, 1) := by decide +kernel
theorem dX10_smooth_96 : decode cX10_smooth 96 = .ok (.iload_n 3, 1) := by decide +kernel
theorem dX10_smooth_97 : decode cX10_smooth 97 = .ok (.iconst 1, 1) := by decide +kernel
theorem dX10_smooth_98 : decode cX10_smooth 98 = .ok (.iadd, 1) := by decide +kernel
theorem dX10_smooth_99 : decode cX10_smooth 99 = .ok (.invokevirtual 363, 3) := by decide +kernel
theorem dX10_smooth_102 : decode cX10_smooth 102 = .ok (.ifCond .eq 88, 3) := by decide +kernel
theorem dX10_smooth_105 : decode cX10_smooth 105 = .ok (.aload_n 0, 1) := by decide +kernel
theorem dX10_smooth_106 : decode cX10_smooth 106 = .ok (.getfield 25, 3) := by decide +kernel
theorem dX10_smooth_109 : decode cX10_smooth 109 = .ok (.bipush 24, 2) := by decide +kernel
theorem dX10_smooth_111 : decode cX10_smooth 111 = .ok (.iload_n 1, 1) := by decide +kernel
theorem dX10_smooth_112 : decode cX10_smooth 112 = .ok (.imul, 1) := by decide +kernel
theorem dX10_smooth_113 : decode cX10_smooth 113 = .ok (.iload_n 3, 1) := by decide +kernel
theorem dX10_smooth_114 : decode cX10_smooth 114 = .ok (.iadd, 1) := by decide +kernel
theorem dX10_smooth_115 : decode cX10_smooth 115 = .ok (.iconst 1, 1) := by decide +kernel
theorem dX10_smooth_116 : decode cX10_smooth 116 = .ok (.isub, 1) := by decide +kernel
theorem dX10_smooth_117 : decode cX10_smooth 117 = .ok (.iaload, 1) := by decide +kernel
theorem dX10_smooth_118 : decode cX10_smooth 118 = .ok (.i2l, 1) := by decide +kernel
theorem dX10_smooth_119 : decode cX10_smooth 119 = .ok (.aload_n 0, 1) := by decide +kernel
theorem dX10_smooth_120 : decode cX10_smooth 120 = .ok (.getfield 25, 3) := by decide +kernel
theorem dX10_smooth_123 : decode cX10_smooth 123 = .ok (.bipush 24, 2) := by decide +kernel
theorem dX10_smooth_125 : decode cX10_smooth 125 = .ok (.iload_n 1, 1) := by decide +kernel
theorem dX10_smooth_126 : decode cX10_smooth 126 = .ok (.imul, 1) := by decide +kernel
theorem dX10_smooth_127 : decode cX10_smooth 127 = .ok (.iload_n 3, 1) := by decide +kernel
theorem dX10_smooth_128 : decode cX10_smooth 128 = .ok (.iadd, 1) := by decide +kernel
theorem dX10_smooth_129 : decode cX10_smooth 129 = .ok (.iaload, 1) := by decide +kernel
theorem dX10_smooth_130 : decode cX10_smooth 130 = .ok (.i2l, 1) := by decide +kernel
theorem dX10_smooth_131 : decode cX10_smooth 131 = .ok (.ladd, 1) := by decide +kernel
theorem dX10_smooth_132 : decode cX10_smooth 132 = .ok (.aload_n 0, 1) := by decide +kernel
theorem dX10_smooth_133 : decode cX10_smooth 133 = .ok (.getfield 25, 3) := by decide +kernel
theorem dX10_smooth_136 : decode cX10_smooth 136 = .ok (.bipush 24, 2) := by decide +kernel
theorem dX10_smooth_138 : decode cX10_smooth 138 = .ok (.iload_n 1, 1) := by decide +kernel
theorem dX10_smooth_139 : decode cX10_smooth 139 = .ok (.imul, 1) := by decide +kernel
theorem dX10_smooth_140 : decode cX10_smooth 140 = .ok (.iload_n 3, 1) := by decide +kernel
theorem dX10_smooth_141 : decode cX10_smooth 141 = .ok (.iadd, 1) := by decide +kernel
theorem dX10_smooth_142 : decode cX10_smooth 142 = .ok (.iconst 1, 1) := by decide +kernel
theorem dX10_smooth_143 : decode cX10_smooth 143 = .ok (.iadd, 1) := by decide +kernel
theorem dX10_smooth_144 : decode cX10_smooth 144 = .ok (.iaload, 1) := by decide +kernel
theorem dX10_smooth_145 : decode cX10_smooth 145 = .ok (.i2l, 1) := by decide +kernel
theorem dX10_smooth_146 : decode cX10_smooth 146 = .ok (.ladd, 1) := by decide +kernel
theorem dX10_smooth_147 : decode cX10_smooth 147 = .ok (.lstore 4, 2) := by decide +kernel
theorem dX10_smooth_149 : decode cX10_smooth 149 = .ok (.aload_n 0, 1) := by decide +kernel
theorem dX10_smooth_150 : decode cX10_smooth 150 = .ok (.getfield 67, 3) := by decide +kernel
theorem dX10_smooth_153 : decode cX10_smooth 153 = .ok (.iload_n 3, 1) := by decide +kernel
theorem dX10_smooth_154 : decode cX10_smooth 154 = .ok (.lload 4, 2) := by decide +kernel
theorem dX10_smooth_156 : decode cX10_smooth 156 = .ok (.ldc2_w 341, 3) := by decide +kernel
theorem dX10_smooth_159 : decode cX10_smooth 159 = .ok (.ldiv, 1) := by decide +kernel
theorem dX10_smooth_160 : decode cX10_smooth 160 = .ok (.l2i, 1) := by decide +kernel
theorem dX10_smooth_161 : decode cX10_smooth 161 = .ok (.iastore, 1) := by decide +kernel
theorem dX10_smooth_162 : decode cX10_smooth 162 = .ok (.iload_n 2, 1) := by decide +kernel
theorem dX10_smooth_163 : decode cX10_smooth 163 = .ok (.aload_n 0, 1) := by decide +kernel
theorem dX10_smooth_164 : decode cX10_smooth 164 = .ok (.getfield 67, 3) := by decide +kernel
theorem dX10_smooth_167 : decode cX10_smooth 167 = .ok (.iload_n 3, 1) := by decide +kernel
theorem dX10_smooth_168 : decode cX10_smooth 168 = .ok (.iaload, 1) := by decide +kernel
theorem dX10_smooth_169 : decode cX10_smooth 169 = .ok (.aload_n 0, 1) := by decide +kernel
theorem dX10_smooth_170 : decode cX10_smooth 170 = .ok (.getfield 25, 3) := by decide +kernel
theorem dX10_smooth_173 : decode cX10_smooth 173 = .ok (.bipush 24, 2) := by decide +kernel
theorem dX10_smooth_175 : decode cX10_smooth 175 = .ok (.iload_n 1, 1) := by decide +kernel
theorem dX10_smooth_176 : decode cX10_smooth 176 = .ok (.imul, 1) := by decide +kernel
theorem dX10_smooth_177 : decode cX10_smooth 177 = .ok (.iload_n 3, 1) := by decide +kernel
theorem dX10_smooth_178 : decode cX10_smooth 178 = .ok (.iadd, 1) := by decide +kernel
theorem dX10_smooth_179 : decode cX10_smooth 179 = .ok (.iaload, 1) := by decide +kernel
theorem dX10_smooth_180 : decode cX10_smooth 180 = .ok (.if_icmp .ne 7, 3) := by decide +kernel
theorem dX10_smooth_183 : decode cX10_smooth 183 = .ok (.iconst 0, 1) := by decide +kernel
theorem dX10_smooth_184 : decode cX10_smooth 184 = .ok (.goto 4, 3) := by decide +kernel
theorem dX10_smooth_187 : decode cX10_smooth 187 = .ok (.iconst 1, 1) := by decide +kernel
theorem dX10_smooth_188 : decode cX10_smooth 188 = .ok (.iadd, 1) := by decide +kernel
theorem dX10_smooth_189 : decode cX10_smooth 189 = .ok (.istore_n 2, 1) := by decide +kernel
theorem dX10_smooth_190 : decode cX10_smooth 190 = .ok (.iinc 3 1, 3) := by decide +kernel
theorem dX10_smooth_193 : decode cX10_smooth 193 = .ok (.goto (-131), 3) := by decide +kernel
theorem dX10_smooth_196 : decode cX10_smooth 196 = .ok (.iconst 0, 1) := by decide +kernel
theorem dX10_smooth_197 : decode cX10_smooth 197 = .ok (.istore_n 3, 1) := by decide +kernel
theorem dX10_smooth_198 : decode cX10_smooth 198 = .ok (.iload_n 3, 1) := by decide +kernel
theorem dX10_smooth_199 : decode cX10_smooth 199 = .ok (.aload_n 0, 1) := by decide +kernel
theorem dX10_smooth_200 : decode cX10_smooth 200 = .ok (.getfield 22, 3) := by decide +kernel
theorem dX10_smooth_203 : decode cX10_smooth 203 = .ok (.iload_n 1, 1) := by decide +kernel
theorem dX10_smooth_204 : decode cX10_smooth 204 = .ok (.iaload, 1) := by decide +kernel
theorem dX10_smooth_205 : decode cX10_smooth 205 = .ok (.if_icmp .ge 26, 3) := by decide +kernel
theorem dX10_smooth_208 : decode cX10_smooth 208 = .ok (.aload_n 0, 1) := by decide +kernel
theorem dX10_smooth_209 : decode cX10_smooth 209 = .ok (.getfield 25, 3) := by decide +kernel
theorem dX10_smooth_212 : decode cX10_smooth 212 = .ok (.bipush 24, 2) := by decide +kernel
theorem dX10_smooth_214 : decode cX10_smooth 214 = .ok (.iload_n 1, 1) := by decide +kernel
theorem dX10_smooth_215 : decode cX10_smooth 215 = .ok (.imul, 1) := by decide +kernel
theorem dX10_smooth_216 : decode cX10_smooth 216 = .ok (.iload_n 3, 1) := by decide +kernel
theorem dX10_smooth_217 : decode cX10_smooth 217 = .ok (.iadd, 1) := by decide +kernel
theorem dX10_smooth_218 : decode cX10_smooth 218 = .ok (.aload_n 0, 1) := by decide +kernel
theorem dX10_smooth_219 : decode cX10_smooth 219 = .ok (.getfield 67, 3) := by decide +kernel
theorem dX10_smooth_222 : decode cX10_smooth 222 = .ok (.iload_n 3, 1) := by decide +kernel
theorem dX10_smooth_223 : decode cX10_smooth 223 = .ok (.iaload, 1) := by decide +kernel
theorem dX10_smooth_224 : decode cX10_smooth 224 = .ok (.iastore, 1) := by decide +kernel
theorem dX10_smooth_225 : decode cX10_smooth 225 = .ok (.iinc 3 1, 3) := by decide +kernel
theorem dX10_smooth_228 : decode cX10_smooth 228 = .ok (.goto (-30), 3) := by decide +kernel
theorem dX10_smooth_231 : decode cX10_smooth 231 = .ok (.iload_n 2, 1) := by decide +kernel
theorem dX10_smooth_232 : decode cX10_smooth 232 = .ok (.ireturn, 1) := by decide +kernel
theorem dX10_changed_0 : decode cX10_changed 0 = .ok (.iconst 0, 1) := by decide +kernel
theorem dX10_changed_1 : decode cX10_changed 1 = .ok (.istore_n 3, 1) := by decide +kernel
theorem dX10_changed_2 : decode cX10_changed 2 = .ok (.iload_n 3, 1) := by decide +kernel
theorem dX10_changed_3 : decode cX10_changed 3 = .ok (.aload_n 0, 1) := by decide +kernel
theorem dX10_changed_4 : decode cX10_changed 4 = .ok (.getfield 22, 3) := by decide +kernel
theorem dX10_changed_7 : decode cX10_changed 7 = .ok (.iload_n 1, 1) := by decide +kernel
theorem dX10_changed_8 : decode cX10_changed 8 = .ok (.iaload, 1) := by decide +kernel
theorem dX10_changed_9 : decode cX10_changed 9 = .ok (.if_icmp .gt 164, 3) := by decide +kernel
theorem dX10_changed_12 : decode cX10_changed 12 = .ok (.iconst 0, 1) := by decide +kernel
theorem dX10_changed_13 : decode cX10_changed 13 = .ok (.istore 4, 2) := by decide +kernel
theorem dX10_changed_15 : decode cX10_changed 15 = .ok (.iload 4, 2) := by decide +kernel
theorem dX10_changed_17 : decode cX10_changed 17 = .ok (.aload_n 0, 1) := by decide +kernel
theorem dX10_changed_18 : decode cX10_changed 18 = .ok (.getfield 22, 3) := by decide +kernel
theorem dX10_changed_21 : decode cX10_changed 21 = .ok (.iload_n 2, 1) := by decide +kernel
theorem dX10_changed_22 : decode cX10_changed 22 = .ok (.iaload, 1) := by decide +kernel
theorem dX10_changed_23 : decode cX10_changed 23 = .ok (.if_icmp .gt 144, 3) := by decide +kernel
theorem dX10_changed_26 : decode cX10_changed 26 = .ok (.iload_n 3, 1) := by decide +kernel
theorem dX10_changed_27 : decode cX10_changed 27 = .ok (.iload 4, 2) := by decide +kernel
theorem dX10_changed_29 : decode cX10_changed 29 = .ok (.iadd, 1) := by decide +kernel
theorem dX10_changed_30 : decode cX10_changed 30 = .ok (.istore 5, 2) := by decide +kernel
theorem dX10_changed_32 : decode cX10_changed 32 = .ok (.iload_n 3, 1) := by decide +kernel
theorem dX10_changed_33 : decode cX10_changed 33 = .ok (.ifCond .le 114, 3) := by decide +kernel
theorem dX10_changed_36 : decode cX10_changed 36 = .ok (.iload 4, 2) := by decide +kernel
theorem dX10_changed_38 : decode cX10_changed 38 = .ok (.ifCond .le 109, 3) := by decide +kernel
theorem dX10_changed_41 : decode cX10_changed 41 = .ok (.aload_n 0, 1) := by decide +kernel
theorem dX10_changed_42 : decode cX10_changed 42 = .ok (.getfield 25, 3) := by decide +kernel
theorem dX10_changed_45 : decode cX10_changed 45 = .ok (.bipush 24, 2) := by decide +kernel
theorem dX10_changed_47 : decode cX10_changed 47 = .ok (.iload_n 1, 1) := by decide +kernel
theorem dX10_changed_48 : decode cX10_changed 48 = .ok (.imul, 1) := by decide +kernel
theorem dX10_changed_49 : decode cX10_changed 49 = .ok (.iload_n 3, 1) := by decide +kernel
theorem dX10_changed_50 : decode cX10_changed 50 = .ok (.iadd, 1) := by decide +kernel
theorem dX10_changed_51 : decode cX10_changed 51 = .ok (.iconst 1, 1) := by decide +kernel
theorem dX10_changed_52 : decode cX10_changed 52 = .ok (.isub, 1) := by decide +kernel
theorem dX10_changed_53 : decode cX10_changed 53 = .ok (.iaload, 1) := by decide +kernel
theorem dX10_changed_54 : decode cX10_changed 54 = .ok (.aload_n 0, 1) := by decide +kernel
theorem dX10_changed_55 : decode cX10_changed 55 = .ok (.getfield 25, 3) := by decide +kernel
theorem dX10_changed_58 : decode cX10_changed 58 = .ok (.bipush 24, 2) := by decide +kernel
theorem dX10_changed_60 : decode cX10_changed 60 = .ok (.iload_n 2, 1) := by decide +kernel
theorem dX10_changed_61 : decode cX10_changed 61 = .ok (.imul, 1) := by decide +kernel
theorem dX10_changed_62 : decode cX10_changed 62 = .ok (.iload 4, 2) := by decide +kernel
theorem dX10_changed_64 : decode cX10_changed 64 = .ok (.iadd, 1) := by decide +kernel
theorem dX10_changed_65 : decode cX10_changed 65 = .ok (.iconst 1, 1) := by decide +kernel
theorem dX10_changed_66 : decode cX10_changed 66 = .ok (.isub, 1) := by decide +kernel
theorem dX10_changed_67 : decode cX10_changed 67 = .ok (.iaload, 1) := by decide +kernel
theorem dX10_changed_68 : decode cX10_changed 68 = .ok (.if_icmp .ne 7, 3) := by decide +kernel
theorem dX10_changed_71 : decode cX10_changed 71 = .ok (.iconst 1, 1) := by decide +kernel
theorem dX10_changed_72 : decode cX10_changed 72 = .ok (.goto 4, 3) := by decide +kernel
theorem dX10_changed_75 : decode cX10_changed 75 = .ok (.iconst 0, 1) := by decide +kernel
theorem dX10_changed_76 : decode cX10_changed 76 = .ok (.istore 6, 2) := by decide +kernel
theorem dX10_changed_78 : decode cX10_changed 78 = .ok (.aload_n 0, 1) := by decide +kernel
theorem dX10_changed_79 : decode cX10_changed 79 = .ok (.getfield 70, 3) := by decide +kernel
theorem dX10_changed_82 : decode cX10_changed 82 = .ok (.bipush 25, 2) := by decide +kernel
theorem dX10_changed_84 : decode cX10_changed 84 = .ok (.iload_n 3, 1) := by decide +kernel
theorem dX10_changed_85 : decode cX10_changed 85 = .ok (.iconst 1, 1) := by decide +kernel
theorem dX10_changed_86 : decode cX10_changed 86 = .ok (.isub, 1) := by decide +kernel
theorem dX10_changed_87 : decode cX10_changed 87 = .ok (.imul, 1) := by decide +kernel
theorem dX10_changed_88 : decode cX10_changed 88 = .ok (.iload 4, 2) := by decide +kernel
theorem dX10_changed_90 : decode cX10_changed 90 = .ok (.iadd, 1) := by decide +kernel
theorem dX10_changed_91 : decode cX10_changed 91 = .ok (.iconst 1, 1) := by decide +kernel
theorem dX10_changed_92 : decode cX10_changed 92 = .ok (.isub, 1) := by decide +kernel
theorem dX10_changed_93 : decode cX10_changed 93 = .ok (.iaload, 1) := by decide +kernel
theorem dX10_changed_94 : decode cX10_changed 94 = .ok (.iload 6, 2) := by decide +kernel
theorem dX10_changed_96 : decode cX10_changed 96 = .ok (.ifCond .eq 7, 3) := by decide +kernel
theorem dX10_changed_99 : decode cX10_changed 99 = .ok (.iconst 0, 1) := by decide +kernel
theorem dX10_changed_100 : decode cX10_changed 100 = .ok (.goto 4, 3) := by decide +kernel
theorem dX10_changed_103 : decode cX10_changed 103 = .ok (.iconst 1, 1) := by decide +kernel
theorem dX10_changed_104 : decode cX10_changed 104 = .ok (.iadd, 1) := by decide +kernel
theorem dX10_changed_105 : decode cX10_changed 105 = .ok (.istore 5, 2) := by decide +kernel
theorem dX10_changed_107 : decode cX10_changed 107 = .ok (.iload 5, 2) := by decide +kernel
theorem dX10_changed_109 : decode cX10_changed 109 = .ok (.iconst 1, 1) := by decide +kernel
theorem dX10_changed_110 : decode cX10_changed 110 = .ok (.aload_n 0, 1) := by decide +kernel
theorem dX10_changed_111 : decode cX10_changed 111 = .ok (.getfield 70, 3) := by decide +kernel
theorem dX10_changed_114 : decode cX10_changed 114 = .ok (.bipush 25, 2) := by decide +kernel
theorem dX10_changed_116 : decode cX10_changed 116 = .ok (.iload_n 3, 1) := by decide +kernel
theorem dX10_changed_117 : decode cX10_changed 117 = .ok (.iconst 1, 1) := by decide +kernel
theorem dX10_changed_118 : decode cX10_changed 118 = .ok (.isub, 1) := by decide +kernel
theorem dX10_changed_119 : decode cX10_changed 119 = .ok (.imul, 1) := by decide +kernel
theorem dX10_changed_120 : decode cX10_changed 120 = .ok (.iload 4, 2) := by decide +kernel
theorem dX10_changed_122 : decode cX10_changed 122 = .ok (.iadd, 1) := by decide +kernel
theorem dX10_changed_123 : decode cX10_changed 123 = .ok (.iaload, 1) := by decide +kernel
theorem dX10_changed_124 : decode cX10_changed 124 = .ok (.aload_n 0, 1) := by decide +kernel
theorem dX10_changed_125 : decode cX10_changed 125 = .ok (.getfield 70, 3) := by decide +kernel
theorem dX10_changed_128 : decode cX10_changed 128 = .ok (.bipush 25, 2) := by decide +kernel
theorem dX10_changed_130 : decode cX10_changed 130 = .ok (.iload_n 3, 1) := by decide +kernel
theorem dX10_changed_131 : decode cX10_changed 131 = .ok (.imul, 1) := by decide +kernel
theorem dX10_changed_132 : decode cX10_changed 132 = .ok (.iload 4, 2) := by decide +kernel
theorem dX10_changed_134 : decode cX10_changed 134 = .ok (.iadd, 1) := by decide +kernel
theorem dX10_changed_135 : decode cX10_changed 135 = .ok (.iconst 1, 1) := by decide +kernel
theorem dX10_changed_136 : decode cX10_changed 136 = .ok (.isub, 1) := by decide +kernel
theorem dX10_changed_137 : decode cX10_changed 137 = .ok (.iaload, 1) := by decide +kernel
theorem dX10_changed_138 : decode cX10_changed 138 = .ok (.invokestatic 286, 3) := by decide +kernel
theorem dX10_changed_141 : decode cX10_changed 141 = .ok (.iadd, 1) := by decide +kernel
theorem dX10_changed_142 : decode cX10_changed 142 = .ok (.invokestatic 286, 3) := by decide +kernel
theorem dX10_changed_145 : decode cX10_changed 145 = .ok (.istore 5, 2) := by decide +kernel
theorem dX10_changed_147 : decode cX10_changed 147 = .ok (.aload_n 0, 1) := by decide +kernel
theorem dX10_changed_148 : decode cX10_changed 148 = .ok (.getfield 70, 3) := by decide +kernel
theorem dX10_changed_151 : decode cX10_changed 151 = .ok (.bipush 25, 2) := by decide +kernel
theorem dX10_changed_153 : decode cX10_changed 153 = .ok (.iload_n 3, 1) := by decide +kernel
theorem dX10_changed_154 : decode cX10_changed 154 = .ok (.imul, 1) := by decide +kernel
theorem dX10_changed_155 : decode cX10_changed 155 = .ok (.iload 4, 2) := by decide +kernel
theorem dX10_changed_157 : decode cX10_changed 157 = .ok (.iadd, 1) := by decide +kernel
theorem dX10_changed_158 : decode cX10_changed 158 = .ok (.iload 5, 2) := by decide +kernel
theorem dX10_changed_160 : decode cX10_changed 160 = .ok (.iastore, 1) := by decide +kernel
theorem dX10_changed_161 : decode cX10_changed 161 = .ok (.iinc 4 1, 3) := by decide +kernel
theorem dX10_changed_164 : decode cX10_changed 164 = .ok (.goto (-149), 3) := by decide +kernel
theorem dX10_changed_167 : decode cX10_changed 167 = .ok (.iinc 3 1, 3) := by decide +kernel
theorem dX10_changed_170 : decode cX10_changed 170 = .ok (.goto (-168), 3) := by decide +kernel
theorem dX10_changed_173 : decode cX10_changed 173 = .ok (.aload_n 0, 1) := by decide +kernel
theorem dX10_changed_174 : decode cX10_changed 174 = .ok (.getfield 70, 3) := by decide +kernel
theorem dX10_changed_177 : decode cX10_changed 177 = .ok (.bipush 25, 2) := by decide +kernel
theorem dX10_changed_179 : decode cX10_changed 179 = .ok (.aload_n 0, 1) := by decide +kernel
theorem dX10_changed_180 : decode cX10_changed 180 = .ok (.getfield 22, 3) := by decide +kernel
theorem dX10_changed_183 : decode cX10_changed 183 = .ok (.iload_n 1, 1) := by decide +kernel
theorem dX10_changed_184 : decode cX10_changed 184 = .ok (.iaload, 1) := by decide +kernel
theorem dX10_changed_185 : decode cX10_changed 185 = .ok (.imul, 1) := by decide +kernel
theorem dX10_changed_186 : decode cX10_changed 186 = .ok (.aload_n 0, 1) := by decide +kernel
theorem dX10_changed_187 : decode cX10_changed 187 = .ok (.getfield 22, 3) := by decide +kernel
theorem dX10_changed_190 : decode cX10_changed 190 = .ok (.iload_n 2, 1) := by decide +kernel
theorem dX10_changed_191 : decode cX10_changed 191 = .ok (.iaload, 1) := by decide +kernel
theorem dX10_changed_192 : decode cX10_changed 192 = .ok (.iadd, 1) := by decide +kernel
theorem dX10_changed_193 : decode cX10_changed 193 = .ok (.iaload, 1) := by decide +kernel
theorem dX10_changed_194 : decode cX10_changed 194 = .ok (.ireturn, 1) := by decide +kernel
theorem dX10_changes_0 : decode cX10_changes 0 = .ok (.iload_n 1, 1) := by decide +kernel
theorem dX10_changes_1 : decode cX10_changes 1 = .ok (.invokestatic 359, 3) := by decide +kernel
theorem dX10_changes_4 : decode cX10_changes 4 = .ok (.ifCond .eq 10, 3) := by decide +kernel
theorem dX10_changes_7 : decode cX10_changes 7 = .ok (.iload_n 2, 1) := by decide +kernel
theorem dX10_changes_8 : decode cX10_changes 8 = .ok (.invokestatic 359, 3) := by decide +kernel
theorem dX10_changes_11 : decode cX10_changes 11 = .ok (.ifCond .ne 6, 3) := by decide +kernel
theorem dX10_changes_14 : decode cX10_changes 14 = .ok (.ldc 102, 2) := by decide +kernel
theorem dX10_changes_16 : decode cX10_changes 16 = .ok (.ireturn, 1) := by decide +kernel
theorem dX10_changes_17 : decode cX10_changes 17 = .ok (.aload_n 0, 1) := by decide +kernel
theorem dX10_changes_18 : decode cX10_changes 18 = .ok (.getfield 19, 3) := by decide +kernel
theorem dX10_changes_21 : decode cX10_changes 21 = .ok (.iload_n 1, 1) := by decide +kernel
theorem dX10_changes_22 : decode cX10_changes 22 = .ok (.iaload, 1) := by decide +kernel
theorem dX10_changes_23 : decode cX10_changes 23 = .ok (.ifCond .lt 12, 3) := by decide +kernel
theorem dX10_changes_26 : decode cX10_changes 26 = .ok (.aload_n 0, 1) := by decide +kernel
theorem dX10_changes_27 : decode cX10_changes 27 = .ok (.getfield 19, 3) := by decide +kernel
theorem dX10_changes_30 : decode cX10_changes 30 = .ok (.iload_n 2, 1) := by decide +kernel
theorem dX10_changes_31 : decode cX10_changes 31 = .ok (.iaload, 1) := by decide +kernel
theorem dX10_changes_32 : decode cX10_changes 32 = .ok (.ifCond .ge 7, 3) := by decide +kernel
theorem dX10_changes_35 : decode cX10_changes 35 = .ok (.ldc_w 362, 3) := by decide +kernel
theorem dX10_changes_38 : decode cX10_changes 38 = .ok (.ireturn, 1) := by decide +kernel
theorem dX10_changes_39 : decode cX10_changes 39 = .ok (.aload_n 0, 1) := by decide +kernel
theorem dX10_changes_40 : decode cX10_changes 40 = .ok (.getfield 19, 3) := by decide +kernel
theorem dX10_changes_43 : decode cX10_changes 43 = .ok (.iload_n 1, 1) := by decide +kernel
theorem dX10_changes_44 : decode cX10_changes 44 = .ok (.iaload, 1) := by decide +kernel
theorem dX10_changes_45 : decode cX10_changes 45 = .ok (.aload_n 0, 1) := by decide +kernel
theorem dX10_changes_46 : decode cX10_changes 46 = .ok (.getfield 19, 3) := by decide +kernel
theorem dX10_changes_49 : decode cX10_changes 49 = .ok (.iload_n 2, 1) := by decide +kernel
theorem dX10_changes_50 : decode cX10_changes 50 = .ok (.iaload, 1) := by decide +kernel
theorem dX10_changes_51 : decode cX10_changes 51 = .ok (.if_icmp .eq 8, 3) := by decide +kernel
theorem dX10_changes_54 : decode cX10_changes 54 = .ok (.ldc 158, 2) := by decide +kernel
theorem dX10_changes_56 : decode cX10_changes 56 = .ok (.goto 9, 3) := by decide +kernel
theorem dX10_changes_59 : decode cX10_changes 59 = .ok (.aload_n 0, 1) := by decide +kernel
theorem dX10_changes_60 : decode cX10_changes 60 = .ok (.iload_n 1, 1) := by decide +kernel
theorem dX10_changes_61 : decode cX10_changes 61 = .ok (.iload_n 2, 1) := by decide +kernel
theorem dX10_changes_62 : decode cX10_changes 62 = .ok (.invokevirtual 366, 3) := by decide +kernel
theorem dX10_changes_65 : decode cX10_changes 65 = .ok (.ireturn, 1) := by decide +kernel
theorem dX10_from_0 : decode cX10_from 0 = .ok (.iload_n 1, 1) := by decide +kernel
theorem dX10_from_1 : decode cX10_from 1 = .ok (.invokestatic 359, 3) := by decide +kernel
theorem dX10_from_4 : decode cX10_from 4 = .ok (.ifCond .ne 6, 3) := by decide +kernel
theorem dX10_from_7 : decode cX10_from 7 = .ok (.ldc 102, 2) := by decide +kernel
theorem dX10_from_9 : decode cX10_from 9 = .ok (.ireturn, 1) := by decide +kernel
theorem dX10_from_10 : decode cX10_from 10 = .ok (.aload_n 0, 1) := by decide +kernel
theorem dX10_from_11 : decode cX10_from 11 = .ok (.getfield 19, 3) := by decide +kernel
theorem dX10_from_14 : decode cX10_from 14 = .ok (.iload_n 1, 1) := by decide +kernel
theorem dX10_from_15 : decode cX10_from 15 = .ok (.iaload, 1) := by decide +kernel
theorem dX10_from_16 : decode cX10_from 16 = .ok (.ifCond .ge 7, 3) := by decide +kernel
theorem dX10_from_19 : decode cX10_from 19 = .ok (.ldc_w 362, 3) := by decide +kernel
theorem dX10_from_22 : decode cX10_from 22 = .ok (.ireturn, 1) := by decide +kernel
theorem dX10_from_23 : decode cX10_from 23 = .ok (.iconst (-1), 1) := by decide +kernel
theorem dX10_from_24 : decode cX10_from 24 = .ok (.istore_n 2, 1) := by decide +kernel
theorem dX10_from_25 : decode cX10_from 25 = .ok (.iconst 0, 1) := by decide +kernel
theorem dX10_from_26 : decode cX10_from 26 = .ok (.istore_n 3, 1) := by decide +kernel
theorem dX10_from_27 : decode cX10_from 27 = .ok (.iconst 0, 1) := by decide +kernel
theorem dX10_from_28 : decode cX10_from 28 = .ok (.istore 4, 2) := by decide +kernel
theorem dX10_from_30 : decode cX10_from 30 = .ok (.iload 4, 2) := by decide +kernel
theorem dX10_from_32 : decode cX10_from 32 = .ok (.iconst 4, 1) := by decide +kernel
theorem dX10_from_33 : decode cX10_from 33 = .ok (.if_icmp .ge 56, 3) := by decide +kernel
theorem dX10_from_36 : decode cX10_from 36 = .ok (.iload 4, 2) := by decide +kernel
theorem dX10_from_38 : decode cX10_from 38 = .ok (.iload_n 1, 1) := by decide +kernel
theorem dX10_from_39 : decode cX10_from 39 = .ok (.if_icmp .eq 44, 3) := by decide +kernel
theorem dX10_from_42 : decode cX10_from 42 = .ok (.aload_n 0, 1) := by decide +kernel
theorem dX10_from_43 : decode cX10_from 43 = .ok (.getfield 19, 3) := by decide +kernel
