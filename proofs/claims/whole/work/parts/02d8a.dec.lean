theorem dX8_in_0 : decode cX8_in 0 = .ok (.lload_n 0, 1) := by decide +kernel
theorem dX8_in_1 : decode cX8_in 1 = .ok (.lload_n 2, 1) := by decide +kernel
theorem dX8_in_2 : decode cX8_in 2 = .ok (.lcmp, 1) := by decide +kernel
theorem dX8_in_3 : decode cX8_in 3 = .ok (.ifCond .lt 14, 3) := by decide +kernel
theorem dX8_in_6 : decode cX8_in 6 = .ok (.lload_n 0, 1) := by decide +kernel
theorem dX8_in_7 : decode cX8_in 7 = .ok (.lload 4, 2) := by decide +kernel
theorem dX8_in_9 : decode cX8_in 9 = .ok (.lcmp, 1) := by decide +kernel
theorem dX8_in_10 : decode cX8_in 10 = .ok (.ifCond .gt 7, 3) := by decide +kernel
theorem dX8_in_13 : decode cX8_in 13 = .ok (.iconst 1, 1) := by decide +kernel
theorem dX8_in_14 : decode cX8_in 14 = .ok (.goto 4, 3) := by decide +kernel
theorem dX8_in_17 : decode cX8_in 17 = .ok (.iconst 0, 1) := by decide +kernel
theorem dX8_in_18 : decode cX8_in 18 = .ok (.ireturn, 1) := by decide +kernel
theorem dX8_no_0 : decode cX8_no 0 = .ok (.iload_n 1, 1) := by decide +kernel
theorem dX8_no_1 : decode cX8_no 1 = .ok (.bipush (-6), 2) := by decide +kernel
theorem dX8_no_3 : decode cX8_no 3 = .ok (.if_icmp .lt 14, 3) := by decide +kernel
theorem dX8_no_6 : decode cX8_no 6 = .ok (.aload_n 0, 1) := by decide +kernel
theorem dX8_no_7 : decode cX8_no 7 = .ok (.getfield 7, 3) := by decide +kernel
theorem dX8_no_10 : decode cX8_no 10 = .ok (.iload_n 1, 1) := by decide +kernel
theorem dX8_no_11 : decode cX8_no 11 = .ok (.ineg, 1) := by decide +kernel
theorem dX8_no_12 : decode cX8_no 12 = .ok (.dup2, 1) := by decide +kernel
theorem dX8_no_13 : decode cX8_no 13 = .ok (.iaload, 1) := by decide +kernel
theorem dX8_no_14 : decode cX8_no 14 = .ok (.iconst 1, 1) := by decide +kernel
theorem dX8_no_15 : decode cX8_no 15 = .ok (.iadd, 1) := by decide +kernel
theorem dX8_no_16 : decode cX8_no 16 = .ok (.iastore, 1) := by decide +kernel
theorem dX8_no_17 : decode cX8_no 17 = .ok (.iload_n 1, 1) := by decide +kernel
theorem dX8_no_18 : decode cX8_no 18 = .ok (.ireturn, 1) := by decide +kernel
theorem dX8_longNo_0 : decode cX8_longNo 0 = .ok (.ldc2_w 11, 3) := by decide +kernel
theorem dX8_longNo_3 : decode cX8_longNo 3 = .ok (.aload_n 0, 1) := by decide +kernel
theorem dX8_longNo_4 : decode cX8_longNo 4 = .ok (.iload_n 1, 1) := by decide +kernel
theorem dX8_longNo_5 : decode cX8_longNo 5 = .ok (.invokevirtual 13, 3) := by decide +kernel
theorem dX8_longNo_8 : decode cX8_longNo 8 = .ok (.i2l, 1) := by decide +kernel
theorem dX8_longNo_9 : decode cX8_longNo 9 = .ok (.lsub, 1) := by decide +kernel
theorem dX8_longNo_10 : decode cX8_longNo 10 = .ok (.lreturn, 1) := by decide +kernel
theorem dX8_init_0 : decode cX8_init 0 = .ok (.aload_n 0, 1) := by decide +kernel
theorem dX8_init_1 : decode cX8_init 1 = .ok (.invokespecial 17, 3) := by decide +kernel
theorem dX8_init_4 : decode cX8_init 4 = .ok (.aload_n 0, 1) := by decide +kernel
theorem dX8_init_5 : decode cX8_init 5 = .ok (.bipush 7, 2) := by decide +kernel
theorem dX8_init_7 : decode cX8_init 7 = .ok (.newarray .int, 2) := by decide +kernel
theorem dX8_init_9 : decode cX8_init 9 = .ok (.putfield 7, 3) := by decide +kernel
theorem dX8_init_12 : decode cX8_init 12 = .ok (.aload_n 0, 1) := by decide +kernel
theorem dX8_init_13 : decode cX8_init 13 = .ok (.iconst 4, 1) := by decide +kernel
theorem dX8_init_14 : decode cX8_init 14 = .ok (.putfield 23, 3) := by decide +kernel
theorem dX8_init_17 : decode cX8_init 17 = .ok (.aload_n 0, 1) := by decide +kernel
theorem dX8_init_18 : decode cX8_init 18 = .ok (.iconst 4, 1) := by decide +kernel
theorem dX8_init_19 : decode cX8_init 19 = .ok (.putfield 26, 3) := by decide +kernel
theorem dX8_init_22 : decode cX8_init 22 = .ok (.aload_n 0, 1) := by decide +kernel
theorem dX8_init_23 : decode cX8_init 23 = .ok (.bipush 36, 2) := by decide +kernel
theorem dX8_init_25 : decode cX8_init 25 = .ok (.newarray .int, 2) := by decide +kernel
theorem dX8_init_27 : decode cX8_init 27 = .ok (.putfield 29, 3) := by decide +kernel
theorem dX8_init_30 : decode cX8_init 30 = .ok (.aload_n 0, 1) := by decide +kernel
theorem dX8_init_31 : decode cX8_init 31 = .ok (.bipush 36, 2) := by decide +kernel
theorem dX8_init_33 : decode cX8_init 33 = .ok (.newarray .int, 2) := by decide +kernel
theorem dX8_init_35 : decode cX8_init 35 = .ok (.putfield 32, 3) := by decide +kernel
theorem dX8_init_38 : decode cX8_init 38 = .ok (.aload_n 0, 1) := by decide +kernel
theorem dX8_init_39 : decode cX8_init 39 = .ok (.iconst 1, 1) := by decide +kernel
theorem dX8_init_40 : decode cX8_init 40 = .ok (.putfield 35, 3) := by decide +kernel
theorem dX8_init_43 : decode cX8_init 43 = .ok (.aload_n 0, 1) := by decide +kernel
theorem dX8_init_44 : decode cX8_init 44 = .ok (.iconst 1, 1) := by decide +kernel
theorem dX8_init_45 : decode cX8_init 45 = .ok (.putfield 38, 3) := by decide +kernel
theorem dX8_init_48 : decode cX8_init 48 = .ok (.aload_n 0, 1) := by decide +kernel
theorem dX8_init_49 : decode cX8_init 49 = .ok (.bipush 6, 2) := by decide +kernel
theorem dX8_init_51 : decode cX8_init 51 = .ok (.newarray .int, 2) := by decide +kernel
theorem dX8_init_53 : decode cX8_init 53 = .ok (.dup, 1) := by decide +kernel
theorem dX8_init_54 : decode cX8_init 54 = .ok (.iconst 0, 1) := by decide +kernel
theorem dX8_init_55 : decode cX8_init 55 = .ok (.iconst 0, 1) := by decide +kernel
theorem dX8_init_56 : decode cX8_init 56 = .ok (.iastore, 1) := by decide +kernel
theorem dX8_init_57 : decode cX8_init 57 = .ok (.dup, 1) := by decide +kernel
theorem dX8_init_58 : decode cX8_init 58 = .ok (.iconst 1, 1) := by decide +kernel
theorem dX8_init_59 : decode cX8_init 59 = .ok (.iconst 1, 1) := by decide +kernel
theorem dX8_init_60 : decode cX8_init 60 = .ok (.iastore, 1) := by decide +kernel
theorem dX8_init_61 : decode cX8_init 61 = .ok (.dup, 1) := by decide +kernel
theorem dX8_init_62 : decode cX8_init 62 = .ok (.iconst 2, 1) := by decide +kernel
theorem dX8_init_63 : decode cX8_init 63 = .ok (.iconst 2, 1) := by decide +kernel
theorem dX8_init_64 : decode cX8_init 64 = .ok (.iastore, 1) := by decide +kernel
theorem dX8_init_65 : decode cX8_init 65 = .ok (.dup, 1) := by decide +kernel
theorem dX8_init_66 : decode cX8_init 66 = .ok (.iconst 3, 1) := by decide +kernel
theorem dX8_init_67 : decode cX8_init 67 = .ok (.iconst 3, 1) := by decide +kernel
theorem dX8_init_68 : decode cX8_init 68 = .ok (.iastore, 1) := by decide +kernel
theorem dX8_init_69 : decode cX8_init 69 = .ok (.dup, 1) := by decide +kernel
theorem dX8_init_70 : decode cX8_init 70 = .ok (.iconst 4, 1) := by decide +kernel
theorem dX8_init_71 : decode cX8_init 71 = .ok (.iconst 4, 1) := by decide +kernel
theorem dX8_init_72 : decode cX8_init 72 = .ok (.iastore, 1) := by decide +kernel
theorem dX8_init_73 : decode cX8_init 73 = .ok (.dup, 1) := by decide +kernel
theorem dX8_init_74 : decode cX8_init 74 = .ok (.iconst 5, 1) := by decide +kernel
theorem dX8_init_75 : decode cX8_init 75 = .ok (.iconst 5, 1) := by decide +kernel
theorem dX8_init_76 : decode cX8_init 76 = .ok (.iastore, 1) := by decide +kernel
theorem dX8_init_77 : decode cX8_init 77 = .ok (.putfield 42, 3) := by decide +kernel
theorem dX8_init_80 : decode cX8_init 80 = .ok (.aload_n 0, 1) := by decide +kernel
theorem dX8_init_81 : decode cX8_init 81 = .ok (.iconst 2, 1) := by decide +kernel
theorem dX8_init_82 : decode cX8_init 82 = .ok (.newarray .int, 2) := by decide +kernel
theorem dX8_init_84 : decode cX8_init 84 = .ok (.putfield 45, 3) := by decide +kernel
theorem dX8_init_87 : decode cX8_init 87 = .ok (.aload_n 0, 1) := by decide +kernel
theorem dX8_init_88 : decode cX8_init 88 = .ok (.bipush 6, 2) := by decide +kernel
theorem dX8_init_90 : decode cX8_init 90 = .ok (.newarray .int, 2) := by decide +kernel
theorem dX8_init_92 : decode cX8_init 92 = .ok (.putfield 48, 3) := by decide +kernel
theorem dX8_init_95 : decode cX8_init 95 = .ok (.aload_n 0, 1) := by decide +kernel
theorem dX8_init_96 : decode cX8_init 96 = .ok (.bipush 72, 2) := by decide +kernel
theorem dX8_init_98 : decode cX8_init 98 = .ok (.newarray .int, 2) := by decide +kernel
theorem dX8_init_100 : decode cX8_init 100 = .ok (.putfield 51, 3) := by decide +kernel
theorem dX8_init_103 : decode cX8_init 103 = .ok (.aload_n 0, 1) := by decide +kernel
theorem dX8_init_104 : decode cX8_init 104 = .ok (.sipush 1280, 3) := by decide +kernel
theorem dX8_init_107 : decode cX8_init 107 = .ok (.newarray .int, 2) := by decide +kernel
theorem dX8_init_109 : decode cX8_init 109 = .ok (.putfield 54, 3) := by decide +kernel
theorem dX8_init_112 : decode cX8_init 112 = .ok (.aload_n 0, 1) := by decide +kernel
theorem dX8_init_113 : decode cX8_init 113 = .ok (.bipush 6, 2) := by decide +kernel
theorem dX8_init_115 : decode cX8_init 115 = .ok (.newarray .int, 2) := by decide +kernel
theorem dX8_init_117 : decode cX8_init 117 = .ok (.putfield 57, 3) := by decide +kernel
theorem dX8_init_120 : decode cX8_init 120 = .ok (.aload_n 0, 1) := by decide +kernel
theorem dX8_init_121 : decode cX8_init 121 = .ok (.sipush 4608, 3) := by decide +kernel
theorem dX8_init_124 : decode cX8_init 124 = .ok (.newarray .int, 2) := by decide +kernel
theorem dX8_init_126 : decode cX8_init 126 = .ok (.putfield 60, 3) := by decide +kernel
theorem dX8_init_129 : decode cX8_init 129 = .ok (.aload_n 0, 1) := by decide +kernel
theorem dX8_init_130 : decode cX8_init 130 = .ok (.sipush 900, 3) := by decide +kernel
theorem dX8_init_133 : decode cX8_init 133 = .ok (.newarray .int, 2) := by decide +kernel
theorem dX8_init_135 : decode cX8_init 135 = .ok (.putfield 63, 3) := by decide +kernel
theorem dX8_init_138 : decode cX8_init 138 = .ok (.aload_n 0, 1) := by decide +kernel
theorem dX8_init_139 : decode cX8_init 139 = .ok (.sipush 5400, 3) := by decide +kernel
theorem dX8_init_142 : decode cX8_init 142 = .ok (.newarray .int, 2) := by decide +kernel
theorem dX8_init_144 : decode cX8_init 144 = .ok (.putfield 66, 3) := by decide +kernel
theorem dX8_init_147 : decode cX8_init 147 = .ok (.aload_n 0, 1) := by decide +kernel
theorem dX8_init_148 : decode cX8_init 148 = .ok (.sipush 900, 3) := by decide +kernel
theorem dX8_init_151 : decode cX8_init 151 = .ok (.newarray .int, 2) := by decide +kernel
theorem dX8_init_153 : decode cX8_init 153 = .ok (.putfield 69, 3) := by decide +kernel
theorem dX8_init_156 : decode cX8_init 156 = .ok (.aload_n 0, 1) := by decide +kernel
theorem dX8_init_157 : decode cX8_init 157 = .ok (.sipush 3600, 3) := by decide +kernel
theorem dX8_init_160 : decode cX8_init 160 = .ok (.newarray .int, 2) := by decide +kernel
theorem dX8_init_162 : decode cX8_init 162 = .ok (.putfield 72, 3) := by decide +kernel
theorem dX8_init_165 : decode cX8_init 165 = .ok (.aload_n 0, 1) := by decide +kernel
theorem dX8_init_166 : decode cX8_init 166 = .ok (.bipush 72, 2) := by decide +kernel
theorem dX8_init_168 : decode cX8_init 168 = .ok (.newarray .boolean, 2) := by decide +kernel
theorem dX8_init_170 : decode cX8_init 170 = .ok (.putfield 75, 3) := by decide +kernel
theorem dX8_init_173 : decode cX8_init 173 = .ok (.aload_n 0, 1) := by decide +kernel
theorem dX8_init_174 : decode cX8_init 174 = .ok (.sipush 900, 3) := by decide +kernel
theorem dX8_init_177 : decode cX8_init 177 = .ok (.newarray .int, 2) := by decide +kernel
theorem dX8_init_179 : decode cX8_init 179 = .ok (.putfield 79, 3) := by decide +kernel
theorem dX8_init_182 : decode cX8_init 182 = .ok (.aload_n 0, 1) := by decide +kernel
theorem dX8_init_183 : decode cX8_init 183 = .ok (.bipush 6, 2) := by decide +kernel
theorem dX8_init_185 : decode cX8_init 185 = .ok (.newarray .int, 2) := by decide +kernel
theorem dX8_init_187 : decode cX8_init 187 = .ok (.putfield 82, 3) := by decide +kernel
theorem dX8_init_190 : decode cX8_init 190 = .ok (.aload_n 0, 1) := by decide +kernel
theorem dX8_init_191 : decode cX8_init 191 = .ok (.sipush 900, 3) := by decide +kernel
theorem dX8_init_194 : decode cX8_init 194 = .ok (.newarray .boolean, 2) := by decide +kernel
theorem dX8_init_196 : decode cX8_init 196 = .ok (.putfield 85, 3) := by decide +kernel
theorem dX8_init_199 : decode cX8_init 199 = .ok (.aload_n 0, 1) := by decide +kernel
theorem dX8_init_200 : decode cX8_init 200 = .ok (.sipush 900, 3) := by decide +kernel
theorem dX8_init_203 : decode cX8_init 203 = .ok (.newarray .long, 2) := by decide +kernel
theorem dX8_init_205 : decode cX8_init 205 = .ok (.putfield 88, 3) := by decide +kernel
theorem dX8_init_208 : decode cX8_init 208 = .ok (.aload_n 0, 1) := by decide +kernel
theorem dX8_init_209 : decode cX8_init 209 = .ok (.sipush 900, 3) := by decide +kernel
theorem dX8_init_212 : decode cX8_init 212 = .ok (.newarray .long, 2) := by decide +kernel
theorem dX8_init_214 : decode cX8_init 214 = .ok (.putfield 92, 3) := by decide +kernel
theorem dX8_init_217 : decode cX8_init 217 = .ok (.aload_n 0, 1) := by decide +kernel
theorem dX8_init_218 : decode cX8_init 218 = .ok (.iconst 3, 1) := by decide +kernel
theorem dX8_init_219 : decode cX8_init 219 = .ok (.newarray .int, 2) := by decide +kernel
theorem dX8_init_221 : decode cX8_init 221 = .ok (.putfield 95, 3) := by decide +kernel
theorem dX8_init_224 : decode cX8_init 224 = .ok (.aload_n 0, 1) := by decide +kernel
theorem dX8_init_225 : decode cX8_init 225 = .ok (.bipush 120, 2) := by decide +kernel
theorem dX8_init_227 : decode cX8_init 227 = .ok (.newarray .int, 2) := by decide +kernel
theorem dX8_init_229 : decode cX8_init 229 = .ok (.putfield 98, 3) := by decide +kernel
theorem dX8_init_232 : decode cX8_init 232 = .ok (.aload_n 0, 1) := by decide +kernel
theorem dX8_init_233 : decode cX8_init 233 = .ok (.iconst 3, 1) := by decide +kernel
theorem dX8_init_234 : decode cX8_init 234 = .ok (.newarray .int, 2) := by decide +kernel
theorem dX8_init_236 : decode cX8_init 236 = .ok (.putfield 101, 3) := by decide +kernel
theorem dX8_init_239 : decode cX8_init 239 = .ok (.aload_n 0, 1) := by decide +kernel
theorem dX8_init_240 : decode cX8_init 240 = .ok (.iconst 3, 1) := by decide +kernel
theorem dX8_init_241 : decode cX8_init 241 = .ok (.newarray .int, 2) := by decide +kernel
theorem dX8_init_243 : decode cX8_init 243 = .ok (.putfield 104, 3) := by decide +kernel
theorem dX8_init_246 : decode cX8_init 246 = .ok (.aload_n 0, 1) := by decide +kernel
theorem dX8_init_247 : decode cX8_init 247 = .ok (.bipush 27, 2) := by decide +kernel
theorem dX8_init_249 : decode cX8_init 249 = .ok (.newarray .int, 2) := by decide +kernel
theorem dX8_init_251 : decode cX8_init 251 = .ok (.putfield 107, 3) := by decide +kernel
theorem dX8_init_254 : decode cX8_init 254 = .ok (.aload_n 0, 1) := by decide +kernel
theorem dX8_init_255 : decode cX8_init 255 = .ok (.bipush 27, 2) := by decide +kernel
theorem dX8_init_257 : decode cX8_init 257 = .ok (.newarray .int, 2) := by decide +kernel
theorem dX8_init_259 : decode cX8_init 259 = .ok (.putfield 110, 3) := by decide +kernel
theorem dX8_init_262 : decode cX8_init 262 = .ok (.aload_n 0, 1) := by decide +kernel
theorem dX8_init_263 : decode cX8_init 263 = .ok (.iconst 5, 1) := by decide +kernel
theorem dX8_init_264 : decode cX8_init 264 = .ok (.newarray .int, 2) := by decide +kernel
theorem dX8_init_266 : decode cX8_init 266 = .ok (.putfield 113, 3) := by decide +kernel
theorem dX8_init_269 : decode cX8_init 269 = .ok (.aload_n 0, 1) := by decide +kernel
theorem dX8_init_270 : decode cX8_init 270 = .ok (.bipush 6, 2) := by decide +kernel
theorem dX8_init_272 : decode cX8_init 272 = .ok (.newarray .int, 2) := by decide +kernel
theorem dX8_init_274 : decode cX8_init 274 = .ok (.putfield 116, 3) := by decide +kernel
theorem dX8_init_277 : decode cX8_init 277 = .ok (.aload_n 0, 1) := by decide +kernel
theorem dX8_init_278 : decode cX8_init 278 = .ok (.bipush 36, 2) := by decide +kernel
theorem dX8_init_280 : decode cX8_init 280 = .ok (.newarray .int, 2) := by decide +kernel
theorem dX8_init_282 : decode cX8_init 282 = .ok (.putfield 119, 3) := by decide +kernel
theorem dX8_init_285 : decode cX8_init 285 = .ok (.aload_n 0, 1) := by decide +kernel
theorem dX8_init_286 : decode cX8_init 286 = .ok (.bipush 36, 2) := by decide +kernel
theorem dX8_init_288 : decode cX8_init 288 = .ok (.newarray .int, 2) := by decide +kernel
theorem dX8_init_290 : decode cX8_init 290 = .ok (.putfield 122, 3) := by decide +kernel
theorem dX8_init_293 : decode cX8_init 293 = .ok (.iconst 0, 1) := by decide +kernel
theorem dX8_init_294 : decode cX8_init 294 = .ok (.istore_n 1, 1) := by decide +kernel
theorem dX8_init_295 : decode cX8_init 295 = .ok (.iload_n 1, 1) := by decide +kernel
theorem dX8_init_296 : decode cX8_init 296 = .ok (.bipush 36, 2) := by decide +kernel
theorem dX8_init_298 : decode cX8_init 298 = .ok (.if_icmp .ge 16, 3) := by decide +kernel
theorem dX8_init_301 : decode cX8_init 301 = .ok (.aload_n 0, 1) := by decide +kernel
theorem dX8_init_302 : decode cX8_init 302 = .ok (.getfield 32, 3) := by decide +kernel
theorem dX8_init_305 : decode cX8_init 305 = .ok (.iload_n 1, 1) := by decide +kernel
theorem dX8_init_306 : decode cX8_init 306 = .ok (.iconst (-1), 1) := by decide +kernel
theorem dX8_init_307 : decode cX8_init 307 = .ok (.iastore, 1) := by decide +kernel
theorem dX8_init_308 : decode cX8_init 308 = .ok (.iinc 1 1, 3) := by decide +kernel
theorem dX8_init_311 : decode cX8_init 311 = .ok (.goto (-16), 3) := by decide +kernel
theorem dX8_init_314 : decode cX8_init 314 = .ok (.iconst 0, 1) := by decide +kernel
theorem dX8_init_315 : decode cX8_init 315 = .ok (.istore_n 1, 1) := by decide +kernel
theorem dX8_init_316 : decode cX8_init 316 = .ok (.iload_n 1, 1) := by decide +kernel
theorem dX8_init_317 : decode cX8_init 317 = .ok (.iconst 3, 1) := by decide +kernel
theorem dX8_init_318 : decode cX8_init 318 = .ok (.if_icmp .ge 16, 3) := by decide +kernel
theorem dX8_init_321 : decode cX8_init 321 = .ok (.aload_n 0, 1) := by decide +kernel
theorem dX8_init_322 : decode cX8_init 322 = .ok (.getfield 95, 3) := by decide +kernel
theorem dX8_init_325 : decode cX8_init 325 = .ok (.iload_n 1, 1) := by decide +kernel
theorem dX8_init_326 : decode cX8_init 326 = .ok (.iconst (-1), 1) := by decide +kernel
theorem dX8_init_327 : decode cX8_init 327 = .ok (.iastore, 1) := by decide +kernel
theorem dX8_init_328 : decode cX8_init 328 = .ok (.iinc 1 1, 3) := by decide +kernel
theorem dX8_init_331 : decode cX8_init 331 = .ok (.goto (-15), 3) := by decide +kernel
theorem dX8_init_334 : decode cX8_init 334 = .ok (.iconst 0, 1) := by decide +kernel
theorem dX8_init_335 : decode cX8_init 335 = .ok (.istore_n 1, 1) := by decide +kernel
theorem dX8_init_336 : decode cX8_init 336 = .ok (.iload_n 1, 1) := by decide +kernel
theorem dX8_init_337 : decode cX8_init 337 = .ok (.iconst 3, 1) := by decide +kernel
theorem dX8_init_338 : decode cX8_init 338 = .ok (.if_icmp .ge 16, 3) := by decide +kernel
theorem dX8_init_341 : decode cX8_init 341 = .ok (.aload_n 0, 1) := by decide +kernel
theorem dX8_init_342 : decode cX8_init 342 = .ok (.getfield 101, 3) := by decide +kernel
theorem dX8_init_345 : decode cX8_init 345 = .ok (.iload_n 1, 1) := by decide +kernel
theorem dX8_init_346 : decode cX8_init 346 = .ok (.iconst (-1), 1) := by decide +kernel
theorem dX8_init_347 : decode cX8_init 347 = .ok (.iastore, 1) := by decide +kernel
theorem dX8_init_348 : decode cX8_init 348 = .ok (.iinc 1 1, 3) := by decide +kernel
theorem dX8_init_351 : decode cX8_init 351 = .ok (.goto (-15), 3) := by decide +kernel
theorem dX8_init_354 : decode cX8_init 354 = .ok (.return_, 1) := by decide +kernel
theorem dX8_tileMany_0 : decode cX8_tileMany 0 = .ok (.aload_n 0, 1) := by decide +kernel
theorem dX8_tileMany_1 : decode cX8_tileMany 1 = .ok (.getfield 23, 3) := by decide +kernel
theorem dX8_tileMany_4 : decode cX8_tileMany 4 = .ok (.aload_n 0, 1) := by decide +kernel
theorem dX8_tileMany_5 : decode cX8_tileMany 5 = .ok (.getfield 26, 3) := by decide +kernel
theorem dX8_tileMany_8 : decode cX8_tileMany 8 = .ok (.imul, 1) := by decide +kernel
theorem dX8_tileMany_9 : decode cX8_tileMany 9 = .ok (.ireturn, 1) := by decide +kernel
theorem dX8_isTile_0 : decode cX8_isTile 0 = .ok (.iload_n 1, 1) := by decide +kernel
theorem dX8_isTile_1 : decode cX8_isTile 1 = .ok (.i2l, 1) := by decide +kernel
theorem dX8_isTile_2 : decode cX8_isTile 2 = .ok (.lconst 0, 1) := by decide +kernel
theorem dX8_isTile_3 : decode cX8_isTile 3 = .ok (.aload_n 0, 1) := by decide +kernel
theorem dX8_isTile_4 : decode cX8_isTile 4 = .ok (.invokevirtual 125, 3) := by decide +kernel
theorem dX8_isTile_7 : decode cX8_isTile 7 = .ok (.iconst 1, 1) := by decide +kernel
theorem dX8_isTile_8 : decode cX8_isTile 8 = .ok (.isub, 1) := by decide +kernel
theorem dX8_isTile_9 : decode cX8_isTile 9 = .ok (.i2l, 1) := by decide +kernel
theorem dX8_isTile_10 : decode cX8_isTile 10 = .ok (.invokestatic 129, 3) := by decide +kernel
theorem dX8_isTile_13 : decode cX8_isTile 13 = .ok (.ireturn, 1) := by decide +kernel
theorem dX8_isTetra_0 : decode cX8_isTetra 0 = .ok (.aload_n 0, 1) := by decide +kernel
theorem dX8_isTetra_1 : decode cX8_isTetra 1 = .ok (.getfield 133, 3) := by decide +kernel
theorem dX8_isTetra_4 : decode cX8_isTetra 4 = .ok (.iconst 4, 1) := by decide +kernel
theorem dX8_isTetra_5 : decode cX8_isTetra 5 = .ok (.if_icmp .lt 7, 3) := by decide +kernel
theorem dX8_isTetra_8 : decode cX8_isTetra 8 = .ok (.iconst 1, 1) := by decide +kernel
theorem dX8_isTetra_9 : decode cX8_isTetra 9 = .ok (.goto 4, 3) := by decide +kernel
theorem dX8_isTetra_12 : decode cX8_isTetra 12 = .ok (.iconst 0, 1) := by decide +kernel
theorem dX8_isTetra_13 : decode cX8_isTetra 13 = .ok (.ireturn, 1) := by decide +kernel
theorem dX8_isBlock_0 : decode cX8_isBlock 0 = .ok (.aload_n 0, 1) := by decide +kernel
theorem dX8_isBlock_1 : decode cX8_isBlock 1 = .ok (.getfield 133, 3) := by decide +kernel
theorem dX8_isBlock_4 : decode cX8_isBlock 4 = .ok (.iconst 2, 1) := by decide +kernel
theorem dX8_isBlock_5 : decode cX8_isBlock 5 = .ok (.if_icmp .eq 11, 3) := by decide +kernel
theorem dX8_isBlock_8 : decode cX8_isBlock 8 = .ok (.aload_n 0, 1) := by decide +kernel
theorem dX8_isBlock_9 : decode cX8_isBlock 9 = .ok (.getfield 133, 3) := by decide +kernel
theorem dX8_isBlock_12 : decode cX8_isBlock 12 = .ok (.iconst 3, 1) := by decide +kernel
theorem dX8_isBlock_13 : decode cX8_isBlock 13 = .ok (.if_icmp .ne 7, 3) := by decide +kernel
theorem dX8_isBlock_16 : decode cX8_isBlock 16 = .ok (.iconst 1, 1) := by decide +kernel
theorem dX8_isBlock_17 : decode cX8_isBlock 17 = .ok (.goto 4, 3) := by decide +kernel
theorem dX8_isBlock_20 : decode cX8_isBlock 20 = .ok (.iconst 0, 1) := by decide +kernel
theorem dX8_isBlock_21 : decode cX8_isBlock 21 = .ok (.ireturn, 1) := by decide +kernel
theorem dX8_isPlace_0 : decode cX8_isPlace 0 = .ok (.iload_n 1, 1) := by decide +kernel
theorem dX8_isPlace_1 : decode cX8_isPlace 1 = .ok (.i2l, 1) := by decide +kernel
theorem dX8_isPlace_2 : decode cX8_isPlace 2 = .ok (.lconst 0, 1) := by decide +kernel
theorem dX8_isPlace_3 : decode cX8_isPlace 3 = .ok (.aload_n 0, 1) := by decide +kernel
theorem dX8_isPlace_4 : decode cX8_isPlace 4 = .ok (.invokevirtual 136, 3) := by decide +kernel
theorem dX8_isPlace_7 : decode cX8_isPlace 7 = .ok (.ifCond .eq 7, 3) := by decide +kernel
theorem dX8_isPlace_10 : decode cX8_isPlace 10 = .ok (.iconst 2, 1) := by decide +kernel
theorem dX8_isPlace_11 : decode cX8_isPlace 11 = .ok (.goto 4, 3) := by decide +kernel
theorem dX8_isPlace_14 : decode cX8_isPlace 14 = .ok (.iconst 1, 1) := by decide +kernel
theorem dX8_isPlace_15 : decode cX8_isPlace 15 = .ok (.aload_n 0, 1) := by decide +kernel
theorem dX8_isPlace_16 : decode cX8_isPlace 16 = .ok (.invokevirtual 125, 3) := by decide +kernel
theorem dX8_isPlace_19 : decode cX8_isPlace 19 = .ok (.imul, 1) := by decide +kernel
theorem dX8_isPlace_20 : decode cX8_isPlace 20 = .ok (.iconst 1, 1) := by decide +kernel
theorem dX8_isPlace_21 : decode cX8_isPlace 21 = .ok (.isub, 1) := by decide +kernel
theorem dX8_isPlace_22 : decode cX8_isPlace 22 = .ok (.i2l, 1) := by decide +kernel
theorem dX8_isPlace_23 : decode cX8_isPlace 23 = .ok (.invokestatic 129, 3) := by decide +kernel
theorem dX8_isPlace_26 : decode cX8_isPlace 26 = .ok (.ireturn, 1) := by decide +kernel
theorem dX8_isFace_0 : decode cX8_isFace 0 = .ok (.iload_n 1, 1) := by decide +kernel
theorem dX8_isFace_1 : decode cX8_isFace 1 = .ok (.i2l, 1) := by decide +kernel
theorem dX8_isFace_2 : decode cX8_isFace 2 = .ok (.lconst 0, 1) := by decide +kernel
theorem dX8_isFace_3 : decode cX8_isFace 3 = .ok (.aload_n 0, 1) := by decide +kernel
theorem dX8_isFace_4 : decode cX8_isFace 4 = .ok (.invokevirtual 136, 3) := by decide +kernel
theorem dX8_isFace_7 : decode cX8_isFace 7 = .ok (.ifCond .eq 9, 3) := by decide +kernel
theorem dX8_isFace_10 : decode cX8_isFace 10 = .ok (.ldc2_w 140, 3) := by decide +kernel
theorem dX8_isFace_13 : decode cX8_isFace 13 = .ok (.goto 6, 3) := by decide +kernel
theorem dX8_isFace_16 : decode cX8_isFace 16 = .ok (.ldc2_w 142, 3) := by decide +kernel
theorem dX8_isFace_19 : decode cX8_isFace 19 = .ok (.invokestatic 129, 3) := by decide +kernel
theorem dX8_isFace_22 : decode cX8_isFace 22 = .ok (.ireturn, 1) := by decide +kernel
theorem dX8_below_0 : decode cX8_below 0 = .ok (.aload_n 0, 1) := by decide +kernel
theorem dX8_below_1 : decode cX8_below 1 = .ok (.invokevirtual 136, 3) := by decide +kernel
theorem dX8_below_4 : decode cX8_below 4 = .ok (.ifCond .eq 12, 3) := by decide +kernel
theorem dX8_below_7 : decode cX8_below 7 = .ok (.aload_n 0, 1) := by decide +kernel
theorem dX8_below_8 : decode cX8_below 8 = .ok (.getfield 42, 3) := by decide +kernel
theorem dX8_below_11 : decode cX8_below 11 = .ok (.iconst 0, 1) := by decide +kernel
theorem dX8_below_12 : decode cX8_below 12 = .ok (.iaload, 1) := by decide +kernel
theorem dX8_below_13 : decode cX8_below 13 = .ok (.goto 9, 3) := by decide +kernel
theorem dX8_below_16 : decode cX8_below 16 = .ok (.aload_n 0, 1) := by decide +kernel
theorem dX8_below_17 : decode cX8_below 17 = .ok (.getfield 42, 3) := by decide +kernel
theorem dX8_below_20 : decode cX8_below 20 = .ok (.iconst 1, 1) := by decide +kernel
theorem dX8_below_21 : decode cX8_below 21 = .ok (.iaload, 1) := by decide +kernel
theorem dX8_below_22 : decode cX8_below 22 = .ok (.ireturn, 1) := by decide +kernel
theorem dX8_lying_0 : decode cX8_lying 0 = .ok (.aload_n 0, 1) := by decide +kernel
theorem dX8_lying_1 : decode cX8_lying 1 = .ok (.getfield 42, 3) := by decide +kernel
theorem dX8_lying_4 : decode cX8_lying 4 = .ok (.iconst 0, 1) := by decide +kernel
theorem dX8_lying_5 : decode cX8_lying 5 = .ok (.iaload, 1) := by decide +kernel
theorem dX8_lying_6 : decode cX8_lying 6 = .ok (.iconst 2, 1) := by decide +kernel
theorem dX8_lying_7 : decode cX8_lying 7 = .ok (.if_icmp .lt 13, 3) := by decide +kernel
theorem dX8_lying_10 : decode cX8_lying 10 = .ok (.aload_n 0, 1) := by decide +kernel
theorem dX8_lying_11 : decode cX8_lying 11 = .ok (.getfield 42, 3) := by decide +kernel
theorem dX8_lying_14 : decode cX8_lying 14 = .ok (.iconst 1, 1) := by decide +kernel
theorem dX8_lying_15 : decode cX8_lying 15 = .ok (.iaload, 1) := by decide +kernel
theorem dX8_lying_16 : decode cX8_lying 16 = .ok (.iconst 2, 1) := by decide +kernel
theorem dX8_lying_17 : decode cX8_lying 17 = .ok (.if_icmp .ge 5, 3) := by decide +kernel
theorem dX8_lying_20 : decode cX8_lying 20 = .ok (.iconst 0, 1) := by decide +kernel
theorem dX8_lying_21 : decode cX8_lying 21 = .ok (.ireturn, 1) := by decide +kernel
theorem dX8_lying_22 : decode cX8_lying 22 = .ok (.aload_n 0, 1) := by decide +kernel
theorem dX8_lying_23 : decode cX8_lying 23 = .ok (.getfield 42, 3) := by decide +kernel
theorem dX8_lying_26 : decode cX8_lying 26 = .ok (.iconst 3, 1) := by decide +kernel
theorem dX8_lying_27 : decode cX8_lying 27 = .ok (.iaload, 1) := by decide +kernel
theorem dX8_lying_28 : decode cX8_lying 28 = .ok (.iconst 2, 1) := by decide +kernel
theorem dX8_lying_29 : decode cX8_lying 29 = .ok (.if_icmp .lt 13, 3) := by decide +kernel
theorem dX8_lying_32 : decode cX8_lying 32 = .ok (.aload_n 0, 1) := by decide +kernel
theorem dX8_lying_33 : decode cX8_lying 33 = .ok (.getfield 42, 3) := by decide +kernel
theorem dX8_lying_36 : decode cX8_lying 36 = .ok (.iconst 5, 1) := by decide +kernel
theorem dX8_lying_37 : decode cX8_lying 37 = .ok (.iaload, 1) := by decide +kernel
theorem dX8_lying_38 : decode cX8_lying 38 = .ok (.iconst 2, 1) := by decide +kernel
theorem dX8_lying_39 : decode cX8_lying 39 = .ok (.if_icmp .ge 7, 3) := by decide +kernel
theorem dX8_lying_42 : decode cX8_lying 42 = .ok (.iconst 1, 1) := by decide +kernel
theorem dX8_lying_43 : decode cX8_lying 43 = .ok (.goto 4, 3) := by decide +kernel
theorem dX8_lying_46 : decode cX8_lying 46 = .ok (.iconst 2, 1) := by decide +kernel
theorem dX8_lying_47 : decode cX8_lying 47 = .ok (.ireturn, 1) := by decide +kernel
theorem dX8_tellsUnder_0 : decode cX8_tellsUnder 0 = .ok (.aload_n 0, 1) := by decide +kernel
theorem dX8_tellsUnder_1 : decode cX8_tellsUnder 1 = .ok (.iconst 1, 1) := by decide +kernel
theorem dX8_tellsUnder_2 : decode cX8_tellsUnder 2 = .ok (.putfield 144, 3) := by decide +kernel
theorem dX8_tellsUnder_5 : decode cX8_tellsUnder 5 = .ok (.aload_n 0, 1) := by decide +kernel
theorem dX8_tellsUnder_6 : decode cX8_tellsUnder 6 = .ok (.invokevirtual 136, 3) := by decide +kernel
theorem dX8_tellsUnder_9 : decode cX8_tellsUnder 9 = .ok (.ifCond .eq 34, 3) := by decide +kernel
theorem dX8_tellsUnder_12 : decode cX8_tellsUnder 12 = .ok (.aload_n 0, 1) := by decide +kernel
theorem dX8_tellsUnder_13 : decode cX8_tellsUnder 13 = .ok (.getfield 45, 3) := by decide +kernel
theorem dX8_tellsUnder_16 : decode cX8_tellsUnder 16 = .ok (.iconst 0, 1) := by decide +kernel
theorem dX8_tellsUnder_17 : decode cX8_tellsUnder 17 = .ok (.aload_n 0, 1) := by decide +kernel
theorem dX8_tellsUnder_18 : decode cX8_tellsUnder 18 = .ok (.getfield 147, 3) := by decide +kernel
theorem dX8_tellsUnder_21 : decode cX8_tellsUnder 21 = .ok (.iconst 2, 1) := by decide +kernel
theorem dX8_tellsUnder_22 : decode cX8_tellsUnder 22 = .ok (.idiv, 1) := by decide +kernel
theorem dX8_tellsUnder_23 : decode cX8_tellsUnder 23 = .ok (.iastore, 1) := by decide +kernel
theorem dX8_tellsUnder_24 : decode cX8_tellsUnder 24 = .ok (.aload_n 0, 1) := by decide +kernel
theorem dX8_tellsUnder_25 : decode cX8_tellsUnder 25 = .ok (.getfield 147, 3) := by decide +kernel
theorem dX8_tellsUnder_28 : decode cX8_tellsUnder 28 = .ok (.i2l, 1) := by decide +kernel
theorem dX8_tellsUnder_29 : decode cX8_tellsUnder 29 = .ok (.lconst 0, 1) := by decide +kernel
theorem dX8_tellsUnder_30 : decode cX8_tellsUnder 30 = .ok (.iconst 2, 1) := by decide +kernel
theorem dX8_tellsUnder_31 : decode cX8_tellsUnder 31 = .ok (.aload_n 0, 1) := by decide +kernel
theorem dX8_tellsUnder_32 : decode cX8_tellsUnder 32 = .ok (.invokevirtual 125, 3) := by decide +kernel
theorem dX8_tellsUnder_35 : decode cX8_tellsUnder 35 = .ok (.imul, 1) := by decide +kernel
theorem dX8_tellsUnder_36 : decode cX8_tellsUnder 36 = .ok (.iconst 1, 1) := by decide +kernel
theorem dX8_tellsUnder_37 : decode cX8_tellsUnder 37 = .ok (.isub, 1) := by decide +kernel
theorem dX8_tellsUnder_38 : decode cX8_tellsUnder 38 = .ok (.i2l, 1) := by decide +kernel
theorem dX8_tellsUnder_39 : decode cX8_tellsUnder 39 = .ok (.invokestatic 129, 3) := by decide +kernel
theorem dX8_tellsUnder_42 : decode cX8_tellsUnder 42 = .ok (.ireturn, 1) := by decide +kernel
theorem dX8_tellsUnder_43 : decode cX8_tellsUnder 43 = .ok (.aload_n 0, 1) := by decide +kernel
theorem dX8_tellsUnder_44 : decode cX8_tellsUnder 44 = .ok (.getfield 45, 3) := by decide +kernel
theorem dX8_tellsUnder_47 : decode cX8_tellsUnder 47 = .ok (.iconst 0, 1) := by decide +kernel
theorem dX8_tellsUnder_48 : decode cX8_tellsUnder 48 = .ok (.aload_n 0, 1) := by decide +kernel
theorem dX8_tellsUnder_49 : decode cX8_tellsUnder 49 = .ok (.getfield 147, 3) := by decide +kernel
theorem dX8_tellsUnder_52 : decode cX8_tellsUnder 52 = .ok (.iastore, 1) := by decide +kernel
theorem dX8_tellsUnder_53 : decode cX8_tellsUnder 53 = .ok (.aload_n 0, 1) := by decide +kernel
theorem dX8_tellsUnder_54 : decode cX8_tellsUnder 54 = .ok (.aload_n 0, 1) := by decide +kernel
theorem dX8_tellsUnder_55 : decode cX8_tellsUnder 55 = .ok (.getfield 147, 3) := by decide +kernel
theorem dX8_tellsUnder_58 : decode cX8_tellsUnder 58 = .ok (.invokevirtual 150, 3) := by decide +kernel
theorem dX8_tellsUnder_61 : decode cX8_tellsUnder 61 = .ok (.ifCond .ne 5, 3) := by decide +kernel
theorem dX8_tellsUnder_64 : decode cX8_tellsUnder 64 = .ok (.iconst 0, 1) := by decide +kernel
theorem dX8_tellsUnder_65 : decode cX8_tellsUnder 65 = .ok (.ireturn, 1) := by decide +kernel
theorem dX8_tellsUnder_66 : decode cX8_tellsUnder 66 = .ok (.aload_n 0, 1) := by decide +kernel
theorem dX8_tellsUnder_67 : decode cX8_tellsUnder 67 = .ok (.invokevirtual 154, 3) := by decide +kernel
theorem dX8_tellsUnder_70 : decode cX8_tellsUnder 70 = .ok (.ifCond .eq 10, 3) := by decide +kernel
theorem dX8_tellsUnder_73 : decode cX8_tellsUnder 73 = .ok (.aload_n 0, 1) := by decide +kernel
theorem dX8_tellsUnder_74 : decode cX8_tellsUnder 74 = .ok (.invokevirtual 157, 3) := by decide +kernel
theorem dX8_tellsUnder_77 : decode cX8_tellsUnder 77 = .ok (.goto 4, 3) := by decide +kernel
theorem dX8_tellsUnder_80 : decode cX8_tellsUnder 80 = .ok (.iconst 0, 1) := by decide +kernel
theorem dX8_tellsUnder_81 : decode cX8_tellsUnder 81 = .ok (.istore_n 1, 1) := by decide +kernel
theorem dX8_tellsUnder_82 : decode cX8_tellsUnder 82 = .ok (.iload_n 1, 1) := by decide +kernel
theorem dX8_tellsUnder_83 : decode cX8_tellsUnder 83 = .ok (.ifCond .ne 5, 3) := by decide +kernel
theorem dX8_tellsUnder_86 : decode cX8_tellsUnder 86 = .ok (.iconst 1, 1) := by decide +kernel
theorem dX8_tellsUnder_87 : decode cX8_tellsUnder 87 = .ok (.ireturn, 1) := by decide +kernel
theorem dX8_tellsUnder_88 : decode cX8_tellsUnder 88 = .ok (.aload_n 0, 1) := by decide +kernel
theorem dX8_tellsUnder_89 : decode cX8_tellsUnder 89 = .ok (.getfield 45, 3) := by decide +kernel
theorem dX8_tellsUnder_92 : decode cX8_tellsUnder 92 = .ok (.iconst 1, 1) := by decide +kernel
theorem dX8_tellsUnder_93 : decode cX8_tellsUnder 93 = .ok (.iload_n 1, 1) := by decide +kernel
theorem dX8_tellsUnder_94 : decode cX8_tellsUnder 94 = .ok (.iconst 1, 1) := by decide +kernel
theorem dX8_tellsUnder_95 : decode cX8_tellsUnder 95 = .ok (.if_icmp .ne 12, 3) := by decide +kernel
theorem dX8_tellsUnder_98 : decode cX8_tellsUnder 98 = .ok (.aload_n 0, 1) := by decide +kernel
theorem dX8_tellsUnder_99 : decode cX8_tellsUnder 99 = .ok (.getfield 147, 3) := by decide +kernel
theorem dX8_tellsUnder_102 : decode cX8_tellsUnder 102 = .ok (.iconst 1, 1) := by decide +kernel
theorem dX8_tellsUnder_103 : decode cX8_tellsUnder 103 = .ok (.iadd, 1) := by decide +kernel
theorem dX8_tellsUnder_104 : decode cX8_tellsUnder 104 = .ok (.goto 12, 3) := by decide +kernel
theorem dX8_tellsUnder_107 : decode cX8_tellsUnder 107 = .ok (.aload_n 0, 1) := by decide +kernel
theorem dX8_tellsUnder_108 : decode cX8_tellsUnder 108 = .ok (.getfield 147, 3) := by decide +kernel
theorem dX8_tellsUnder_111 : decode cX8_tellsUnder 111 = .ok (.aload_n 0, 1) := by decide +kernel
theorem dX8_tellsUnder_112 : decode cX8_tellsUnder 112 = .ok (.getfield 26, 3) := by decide +kernel
theorem dX8_tellsUnder_115 : decode cX8_tellsUnder 115 = .ok (.iadd, 1) := by decide +kernel
theorem dX8_tellsUnder_116 : decode cX8_tellsUnder 116 = .ok (.iastore, 1) := by decide +kernel
theorem dX8_tellsUnder_117 : decode cX8_tellsUnder 117 = .ok (.aload_n 0, 1) := by decide +kernel
theorem dX8_tellsUnder_118 : decode cX8_tellsUnder 118 = .ok (.iconst 2, 1) := by decide +kernel
theorem dX8_tellsUnder_119 : decode cX8_tellsUnder 119 = .ok (.putfield 144, 3) := by decide +kernel
theorem dX8_tellsUnder_122 : decode cX8_tellsUnder 122 = .ok (.iload_n 1, 1) := by decide +kernel
theorem dX8_tellsUnder_123 : decode cX8_tellsUnder 123 = .ok (.iconst 1, 1) := by decide +kernel
theorem dX8_tellsUnder_124 : decode cX8_tellsUnder 124 = .ok (.if_icmp .ne 29, 3) := by decide +kernel
theorem dX8_tellsUnder_127 : decode cX8_tellsUnder 127 = .ok (.aload_n 0, 1) := by decide +kernel
theorem dX8_tellsUnder_128 : decode cX8_tellsUnder 128 = .ok (.getfield 147, 3) := by decide +kernel
theorem dX8_tellsUnder_131 : decode cX8_tellsUnder 131 = .ok (.aload_n 0, 1) := by decide +kernel
theorem dX8_tellsUnder_132 : decode cX8_tellsUnder 132 = .ok (.getfield 26, 3) := by decide +kernel
theorem dX8_tellsUnder_135 : decode cX8_tellsUnder 135 = .ok (.irem, 1) := by decide +kernel
theorem dX8_tellsUnder_136 : decode cX8_tellsUnder 136 = .ok (.aload_n 0, 1) := by decide +kernel
theorem dX8_tellsUnder_137 : decode cX8_tellsUnder 137 = .ok (.getfield 26, 3) := by decide +kernel
theorem dX8_tellsUnder_140 : decode cX8_tellsUnder 140 = .ok (.iconst 1, 1) := by decide +kernel
theorem dX8_tellsUnder_141 : decode cX8_tellsUnder 141 = .ok (.isub, 1) := by decide +kernel
theorem dX8_tellsUnder_142 : decode cX8_tellsUnder 142 = .ok (.if_icmp .ge 7, 3) := by decide +kernel
theorem dX8_tellsUnder_145 : decode cX8_tellsUnder 145 = .ok (.iconst 1, 1) := by decide +kernel
theorem dX8_tellsUnder_146 : decode cX8_tellsUnder 146 = .ok (.goto 30, 3) := by decide +kernel
theorem dX8_tellsUnder_149 : decode cX8_tellsUnder 149 = .ok (.iconst 0, 1) := by decide +kernel
theorem dX8_tellsUnder_150 : decode cX8_tellsUnder 150 = .ok (.goto 26, 3) := by decide +kernel
theorem dX8_tellsUnder_153 : decode cX8_tellsUnder 153 = .ok (.aload_n 0, 1) := by decide +kernel
theorem dX8_tellsUnder_154 : decode cX8_tellsUnder 154 = .ok (.getfield 147, 3) := by decide +kernel
theorem dX8_tellsUnder_157 : decode cX8_tellsUnder 157 = .ok (.aload_n 0, 1) := by decide +kernel
theorem dX8_tellsUnder_158 : decode cX8_tellsUnder 158 = .ok (.getfield 26, 3) := by decide +kernel
theorem dX8_tellsUnder_161 : decode cX8_tellsUnder 161 = .ok (.idiv, 1) := by decide +kernel
theorem dX8_tellsUnder_162 : decode cX8_tellsUnder 162 = .ok (.aload_n 0, 1) := by decide +kernel
theorem dX8_tellsUnder_163 : decode cX8_tellsUnder 163 = .ok (.getfield 23, 3) := by decide +kernel
theorem dX8_tellsUnder_166 : decode cX8_tellsUnder 166 = .ok (.iconst 1, 1) := by decide +kernel
theorem dX8_tellsUnder_167 : decode cX8_tellsUnder 167 = .ok (.isub, 1) := by decide +kernel
theorem dX8_tellsUnder_168 : decode cX8_tellsUnder 168 = .ok (.if_icmp .ge 7, 3) := by decide +kernel
theorem dX8_tellsUnder_171 : decode cX8_tellsUnder 171 = .ok (.iconst 1, 1) := by decide +kernel
theorem dX8_tellsUnder_172 : decode cX8_tellsUnder 172 = .ok (.goto 4, 3) := by decide +kernel
theorem dX8_tellsUnder_175 : decode cX8_tellsUnder 175 = .ok (.iconst 0, 1) := by decide +kernel
theorem dX8_tellsUnder_176 : decode cX8_tellsUnder 176 = .ok (.ireturn, 1) := by decide +kernel
theorem dX8_mayLie_0 : decode cX8_mayLie 0 = .ok (.aload_n 0, 1) := by decide +kernel
theorem dX8_mayLie_1 : decode cX8_mayLie 1 = .ok (.invokevirtual 160, 3) := by decide +kernel
theorem dX8_mayLie_4 : decode cX8_mayLie 4 = .ok (.ifCond .ne 5, 3) := by decide +kernel
theorem dX8_mayLie_7 : decode cX8_mayLie 7 = .ok (.iconst 0, 1) := by decide +kernel
theorem dX8_mayLie_8 : decode cX8_mayLie 8 = .ok (.ireturn, 1) := by decide +kernel
theorem dX8_mayLie_9 : decode cX8_mayLie 9 = .ok (.aload_n 0, 1) := by decide +kernel
theorem dX8_mayLie_10 : decode cX8_mayLie 10 = .ok (.getfield 133, 3) := by decide +kernel
theorem dX8_mayLie_13 : decode cX8_mayLie 13 = .ok (.iconst 1, 1) := by decide +kernel
theorem dX8_mayLie_14 : decode cX8_mayLie 14 = .ok (.if_icmp .eq 18, 3) := by decide +kernel
theorem dX8_mayLie_17 : decode cX8_mayLie 17 = .ok (.aload_n 0, 1) := by decide +kernel
theorem dX8_mayLie_18 : decode cX8_mayLie 18 = .ok (.getfield 133, 3) := by decide +kernel
theorem dX8_mayLie_21 : decode cX8_mayLie 21 = .ok (.iconst 3, 1) := by decide +kernel
theorem dX8_mayLie_22 : decode cX8_mayLie 22 = .ok (.if_icmp .ne 14, 3) := by decide +kernel
theorem dX8_mayLie_25 : decode cX8_mayLie 25 = .ok (.aload_n 0, 1) := by decide +kernel
theorem dX8_mayLie_26 : decode cX8_mayLie 26 = .ok (.invokevirtual 157, 3) := by decide +kernel
theorem dX8_mayLie_29 : decode cX8_mayLie 29 = .ok (.ifCond .eq 7, 3) := by decide +kernel
theorem dX8_mayLie_32 : decode cX8_mayLie 32 = .ok (.iconst 1, 1) := by decide +kernel
theorem dX8_mayLie_33 : decode cX8_mayLie 33 = .ok (.goto 4, 3) := by decide +kernel
theorem dX8_mayLie_36 : decode cX8_mayLie 36 = .ok (.iconst 0, 1) := by decide +kernel
theorem dX8_mayLie_37 : decode cX8_mayLie 37 = .ok (.istore_n 1, 1) := by decide +kernel
theorem dX8_mayLie_38 : decode cX8_mayLie 38 = .ok (.iconst 0, 1) := by decide +kernel
theorem dX8_mayLie_39 : decode cX8_mayLie 39 = .ok (.istore_n 2, 1) := by decide +kernel
theorem dX8_mayLie_40 : decode cX8_mayLie 40 = .ok (.iload_n 2, 1) := by decide +kernel
theorem dX8_mayLie_41 : decode cX8_mayLie 41 = .ok (.aload_n 0, 1) := by decide +kernel
theorem dX8_mayLie_42 : decode cX8_mayLie 42 = .ok (.getfield 144, 3) := by decide +kernel
theorem dX8_mayLie_45 : decode cX8_mayLie 45 = .ok (.if_icmp .ge 37, 3) := by decide +kernel
theorem dX8_mayLie_48 : decode cX8_mayLie 48 = .ok (.aload_n 0, 1) := by decide +kernel
theorem dX8_mayLie_49 : decode cX8_mayLie 49 = .ok (.getfield 29, 3) := by decide +kernel
theorem dX8_mayLie_52 : decode cX8_mayLie 52 = .ok (.aload_n 0, 1) := by decide +kernel
theorem dX8_mayLie_53 : decode cX8_mayLie 53 = .ok (.getfield 45, 3) := by decide +kernel
theorem dX8_mayLie_56 : decode cX8_mayLie 56 = .ok (.iload_n 2, 1) := by decide +kernel
theorem dX8_mayLie_57 : decode cX8_mayLie 57 = .ok (.iaload, 1) := by decide +kernel
theorem dX8_mayLie_58 : decode cX8_mayLie 58 = .ok (.iaload, 1) := by decide +kernel
theorem dX8_mayLie_59 : decode cX8_mayLie 59 = .ok (.istore_n 3, 1) := by decide +kernel
theorem dX8_mayLie_60 : decode cX8_mayLie 60 = .ok (.iload_n 3, 1) := by decide +kernel
theorem dX8_mayLie_61 : decode cX8_mayLie 61 = .ok (.iconst 1, 1) := by decide +kernel
theorem dX8_mayLie_62 : decode cX8_mayLie 62 = .ok (.if_icmp .eq 12, 3) := by decide +kernel
theorem dX8_mayLie_65 : decode cX8_mayLie 65 = .ok (.iload_n 3, 1) := by decide +kernel
theorem dX8_mayLie_66 : decode cX8_mayLie 66 = .ok (.iconst 2, 1) := by decide +kernel
theorem dX8_mayLie_67 : decode cX8_mayLie 67 = .ok (.if_icmp .ne 9, 3) := by decide +kernel
theorem dX8_mayLie_70 : decode cX8_mayLie 70 = .ok (.iload_n 1, 1) := by decide +kernel
theorem dX8_mayLie_71 : decode cX8_mayLie 71 = .ok (.ifCond .eq 5, 3) := by decide +kernel
theorem dX8_mayLie_74 : decode cX8_mayLie 74 = .ok (.iconst 0, 1) := by decide +kernel
theorem dX8_mayLie_75 : decode cX8_mayLie 75 = .ok (.ireturn, 1) := by decide +kernel
theorem dX8_mayLie_76 : decode cX8_mayLie 76 = .ok (.iinc 2 1, 3) := by decide +kernel
theorem dX8_mayLie_79 : decode cX8_mayLie 79 = .ok (.goto (-39), 3) := by decide +kernel
theorem dX8_mayLie_82 : decode cX8_mayLie 82 = .ok (.iconst 1, 1) := by decide +kernel
theorem dX8_mayLie_83 : decode cX8_mayLie 83 = .ok (.ireturn, 1) := by decide +kernel
theorem dX8_turns_0 : decode cX8_turns 0 = .ok (.aload_n 0, 1) := by decide +kernel
theorem dX8_turns_1 : decode cX8_turns 1 = .ok (.getfield 42, 3) := by decide +kernel
theorem dX8_turns_4 : decode cX8_turns 4 = .ok (.iload_n 1, 1) := by decide +kernel
theorem dX8_turns_5 : decode cX8_turns 5 = .ok (.iaload, 1) := by decide +kernel
theorem dX8_turns_6 : decode cX8_turns 6 = .ok (.istore 5, 2) := by decide +kernel
theorem dX8_turns_8 : decode cX8_turns 8 = .ok (.aload_n 0, 1) := by decide +kernel
theorem dX8_turns_9 : decode cX8_turns 9 = .ok (.getfield 42, 3) := by decide +kernel
theorem dX8_turns_12 : decode cX8_turns 12 = .ok (.iload_n 1, 1) := by decide +kernel
theorem dX8_turns_13 : decode cX8_turns 13 = .ok (.aload_n 0, 1) := by decide +kernel
theorem dX8_turns_14 : decode cX8_turns 14 = .ok (.getfield 42, 3) := by decide +kernel
theorem dX8_turns_17 : decode cX8_turns 17 = .ok (.iload_n 2, 1) := by decide +kernel
theorem dX8_turns_18 : decode cX8_turns 18 = .ok (.iaload, 1) := by decide +kernel
theorem dX8_turns_19 : decode cX8_turns 19 = .ok (.iastore, 1) := by decide +kernel
theorem dX8_turns_20 : decode cX8_turns 20 = .ok (.aload_n 0, 1) := by decide +kernel
theorem dX8_turns_21 : decode cX8_turns 21 = .ok (.getfield 42, 3) := by decide +kernel
theorem dX8_turns_24 : decode cX8_turns 24 = .ok (.iload_n 2, 1) := by decide +kernel
theorem dX8_turns_25 : decode cX8_turns 25 = .ok (.aload_n 0, 1) := by decide +kernel
theorem dX8_turns_26 : decode cX8_turns 26 = .ok (.getfield 42, 3) := by decide +kernel
theorem dX8_turns_29 : decode cX8_turns 29 = .ok (.iload_n 3, 1) := by decide +kernel
theorem dX8_turns_30 : decode cX8_turns 30 = .ok (.iaload, 1) := by decide +kernel
theorem dX8_turns_31 : decode cX8_turns 31 = .ok (.iastore, 1) := by decide +kernel
theorem dX8_turns_32 : decode cX8_turns 32 = .ok (.aload_n 0, 1) := by decide +kernel
theorem dX8_turns_33 : decode cX8_turns 33 = .ok (.getfield 42, 3) := by decide +kernel
theorem dX8_turns_36 : decode cX8_turns 36 = .ok (.iload_n 3, 1) := by decide +kernel
theorem dX8_turns_37 : decode cX8_turns 37 = .ok (.aload_n 0, 1) := by decide +kernel
theorem dX8_turns_38 : decode cX8_turns 38 = .ok (.getfield 42, 3) := by decide +kernel
theorem dX8_turns_41 : decode cX8_turns 41 = .ok (.iload 4, 2) := by decide +kernel
theorem dX8_turns_43 : decode cX8_turns 43 = .ok (.iaload, 1) := by decide +kernel
theorem dX8_turns_44 : decode cX8_turns 44 = .ok (.iastore, 1) := by decide +kernel
theorem dX8_turns_45 : decode cX8_turns 45 = .ok (.aload_n 0, 1) := by decide +kernel
theorem dX8_turns_46 : decode cX8_turns 46 = .ok (.getfield 42, 3) := by decide +kernel
theorem dX8_turns_49 : decode cX8_turns 49 = .ok (.iload 4, 2) := by decide +kernel
theorem dX8_turns_51 : decode cX8_turns 51 = .ok (.iload 5, 2) := by decide +kernel
theorem dX8_turns_53 : decode cX8_turns 53 = .ok (.iastore, 1) := by decide +kernel
theorem dX8_turns_54 : decode cX8_turns 54 = .ok (.return_, 1) := by decide +kernel
theorem dX8_turnsCube_0 : decode cX8_turnsCube 0 = .ok (.iload_n 1, 1) := by decide +kernel
theorem dX8_turnsCube_1 : decode cX8_turnsCube 1 = .ok (.tableswitch 60 0 2 #[27, 38, 49], 27) := by decide +kernel
theorem dX8_turnsCube_28 : decode cX8_turnsCube 28 = .ok (.aload_n 0, 1) := by decide +kernel
theorem dX8_turnsCube_29 : decode cX8_turnsCube 29 = .ok (.iconst 1, 1) := by decide +kernel
theorem dX8_turnsCube_30 : decode cX8_turnsCube 30 = .ok (.iconst 2, 1) := by decide +kernel
theorem dX8_turnsCube_31 : decode cX8_turnsCube 31 = .ok (.iconst 0, 1) := by decide +kernel
theorem dX8_turnsCube_32 : decode cX8_turnsCube 32 = .ok (.iconst 4, 1) := by decide +kernel
theorem dX8_turnsCube_33 : decode cX8_turnsCube 33 = .ok (.invokevirtual 163, 3) := by decide +kernel
theorem dX8_turnsCube_36 : decode cX8_turnsCube 36 = .ok (.goto 33, 3) := by decide +kernel
theorem dX8_turnsCube_39 : decode cX8_turnsCube 39 = .ok (.aload_n 0, 1) := by decide +kernel
theorem dX8_turnsCube_40 : decode cX8_turnsCube 40 = .ok (.iconst 1, 1) := by decide +kernel
theorem dX8_turnsCube_41 : decode cX8_turnsCube 41 = .ok (.iconst 3, 1) := by decide +kernel
theorem dX8_turnsCube_42 : decode cX8_turnsCube 42 = .ok (.iconst 0, 1) := by decide +kernel
theorem dX8_turnsCube_43 : decode cX8_turnsCube 43 = .ok (.iconst 5, 1) := by decide +kernel
theorem dX8_turnsCube_44 : decode cX8_turnsCube 44 = .ok (.invokevirtual 163, 3) := by decide +kernel
theorem dX8_turnsCube_47 : decode cX8_turnsCube 47 = .ok (.goto 22, 3) := by decide +kernel
theorem dX8_turnsCube_50 : decode cX8_turnsCube 50 = .ok (.aload_n 0, 1) := by decide +kernel
theorem dX8_turnsCube_51 : decode cX8_turnsCube 51 = .ok (.iconst 1, 1) := by decide +kernel
theorem dX8_turnsCube_52 : decode cX8_turnsCube 52 = .ok (.iconst 4, 1) := by decide +kernel
theorem dX8_turnsCube_53 : decode cX8_turnsCube 53 = .ok (.iconst 0, 1) := by decide +kernel
theorem dX8_turnsCube_54 : decode cX8_turnsCube 54 = .ok (.iconst 2, 1) := by decide +kernel
theorem dX8_turnsCube_55 : decode cX8_turnsCube 55 = .ok (.invokevirtual 163, 3) := by decide +kernel
theorem dX8_turnsCube_58 : decode cX8_turnsCube 58 = .ok (.goto 11, 3) := by decide +kernel
theorem dX8_turnsCube_61 : decode cX8_turnsCube 61 = .ok (.aload_n 0, 1) := by decide +kernel
theorem dX8_turnsCube_62 : decode cX8_turnsCube 62 = .ok (.iconst 1, 1) := by decide +kernel
theorem dX8_turnsCube_63 : decode cX8_turnsCube 63 = .ok (.iconst 5, 1) := by decide +kernel
theorem dX8_turnsCube_64 : decode cX8_turnsCube 64 = .ok (.iconst 0, 1) := by decide +kernel
theorem dX8_turnsCube_65 : decode cX8_turnsCube 65 = .ok (.iconst 3, 1) := by decide +kernel
theorem dX8_turnsCube_66 : decode cX8_turnsCube 66 = .ok (.invokevirtual 163, 3) := by decide +kernel
theorem dX8_turnsCube_69 : decode cX8_turnsCube 69 = .ok (.return_, 1) := by decide +kernel
theorem dX8_turnsTetra_0 : decode cX8_turnsTetra 0 = .ok (.iload_n 1, 1) := by decide +kernel
theorem dX8_turnsTetra_1 : decode cX8_turnsTetra 1 = .ok (.iconst 1, 1) := by decide +kernel
theorem dX8_turnsTetra_2 : decode cX8_turnsTetra 2 = .ok (.if_icmp .ne 14, 3) := by decide +kernel
theorem dX8_turnsTetra_5 : decode cX8_turnsTetra 5 = .ok (.aload_n 0, 1) := by decide +kernel
theorem dX8_turnsTetra_6 : decode cX8_turnsTetra 6 = .ok (.iconst 0, 1) := by decide +kernel
theorem dX8_turnsTetra_7 : decode cX8_turnsTetra 7 = .ok (.iconst 2, 1) := by decide +kernel
theorem dX8_turnsTetra_8 : decode cX8_turnsTetra 8 = .ok (.iconst 3, 1) := by decide +kernel
theorem dX8_turnsTetra_9 : decode cX8_turnsTetra 9 = .ok (.iconst 1, 1) := by decide +kernel
theorem dX8_turnsTetra_10 : decode cX8_turnsTetra 10 = .ok (.invokevirtual 163, 3) := by decide +kernel
theorem dX8_turnsTetra_13 : decode cX8_turnsTetra 13 = .ok (.goto 45, 3) := by decide +kernel
theorem dX8_turnsTetra_16 : decode cX8_turnsTetra 16 = .ok (.iload_n 1, 1) := by decide +kernel
theorem dX8_turnsTetra_17 : decode cX8_turnsTetra 17 = .ok (.iconst 3, 1) := by decide +kernel
theorem dX8_turnsTetra_18 : decode cX8_turnsTetra 18 = .ok (.if_icmp .ne 14, 3) := by decide +kernel
theorem dX8_turnsTetra_21 : decode cX8_turnsTetra 21 = .ok (.aload_n 0, 1) := by decide +kernel
theorem dX8_turnsTetra_22 : decode cX8_turnsTetra 22 = .ok (.iconst 0, 1) := by decide +kernel
theorem dX8_turnsTetra_23 : decode cX8_turnsTetra 23 = .ok (.iconst 1, 1) := by decide +kernel
theorem dX8_turnsTetra_24 : decode cX8_turnsTetra 24 = .ok (.iconst 3, 1) := by decide +kernel
theorem dX8_turnsTetra_25 : decode cX8_turnsTetra 25 = .ok (.iconst 2, 1) := by decide +kernel
theorem dX8_turnsTetra_26 : decode cX8_turnsTetra 26 = .ok (.invokevirtual 163, 3) := by decide +kernel
theorem dX8_turnsTetra_29 : decode cX8_turnsTetra 29 = .ok (.goto 29, 3) := by decide +kernel
theorem dX8_turnsTetra_32 : decode cX8_turnsTetra 32 = .ok (.aload_n 0, 1) := by decide +kernel
theorem dX8_turnsTetra_33 : decode cX8_turnsTetra 33 = .ok (.getfield 42, 3) := by decide +kernel
theorem dX8_turnsTetra_36 : decode cX8_turnsTetra 36 = .ok (.iconst 0, 1) := by decide +kernel
theorem dX8_turnsTetra_37 : decode cX8_turnsTetra 37 = .ok (.iaload, 1) := by decide +kernel
theorem dX8_turnsTetra_38 : decode cX8_turnsTetra 38 = .ok (.istore_n 2, 1) := by decide +kernel
theorem dX8_turnsTetra_39 : decode cX8_turnsTetra 39 = .ok (.aload_n 0, 1) := by decide +kernel
theorem dX8_turnsTetra_40 : decode cX8_turnsTetra 40 = .ok (.getfield 42, 3) := by decide +kernel
theorem dX8_turnsTetra_43 : decode cX8_turnsTetra 43 = .ok (.iconst 0, 1) := by decide +kernel
theorem dX8_turnsTetra_44 : decode cX8_turnsTetra 44 = .ok (.aload_n 0, 1) := by decide +kernel
theorem dX8_turnsTetra_45 : decode cX8_turnsTetra 45 = .ok (.getfield 42, 3) := by decide +kernel
theorem dX8_turnsTetra_48 : decode cX8_turnsTetra 48 = .ok (.iconst 3, 1) := by decide +kernel
theorem dX8_turnsTetra_49 : decode cX8_turnsTetra 49 = .ok (.iaload, 1) := by decide +kernel
theorem dX8_turnsTetra_50 : decode cX8_turnsTetra 50 = .ok (.iastore, 1) := by decide +kernel
theorem dX8_turnsTetra_51 : decode cX8_turnsTetra 51 = .ok (.aload_n 0, 1) := by decide +kernel
theorem dX8_turnsTetra_52 : decode cX8_turnsTetra 52 = .ok (.getfield 42, 3) := by decide +kernel
theorem dX8_turnsTetra_55 : decode cX8_turnsTetra 55 = .ok (.iconst 3, 1) := by decide +kernel
theorem dX8_turnsTetra_56 : decode cX8_turnsTetra 56 = .ok (.iload_n 2, 1) := by decide +kernel
theorem dX8_turnsTetra_57 : decode cX8_turnsTetra 57 = .ok (.iastore, 1) := by decide +kernel
theorem dX8_turnsTetra_58 : decode cX8_turnsTetra 58 = .ok (.return_, 1) := by decide +kernel
theorem dX8_goesTetra_0 : decode cX8_goesTetra 0 = .ok (.iconst 2, 1) := by decide +kernel
theorem dX8_goesTetra_1 : decode cX8_goesTetra 1 = .ok (.aload_n 0, 1) := by decide +kernel
theorem dX8_goesTetra_2 : decode cX8_goesTetra 2 = .ok (.getfield 26, 3) := by decide +kernel
theorem dX8_goesTetra_5 : decode cX8_goesTetra 5 = .ok (.imul, 1) := by decide +kernel
theorem dX8_goesTetra_6 : decode cX8_goesTetra 6 = .ok (.istore_n 2, 1) := by decide +kernel
theorem dX8_goesTetra_7 : decode cX8_goesTetra 7 = .ok (.aload_n 0, 1) := by decide +kernel
theorem dX8_goesTetra_8 : decode cX8_goesTetra 8 = .ok (.getfield 147, 3) := by decide +kernel
theorem dX8_goesTetra_11 : decode cX8_goesTetra 11 = .ok (.iload_n 2, 1) := by decide +kernel
theorem dX8_goesTetra_12 : decode cX8_goesTetra 12 = .ok (.idiv, 1) := by decide +kernel
theorem dX8_goesTetra_13 : decode cX8_goesTetra 13 = .ok (.istore_n 3, 1) := by decide +kernel
theorem dX8_goesTetra_14 : decode cX8_goesTetra 14 = .ok (.aload_n 0, 1) := by decide +kernel
theorem dX8_goesTetra_15 : decode cX8_goesTetra 15 = .ok (.getfield 147, 3) := by decide +kernel
theorem dX8_goesTetra_18 : decode cX8_goesTetra 18 = .ok (.iload_n 2, 1) := by decide +kernel
theorem dX8_goesTetra_19 : decode cX8_goesTetra 19 = .ok (.irem, 1) := by decide +kernel
theorem dX8_goesTetra_20 : decode cX8_goesTetra 20 = .ok (.istore 4, 2) := by decide +kernel
theorem dX8_goesTetra_22 : decode cX8_goesTetra 22 = .ok (.iload_n 3, 1) := by decide +kernel
theorem dX8_goesTetra_23 : decode cX8_goesTetra 23 = .ok (.iload 4, 2) := by decide +kernel
theorem dX8_goesTetra_25 : decode cX8_goesTetra 25 = .ok (.iadd, 1) := by decide +kernel
theorem dX8_goesTetra_26 : decode cX8_goesTetra 26 = .ok (.iconst 2, 1) := by decide +kernel
theorem dX8_goesTetra_27 : decode cX8_goesTetra 27 = .ok (.irem, 1) := by decide +kernel
theorem dX8_goesTetra_28 : decode cX8_goesTetra 28 = .ok (.ifCond .ne 7, 3) := by decide +kernel
theorem dX8_goesTetra_31 : decode cX8_goesTetra 31 = .ok (.iconst 1, 1) := by decide +kernel
theorem dX8_goesTetra_32 : decode cX8_goesTetra 32 = .ok (.goto 4, 3) := by decide +kernel
theorem dX8_goesTetra_35 : decode cX8_goesTetra 35 = .ok (.iconst 0, 1) := by decide +kernel
theorem dX8_goesTetra_36 : decode cX8_goesTetra 36 = .ok (.istore 5, 2) := by decide +kernel
theorem dX8_goesTetra_38 : decode cX8_goesTetra 38 = .ok (.iload_n 1, 1) := by decide +kernel
theorem dX8_goesTetra_39 : decode cX8_goesTetra 39 = .ok (.ifCond .ne 8, 3) := by decide +kernel
theorem dX8_goesTetra_42 : decode cX8_goesTetra 42 = .ok (.iload 5, 2) := by decide +kernel
theorem dX8_goesTetra_44 : decode cX8_goesTetra 44 = .ok (.ifCond .ne 13, 3) := by decide +kernel
theorem dX8_goesTetra_47 : decode cX8_goesTetra 47 = .ok (.iload_n 1, 1) := by decide +kernel
theorem dX8_goesTetra_48 : decode cX8_goesTetra 48 = .ok (.iconst 2, 1) := by decide +kernel
theorem dX8_goesTetra_49 : decode cX8_goesTetra 49 = .ok (.if_icmp .ne 10, 3) := by decide +kernel
theorem dX8_goesTetra_52 : decode cX8_goesTetra 52 = .ok (.iload 5, 2) := by decide +kernel
theorem dX8_goesTetra_54 : decode cX8_goesTetra 54 = .ok (.ifCond .ne 5, 3) := by decide +kernel
theorem dX8_goesTetra_57 : decode cX8_goesTetra 57 = .ok (.iconst 0, 1) := by decide +kernel
theorem dX8_goesTetra_58 : decode cX8_goesTetra 58 = .ok (.ireturn, 1) := by decide +kernel
theorem dX8_goesTetra_59 : decode cX8_goesTetra 59 = .ok (.iload_n 3, 1) := by decide +kernel
theorem dX8_goesTetra_60 : decode cX8_goesTetra 60 = .ok (.iload_n 1, 1) := by decide +kernel
theorem dX8_goesTetra_61 : decode cX8_goesTetra 61 = .ok (.ifCond .ne 7, 3) := by decide +kernel
theorem dX8_goesTetra_64 : decode cX8_goesTetra 64 = .ok (.iconst (-1), 1) := by decide +kernel
theorem dX8_goesTetra_65 : decode cX8_goesTetra 65 = .ok (.goto 13, 3) := by decide +kernel
theorem dX8_goesTetra_68 : decode cX8_goesTetra 68 = .ok (.iload_n 1, 1) := by decide +kernel
theorem dX8_goesTetra_69 : decode cX8_goesTetra 69 = .ok (.iconst 2, 1) := by decide +kernel
theorem dX8_goesTetra_70 : decode cX8_goesTetra 70 = .ok (.if_icmp .ne 7, 3) := by decide +kernel
theorem dX8_goesTetra_73 : decode cX8_goesTetra 73 = .ok (.iconst 1, 1) := by decide +kernel
theorem dX8_goesTetra_74 : decode cX8_goesTetra 74 = .ok (.goto 4, 3) := by decide +kernel
theorem dX8_goesTetra_77 : decode cX8_goesTetra 77 = .ok (.iconst 0, 1) := by decide +kernel
theorem dX8_goesTetra_78 : decode cX8_goesTetra 78 = .ok (.iadd, 1) := by decide +kernel
theorem dX8_goesTetra_79 : decode cX8_goesTetra 79 = .ok (.istore_n 3, 1) := by decide +kernel
theorem dX8_goesTetra_80 : decode cX8_goesTetra 80 = .ok (.iload 4, 2) := by decide +kernel
theorem dX8_goesTetra_82 : decode cX8_goesTetra 82 = .ok (.iload_n 1, 1) := by decide +kernel
theorem dX8_goesTetra_83 : decode cX8_goesTetra 83 = .ok (.iconst 1, 1) := by decide +kernel
theorem dX8_goesTetra_84 : decode cX8_goesTetra 84 = .ok (.if_icmp .ne 7, 3) := by decide +kernel
theorem dX8_goesTetra_87 : decode cX8_goesTetra 87 = .ok (.iconst 1, 1) := by decide +kernel
theorem dX8_goesTetra_88 : decode cX8_goesTetra 88 = .ok (.goto 13, 3) := by decide +kernel
theorem dX8_goesTetra_91 : decode cX8_goesTetra 91 = .ok (.iload_n 1, 1) := by decide +kernel
theorem dX8_goesTetra_92 : decode cX8_goesTetra 92 = .ok (.iconst 3, 1) := by decide +kernel
theorem dX8_goesTetra_93 : decode cX8_goesTetra 93 = .ok (.if_icmp .ne 7, 3) := by decide +kernel
theorem dX8_goesTetra_96 : decode cX8_goesTetra 96 = .ok (.iconst (-1), 1) := by decide +kernel
theorem dX8_goesTetra_97 : decode cX8_goesTetra 97 = .ok (.goto 4, 3) := by decide +kernel
theorem dX8_goesTetra_100 : decode cX8_goesTetra 100 = .ok (.iconst 0, 1) := by decide +kernel
theorem dX8_goesTetra_101 : decode cX8_goesTetra 101 = .ok (.iadd, 1) := by decide +kernel
theorem dX8_goesTetra_102 : decode cX8_goesTetra 102 = .ok (.istore 4, 2) := by decide +kernel
theorem dX8_goesTetra_104 : decode cX8_goesTetra 104 = .ok (.iload_n 3, 1) := by decide +kernel
theorem dX8_goesTetra_105 : decode cX8_goesTetra 105 = .ok (.i2l, 1) := by decide +kernel
theorem dX8_goesTetra_106 : decode cX8_goesTetra 106 = .ok (.lconst 0, 1) := by decide +kernel
theorem dX8_goesTetra_107 : decode cX8_goesTetra 107 = .ok (.aload_n 0, 1) := by decide +kernel
theorem dX8_goesTetra_108 : decode cX8_goesTetra 108 = .ok (.getfield 23, 3) := by decide +kernel
theorem dX8_goesTetra_111 : decode cX8_goesTetra 111 = .ok (.iconst 1, 1) := by decide +kernel
theorem dX8_goesTetra_112 : decode cX8_goesTetra 112 = .ok (.isub, 1) := by decide +kernel
theorem dX8_goesTetra_113 : decode cX8_goesTetra 113 = .ok (.i2l, 1) := by decide +kernel
theorem dX8_goesTetra_114 : decode cX8_goesTetra 114 = .ok (.invokestatic 129, 3) := by decide +kernel
theorem dX8_goesTetra_117 : decode cX8_goesTetra 117 = .ok (.ifCond .eq 17, 3) := by decide +kernel
theorem dX8_goesTetra_120 : decode cX8_goesTetra 120 = .ok (.iload 4, 2) := by decide +kernel
theorem dX8_goesTetra_122 : decode cX8_goesTetra 122 = .ok (.i2l, 1) := by decide +kernel
theorem dX8_goesTetra_123 : decode cX8_goesTetra 123 = .ok (.lconst 0, 1) := by decide +kernel
theorem dX8_goesTetra_124 : decode cX8_goesTetra 124 = .ok (.iload_n 2, 1) := by decide +kernel
theorem dX8_goesTetra_125 : decode cX8_goesTetra 125 = .ok (.iconst 1, 1) := by decide +kernel
theorem dX8_goesTetra_126 : decode cX8_goesTetra 126 = .ok (.isub, 1) := by decide +kernel
theorem dX8_goesTetra_127 : decode cX8_goesTetra 127 = .ok (.i2l, 1) := by decide +kernel
theorem dX8_goesTetra_128 : decode cX8_goesTetra 128 = .ok (.invokestatic 129, 3) := by decide +kernel
theorem dX8_goesTetra_131 : decode cX8_goesTetra 131 = .ok (.ifCond .ne 5, 3) := by decide +kernel
theorem dX8_goesTetra_134 : decode cX8_goesTetra 134 = .ok (.iconst 0, 1) := by decide +kernel
theorem dX8_goesTetra_135 : decode cX8_goesTetra 135 = .ok (.ireturn, 1) := by decide +kernel
theorem dX8_goesTetra_136 : decode cX8_goesTetra 136 = .ok (.aload_n 0, 1) := by decide +kernel
theorem dX8_goesTetra_137 : decode cX8_goesTetra 137 = .ok (.iload_n 2, 1) := by decide +kernel
theorem dX8_goesTetra_138 : decode cX8_goesTetra 138 = .ok (.iload_n 3, 1) := by decide +kernel
theorem dX8_goesTetra_139 : decode cX8_goesTetra 139 = .ok (.imul, 1) := by decide +kernel
theorem dX8_goesTetra_140 : decode cX8_goesTetra 140 = .ok (.iload 4, 2) := by decide +kernel
theorem dX8_goesTetra_142 : decode cX8_goesTetra 142 = .ok (.iadd, 1) := by decide +kernel
theorem dX8_goesTetra_143 : decode cX8_goesTetra 143 = .ok (.putfield 147, 3) := by decide +kernel
theorem dX8_goesTetra_146 : decode cX8_goesTetra 146 = .ok (.aload_n 0, 1) := by decide +kernel
theorem dX8_goesTetra_147 : decode cX8_goesTetra 147 = .ok (.iload_n 1, 1) := by decide +kernel
theorem dX8_goesTetra_148 : decode cX8_goesTetra 148 = .ok (.invokevirtual 167, 3) := by decide +kernel
theorem dX8_goesTetra_151 : decode cX8_goesTetra 151 = .ok (.aload_n 0, 1) := by decide +kernel
theorem dX8_goesTetra_152 : decode cX8_goesTetra 152 = .ok (.getfield 133, 3) := by decide +kernel
theorem dX8_goesTetra_155 : decode cX8_goesTetra 155 = .ok (.iconst 5, 1) := by decide +kernel
theorem dX8_goesTetra_156 : decode cX8_goesTetra 156 = .ok (.if_icmp .ne 17, 3) := by decide +kernel
theorem dX8_goesTetra_159 : decode cX8_goesTetra 159 = .ok (.aload_n 0, 1) := by decide +kernel
theorem dX8_goesTetra_160 : decode cX8_goesTetra 160 = .ok (.getfield 32, 3) := by decide +kernel
theorem dX8_goesTetra_163 : decode cX8_goesTetra 163 = .ok (.aload_n 0, 1) := by decide +kernel
theorem dX8_goesTetra_164 : decode cX8_goesTetra 164 = .ok (.getfield 147, 3) := by decide +kernel
theorem dX8_goesTetra_167 : decode cX8_goesTetra 167 = .ok (.iconst 2, 1) := by decide +kernel
theorem dX8_goesTetra_168 : decode cX8_goesTetra 168 = .ok (.idiv, 1) := by decide +kernel
theorem dX8_goesTetra_169 : decode cX8_goesTetra 169 = .ok (.iaload, 1) := by decide +kernel
theorem dX8_goesTetra_170 : decode cX8_goesTetra 170 = .ok (.ifCond .ge 7, 3) := by decide +kernel
theorem dX8_goesTetra_173 : decode cX8_goesTetra 173 = .ok (.iconst 1, 1) := by decide +kernel
theorem dX8_goesTetra_174 : decode cX8_goesTetra 174 = .ok (.goto 4, 3) := by decide +kernel
theorem dX8_goesTetra_177 : decode cX8_goesTetra 177 = .ok (.iconst 0, 1) := by decide +kernel
theorem dX8_goesTetra_178 : decode cX8_goesTetra 178 = .ok (.ireturn, 1) := by decide +kernel
theorem dX8_goesSquare_0 : decode cX8_goesSquare 0 = .ok (.aload_n 0, 1) := by decide +kernel
theorem dX8_goesSquare_1 : decode cX8_goesSquare 1 = .ok (.getfield 147, 3) := by decide +kernel
theorem dX8_goesSquare_4 : decode cX8_goesSquare 4 = .ok (.aload_n 0, 1) := by decide +kernel
theorem dX8_goesSquare_5 : decode cX8_goesSquare 5 = .ok (.getfield 26, 3) := by decide +kernel
theorem dX8_goesSquare_8 : decode cX8_goesSquare 8 = .ok (.idiv, 1) := by decide +kernel
theorem dX8_goesSquare_9 : decode cX8_goesSquare 9 = .ok (.istore_n 2, 1) := by decide +kernel
theorem dX8_goesSquare_10 : decode cX8_goesSquare 10 = .ok (.aload_n 0, 1) := by decide +kernel
theorem dX8_goesSquare_11 : decode cX8_goesSquare 11 = .ok (.getfield 147, 3) := by decide +kernel
theorem dX8_goesSquare_14 : decode cX8_goesSquare 14 = .ok (.aload_n 0, 1) := by decide +kernel
theorem dX8_goesSquare_15 : decode cX8_goesSquare 15 = .ok (.getfield 26, 3) := by decide +kernel
theorem dX8_goesSquare_18 : decode cX8_goesSquare 18 = .ok (.irem, 1) := by decide +kernel
theorem dX8_goesSquare_19 : decode cX8_goesSquare 19 = .ok (.istore_n 3, 1) := by decide +kernel
theorem dX8_goesSquare_20 : decode cX8_goesSquare 20 = .ok (.aload_n 0, 1) := by decide +kernel
theorem dX8_goesSquare_21 : decode cX8_goesSquare 21 = .ok (.invokevirtual 154, 3) := by decide +kernel
theorem dX8_goesSquare_24 : decode cX8_goesSquare 24 = .ok (.ifCond .eq 10, 3) := by decide +kernel
theorem dX8_goesSquare_27 : decode cX8_goesSquare 27 = .ok (.aload_n 0, 1) := by decide +kernel
theorem dX8_goesSquare_28 : decode cX8_goesSquare 28 = .ok (.invokevirtual 157, 3) := by decide +kernel
theorem dX8_goesSquare_31 : decode cX8_goesSquare 31 = .ok (.goto 4, 3) := by decide +kernel
theorem dX8_goesSquare_34 : decode cX8_goesSquare 34 = .ok (.iconst 3, 1) := by decide +kernel
theorem dX8_goesSquare_35 : decode cX8_goesSquare 35 = .ok (.istore 4, 2) := by decide +kernel
theorem dX8_goesSquare_37 : decode cX8_goesSquare 37 = .ok (.iload 4, 2) := by decide +kernel
theorem dX8_goesSquare_39 : decode cX8_goesSquare 39 = .ok (.iload_n 1, 1) := by decide +kernel
theorem dX8_goesSquare_40 : decode cX8_goesSquare 40 = .ok (.iconst 2, 1) := by decide +kernel
theorem dX8_goesSquare_41 : decode cX8_goesSquare 41 = .ok (.irem, 1) := by decide +kernel
theorem dX8_goesSquare_42 : decode cX8_goesSquare 42 = .ok (.iconst 1, 1) := by decide +kernel
theorem dX8_goesSquare_43 : decode cX8_goesSquare 43 = .ok (.if_icmp .ne 7, 3) := by decide +kernel
theorem dX8_goesSquare_46 : decode cX8_goesSquare 46 = .ok (.iconst 1, 1) := by decide +kernel
theorem dX8_goesSquare_47 : decode cX8_goesSquare 47 = .ok (.goto 4, 3) := by decide +kernel
theorem dX8_goesSquare_50 : decode cX8_goesSquare 50 = .ok (.iconst 2, 1) := by decide +kernel
theorem dX8_goesSquare_51 : decode cX8_goesSquare 51 = .ok (.if_icmp .ne 7, 3) := by decide +kernel
theorem dX8_goesSquare_54 : decode cX8_goesSquare 54 = .ok (.iconst 2, 1) := by decide +kernel
theorem dX8_goesSquare_55 : decode cX8_goesSquare 55 = .ok (.goto 4, 3) := by decide +kernel
theorem dX8_goesSquare_58 : decode cX8_goesSquare 58 = .ok (.iconst 1, 1) := by decide +kernel
theorem dX8_goesSquare_59 : decode cX8_goesSquare 59 = .ok (.istore 5, 2) := by decide +kernel
theorem dX8_goesSquare_61 : decode cX8_goesSquare 61 = .ok (.iload 4, 2) := by decide +kernel
theorem dX8_goesSquare_63 : decode cX8_goesSquare 63 = .ok (.ifCond .ne 7, 3) := by decide +kernel
theorem dX8_goesSquare_66 : decode cX8_goesSquare 66 = .ok (.iconst 2, 1) := by decide +kernel
theorem dX8_goesSquare_67 : decode cX8_goesSquare 67 = .ok (.goto 4, 3) := by decide +kernel
theorem dX8_goesSquare_70 : decode cX8_goesSquare 70 = .ok (.iconst 1, 1) := by decide +kernel
theorem dX8_goesSquare_71 : decode cX8_goesSquare 71 = .ok (.istore 6, 2) := by decide +kernel
theorem dX8_goesSquare_73 : decode cX8_goesSquare 73 = .ok (.iload_n 1, 1) := by decide +kernel
theorem dX8_goesSquare_74 : decode cX8_goesSquare 74 = .ok (.ifCond .ne 8, 3) := by decide +kernel
theorem dX8_goesSquare_77 : decode cX8_goesSquare 77 = .ok (.iload_n 2, 1) := by decide +kernel
theorem dX8_goesSquare_78 : decode cX8_goesSquare 78 = .ok (.iload 6, 2) := by decide +kernel
theorem dX8_goesSquare_80 : decode cX8_goesSquare 80 = .ok (.isub, 1) := by decide +kernel
theorem dX8_goesSquare_81 : decode cX8_goesSquare 81 = .ok (.istore_n 2, 1) := by decide +kernel
theorem dX8_goesSquare_82 : decode cX8_goesSquare 82 = .ok (.iload_n 1, 1) := by decide +kernel
theorem dX8_goesSquare_83 : decode cX8_goesSquare 83 = .ok (.iconst 1, 1) := by decide +kernel
theorem dX8_goesSquare_84 : decode cX8_goesSquare 84 = .ok (.if_icmp .ne 8, 3) := by decide +kernel
theorem dX8_goesSquare_87 : decode cX8_goesSquare 87 = .ok (.iload_n 3, 1) := by decide +kernel
theorem dX8_goesSquare_88 : decode cX8_goesSquare 88 = .ok (.iload 5, 2) := by decide +kernel
theorem dX8_goesSquare_90 : decode cX8_goesSquare 90 = .ok (.iadd, 1) := by decide +kernel
theorem dX8_goesSquare_91 : decode cX8_goesSquare 91 = .ok (.istore_n 3, 1) := by decide +kernel
theorem dX8_goesSquare_92 : decode cX8_goesSquare 92 = .ok (.iload_n 1, 1) := by decide +kernel
theorem dX8_goesSquare_93 : decode cX8_goesSquare 93 = .ok (.iconst 2, 1) := by decide +kernel
theorem dX8_goesSquare_94 : decode cX8_goesSquare 94 = .ok (.if_icmp .ne 8, 3) := by decide +kernel
theorem dX8_goesSquare_97 : decode cX8_goesSquare 97 = .ok (.iload_n 2, 1) := by decide +kernel
theorem dX8_goesSquare_98 : decode cX8_goesSquare 98 = .ok (.iload 5, 2) := by decide +kernel
theorem dX8_goesSquare_100 : decode cX8_goesSquare 100 = .ok (.iadd, 1) := by decide +kernel
theorem dX8_goesSquare_101 : decode cX8_goesSquare 101 = .ok (.istore_n 2, 1) := by decide +kernel
theorem dX8_goesSquare_102 : decode cX8_goesSquare 102 = .ok (.iload_n 1, 1) := by decide +kernel
theorem dX8_goesSquare_103 : decode cX8_goesSquare 103 = .ok (.iconst 3, 1) := by decide +kernel
theorem dX8_goesSquare_104 : decode cX8_goesSquare 104 = .ok (.if_icmp .ne 8, 3) := by decide +kernel
theorem dX8_goesSquare_107 : decode cX8_goesSquare 107 = .ok (.iload_n 3, 1) := by decide +kernel
theorem dX8_goesSquare_108 : decode cX8_goesSquare 108 = .ok (.iload 6, 2) := by decide +kernel
theorem dX8_goesSquare_110 : decode cX8_goesSquare 110 = .ok (.isub, 1) := by decide +kernel
theorem dX8_goesSquare_111 : decode cX8_goesSquare 111 = .ok (.istore_n 3, 1) := by decide +kernel
theorem dX8_goesSquare_112 : decode cX8_goesSquare 112 = .ok (.iload_n 2, 1) := by decide +kernel
theorem dX8_goesSquare_113 : decode cX8_goesSquare 113 = .ok (.i2l, 1) := by decide +kernel
theorem dX8_goesSquare_114 : decode cX8_goesSquare 114 = .ok (.lconst 0, 1) := by decide +kernel
theorem dX8_goesSquare_115 : decode cX8_goesSquare 115 = .ok (.aload_n 0, 1) := by decide +kernel
theorem dX8_goesSquare_116 : decode cX8_goesSquare 116 = .ok (.getfield 23, 3) := by decide +kernel
theorem dX8_goesSquare_119 : decode cX8_goesSquare 119 = .ok (.iconst 1, 1) := by decide +kernel
theorem dX8_goesSquare_120 : decode cX8_goesSquare 120 = .ok (.isub, 1) := by decide +kernel
theorem dX8_goesSquare_121 : decode cX8_goesSquare 121 = .ok (.i2l, 1) := by decide +kernel
theorem dX8_goesSquare_122 : decode cX8_goesSquare 122 = .ok (.invokestatic 129, 3) := by decide +kernel
theorem dX8_goesSquare_125 : decode cX8_goesSquare 125 = .ok (.ifCond .eq 19, 3) := by decide +kernel
theorem dX8_goesSquare_128 : decode cX8_goesSquare 128 = .ok (.iload_n 3, 1) := by decide +kernel
theorem dX8_goesSquare_129 : decode cX8_goesSquare 129 = .ok (.i2l, 1) := by decide +kernel
theorem dX8_goesSquare_130 : decode cX8_goesSquare 130 = .ok (.lconst 0, 1) := by decide +kernel
theorem dX8_goesSquare_131 : decode cX8_goesSquare 131 = .ok (.aload_n 0, 1) := by decide +kernel
theorem dX8_goesSquare_132 : decode cX8_goesSquare 132 = .ok (.getfield 26, 3) := by decide +kernel
theorem dX8_goesSquare_135 : decode cX8_goesSquare 135 = .ok (.iconst 1, 1) := by decide +kernel
theorem dX8_goesSquare_136 : decode cX8_goesSquare 136 = .ok (.isub, 1) := by decide +kernel
theorem dX8_goesSquare_137 : decode cX8_goesSquare 137 = .ok (.i2l, 1) := by decide +kernel
theorem dX8_goesSquare_138 : decode cX8_goesSquare 138 = .ok (.invokestatic 129, 3) := by decide +kernel
theorem dX8_goesSquare_141 : decode cX8_goesSquare 141 = .ok (.ifCond .ne 5, 3) := by decide +kernel
theorem dX8_goesSquare_144 : decode cX8_goesSquare 144 = .ok (.iconst 0, 1) := by decide +kernel
theorem dX8_goesSquare_145 : decode cX8_goesSquare 145 = .ok (.ireturn, 1) := by decide +kernel
theorem dX8_goesSquare_146 : decode cX8_goesSquare 146 = .ok (.aload_n 0, 1) := by decide +kernel
theorem dX8_goesSquare_147 : decode cX8_goesSquare 147 = .ok (.aload_n 0, 1) := by decide +kernel
theorem dX8_goesSquare_148 : decode cX8_goesSquare 148 = .ok (.getfield 26, 3) := by decide +kernel
theorem dX8_goesSquare_151 : decode cX8_goesSquare 151 = .ok (.iload_n 2, 1) := by decide +kernel
theorem dX8_goesSquare_152 : decode cX8_goesSquare 152 = .ok (.imul, 1) := by decide +kernel
theorem dX8_goesSquare_153 : decode cX8_goesSquare 153 = .ok (.iload_n 3, 1) := by decide +kernel
theorem dX8_goesSquare_154 : decode cX8_goesSquare 154 = .ok (.iadd, 1) := by decide +kernel
theorem dX8_goesSquare_155 : decode cX8_goesSquare 155 = .ok (.putfield 147, 3) := by decide +kernel
theorem dX8_goesSquare_158 : decode cX8_goesSquare 158 = .ok (.aload_n 0, 1) := by decide +kernel
theorem dX8_goesSquare_159 : decode cX8_goesSquare 159 = .ok (.iload_n 1, 1) := by decide +kernel
theorem dX8_goesSquare_160 : decode cX8_goesSquare 160 = .ok (.invokevirtual 171, 3) := by decide +kernel
theorem dX8_goesSquare_163 : decode cX8_goesSquare 163 = .ok (.iconst 1, 1) := by decide +kernel
theorem dX8_goesSquare_164 : decode cX8_goesSquare 164 = .ok (.ireturn, 1) := by decide +kernel
theorem dX8_rolls_0 : decode cX8_rolls 0 = .ok (.aload_n 0, 1) := by decide +kernel
theorem dX8_rolls_1 : decode cX8_rolls 1 = .ok (.getfield 147, 3) := by decide +kernel
theorem dX8_rolls_4 : decode cX8_rolls 4 = .ok (.istore_n 2, 1) := by decide +kernel
theorem dX8_rolls_5 : decode cX8_rolls 5 = .ok (.iconst 0, 1) := by decide +kernel
theorem dX8_rolls_6 : decode cX8_rolls 6 = .ok (.istore_n 3, 1) := by decide +kernel
theorem dX8_rolls_7 : decode cX8_rolls 7 = .ok (.iload_n 3, 1) := by decide +kernel
theorem dX8_rolls_8 : decode cX8_rolls 8 = .ok (.bipush 6, 2) := by decide +kernel
theorem dX8_rolls_10 : decode cX8_rolls 10 = .ok (.if_icmp .ge 21, 3) := by decide +kernel
theorem dX8_rolls_13 : decode cX8_rolls 13 = .ok (.aload_n 0, 1) := by decide +kernel
theorem dX8_rolls_14 : decode cX8_rolls 14 = .ok (.getfield 48, 3) := by decide +kernel
theorem dX8_rolls_17 : decode cX8_rolls 17 = .ok (.iload_n 3, 1) := by decide +kernel
theorem dX8_rolls_18 : decode cX8_rolls 18 = .ok (.aload_n 0, 1) := by decide +kernel
theorem dX8_rolls_19 : decode cX8_rolls 19 = .ok (.getfield 42, 3) := by decide +kernel
theorem dX8_rolls_22 : decode cX8_rolls 22 = .ok (.iload_n 3, 1) := by decide +kernel
theorem dX8_rolls_23 : decode cX8_rolls 23 = .ok (.iaload, 1) := by decide +kernel
theorem dX8_rolls_24 : decode cX8_rolls 24 = .ok (.iastore, 1) := by decide +kernel
theorem dX8_rolls_25 : decode cX8_rolls 25 = .ok (.iinc 3 1, 3) := by decide +kernel
theorem dX8_rolls_28 : decode cX8_rolls 28 = .ok (.goto (-21), 3) := by decide +kernel
theorem dX8_rolls_31 : decode cX8_rolls 31 = .ok (.aload_n 0, 1) := by decide +kernel
theorem dX8_rolls_32 : decode cX8_rolls 32 = .ok (.invokevirtual 136, 3) := by decide +kernel
theorem dX8_rolls_35 : decode cX8_rolls 35 = .ok (.ifCond .eq 14, 3) := by decide +kernel
theorem dX8_rolls_38 : decode cX8_rolls 38 = .ok (.aload_n 0, 1) := by decide +kernel
theorem dX8_rolls_39 : decode cX8_rolls 39 = .ok (.iload_n 1, 1) := by decide +kernel
theorem dX8_rolls_40 : decode cX8_rolls 40 = .ok (.invokevirtual 174, 3) := by decide +kernel
theorem dX8_rolls_43 : decode cX8_rolls 43 = .ok (.ifCond .eq 25, 3) := by decide +kernel
theorem dX8_rolls_46 : decode cX8_rolls 46 = .ok (.goto 11, 3) := by decide +kernel
theorem dX8_rolls_49 : decode cX8_rolls 49 = .ok (.aload_n 0, 1) := by decide +kernel
theorem dX8_rolls_50 : decode cX8_rolls 50 = .ok (.iload_n 1, 1) := by decide +kernel
theorem dX8_rolls_51 : decode cX8_rolls 51 = .ok (.invokevirtual 177, 3) := by decide +kernel
theorem dX8_rolls_54 : decode cX8_rolls 54 = .ok (.ifCond .eq 14, 3) := by decide +kernel
theorem dX8_rolls_57 : decode cX8_rolls 57 = .ok (.aload_n 0, 1) := by decide +kernel
theorem dX8_rolls_58 : decode cX8_rolls 58 = .ok (.invokevirtual 180, 3) := by decide +kernel
theorem dX8_rolls_61 : decode cX8_rolls 61 = .ok (.ifCond .eq 7, 3) := by decide +kernel
theorem dX8_rolls_64 : decode cX8_rolls 64 = .ok (.iconst 1, 1) := by decide +kernel
theorem dX8_rolls_65 : decode cX8_rolls 65 = .ok (.goto 4, 3) := by decide +kernel
theorem dX8_rolls_68 : decode cX8_rolls 68 = .ok (.iconst 0, 1) := by decide +kernel
theorem dX8_rolls_69 : decode cX8_rolls 69 = .ok (.istore_n 3, 1) := by decide +kernel
theorem dX8_rolls_70 : decode cX8_rolls 70 = .ok (.iload_n 3, 1) := by decide +kernel
theorem dX8_rolls_71 : decode cX8_rolls 71 = .ok (.ifCond .ne 38, 3) := by decide +kernel
theorem dX8_rolls_74 : decode cX8_rolls 74 = .ok (.aload_n 0, 1) := by decide +kernel
theorem dX8_rolls_75 : decode cX8_rolls 75 = .ok (.iload_n 2, 1) := by decide +kernel
theorem dX8_rolls_76 : decode cX8_rolls 76 = .ok (.putfield 147, 3) := by decide +kernel
theorem dX8_rolls_79 : decode cX8_rolls 79 = .ok (.iconst 0, 1) := by decide +kernel
theorem dX8_rolls_80 : decode cX8_rolls 80 = .ok (.istore 4, 2) := by decide +kernel
theorem dX8_rolls_82 : decode cX8_rolls 82 = .ok (.iload 4, 2) := by decide +kernel
theorem dX8_rolls_84 : decode cX8_rolls 84 = .ok (.bipush 6, 2) := by decide +kernel
theorem dX8_rolls_86 : decode cX8_rolls 86 = .ok (.if_icmp .ge 23, 3) := by decide +kernel
theorem dX8_rolls_89 : decode cX8_rolls 89 = .ok (.aload_n 0, 1) := by decide +kernel
theorem dX8_rolls_90 : decode cX8_rolls 90 = .ok (.getfield 42, 3) := by decide +kernel
theorem dX8_rolls_93 : decode cX8_rolls 93 = .ok (.iload 4, 2) := by decide +kernel
theorem dX8_rolls_95 : decode cX8_rolls 95 = .ok (.aload_n 0, 1) := by decide +kernel
theorem dX8_rolls_96 : decode cX8_rolls 96 = .ok (.getfield 48, 3) := by decide +kernel
theorem dX8_rolls_99 : decode cX8_rolls 99 = .ok (.iload 4, 2) := by decide +kernel
theorem dX8_rolls_101 : decode cX8_rolls 101 = .ok (.iaload, 1) := by decide +kernel
theorem dX8_rolls_102 : decode cX8_rolls 102 = .ok (.iastore, 1) := by decide +kernel
theorem dX8_rolls_103 : decode cX8_rolls 103 = .ok (.iinc 4 1, 3) := by decide +kernel
theorem dX8_rolls_106 : decode cX8_rolls 106 = .ok (.goto (-24), 3) := by decide +kernel
theorem dX8_rolls_109 : decode cX8_rolls 109 = .ok (.iload_n 3, 1) := by decide +kernel
theorem dX8_rolls_110 : decode cX8_rolls 110 = .ok (.ireturn, 1) := by decide +kernel
theorem dX8_letter_0 : decode cX8_letter 0 = .ok (.iload_n 1, 1) := by decide +kernel
theorem dX8_letter_1 : decode cX8_letter 1 = .ok (.ifCond .ge 10, 3) := by decide +kernel
theorem dX8_letter_4 : decode cX8_letter 4 = .ok (.aload_n 0, 1) := by decide +kernel
theorem dX8_letter_5 : decode cX8_letter 5 = .ok (.bipush (-4), 2) := by decide +kernel
theorem dX8_letter_7 : decode cX8_letter 7 = .ok (.invokevirtual 13, 3) := by decide +kernel
theorem dX8_letter_10 : decode cX8_letter 10 = .ok (.ireturn, 1) := by decide +kernel
theorem dX8_letter_11 : decode cX8_letter 11 = .ok (.iload_n 1, 1) := by decide +kernel
theorem dX8_letter_12 : decode cX8_letter 12 = .ok (.sipush 255, 3) := by decide +kernel
theorem dX8_letter_15 : decode cX8_letter 15 = .ok (.if_icmp .gt 12, 3) := by decide +kernel
theorem dX8_letter_18 : decode cX8_letter 18 = .ok (.aload_n 0, 1) := by decide +kernel
theorem dX8_letter_19 : decode cX8_letter 19 = .ok (.getfield 183, 3) := by decide +kernel
theorem dX8_letter_22 : decode cX8_letter 22 = .ok (.bipush 72, 2) := by decide +kernel
theorem dX8_letter_24 : decode cX8_letter 24 = .ok (.if_icmp .ne 10, 3) := by decide +kernel
theorem dX8_letter_27 : decode cX8_letter 27 = .ok (.aload_n 0, 1) := by decide +kernel
theorem dX8_letter_28 : decode cX8_letter 28 = .ok (.bipush (-6), 2) := by decide +kernel
theorem dX8_letter_30 : decode cX8_letter 30 = .ok (.invokevirtual 13, 3) := by decide +kernel
theorem dX8_letter_33 : decode cX8_letter 33 = .ok (.ireturn, 1) := by decide +kernel
theorem dX8_letter_34 : decode cX8_letter 34 = .ok (.aload_n 0, 1) := by decide +kernel
theorem dX8_letter_35 : decode cX8_letter 35 = .ok (.getfield 51, 3) := by decide +kernel
theorem dX8_letter_38 : decode cX8_letter 38 = .ok (.aload_n 0, 1) := by decide +kernel
theorem dX8_letter_39 : decode cX8_letter 39 = .ok (.getfield 183, 3) := by decide +kernel
theorem dX8_letter_42 : decode cX8_letter 42 = .ok (.iload_n 1, 1) := by decide +kernel
theorem dX8_letter_43 : decode cX8_letter 43 = .ok (.iastore, 1) := by decide +kernel
theorem dX8_letter_44 : decode cX8_letter 44 = .ok (.aload_n 0, 1) := by decide +kernel
theorem dX8_letter_45 : decode cX8_letter 45 = .ok (.dup, 1) := by decide +kernel
theorem dX8_letter_46 : decode cX8_letter 46 = .ok (.getfield 183, 3) := by decide +kernel
theorem dX8_letter_49 : decode cX8_letter 49 = .ok (.iconst 1, 1) := by decide +kernel
theorem dX8_letter_50 : decode cX8_letter 50 = .ok (.iadd, 1) := by decide +kernel
theorem dX8_letter_51 : decode cX8_letter 51 = .ok (.putfield 183, 3) := by decide +kernel
theorem dX8_letter_54 : decode cX8_letter 54 = .ok (.aload_n 0, 1) := by decide +kernel
theorem dX8_letter_55 : decode cX8_letter 55 = .ok (.getfield 183, 3) := by decide +kernel
theorem dX8_letter_58 : decode cX8_letter 58 = .ok (.ireturn, 1) := by decide +kernel
theorem dX8_signOf_0 : decode cX8_signOf 0 = .ok (.iload_n 0, 1) := by decide +kernel
theorem dX8_signOf_1 : decode cX8_signOf 1 = .ok (.bipush 46, 2) := by decide +kernel
theorem dX8_signOf_3 : decode cX8_signOf 3 = .ok (.if_icmp .ne 7, 3) := by decide +kernel
theorem dX8_signOf_6 : decode cX8_signOf 6 = .ok (.iconst 0, 1) := by decide +kernel
theorem dX8_signOf_7 : decode cX8_signOf 7 = .ok (.goto 24, 3) := by decide +kernel
theorem dX8_signOf_10 : decode cX8_signOf 10 = .ok (.iload_n 0, 1) := by decide +kernel
theorem dX8_signOf_11 : decode cX8_signOf 11 = .ok (.bipush 35, 2) := by decide +kernel
theorem dX8_signOf_13 : decode cX8_signOf 13 = .ok (.if_icmp .ne 7, 3) := by decide +kernel
theorem dX8_signOf_16 : decode cX8_signOf 16 = .ok (.iconst 1, 1) := by decide +kernel
theorem dX8_signOf_17 : decode cX8_signOf 17 = .ok (.goto 14, 3) := by decide +kernel
theorem dX8_signOf_20 : decode cX8_signOf 20 = .ok (.iload_n 0, 1) := by decide +kernel
theorem dX8_signOf_21 : decode cX8_signOf 21 = .ok (.bipush 126, 2) := by decide +kernel
theorem dX8_signOf_23 : decode cX8_signOf 23 = .ok (.if_icmp .ne 7, 3) := by decide +kernel
theorem dX8_signOf_26 : decode cX8_signOf 26 = .ok (.iconst 2, 1) := by decide +kernel
theorem dX8_signOf_27 : decode cX8_signOf 27 = .ok (.goto 4, 3) := by decide +kernel
theorem dX8_signOf_30 : decode cX8_signOf 30 = .ok (.iconst (-1), 1) := by decide +kernel
theorem dX8_signOf_31 : decode cX8_signOf 31 = .ok (.ireturn, 1) := by decide +kernel
theorem dX8_boardFault_0 : decode cX8_boardFault 0 = .ok (.aload_n 0, 1) := by decide +kernel
theorem dX8_boardFault_1 : decode cX8_boardFault 1 = .ok (.iconst 0, 1) := by decide +kernel
theorem dX8_boardFault_2 : decode cX8_boardFault 2 = .ok (.putfield 186, 3) := by decide +kernel
theorem dX8_boardFault_5 : decode cX8_boardFault 5 = .ok (.aload_n 0, 1) := by decide +kernel
theorem dX8_boardFault_6 : decode cX8_boardFault 6 = .ok (.iconst 0, 1) := by decide +kernel
theorem dX8_boardFault_7 : decode cX8_boardFault 7 = .ok (.putfield 189, 3) := by decide +kernel
theorem dX8_boardFault_10 : decode cX8_boardFault 10 = .ok (.iconst 0, 1) := by decide +kernel
theorem dX8_boardFault_11 : decode cX8_boardFault 11 = .ok (.istore_n 1, 1) := by decide +kernel
theorem dX8_boardFault_12 : decode cX8_boardFault 12 = .ok (.iconst 0, 1) := by decide +kernel
theorem dX8_boardFault_13 : decode cX8_boardFault 13 = .ok (.istore_n 2, 1) := by decide +kernel
theorem dX8_boardFault_14 : decode cX8_boardFault 14 = .ok (.iload_n 2, 1) := by decide +kernel
theorem dX8_boardFault_15 : decode cX8_boardFault 15 = .ok (.aload_n 0, 1) := by decide +kernel
theorem dX8_boardFault_16 : decode cX8_boardFault 16 = .ok (.getfield 183, 3) := by decide +kernel
theorem dX8_boardFault_19 : decode cX8_boardFault 19 = .ok (.if_icmp .ge 104, 3) := by decide +kernel
theorem dX8_boardFault_22 : decode cX8_boardFault 22 = .ok (.aload_n 0, 1) := by decide +kernel
theorem dX8_boardFault_23 : decode cX8_boardFault 23 = .ok (.getfield 51, 3) := by decide +kernel
theorem dX8_boardFault_26 : decode cX8_boardFault 26 = .ok (.iload_n 2, 1) := by decide +kernel
theorem dX8_boardFault_27 : decode cX8_boardFault 27 = .ok (.iaload, 1) := by decide +kernel
theorem dX8_boardFault_28 : decode cX8_boardFault 28 = .ok (.istore_n 3, 1) := by decide +kernel
theorem dX8_boardFault_29 : decode cX8_boardFault 29 = .ok (.iload_n 3, 1) := by decide +kernel
theorem dX8_boardFault_30 : decode cX8_boardFault 30 = .ok (.bipush 59, 2) := by decide +kernel
theorem dX8_boardFault_32 : decode cX8_boardFault 32 = .ok (.if_icmp .ne 44, 3) := by decide +kernel
theorem dX8_boardFault_35 : decode cX8_boardFault 35 = .ok (.iload_n 1, 1) := by decide +kernel
theorem dX8_boardFault_36 : decode cX8_boardFault 36 = .ok (.ifCond .eq 18, 3) := by decide +kernel
theorem dX8_boardFault_39 : decode cX8_boardFault 39 = .ok (.aload_n 0, 1) := by decide +kernel
theorem dX8_boardFault_40 : decode cX8_boardFault 40 = .ok (.getfield 186, 3) := by decide +kernel
theorem dX8_boardFault_43 : decode cX8_boardFault 43 = .ok (.ifCond .le 13, 3) := by decide +kernel
theorem dX8_boardFault_46 : decode cX8_boardFault 46 = .ok (.iload_n 1, 1) := by decide +kernel
theorem dX8_boardFault_47 : decode cX8_boardFault 47 = .ok (.aload_n 0, 1) := by decide +kernel
theorem dX8_boardFault_48 : decode cX8_boardFault 48 = .ok (.getfield 189, 3) := by decide +kernel
theorem dX8_boardFault_51 : decode cX8_boardFault 51 = .ok (.if_icmp .eq 5, 3) := by decide +kernel
theorem dX8_boardFault_54 : decode cX8_boardFault 54 = .ok (.iload_n 2, 1) := by decide +kernel
theorem dX8_boardFault_55 : decode cX8_boardFault 55 = .ok (.ireturn, 1) := by decide +kernel
theorem dX8_boardFault_56 : decode cX8_boardFault 56 = .ok (.aload_n 0, 1) := by decide +kernel
theorem dX8_boardFault_57 : decode cX8_boardFault 57 = .ok (.iload_n 1, 1) := by decide +kernel
theorem dX8_boardFault_58 : decode cX8_boardFault 58 = .ok (.putfield 189, 3) := by decide +kernel
theorem dX8_boardFault_61 : decode cX8_boardFault 61 = .ok (.aload_n 0, 1) := by decide +kernel
theorem dX8_boardFault_62 : decode cX8_boardFault 62 = .ok (.dup, 1) := by decide +kernel
theorem dX8_boardFault_63 : decode cX8_boardFault 63 = .ok (.getfield 186, 3) := by decide +kernel
theorem dX8_boardFault_66 : decode cX8_boardFault 66 = .ok (.iconst 1, 1) := by decide +kernel
theorem dX8_boardFault_67 : decode cX8_boardFault 67 = .ok (.iadd, 1) := by decide +kernel
theorem dX8_boardFault_68 : decode cX8_boardFault 68 = .ok (.putfield 186, 3) := by decide +kernel
theorem dX8_boardFault_71 : decode cX8_boardFault 71 = .ok (.iconst 0, 1) := by decide +kernel
theorem dX8_boardFault_72 : decode cX8_boardFault 72 = .ok (.istore_n 1, 1) := by decide +kernel
theorem dX8_boardFault_73 : decode cX8_boardFault 73 = .ok (.goto 44, 3) := by decide +kernel
theorem dX8_boardFault_76 : decode cX8_boardFault 76 = .ok (.iload_n 3, 1) := by decide +kernel
theorem dX8_boardFault_77 : decode cX8_boardFault 77 = .ok (.invokestatic 192, 3) := by decide +kernel
theorem dX8_boardFault_80 : decode cX8_boardFault 80 = .ok (.ifCond .lt 32, 3) := by decide +kernel
theorem dX8_boardFault_83 : decode cX8_boardFault 83 = .ok (.aload_n 0, 1) := by decide +kernel
theorem dX8_boardFault_84 : decode cX8_boardFault 84 = .ok (.getfield 186, 3) := by decide +kernel
theorem dX8_boardFault_87 : decode cX8_boardFault 87 = .ok (.bipush 6, 2) := by decide +kernel
theorem dX8_boardFault_89 : decode cX8_boardFault 89 = .ok (.if_icmp .eq 23, 3) := by decide +kernel
theorem dX8_boardFault_92 : decode cX8_boardFault 92 = .ok (.iload_n 1, 1) := by decide +kernel
theorem dX8_boardFault_93 : decode cX8_boardFault 93 = .ok (.aload_n 0, 1) := by decide +kernel
theorem dX8_boardFault_94 : decode cX8_boardFault 94 = .ok (.getfield 186, 3) := by decide +kernel
theorem dX8_boardFault_97 : decode cX8_boardFault 97 = .ok (.ifCond .ne 8, 3) := by decide +kernel
theorem dX8_boardFault_100 : decode cX8_boardFault 100 = .ok (.bipush 6, 2) := by decide +kernel
theorem dX8_boardFault_102 : decode cX8_boardFault 102 = .ok (.goto 7, 3) := by decide +kernel
theorem dX8_boardFault_105 : decode cX8_boardFault 105 = .ok (.aload_n 0, 1) := by decide +kernel
theorem dX8_boardFault_106 : decode cX8_boardFault 106 = .ok (.getfield 189, 3) := by decide +kernel
theorem dX8_boardFault_109 : decode cX8_boardFault 109 = .ok (.if_icmp .ne 5, 3) := by decide +kernel
theorem dX8_boardFault_112 : decode cX8_boardFault 112 = .ok (.iload_n 2, 1) := by decide +kernel
theorem dX8_boardFault_113 : decode cX8_boardFault 113 = .ok (.ireturn, 1) := by decide +kernel
theorem dX8_boardFault_114 : decode cX8_boardFault 114 = .ok (.iinc 1 1, 3) := by decide +kernel
theorem dX8_boardFault_117 : decode cX8_boardFault 117 = .ok (.iinc 2 1, 3) := by decide +kernel
theorem dX8_boardFault_120 : decode cX8_boardFault 120 = .ok (.goto (-106), 3) := by decide +kernel
theorem dX8_boardFault_123 : decode cX8_boardFault 123 = .ok (.aload_n 0, 1) := by decide +kernel
theorem dX8_boardFault_124 : decode cX8_boardFault 124 = .ok (.getfield 186, 3) := by decide +kernel
theorem dX8_boardFault_127 : decode cX8_boardFault 127 = .ok (.ifCond .eq 7, 3) := by decide +kernel
theorem dX8_boardFault_130 : decode cX8_boardFault 130 = .ok (.iload_n 1, 1) := by decide +kernel
theorem dX8_boardFault_131 : decode cX8_boardFault 131 = .ok (.ifCond .le 10, 3) := by decide +kernel
theorem dX8_boardFault_134 : decode cX8_boardFault 134 = .ok (.aload_n 0, 1) := by decide +kernel
theorem dX8_boardFault_135 : decode cX8_boardFault 135 = .ok (.getfield 183, 3) := by decide +kernel
theorem dX8_boardFault_138 : decode cX8_boardFault 138 = .ok (.goto 4, 3) := by decide +kernel
theorem dX8_boardFault_141 : decode cX8_boardFault 141 = .ok (.iconst (-1), 1) := by decide +kernel
theorem dX8_boardFault_142 : decode cX8_boardFault 142 = .ok (.ireturn, 1) := by decide +kernel
theorem dX8_placesAt_0 : decode cX8_placesAt 0 = .ok (.aload_n 0, 1) := by decide +kernel
theorem dX8_placesAt_1 : decode cX8_placesAt 1 = .ok (.iload_n 1, 1) := by decide +kernel
theorem dX8_placesAt_2 : decode cX8_placesAt 2 = .ok (.putfield 147, 3) := by decide +kernel
theorem dX8_placesAt_5 : decode cX8_placesAt 5 = .ok (.iconst 0, 1) := by decide +kernel
theorem dX8_placesAt_6 : decode cX8_placesAt 6 = .ok (.istore_n 2, 1) := by decide +kernel
theorem dX8_placesAt_7 : decode cX8_placesAt 7 = .ok (.iload_n 2, 1) := by decide +kernel
theorem dX8_placesAt_8 : decode cX8_placesAt 8 = .ok (.bipush 6, 2) := by decide +kernel
theorem dX8_placesAt_10 : decode cX8_placesAt 10 = .ok (.if_icmp .ge 16, 3) := by decide +kernel
theorem dX8_placesAt_13 : decode cX8_placesAt 13 = .ok (.aload_n 0, 1) := by decide +kernel
theorem dX8_placesAt_14 : decode cX8_placesAt 14 = .ok (.getfield 42, 3) := by decide +kernel
theorem dX8_placesAt_17 : decode cX8_placesAt 17 = .ok (.iload_n 2, 1) := by decide +kernel
theorem dX8_placesAt_18 : decode cX8_placesAt 18 = .ok (.iload_n 2, 1) := by decide +kernel
theorem dX8_placesAt_19 : decode cX8_placesAt 19 = .ok (.iastore, 1) := by decide +kernel
theorem dX8_placesAt_20 : decode cX8_placesAt 20 = .ok (.iinc 2 1, 3) := by decide +kernel
theorem dX8_placesAt_23 : decode cX8_placesAt 23 = .ok (.goto (-16), 3) := by decide +kernel
theorem dX8_placesAt_26 : decode cX8_placesAt 26 = .ok (.return_, 1) := by decide +kernel
theorem dX8_board_0 : decode cX8_board 0 = .ok (.aload_n 0, 1) := by decide +kernel
theorem dX8_board_1 : decode cX8_board 1 = .ok (.invokevirtual 195, 3) := by decide +kernel
theorem dX8_board_4 : decode cX8_board 4 = .ok (.istore_n 1, 1) := by decide +kernel
theorem dX8_board_5 : decode cX8_board 5 = .ok (.iload_n 1, 1) := by decide +kernel
theorem dX8_board_6 : decode cX8_board 6 = .ok (.ifCond .lt 14, 3) := by decide +kernel
theorem dX8_board_9 : decode cX8_board 9 = .ok (.aload_n 0, 1) := by decide +kernel
theorem dX8_board_10 : decode cX8_board 10 = .ok (.iconst 0, 1) := by decide +kernel
theorem dX8_board_11 : decode cX8_board 11 = .ok (.putfield 183, 3) := by decide +kernel
theorem dX8_board_14 : decode cX8_board 14 = .ok (.sipush (-1000), 3) := by decide +kernel
theorem dX8_board_17 : decode cX8_board 17 = .ok (.iload_n 1, 1) := by decide +kernel
theorem dX8_board_18 : decode cX8_board 18 = .ok (.isub, 1) := by decide +kernel
theorem dX8_board_19 : decode cX8_board 19 = .ok (.ireturn, 1) := by decide +kernel
theorem dX8_board_20 : decode cX8_board 20 = .ok (.aload_n 0, 1) := by decide +kernel
theorem dX8_board_21 : decode cX8_board 21 = .ok (.aload_n 0, 1) := by decide +kernel
theorem dX8_board_22 : decode cX8_board 22 = .ok (.getfield 186, 3) := by decide +kernel
theorem dX8_board_25 : decode cX8_board 25 = .ok (.putfield 23, 3) := by decide +kernel
theorem dX8_board_28 : decode cX8_board 28 = .ok (.aload_n 0, 1) := by decide +kernel
theorem dX8_board_29 : decode cX8_board 29 = .ok (.aload_n 0, 1) := by decide +kernel
theorem dX8_board_30 : decode cX8_board 30 = .ok (.getfield 189, 3) := by decide +kernel
theorem dX8_board_33 : decode cX8_board 33 = .ok (.putfield 26, 3) := by decide +kernel
theorem dX8_board_36 : decode cX8_board 36 = .ok (.iconst 0, 1) := by decide +kernel
theorem dX8_board_37 : decode cX8_board 37 = .ok (.istore_n 2, 1) := by decide +kernel
theorem dX8_board_38 : decode cX8_board 38 = .ok (.iconst 0, 1) := by decide +kernel
theorem dX8_board_39 : decode cX8_board 39 = .ok (.istore_n 3, 1) := by decide +kernel
theorem dX8_board_40 : decode cX8_board 40 = .ok (.iload_n 3, 1) := by decide +kernel
theorem dX8_board_41 : decode cX8_board 41 = .ok (.aload_n 0, 1) := by decide +kernel
theorem dX8_board_42 : decode cX8_board 42 = .ok (.getfield 183, 3) := by decide +kernel
theorem dX8_board_45 : decode cX8_board 45 = .ok (.if_icmp .ge 41, 3) := by decide +kernel
theorem dX8_board_48 : decode cX8_board 48 = .ok (.aload_n 0, 1) := by decide +kernel
theorem dX8_board_49 : decode cX8_board 49 = .ok (.getfield 51, 3) := by decide +kernel
theorem dX8_board_52 : decode cX8_board 52 = .ok (.iload_n 3, 1) := by decide +kernel
theorem dX8_board_53 : decode cX8_board 53 = .ok (.iaload, 1) := by decide +kernel
theorem dX8_board_54 : decode cX8_board 54 = .ok (.bipush 59, 2) := by decide +kernel
theorem dX8_board_56 : decode cX8_board 56 = .ok (.if_icmp .ne 6, 3) := by decide +kernel
theorem dX8_board_59 : decode cX8_board 59 = .ok (.goto 21, 3) := by decide +kernel
theorem dX8_board_62 : decode cX8_board 62 = .ok (.aload_n 0, 1) := by decide +kernel
theorem dX8_board_63 : decode cX8_board 63 = .ok (.getfield 29, 3) := by decide +kernel
theorem dX8_board_66 : decode cX8_board 66 = .ok (.iload_n 2, 1) := by decide +kernel
theorem dX8_board_67 : decode cX8_board 67 = .ok (.aload_n 0, 1) := by decide +kernel
theorem dX8_board_68 : decode cX8_board 68 = .ok (.getfield 51, 3) := by decide +kernel
theorem dX8_board_71 : decode cX8_board 71 = .ok (.iload_n 3, 1) := by decide +kernel
theorem dX8_board_72 : decode cX8_board 72 = .ok (.iaload, 1) := by decide +kernel
theorem dX8_board_73 : decode cX8_board 73 = .ok (.invokestatic 192, 3) := by decide +kernel
theorem dX8_board_76 : decode cX8_board 76 = .ok (.iastore, 1) := by decide +kernel
theorem dX8_board_77 : decode cX8_board 77 = .ok (.iinc 2 1, 3) := by decide +kernel
theorem dX8_board_80 : decode cX8_board 80 = .ok (.iinc 3 1, 3) := by decide +kernel
theorem dX8_board_83 : decode cX8_board 83 = .ok (.goto (-43), 3) := by decide +kernel
theorem dX8_board_86 : decode cX8_board 86 = .ok (.iconst 0, 1) := by decide +kernel
theorem dX8_board_87 : decode cX8_board 87 = .ok (.istore_n 3, 1) := by decide +kernel
theorem dX8_board_88 : decode cX8_board 88 = .ok (.iload_n 3, 1) := by decide +kernel
theorem dX8_board_89 : decode cX8_board 89 = .ok (.bipush 36, 2) := by decide +kernel
theorem dX8_board_91 : decode cX8_board 91 = .ok (.if_icmp .ge 16, 3) := by decide +kernel
theorem dX8_board_94 : decode cX8_board 94 = .ok (.aload_n 0, 1) := by decide +kernel
theorem dX8_board_95 : decode cX8_board 95 = .ok (.getfield 32, 3) := by decide +kernel
theorem dX8_board_98 : decode cX8_board 98 = .ok (.iload_n 3, 1) := by decide +kernel
theorem dX8_board_99 : decode cX8_board 99 = .ok (.iconst (-1), 1) := by decide +kernel
theorem dX8_board_100 : decode cX8_board 100 = .ok (.iastore, 1) := by decide +kernel
theorem dX8_board_101 : decode cX8_board 101 = .ok (.iinc 3 1, 3) := by decide +kernel
theorem dX8_board_104 : decode cX8_board 104 = .ok (.goto (-16), 3) := by decide +kernel
theorem dX8_board_107 : decode cX8_board 107 = .ok (.aload_n 0, 1) := by decide +kernel
theorem dX8_board_108 : decode cX8_board 108 = .ok (.iconst 0, 1) := by decide +kernel
theorem dX8_board_109 : decode cX8_board 109 = .ok (.putfield 183, 3) := by decide +kernel
theorem dX8_board_112 : decode cX8_board 112 = .ok (.aload_n 0, 1) := by decide +kernel
theorem dX8_board_113 : decode cX8_board 113 = .ok (.iconst 0, 1) := by decide +kernel
theorem dX8_board_114 : decode cX8_board 114 = .ok (.putfield 198, 3) := by decide +kernel
theorem dX8_board_117 : decode cX8_board 117 = .ok (.aload_n 0, 1) := by decide +kernel
theorem dX8_board_118 : decode cX8_board 118 = .ok (.iconst 0, 1) := by decide +kernel
theorem dX8_board_119 : decode cX8_board 119 = .ok (.invokevirtual 201, 3) := by decide +kernel
theorem dX8_board_122 : decode cX8_board 122 = .ok (.aload_n 0, 1) := by decide +kernel
theorem dX8_board_123 : decode cX8_board 123 = .ok (.aload_n 0, 1) := by decide +kernel
theorem dX8_board_124 : decode cX8_board 124 = .ok (.invokevirtual 180, 3) := by decide +kernel
theorem dX8_board_127 : decode cX8_board 127 = .ok (.putfield 38, 3) := by decide +kernel
theorem dX8_board_130 : decode cX8_board 130 = .ok (.aload_n 0, 1) := by decide +kernel
theorem dX8_board_131 : decode cX8_board 131 = .ok (.invokevirtual 125, 3) := by decide +kernel
theorem dX8_board_134 : decode cX8_board 134 = .ok (.ireturn, 1) := by decide +kernel
theorem dX8_isUnder_0 : decode cX8_isUnder 0 = .ok (.aload_n 0, 1) := by decide +kernel
theorem dX8_isUnder_1 : decode cX8_isUnder 1 = .ok (.invokevirtual 160, 3) := by decide +kernel
theorem dX8_isUnder_4 : decode cX8_isUnder 4 = .ok (.ifCond .eq 17, 3) := by decide +kernel
theorem dX8_isUnder_7 : decode cX8_isUnder 7 = .ok (.aload_n 0, 1) := by decide +kernel
theorem dX8_isUnder_8 : decode cX8_isUnder 8 = .ok (.getfield 45, 3) := by decide +kernel
theorem dX8_isUnder_11 : decode cX8_isUnder 11 = .ok (.iconst 0, 1) := by decide +kernel
theorem dX8_isUnder_12 : decode cX8_isUnder 12 = .ok (.iaload, 1) := by decide +kernel
theorem dX8_isUnder_13 : decode cX8_isUnder 13 = .ok (.iload_n 1, 1) := by decide +kernel
theorem dX8_isUnder_14 : decode cX8_isUnder 14 = .ok (.if_icmp .ne 7, 3) := by decide +kernel
theorem dX8_isUnder_17 : decode cX8_isUnder 17 = .ok (.iconst 1, 1) := by decide +kernel
theorem dX8_isUnder_18 : decode cX8_isUnder 18 = .ok (.goto 4, 3) := by decide +kernel
theorem dX8_isUnder_21 : decode cX8_isUnder 21 = .ok (.iconst 0, 1) := by decide +kernel
theorem dX8_isUnder_22 : decode cX8_isUnder 22 = .ok (.istore_n 2, 1) := by decide +kernel
theorem dX8_isUnder_23 : decode cX8_isUnder 23 = .ok (.iload_n 2, 1) := by decide +kernel
theorem dX8_isUnder_24 : decode cX8_isUnder 24 = .ok (.ifCond .ne 21, 3) := by decide +kernel
theorem dX8_isUnder_27 : decode cX8_isUnder 27 = .ok (.aload_n 0, 1) := by decide +kernel
theorem dX8_isUnder_28 : decode cX8_isUnder 28 = .ok (.getfield 144, 3) := by decide +kernel
theorem dX8_isUnder_31 : decode cX8_isUnder 31 = .ok (.iconst 2, 1) := by decide +kernel
theorem dX8_isUnder_32 : decode cX8_isUnder 32 = .ok (.if_icmp .ne 17, 3) := by decide +kernel
theorem dX8_isUnder_35 : decode cX8_isUnder 35 = .ok (.aload_n 0, 1) := by decide +kernel
theorem dX8_isUnder_36 : decode cX8_isUnder 36 = .ok (.getfield 45, 3) := by decide +kernel
theorem dX8_isUnder_39 : decode cX8_isUnder 39 = .ok (.iconst 1, 1) := by decide +kernel
theorem dX8_isUnder_40 : decode cX8_isUnder 40 = .ok (.iaload, 1) := by decide +kernel
theorem dX8_isUnder_41 : decode cX8_isUnder 41 = .ok (.iload_n 1, 1) := by decide +kernel
theorem dX8_isUnder_42 : decode cX8_isUnder 42 = .ok (.if_icmp .ne 7, 3) := by decide +kernel
theorem dX8_isUnder_45 : decode cX8_isUnder 45 = .ok (.iconst 1, 1) := by decide +kernel
theorem dX8_isUnder_46 : decode cX8_isUnder 46 = .ok (.goto 4, 3) := by decide +kernel
theorem dX8_isUnder_49 : decode cX8_isUnder 49 = .ok (.iconst 0, 1) := by decide +kernel
theorem dX8_isUnder_50 : decode cX8_isUnder 50 = .ok (.ireturn, 1) := by decide +kernel
theorem dX8_tile_0 : decode cX8_tile 0 = .ok (.aload_n 0, 1) := by decide +kernel
theorem dX8_tile_1 : decode cX8_tile 1 = .ok (.iload_n 1, 1) := by decide +kernel
theorem dX8_tile_2 : decode cX8_tile 2 = .ok (.invokevirtual 150, 3) := by decide +kernel
theorem dX8_tile_5 : decode cX8_tile 5 = .ok (.ifCond .ne 9, 3) := by decide +kernel
theorem dX8_tile_8 : decode cX8_tile 8 = .ok (.aload_n 0, 1) := by decide +kernel
theorem dX8_tile_9 : decode cX8_tile 9 = .ok (.iconst (-1), 1) := by decide +kernel
theorem dX8_tile_10 : decode cX8_tile 10 = .ok (.invokevirtual 13, 3) := by decide +kernel
theorem dX8_tile_13 : decode cX8_tile 13 = .ok (.ireturn, 1) := by decide +kernel
theorem dX8_tile_14 : decode cX8_tile 14 = .ok (.iload_n 2, 1) := by decide +kernel
theorem dX8_tile_15 : decode cX8_tile 15 = .ok (.i2l, 1) := by decide +kernel
theorem dX8_tile_16 : decode cX8_tile 16 = .ok (.lconst 0, 1) := by decide +kernel
theorem dX8_tile_17 : decode cX8_tile 17 = .ok (.ldc2_w 204, 3) := by decide +kernel
theorem dX8_tile_20 : decode cX8_tile 20 = .ok (.invokestatic 129, 3) := by decide +kernel
theorem dX8_tile_23 : decode cX8_tile 23 = .ok (.ifCond .ne 10, 3) := by decide +kernel
theorem dX8_tile_26 : decode cX8_tile 26 = .ok (.aload_n 0, 1) := by decide +kernel
theorem dX8_tile_27 : decode cX8_tile 27 = .ok (.bipush (-2), 2) := by decide +kernel
theorem dX8_tile_29 : decode cX8_tile 29 = .ok (.invokevirtual 13, 3) := by decide +kernel
theorem dX8_tile_32 : decode cX8_tile 32 = .ok (.ireturn, 1) := by decide +kernel
theorem dX8_tile_33 : decode cX8_tile 33 = .ok (.aload_n 0, 1) := by decide +kernel
theorem dX8_tile_34 : decode cX8_tile 34 = .ok (.getfield 29, 3) := by decide +kernel
theorem dX8_tile_37 : decode cX8_tile 37 = .ok (.iload_n 1, 1) := by decide +kernel
theorem dX8_tile_38 : decode cX8_tile 38 = .ok (.iaload, 1) := by decide +kernel
theorem dX8_tile_39 : decode cX8_tile 39 = .ok (.istore_n 3, 1) := by decide +kernel
theorem dX8_tile_40 : decode cX8_tile 40 = .ok (.aload_n 0, 1) := by decide +kernel
theorem dX8_tile_41 : decode cX8_tile 41 = .ok (.getfield 29, 3) := by decide +kernel
theorem dX8_tile_44 : decode cX8_tile 44 = .ok (.iload_n 1, 1) := by decide +kernel
theorem dX8_tile_45 : decode cX8_tile 45 = .ok (.iload_n 2, 1) := by decide +kernel
theorem dX8_tile_46 : decode cX8_tile 46 = .ok (.iastore, 1) := by decide +kernel
theorem dX8_tile_47 : decode cX8_tile 47 = .ok (.aload_n 0, 1) := by decide +kernel
theorem dX8_tile_48 : decode cX8_tile 48 = .ok (.getfield 38, 3) := by decide +kernel
theorem dX8_tile_51 : decode cX8_tile 51 = .ok (.ifCond .eq 58, 3) := by decide +kernel
theorem dX8_tile_54 : decode cX8_tile 54 = .ok (.aload_n 0, 1) := by decide +kernel
theorem dX8_tile_55 : decode cX8_tile 55 = .ok (.iload_n 1, 1) := by decide +kernel
theorem dX8_tile_56 : decode cX8_tile 56 = .ok (.invokevirtual 206, 3) := by decide +kernel
theorem dX8_tile_59 : decode cX8_tile 59 = .ok (.ifCond .eq 50, 3) := by decide +kernel
theorem dX8_tile_62 : decode cX8_tile 62 = .ok (.iload_n 2, 1) := by decide +kernel
theorem dX8_tile_63 : decode cX8_tile 63 = .ok (.iconst 1, 1) := by decide +kernel
theorem dX8_tile_64 : decode cX8_tile 64 = .ok (.if_icmp .eq 31, 3) := by decide +kernel
theorem dX8_tile_67 : decode cX8_tile 67 = .ok (.iload_n 2, 1) := by decide +kernel
theorem dX8_tile_68 : decode cX8_tile 68 = .ok (.iconst 2, 1) := by decide +kernel
theorem dX8_tile_69 : decode cX8_tile 69 = .ok (.if_icmp .ne 40, 3) := by decide +kernel
theorem dX8_tile_72 : decode cX8_tile 72 = .ok (.aload_n 0, 1) := by decide +kernel
theorem dX8_tile_73 : decode cX8_tile 73 = .ok (.getfield 133, 3) := by decide +kernel
theorem dX8_tile_76 : decode cX8_tile 76 = .ok (.iconst 1, 1) := by decide +kernel
theorem dX8_tile_77 : decode cX8_tile 77 = .ok (.if_icmp .eq 18, 3) := by decide +kernel
theorem dX8_tile_80 : decode cX8_tile 80 = .ok (.aload_n 0, 1) := by decide +kernel
theorem dX8_tile_81 : decode cX8_tile 81 = .ok (.getfield 133, 3) := by decide +kernel
theorem dX8_tile_84 : decode cX8_tile 84 = .ok (.iconst 3, 1) := by decide +kernel
theorem dX8_tile_85 : decode cX8_tile 85 = .ok (.if_icmp .ne 24, 3) := by decide +kernel
theorem dX8_tile_88 : decode cX8_tile 88 = .ok (.aload_n 0, 1) := by decide +kernel
theorem dX8_tile_89 : decode cX8_tile 89 = .ok (.invokevirtual 157, 3) := by decide +kernel
theorem dX8_tile_92 : decode cX8_tile 92 = .ok (.ifCond .eq 17, 3) := by decide +kernel
theorem dX8_tile_95 : decode cX8_tile 95 = .ok (.aload_n 0, 1) := by decide +kernel
theorem dX8_tile_96 : decode cX8_tile 96 = .ok (.getfield 29, 3) := by decide +kernel
theorem dX8_tile_99 : decode cX8_tile 99 = .ok (.iload_n 1, 1) := by decide +kernel
theorem dX8_tile_100 : decode cX8_tile 100 = .ok (.iload_n 3, 1) := by decide +kernel
theorem dX8_tile_101 : decode cX8_tile 101 = .ok (.iastore, 1) := by decide +kernel
theorem dX8_tile_102 : decode cX8_tile 102 = .ok (.aload_n 0, 1) := by decide +kernel
theorem dX8_tile_103 : decode cX8_tile 103 = .ok (.bipush (-3), 2) := by decide +kernel
theorem dX8_tile_105 : decode cX8_tile 105 = .ok (.invokevirtual 13, 3) := by decide +kernel
theorem dX8_tile_108 : decode cX8_tile 108 = .ok (.ireturn, 1) := by decide +kernel
theorem dX8_tile_109 : decode cX8_tile 109 = .ok (.iload_n 3, 1) := by decide +kernel
theorem dX8_tile_110 : decode cX8_tile 110 = .ok (.ireturn, 1) := by decide +kernel
theorem dX8_of_0 : decode cX8_of 0 = .ok (.aload_n 0, 1) := by decide +kernel
theorem dX8_of_1 : decode cX8_of 1 = .ok (.iload_n 1, 1) := by decide +kernel
theorem dX8_of_2 : decode cX8_of 2 = .ok (.invokevirtual 150, 3) := by decide +kernel
theorem dX8_of_5 : decode cX8_of 5 = .ok (.ifCond .ne 9, 3) := by decide +kernel
theorem dX8_of_8 : decode cX8_of 8 = .ok (.aload_n 0, 1) := by decide +kernel
theorem dX8_of_9 : decode cX8_of 9 = .ok (.iconst (-1), 1) := by decide +kernel
theorem dX8_of_10 : decode cX8_of 10 = .ok (.invokevirtual 13, 3) := by decide +kernel
theorem dX8_of_13 : decode cX8_of 13 = .ok (.ireturn, 1) := by decide +kernel
theorem dX8_of_14 : decode cX8_of 14 = .ok (.iload_n 2, 1) := by decide +kernel
theorem dX8_of_15 : decode cX8_of 15 = .ok (.i2l, 1) := by decide +kernel
theorem dX8_of_16 : decode cX8_of 16 = .ok (.lconst 0, 1) := by decide +kernel
theorem dX8_of_17 : decode cX8_of 17 = .ok (.lconst 1, 1) := by decide +kernel
theorem dX8_of_18 : decode cX8_of 18 = .ok (.invokestatic 129, 3) := by decide +kernel
theorem dX8_of_21 : decode cX8_of 21 = .ok (.ifCond .ne 10, 3) := by decide +kernel
theorem dX8_of_24 : decode cX8_of 24 = .ok (.aload_n 0, 1) := by decide +kernel
theorem dX8_of_25 : decode cX8_of 25 = .ok (.bipush (-2), 2) := by decide +kernel
theorem dX8_of_27 : decode cX8_of 27 = .ok (.invokevirtual 13, 3) := by decide +kernel
theorem dX8_of_30 : decode cX8_of 30 = .ok (.ireturn, 1) := by decide +kernel
theorem dX8_of_31 : decode cX8_of 31 = .ok (.iload_n 2, 1) := by decide +kernel
theorem dX8_of_32 : decode cX8_of 32 = .ok (.ifCond .ne 12, 3) := by decide +kernel
theorem dX8_of_35 : decode cX8_of 35 = .ok (.aload_n 0, 1) := by decide +kernel
theorem dX8_of_36 : decode cX8_of 36 = .ok (.getfield 29, 3) := by decide +kernel
theorem dX8_of_39 : decode cX8_of 39 = .ok (.iload_n 1, 1) := by decide +kernel
theorem dX8_of_40 : decode cX8_of 40 = .ok (.iaload, 1) := by decide +kernel
theorem dX8_of_41 : decode cX8_of 41 = .ok (.goto 23, 3) := by decide +kernel
theorem dX8_of_44 : decode cX8_of 44 = .ok (.aload_n 0, 1) := by decide +kernel
theorem dX8_of_45 : decode cX8_of 45 = .ok (.getfield 32, 3) := by decide +kernel
theorem dX8_of_48 : decode cX8_of 48 = .ok (.iload_n 1, 1) := by decide +kernel
theorem dX8_of_49 : decode cX8_of 49 = .ok (.iaload, 1) := by decide +kernel
theorem dX8_of_50 : decode cX8_of 50 = .ok (.ifCond .ge 8, 3) := by decide +kernel
theorem dX8_of_53 : decode cX8_of 53 = .ok (.bipush (-9), 2) := by decide +kernel
theorem dX8_of_55 : decode cX8_of 55 = .ok (.goto 9, 3) := by decide +kernel
theorem dX8_of_58 : decode cX8_of 58 = .ok (.aload_n 0, 1) := by decide +kernel
theorem dX8_of_59 : decode cX8_of 59 = .ok (.getfield 32, 3) := by decide +kernel
theorem dX8_of_62 : decode cX8_of 62 = .ok (.iload_n 1, 1) := by decide +kernel
theorem dX8_of_63 : decode cX8_of 63 = .ok (.iaload, 1) := by decide +kernel
theorem dX8_of_64 : decode cX8_of 64 = .ok (.ireturn, 1) := by decide +kernel
theorem dX8_places_0 : decode cX8_places 0 = .ok (.iload_n 1, 1) := by decide +kernel
theorem dX8_places_1 : decode cX8_places 1 = .ok (.i2l, 1) := by decide +kernel
theorem dX8_places_2 : decode cX8_places 2 = .ok (.lconst 0, 1) := by decide +kernel
theorem dX8_places_3 : decode cX8_places 3 = .ok (.ldc2_w 142, 3) := by decide +kernel
theorem dX8_places_6 : decode cX8_places 6 = .ok (.invokestatic 129, 3) := by decide +kernel
theorem dX8_places_9 : decode cX8_places 9 = .ok (.ifCond .ne 10, 3) := by decide +kernel
theorem dX8_places_12 : decode cX8_places 12 = .ok (.aload_n 0, 1) := by decide +kernel
theorem dX8_places_13 : decode cX8_places 13 = .ok (.bipush (-2), 2) := by decide +kernel
theorem dX8_places_15 : decode cX8_places 15 = .ok (.invokevirtual 13, 3) := by decide +kernel
theorem dX8_places_18 : decode cX8_places 18 = .ok (.ireturn, 1) := by decide +kernel
theorem dX8_places_19 : decode cX8_places 19 = .ok (.aload_n 0, 1) := by decide +kernel
theorem dX8_places_20 : decode cX8_places 20 = .ok (.getfield 133, 3) := by decide +kernel
theorem dX8_places_23 : decode cX8_places 23 = .ok (.istore_n 3, 1) := by decide +kernel
theorem dX8_places_24 : decode cX8_places 24 = .ok (.aload_n 0, 1) := by decide +kernel
theorem dX8_places_25 : decode cX8_places 25 = .ok (.getfield 147, 3) := by decide +kernel
theorem dX8_places_28 : decode cX8_places 28 = .ok (.istore 4, 2) := by decide +kernel
theorem dX8_places_30 : decode cX8_places 30 = .ok (.aload_n 0, 1) := by decide +kernel
theorem dX8_places_31 : decode cX8_places 31 = .ok (.getfield 48, 3) := by decide +kernel
theorem dX8_places_34 : decode cX8_places 34 = .ok (.astore 5, 2) := by decide +kernel
theorem dX8_places_36 : decode cX8_places 36 = .ok (.iconst 0, 1) := by decide +kernel
theorem dX8_places_37 : decode cX8_places 37 = .ok (.istore 6, 2) := by decide +kernel
theorem dX8_places_39 : decode cX8_places 39 = .ok (.iload 6, 2) := by decide +kernel
theorem dX8_places_41 : decode cX8_places 41 = .ok (.bipush 6, 2) := by decide +kernel
theorem dX8_places_43 : decode cX8_places 43 = .ok (.if_icmp .ge 21, 3) := by decide +kernel
theorem dX8_places_46 : decode cX8_places 46 = .ok (.aload 5, 2) := by decide +kernel
theorem dX8_places_48 : decode cX8_places 48 = .ok (.iload 6, 2) := by decide +kernel
theorem dX8_places_50 : decode cX8_places 50 = .ok (.aload_n 0, 1) := by decide +kernel
theorem dX8_places_51 : decode cX8_places 51 = .ok (.getfield 42, 3) := by decide +kernel
theorem dX8_places_54 : decode cX8_places 54 = .ok (.iload 6, 2) := by decide +kernel
theorem dX8_places_56 : decode cX8_places 56 = .ok (.iaload, 1) := by decide +kernel
theorem dX8_places_57 : decode cX8_places 57 = .ok (.iastore, 1) := by decide +kernel
theorem dX8_places_58 : decode cX8_places 58 = .ok (.iinc 6 1, 3) := by decide +kernel
theorem dX8_places_61 : decode cX8_places 61 = .ok (.goto (-22), 3) := by decide +kernel
theorem dX8_places_64 : decode cX8_places 64 = .ok (.aload_n 0, 1) := by decide +kernel
theorem dX8_places_65 : decode cX8_places 65 = .ok (.iload_n 1, 1) := by decide +kernel
theorem dX8_places_66 : decode cX8_places 66 = .ok (.putfield 133, 3) := by decide +kernel
theorem dX8_places_69 : decode cX8_places 69 = .ok (.aload_n 0, 1) := by decide +kernel
theorem dX8_places_70 : decode cX8_places 70 = .ok (.iload_n 2, 1) := by decide +kernel
theorem dX8_places_71 : decode cX8_places 71 = .ok (.invokevirtual 209, 3) := by decide +kernel
theorem dX8_places_74 : decode cX8_places 74 = .ok (.istore 6, 2) := by decide +kernel
theorem dX8_places_76 : decode cX8_places 76 = .ok (.iload 6, 2) := by decide +kernel
theorem dX8_places_78 : decode cX8_places 78 = .ok (.ifCond .eq 7, 3) := by decide +kernel
theorem dX8_places_81 : decode cX8_places 81 = .ok (.iconst 0, 1) := by decide +kernel
theorem dX8_places_82 : decode cX8_places 82 = .ok (.goto 4, 3) := by decide +kernel
theorem dX8_places_85 : decode cX8_places 85 = .ok (.iconst (-1), 1) := by decide +kernel
theorem dX8_places_86 : decode cX8_places 86 = .ok (.istore 7, 2) := by decide +kernel
theorem dX8_places_88 : decode cX8_places 88 = .ok (.iload 6, 2) := by decide +kernel
theorem dX8_places_90 : decode cX8_places 90 = .ok (.ifCond .eq 23, 3) := by decide +kernel
theorem dX8_places_93 : decode cX8_places 93 = .ok (.aload_n 0, 1) := by decide +kernel
theorem dX8_places_94 : decode cX8_places 94 = .ok (.iload_n 2, 1) := by decide +kernel
theorem dX8_places_95 : decode cX8_places 95 = .ok (.invokevirtual 201, 3) := by decide +kernel
theorem dX8_places_98 : decode cX8_places 98 = .ok (.aload_n 0, 1) := by decide +kernel
theorem dX8_places_99 : decode cX8_places 99 = .ok (.invokevirtual 180, 3) := by decide +kernel
theorem dX8_places_102 : decode cX8_places 102 = .ok (.ifCond .eq 7, 3) := by decide +kernel
theorem dX8_places_105 : decode cX8_places 105 = .ok (.iconst 0, 1) := by decide +kernel
theorem dX8_places_106 : decode cX8_places 106 = .ok (.goto 5, 3) := by decide +kernel
theorem dX8_places_109 : decode cX8_places 109 = .ok (.bipush (-3), 2) := by decide +kernel
theorem dX8_places_111 : decode cX8_places 111 = .ok (.istore 7, 2) := by decide +kernel
theorem dX8_places_113 : decode cX8_places 113 = .ok (.iload 7, 2) := by decide +kernel
theorem dX8_places_115 : decode cX8_places 115 = .ok (.ifCond .eq 49, 3) := by decide +kernel
theorem dX8_places_118 : decode cX8_places 118 = .ok (.aload_n 0, 1) := by decide +kernel
theorem dX8_places_119 : decode cX8_places 119 = .ok (.iload_n 3, 1) := by decide +kernel
theorem dX8_places_120 : decode cX8_places 120 = .ok (.putfield 133, 3) := by decide +kernel
theorem dX8_places_123 : decode cX8_places 123 = .ok (.aload_n 0, 1) := by decide +kernel
theorem dX8_places_124 : decode cX8_places 124 = .ok (.iload 4, 2) := by decide +kernel
theorem dX8_places_126 : decode cX8_places 126 = .ok (.putfield 147, 3) := by decide +kernel
theorem dX8_places_129 : decode cX8_places 129 = .ok (.iconst 0, 1) := by decide +kernel
theorem dX8_places_130 : decode cX8_places 130 = .ok (.istore 8, 2) := by decide +kernel
theorem dX8_places_132 : decode cX8_places 132 = .ok (.iload 8, 2) := by decide +kernel
theorem dX8_places_134 : decode cX8_places 134 = .ok (.bipush 6, 2) := by decide +kernel
theorem dX8_places_136 : decode cX8_places 136 = .ok (.if_icmp .ge 21, 3) := by decide +kernel
theorem dX8_places_139 : decode cX8_places 139 = .ok (.aload_n 0, 1) := by decide +kernel
theorem dX8_places_140 : decode cX8_places 140 = .ok (.getfield 42, 3) := by decide +kernel
theorem dX8_places_143 : decode cX8_places 143 = .ok (.iload 8, 2) := by decide +kernel
theorem dX8_places_145 : decode cX8_places 145 = .ok (.aload 5, 2) := by decide +kernel
theorem dX8_places_147 : decode cX8_places 147 = .ok (.iload 8, 2) := by decide +kernel
theorem dX8_places_149 : decode cX8_places 149 = .ok (.iaload, 1) := by decide +kernel
theorem dX8_places_150 : decode cX8_places 150 = .ok (.iastore, 1) := by decide +kernel
theorem dX8_places_151 : decode cX8_places 151 = .ok (.iinc 8 1, 3) := by decide +kernel
theorem dX8_places_154 : decode cX8_places 154 = .ok (.goto (-22), 3) := by decide +kernel
theorem dX8_places_157 : decode cX8_places 157 = .ok (.aload_n 0, 1) := by decide +kernel
theorem dX8_places_158 : decode cX8_places 158 = .ok (.iload 7, 2) := by decide +kernel
theorem dX8_places_160 : decode cX8_places 160 = .ok (.invokevirtual 13, 3) := by decide +kernel
theorem dX8_places_163 : decode cX8_places 163 = .ok (.ireturn, 1) := by decide +kernel
theorem dX8_places_164 : decode cX8_places 164 = .ok (.aload_n 0, 1) := by decide +kernel
theorem dX8_places_165 : decode cX8_places 165 = .ok (.iconst 1, 1) := by decide +kernel
theorem dX8_places_166 : decode cX8_places 166 = .ok (.putfield 38, 3) := by decide +kernel
theorem dX8_places_169 : decode cX8_places 169 = .ok (.aload_n 0, 1) := by decide +kernel
theorem dX8_places_170 : decode cX8_places 170 = .ok (.iconst 0, 1) := by decide +kernel
theorem dX8_places_171 : decode cX8_places 171 = .ok (.putfield 198, 3) := by decide +kernel
theorem dX8_places_174 : decode cX8_places 174 = .ok (.iconst 1, 1) := by decide +kernel
theorem dX8_places_175 : decode cX8_places 175 = .ok (.ireturn, 1) := by decide +kernel
theorem dX8_ink_0 : decode cX8_ink 0 = .ok (.iload_n 1, 1) := by decide +kernel
theorem dX8_ink_1 : decode cX8_ink 1 = .ok (.i2l, 1) := by decide +kernel
theorem dX8_ink_2 : decode cX8_ink 2 = .ok (.lconst 0, 1) := by decide +kernel
theorem dX8_ink_3 : decode cX8_ink 3 = .ok (.lconst 1, 1) := by decide +kernel
theorem dX8_ink_4 : decode cX8_ink 4 = .ok (.invokestatic 129, 3) := by decide +kernel
theorem dX8_ink_7 : decode cX8_ink 7 = .ok (.ifCond .ne 10, 3) := by decide +kernel
theorem dX8_ink_10 : decode cX8_ink 10 = .ok (.aload_n 0, 1) := by decide +kernel
theorem dX8_ink_11 : decode cX8_ink 11 = .ok (.bipush (-2), 2) := by decide +kernel
theorem dX8_ink_13 : decode cX8_ink 13 = .ok (.invokevirtual 13, 3) := by decide +kernel
theorem dX8_ink_16 : decode cX8_ink 16 = .ok (.ireturn, 1) := by decide +kernel
theorem dX8_ink_17 : decode cX8_ink 17 = .ok (.aload_n 0, 1) := by decide +kernel
theorem dX8_ink_18 : decode cX8_ink 18 = .ok (.getfield 35, 3) := by decide +kernel
theorem dX8_ink_21 : decode cX8_ink 21 = .ok (.istore_n 2, 1) := by decide +kernel
theorem dX8_ink_22 : decode cX8_ink 22 = .ok (.aload_n 0, 1) := by decide +kernel
theorem dX8_ink_23 : decode cX8_ink 23 = .ok (.iload_n 1, 1) := by decide +kernel
theorem dX8_ink_24 : decode cX8_ink 24 = .ok (.putfield 35, 3) := by decide +kernel
theorem dX8_ink_27 : decode cX8_ink 27 = .ok (.iload_n 2, 1) := by decide +kernel
theorem dX8_ink_28 : decode cX8_ink 28 = .ok (.ireturn, 1) := by decide +kernel
theorem dX8_printed_0 : decode cX8_printed 0 = .ok (.iconst 0, 1) := by decide +kernel
theorem dX8_printed_1 : decode cX8_printed 1 = .ok (.istore_n 1, 1) := by decide +kernel
theorem dX8_printed_2 : decode cX8_printed 2 = .ok (.iconst 0, 1) := by decide +kernel
theorem dX8_printed_3 : decode cX8_printed 3 = .ok (.istore_n 2, 1) := by decide +kernel
theorem dX8_printed_4 : decode cX8_printed 4 = .ok (.iload_n 2, 1) := by decide +kernel
theorem dX8_printed_5 : decode cX8_printed 5 = .ok (.aload_n 0, 1) := by decide +kernel
theorem dX8_printed_6 : decode cX8_printed 6 = .ok (.invokevirtual 125, 3) := by decide +kernel
theorem dX8_printed_9 : decode cX8_printed 9 = .ok (.if_icmp .ge 26, 3) := by decide +kernel
