/-! decode rows: by program -/
theorem d_Mo_init_0 : decode c_Mo_init 0 = .ok (.aload_n 0, 1) := by decide +kernel
theorem d_Mo_init_1 : decode c_Mo_init 1 = .ok (.invokespecial 1, 3) := by decide +kernel
theorem d_Mo_init_4 : decode c_Mo_init 4 = .ok (.aload_n 0, 1) := by decide +kernel
theorem d_Mo_init_5 : decode c_Mo_init 5 = .ok (.sipush 200, 3) := by decide +kernel
theorem d_Mo_init_8 : decode c_Mo_init 8 = .ok (.newarray .int, 2) := by decide +kernel
theorem d_Mo_init_10 : decode c_Mo_init 10 = .ok (.putfield 7, 3) := by decide +kernel
theorem d_Mo_init_13 : decode c_Mo_init 13 = .ok (.aload_n 0, 1) := by decide +kernel
theorem d_Mo_init_14 : decode c_Mo_init 14 = .ok (.sipush 200, 3) := by decide +kernel
theorem d_Mo_init_17 : decode c_Mo_init 17 = .ok (.newarray .int, 2) := by decide +kernel
theorem d_Mo_init_19 : decode c_Mo_init 19 = .ok (.putfield 13, 3) := by decide +kernel
theorem d_Mo_init_22 : decode c_Mo_init 22 = .ok (.aload_n 0, 1) := by decide +kernel
theorem d_Mo_init_23 : decode c_Mo_init 23 = .ok (.sipush 200, 3) := by decide +kernel
theorem d_Mo_init_26 : decode c_Mo_init 26 = .ok (.newarray .int, 2) := by decide +kernel
theorem d_Mo_init_28 : decode c_Mo_init 28 = .ok (.putfield 16, 3) := by decide +kernel
theorem d_Mo_init_31 : decode c_Mo_init 31 = .ok (.aload_n 0, 1) := by decide +kernel
theorem d_Mo_init_32 : decode c_Mo_init 32 = .ok (.sipush 200, 3) := by decide +kernel
theorem d_Mo_init_35 : decode c_Mo_init 35 = .ok (.newarray .int, 2) := by decide +kernel
theorem d_Mo_init_37 : decode c_Mo_init 37 = .ok (.putfield 19, 3) := by decide +kernel
theorem d_Mo_init_40 : decode c_Mo_init 40 = .ok (.aload_n 0, 1) := by decide +kernel
theorem d_Mo_init_41 : decode c_Mo_init 41 = .ok (.sipush 200, 3) := by decide +kernel
theorem d_Mo_init_44 : decode c_Mo_init 44 = .ok (.newarray .int, 2) := by decide +kernel
theorem d_Mo_init_46 : decode c_Mo_init 46 = .ok (.putfield 22, 3) := by decide +kernel
theorem d_Mo_init_49 : decode c_Mo_init 49 = .ok (.aload_n 0, 1) := by decide +kernel
theorem d_Mo_init_50 : decode c_Mo_init 50 = .ok (.sipush 200, 3) := by decide +kernel
theorem d_Mo_init_53 : decode c_Mo_init 53 = .ok (.newarray .int, 2) := by decide +kernel
theorem d_Mo_init_55 : decode c_Mo_init 55 = .ok (.putfield 25, 3) := by decide +kernel
theorem d_Mo_init_58 : decode c_Mo_init 58 = .ok (.aload_n 0, 1) := by decide +kernel
theorem d_Mo_init_59 : decode c_Mo_init 59 = .ok (.sipush 200, 3) := by decide +kernel
theorem d_Mo_init_62 : decode c_Mo_init 62 = .ok (.newarray .int, 2) := by decide +kernel
theorem d_Mo_init_64 : decode c_Mo_init 64 = .ok (.putfield 28, 3) := by decide +kernel
theorem d_Mo_init_67 : decode c_Mo_init 67 = .ok (.aload_n 0, 1) := by decide +kernel
theorem d_Mo_init_68 : decode c_Mo_init 68 = .ok (.sipush 200, 3) := by decide +kernel
theorem d_Mo_init_71 : decode c_Mo_init 71 = .ok (.newarray .int, 2) := by decide +kernel
theorem d_Mo_init_73 : decode c_Mo_init 73 = .ok (.putfield 31, 3) := by decide +kernel
theorem d_Mo_init_76 : decode c_Mo_init 76 = .ok (.aload_n 0, 1) := by decide +kernel
theorem d_Mo_init_77 : decode c_Mo_init 77 = .ok (.sipush 200, 3) := by decide +kernel
theorem d_Mo_init_80 : decode c_Mo_init 80 = .ok (.newarray .int, 2) := by decide +kernel
theorem d_Mo_init_82 : decode c_Mo_init 82 = .ok (.putfield 34, 3) := by decide +kernel
theorem d_Mo_init_85 : decode c_Mo_init 85 = .ok (.aload_n 0, 1) := by decide +kernel
theorem d_Mo_init_86 : decode c_Mo_init 86 = .ok (.sipush 200, 3) := by decide +kernel
theorem d_Mo_init_89 : decode c_Mo_init 89 = .ok (.newarray .int, 2) := by decide +kernel
theorem d_Mo_init_91 : decode c_Mo_init 91 = .ok (.putfield 37, 3) := by decide +kernel
theorem d_Mo_init_94 : decode c_Mo_init 94 = .ok (.aload_n 0, 1) := by decide +kernel
theorem d_Mo_init_95 : decode c_Mo_init 95 = .ok (.sipush 200, 3) := by decide +kernel
theorem d_Mo_init_98 : decode c_Mo_init 98 = .ok (.newarray .int, 2) := by decide +kernel
theorem d_Mo_init_100 : decode c_Mo_init 100 = .ok (.putfield 40, 3) := by decide +kernel
theorem d_Mo_init_103 : decode c_Mo_init 103 = .ok (.aload_n 0, 1) := by decide +kernel
theorem d_Mo_init_104 : decode c_Mo_init 104 = .ok (.bipush 40, 2) := by decide +kernel
theorem d_Mo_init_106 : decode c_Mo_init 106 = .ok (.newarray .int, 2) := by decide +kernel
theorem d_Mo_init_108 : decode c_Mo_init 108 = .ok (.putfield 43, 3) := by decide +kernel
theorem d_Mo_init_111 : decode c_Mo_init 111 = .ok (.aload_n 0, 1) := by decide +kernel
theorem d_Mo_init_112 : decode c_Mo_init 112 = .ok (.bipush 40, 2) := by decide +kernel
theorem d_Mo_init_114 : decode c_Mo_init 114 = .ok (.newarray .int, 2) := by decide +kernel
theorem d_Mo_init_116 : decode c_Mo_init 116 = .ok (.putfield 46, 3) := by decide +kernel
theorem d_Mo_init_119 : decode c_Mo_init 119 = .ok (.aload_n 0, 1) := by decide +kernel
theorem d_Mo_init_120 : decode c_Mo_init 120 = .ok (.bipush 40, 2) := by decide +kernel
theorem d_Mo_init_122 : decode c_Mo_init 122 = .ok (.newarray .int, 2) := by decide +kernel
theorem d_Mo_init_124 : decode c_Mo_init 124 = .ok (.putfield 49, 3) := by decide +kernel
theorem d_Mo_init_127 : decode c_Mo_init 127 = .ok (.aload_n 0, 1) := by decide +kernel
theorem d_Mo_init_128 : decode c_Mo_init 128 = .ok (.bipush 40, 2) := by decide +kernel
theorem d_Mo_init_130 : decode c_Mo_init 130 = .ok (.newarray .int, 2) := by decide +kernel
theorem d_Mo_init_132 : decode c_Mo_init 132 = .ok (.putfield 52, 3) := by decide +kernel
theorem d_Mo_init_135 : decode c_Mo_init 135 = .ok (.aload_n 0, 1) := by decide +kernel
theorem d_Mo_init_136 : decode c_Mo_init 136 = .ok (.sipush 520, 3) := by decide +kernel
theorem d_Mo_init_139 : decode c_Mo_init 139 = .ok (.newarray .int, 2) := by decide +kernel
theorem d_Mo_init_141 : decode c_Mo_init 141 = .ok (.putfield 55, 3) := by decide +kernel
theorem d_Mo_init_144 : decode c_Mo_init 144 = .ok (.aload_n 0, 1) := by decide +kernel
theorem d_Mo_init_145 : decode c_Mo_init 145 = .ok (.sipush 520, 3) := by decide +kernel
theorem d_Mo_init_148 : decode c_Mo_init 148 = .ok (.newarray .int, 2) := by decide +kernel
theorem d_Mo_init_150 : decode c_Mo_init 150 = .ok (.putfield 58, 3) := by decide +kernel
theorem d_Mo_init_153 : decode c_Mo_init 153 = .ok (.aload_n 0, 1) := by decide +kernel
theorem d_Mo_init_154 : decode c_Mo_init 154 = .ok (.sipush 520, 3) := by decide +kernel
theorem d_Mo_init_157 : decode c_Mo_init 157 = .ok (.newarray .int, 2) := by decide +kernel
theorem d_Mo_init_159 : decode c_Mo_init 159 = .ok (.putfield 61, 3) := by decide +kernel
theorem d_Mo_init_162 : decode c_Mo_init 162 = .ok (.aload_n 0, 1) := by decide +kernel
theorem d_Mo_init_163 : decode c_Mo_init 163 = .ok (.ldc 64, 2) := by decide +kernel
theorem d_Mo_init_165 : decode c_Mo_init 165 = .ok (.newarray .boolean, 2) := by decide +kernel
theorem d_Mo_init_167 : decode c_Mo_init 167 = .ok (.putfield 65, 3) := by decide +kernel
theorem d_Mo_init_170 : decode c_Mo_init 170 = .ok (.aload_n 0, 1) := by decide +kernel
theorem d_Mo_init_171 : decode c_Mo_init 171 = .ok (.bipush 8, 2) := by decide +kernel
theorem d_Mo_init_173 : decode c_Mo_init 173 = .ok (.newarray .int, 2) := by decide +kernel
theorem d_Mo_init_175 : decode c_Mo_init 175 = .ok (.putfield 69, 3) := by decide +kernel
theorem d_Mo_init_178 : decode c_Mo_init 178 = .ok (.aload_n 0, 1) := by decide +kernel
theorem d_Mo_init_179 : decode c_Mo_init 179 = .ok (.bipush 8, 2) := by decide +kernel
theorem d_Mo_init_181 : decode c_Mo_init 181 = .ok (.newarray .int, 2) := by decide +kernel
theorem d_Mo_init_183 : decode c_Mo_init 183 = .ok (.putfield 72, 3) := by decide +kernel
theorem d_Mo_init_186 : decode c_Mo_init 186 = .ok (.aload_n 0, 1) := by decide +kernel
theorem d_Mo_init_187 : decode c_Mo_init 187 = .ok (.bipush 45, 2) := by decide +kernel
theorem d_Mo_init_189 : decode c_Mo_init 189 = .ok (.newarray .int, 2) := by decide +kernel
theorem d_Mo_init_191 : decode c_Mo_init 191 = .ok (.putfield 75, 3) := by decide +kernel
theorem d_Mo_init_194 : decode c_Mo_init 194 = .ok (.aload_n 0, 1) := by decide +kernel
theorem d_Mo_init_195 : decode c_Mo_init 195 = .ok (.bipush 45, 2) := by decide +kernel
theorem d_Mo_init_197 : decode c_Mo_init 197 = .ok (.newarray .int, 2) := by decide +kernel
theorem d_Mo_init_199 : decode c_Mo_init 199 = .ok (.putfield 78, 3) := by decide +kernel
theorem d_Mo_init_202 : decode c_Mo_init 202 = .ok (.aload_n 0, 1) := by decide +kernel
theorem d_Mo_init_203 : decode c_Mo_init 203 = .ok (.bipush 45, 2) := by decide +kernel
theorem d_Mo_init_205 : decode c_Mo_init 205 = .ok (.newarray .int, 2) := by decide +kernel
theorem d_Mo_init_207 : decode c_Mo_init 207 = .ok (.putfield 81, 3) := by decide +kernel
theorem d_Mo_init_210 : decode c_Mo_init 210 = .ok (.aload_n 0, 1) := by decide +kernel
theorem d_Mo_init_211 : decode c_Mo_init 211 = .ok (.bipush 45, 2) := by decide +kernel
theorem d_Mo_init_213 : decode c_Mo_init 213 = .ok (.newarray .int, 2) := by decide +kernel
theorem d_Mo_init_215 : decode c_Mo_init 215 = .ok (.putfield 84, 3) := by decide +kernel
theorem d_Mo_init_218 : decode c_Mo_init 218 = .ok (.aload_n 0, 1) := by decide +kernel
theorem d_Mo_init_219 : decode c_Mo_init 219 = .ok (.sipush 450, 3) := by decide +kernel
theorem d_Mo_init_222 : decode c_Mo_init 222 = .ok (.newarray .int, 2) := by decide +kernel
theorem d_Mo_init_224 : decode c_Mo_init 224 = .ok (.putfield 87, 3) := by decide +kernel
theorem d_Mo_init_227 : decode c_Mo_init 227 = .ok (.aload_n 0, 1) := by decide +kernel
theorem d_Mo_init_228 : decode c_Mo_init 228 = .ok (.sipush 17000, 3) := by decide +kernel
theorem d_Mo_init_231 : decode c_Mo_init 231 = .ok (.newarray .int, 2) := by decide +kernel
theorem d_Mo_init_233 : decode c_Mo_init 233 = .ok (.putfield 90, 3) := by decide +kernel
theorem d_Mo_init_236 : decode c_Mo_init 236 = .ok (.aload_n 0, 1) := by decide +kernel
theorem d_Mo_init_237 : decode c_Mo_init 237 = .ok (.sipush 17000, 3) := by decide +kernel
theorem d_Mo_init_240 : decode c_Mo_init 240 = .ok (.newarray .int, 2) := by decide +kernel
theorem d_Mo_init_242 : decode c_Mo_init 242 = .ok (.putfield 93, 3) := by decide +kernel
theorem d_Mo_init_245 : decode c_Mo_init 245 = .ok (.aload_n 0, 1) := by decide +kernel
theorem d_Mo_init_246 : decode c_Mo_init 246 = .ok (.sipush 17000, 3) := by decide +kernel
theorem d_Mo_init_249 : decode c_Mo_init 249 = .ok (.newarray .long, 2) := by decide +kernel
theorem d_Mo_init_251 : decode c_Mo_init 251 = .ok (.putfield 96, 3) := by decide +kernel
theorem d_Mo_init_254 : decode c_Mo_init 254 = .ok (.aload_n 0, 1) := by decide +kernel
theorem d_Mo_init_255 : decode c_Mo_init 255 = .ok (.ldc 100, 2) := by decide +kernel
theorem d_Mo_init_257 : decode c_Mo_init 257 = .ok (.newarray .long, 2) := by decide +kernel
theorem d_Mo_init_259 : decode c_Mo_init 259 = .ok (.putfield 101, 3) := by decide +kernel
theorem d_Mo_init_262 : decode c_Mo_init 262 = .ok (.aload_n 0, 1) := by decide +kernel
theorem d_Mo_init_263 : decode c_Mo_init 263 = .ok (.bipush 10, 2) := by decide +kernel
theorem d_Mo_init_265 : decode c_Mo_init 265 = .ok (.newarray .long, 2) := by decide +kernel
theorem d_Mo_init_267 : decode c_Mo_init 267 = .ok (.putfield 104, 3) := by decide +kernel
theorem d_Mo_init_270 : decode c_Mo_init 270 = .ok (.aload_n 0, 1) := by decide +kernel
theorem d_Mo_init_271 : decode c_Mo_init 271 = .ok (.sipush 1000, 3) := by decide +kernel
theorem d_Mo_init_274 : decode c_Mo_init 274 = .ok (.newarray .int, 2) := by decide +kernel
theorem d_Mo_init_276 : decode c_Mo_init 276 = .ok (.putfield 107, 3) := by decide +kernel
theorem d_Mo_init_279 : decode c_Mo_init 279 = .ok (.aload_n 0, 1) := by decide +kernel
theorem d_Mo_init_280 : decode c_Mo_init 280 = .ok (.sipush 10000, 3) := by decide +kernel
theorem d_Mo_init_283 : decode c_Mo_init 283 = .ok (.newarray .long, 2) := by decide +kernel
theorem d_Mo_init_285 : decode c_Mo_init 285 = .ok (.putfield 110, 3) := by decide +kernel
theorem d_Mo_init_288 : decode c_Mo_init 288 = .ok (.aload_n 0, 1) := by decide +kernel
theorem d_Mo_init_289 : decode c_Mo_init 289 = .ok (.sipush 1000, 3) := by decide +kernel
theorem d_Mo_init_292 : decode c_Mo_init 292 = .ok (.newarray .int, 2) := by decide +kernel
theorem d_Mo_init_294 : decode c_Mo_init 294 = .ok (.putfield 113, 3) := by decide +kernel
theorem d_Mo_init_297 : decode c_Mo_init 297 = .ok (.aload_n 0, 1) := by decide +kernel
theorem d_Mo_init_298 : decode c_Mo_init 298 = .ok (.sipush 1000, 3) := by decide +kernel
theorem d_Mo_init_301 : decode c_Mo_init 301 = .ok (.newarray .int, 2) := by decide +kernel
theorem d_Mo_init_303 : decode c_Mo_init 303 = .ok (.putfield 116, 3) := by decide +kernel
theorem d_Mo_init_306 : decode c_Mo_init 306 = .ok (.aload_n 0, 1) := by decide +kernel
theorem d_Mo_init_307 : decode c_Mo_init 307 = .ok (.sipush 1000, 3) := by decide +kernel
theorem d_Mo_init_310 : decode c_Mo_init 310 = .ok (.newarray .int, 2) := by decide +kernel
theorem d_Mo_init_312 : decode c_Mo_init 312 = .ok (.putfield 119, 3) := by decide +kernel
theorem d_Mo_init_315 : decode c_Mo_init 315 = .ok (.aload_n 0, 1) := by decide +kernel
theorem d_Mo_init_316 : decode c_Mo_init 316 = .ok (.sipush 1000, 3) := by decide +kernel
theorem d_Mo_init_319 : decode c_Mo_init 319 = .ok (.newarray .boolean, 2) := by decide +kernel
theorem d_Mo_init_321 : decode c_Mo_init 321 = .ok (.putfield 122, 3) := by decide +kernel
theorem d_Mo_init_324 : decode c_Mo_init 324 = .ok (.aload_n 0, 1) := by decide +kernel
theorem d_Mo_init_325 : decode c_Mo_init 325 = .ok (.ldc 125, 2) := by decide +kernel
theorem d_Mo_init_327 : decode c_Mo_init 327 = .ok (.newarray .int, 2) := by decide +kernel
theorem d_Mo_init_329 : decode c_Mo_init 329 = .ok (.putfield 126, 3) := by decide +kernel
theorem d_Mo_init_332 : decode c_Mo_init 332 = .ok (.aload_n 0, 1) := by decide +kernel
theorem d_Mo_init_333 : decode c_Mo_init 333 = .ok (.ldc 125, 2) := by decide +kernel
theorem d_Mo_init_335 : decode c_Mo_init 335 = .ok (.newarray .int, 2) := by decide +kernel
theorem d_Mo_init_337 : decode c_Mo_init 337 = .ok (.putfield 129, 3) := by decide +kernel
theorem d_Mo_init_340 : decode c_Mo_init 340 = .ok (.aload_n 0, 1) := by decide +kernel
theorem d_Mo_init_341 : decode c_Mo_init 341 = .ok (.ldc 125, 2) := by decide +kernel
theorem d_Mo_init_343 : decode c_Mo_init 343 = .ok (.newarray .long, 2) := by decide +kernel
theorem d_Mo_init_345 : decode c_Mo_init 345 = .ok (.putfield 132, 3) := by decide +kernel
theorem d_Mo_init_348 : decode c_Mo_init 348 = .ok (.aload_n 0, 1) := by decide +kernel
theorem d_Mo_init_349 : decode c_Mo_init 349 = .ok (.ldc 135, 2) := by decide +kernel
theorem d_Mo_init_351 : decode c_Mo_init 351 = .ok (.newarray .long, 2) := by decide +kernel
theorem d_Mo_init_353 : decode c_Mo_init 353 = .ok (.putfield 136, 3) := by decide +kernel
theorem d_Mo_init_356 : decode c_Mo_init 356 = .ok (.aload_n 0, 1) := by decide +kernel
theorem d_Mo_init_357 : decode c_Mo_init 357 = .ok (.invokevirtual 139, 3) := by decide +kernel
theorem d_Mo_init_360 : decode c_Mo_init 360 = .ok (.return_, 1) := by decide +kernel
theorem d_Mo_thrown_0 : decode c_Mo_thrown 0 = .ok (.aload_n 0, 1) := by decide +kernel
theorem d_Mo_thrown_1 : decode c_Mo_thrown 1 = .ok (.getfield 142, 3) := by decide +kernel
theorem d_Mo_thrown_4 : decode c_Mo_thrown 4 = .ok (.ireturn, 1) := by decide +kernel
theorem d_Mo_clear_0 : decode c_Mo_clear 0 = .ok (.aload_n 0, 1) := by decide +kernel
theorem d_Mo_clear_1 : decode c_Mo_clear 1 = .ok (.iconst 0, 1) := by decide +kernel
theorem d_Mo_clear_2 : decode c_Mo_clear 2 = .ok (.putfield 142, 3) := by decide +kernel
theorem d_Mo_clear_5 : decode c_Mo_clear 5 = .ok (.aload_n 0, 1) := by decide +kernel
theorem d_Mo_clear_6 : decode c_Mo_clear 6 = .ok (.iconst 0, 1) := by decide +kernel
theorem d_Mo_clear_7 : decode c_Mo_clear 7 = .ok (.putfield 146, 3) := by decide +kernel
theorem d_Mo_clear_10 : decode c_Mo_clear 10 = .ok (.aload_n 0, 1) := by decide +kernel
theorem d_Mo_clear_11 : decode c_Mo_clear 11 = .ok (.iconst 0, 1) := by decide +kernel
theorem d_Mo_clear_12 : decode c_Mo_clear 12 = .ok (.putfield 149, 3) := by decide +kernel
theorem d_Mo_clear_15 : decode c_Mo_clear 15 = .ok (.aload_n 0, 1) := by decide +kernel
theorem d_Mo_clear_16 : decode c_Mo_clear 16 = .ok (.iconst 0, 1) := by decide +kernel
theorem d_Mo_clear_17 : decode c_Mo_clear 17 = .ok (.putfield 152, 3) := by decide +kernel
theorem d_Mo_clear_20 : decode c_Mo_clear 20 = .ok (.aload_n 0, 1) := by decide +kernel
theorem d_Mo_clear_21 : decode c_Mo_clear 21 = .ok (.iconst 3, 1) := by decide +kernel
theorem d_Mo_clear_22 : decode c_Mo_clear 22 = .ok (.putfield 155, 3) := by decide +kernel
theorem d_Mo_clear_25 : decode c_Mo_clear 25 = .ok (.iconst 0, 1) := by decide +kernel
theorem d_Mo_clear_26 : decode c_Mo_clear 26 = .ok (.istore_n 1, 1) := by decide +kernel
theorem d_Mo_clear_27 : decode c_Mo_clear 27 = .ok (.iload_n 1, 1) := by decide +kernel
theorem d_Mo_clear_28 : decode c_Mo_clear 28 = .ok (.bipush 8, 2) := by decide +kernel
theorem d_Mo_clear_30 : decode c_Mo_clear 30 = .ok (.if_icmp .ge 23, 3) := by decide +kernel
theorem d_Mo_clear_33 : decode c_Mo_clear 33 = .ok (.aload_n 0, 1) := by decide +kernel
theorem d_Mo_clear_34 : decode c_Mo_clear 34 = .ok (.getfield 69, 3) := by decide +kernel
theorem d_Mo_clear_37 : decode c_Mo_clear 37 = .ok (.iload_n 1, 1) := by decide +kernel
theorem d_Mo_clear_38 : decode c_Mo_clear 38 = .ok (.iconst 0, 1) := by decide +kernel
theorem d_Mo_clear_39 : decode c_Mo_clear 39 = .ok (.iastore, 1) := by decide +kernel
theorem d_Mo_clear_40 : decode c_Mo_clear 40 = .ok (.aload_n 0, 1) := by decide +kernel
theorem d_Mo_clear_41 : decode c_Mo_clear 41 = .ok (.getfield 72, 3) := by decide +kernel
theorem d_Mo_clear_44 : decode c_Mo_clear 44 = .ok (.iload_n 1, 1) := by decide +kernel
theorem d_Mo_clear_45 : decode c_Mo_clear 45 = .ok (.iconst 0, 1) := by decide +kernel
theorem d_Mo_clear_46 : decode c_Mo_clear 46 = .ok (.iastore, 1) := by decide +kernel
theorem d_Mo_clear_47 : decode c_Mo_clear 47 = .ok (.iinc 1 1, 3) := by decide +kernel
theorem d_Mo_clear_50 : decode c_Mo_clear 50 = .ok (.goto (-23), 3) := by decide +kernel
theorem d_Mo_clear_53 : decode c_Mo_clear 53 = .ok (.iconst 0, 1) := by decide +kernel
theorem d_Mo_clear_54 : decode c_Mo_clear 54 = .ok (.istore_n 1, 1) := by decide +kernel
theorem d_Mo_clear_55 : decode c_Mo_clear 55 = .ok (.iload_n 1, 1) := by decide +kernel
theorem d_Mo_clear_56 : decode c_Mo_clear 56 = .ok (.iconst 3, 1) := by decide +kernel
theorem d_Mo_clear_57 : decode c_Mo_clear 57 = .ok (.if_icmp .ge 44, 3) := by decide +kernel
theorem d_Mo_clear_60 : decode c_Mo_clear 60 = .ok (.iconst 0, 1) := by decide +kernel
theorem d_Mo_clear_61 : decode c_Mo_clear 61 = .ok (.istore_n 2, 1) := by decide +kernel
theorem d_Mo_clear_62 : decode c_Mo_clear 62 = .ok (.iload_n 2, 1) := by decide +kernel
theorem d_Mo_clear_63 : decode c_Mo_clear 63 = .ok (.iconst 3, 1) := by decide +kernel
theorem d_Mo_clear_64 : decode c_Mo_clear 64 = .ok (.if_icmp .ge 31, 3) := by decide +kernel
theorem d_Mo_clear_67 : decode c_Mo_clear 67 = .ok (.aload_n 0, 1) := by decide +kernel
theorem d_Mo_clear_68 : decode c_Mo_clear 68 = .ok (.getfield 65, 3) := by decide +kernel
theorem d_Mo_clear_71 : decode c_Mo_clear 71 = .ok (.sipush 520, 3) := by decide +kernel
theorem d_Mo_clear_74 : decode c_Mo_clear 74 = .ok (.iload_n 1, 1) := by decide +kernel
theorem d_Mo_clear_75 : decode c_Mo_clear 75 = .ok (.imul, 1) := by decide +kernel
theorem d_Mo_clear_76 : decode c_Mo_clear 76 = .ok (.iload_n 2, 1) := by decide +kernel
theorem d_Mo_clear_77 : decode c_Mo_clear 77 = .ok (.iadd, 1) := by decide +kernel
theorem d_Mo_clear_78 : decode c_Mo_clear 78 = .ok (.iload_n 1, 1) := by decide +kernel
theorem d_Mo_clear_79 : decode c_Mo_clear 79 = .ok (.iload_n 2, 1) := by decide +kernel
theorem d_Mo_clear_80 : decode c_Mo_clear 80 = .ok (.if_icmp .ne 7, 3) := by decide +kernel
theorem d_Mo_clear_83 : decode c_Mo_clear 83 = .ok (.iconst 1, 1) := by decide +kernel
theorem d_Mo_clear_84 : decode c_Mo_clear 84 = .ok (.goto 4, 3) := by decide +kernel
theorem d_Mo_clear_87 : decode c_Mo_clear 87 = .ok (.iconst 0, 1) := by decide +kernel
theorem d_Mo_clear_88 : decode c_Mo_clear 88 = .ok (.bastore, 1) := by decide +kernel
theorem d_Mo_clear_89 : decode c_Mo_clear 89 = .ok (.iinc 2 1, 3) := by decide +kernel
theorem d_Mo_clear_92 : decode c_Mo_clear 92 = .ok (.goto (-30), 3) := by decide +kernel
theorem d_Mo_clear_95 : decode c_Mo_clear 95 = .ok (.iinc 1 1, 3) := by decide +kernel
theorem d_Mo_clear_98 : decode c_Mo_clear 98 = .ok (.goto (-43), 3) := by decide +kernel
theorem d_Mo_clear_101 : decode c_Mo_clear 101 = .ok (.aload_n 0, 1) := by decide +kernel
theorem d_Mo_clear_102 : decode c_Mo_clear 102 = .ok (.iconst (-1), 1) := by decide +kernel
theorem d_Mo_clear_103 : decode c_Mo_clear 103 = .ok (.putfield 158, 3) := by decide +kernel
theorem d_Mo_clear_106 : decode c_Mo_clear 106 = .ok (.aload_n 0, 1) := by decide +kernel
theorem d_Mo_clear_107 : decode c_Mo_clear 107 = .ok (.iconst 0, 1) := by decide +kernel
theorem d_Mo_clear_108 : decode c_Mo_clear 108 = .ok (.putfield 161, 3) := by decide +kernel
theorem d_Mo_clear_111 : decode c_Mo_clear 111 = .ok (.aload_n 0, 1) := by decide +kernel
theorem d_Mo_clear_112 : decode c_Mo_clear 112 = .ok (.iconst 0, 1) := by decide +kernel
theorem d_Mo_clear_113 : decode c_Mo_clear 113 = .ok (.putfield 164, 3) := by decide +kernel
theorem d_Mo_clear_116 : decode c_Mo_clear 116 = .ok (.aload_n 0, 1) := by decide +kernel
theorem d_Mo_clear_117 : decode c_Mo_clear 117 = .ok (.iconst (-1), 1) := by decide +kernel
theorem d_Mo_clear_118 : decode c_Mo_clear 118 = .ok (.putfield 167, 3) := by decide +kernel
theorem d_Mo_clear_121 : decode c_Mo_clear 121 = .ok (.aload_n 0, 1) := by decide +kernel
theorem d_Mo_clear_122 : decode c_Mo_clear 122 = .ok (.iconst 0, 1) := by decide +kernel
theorem d_Mo_clear_123 : decode c_Mo_clear 123 = .ok (.putfield 170, 3) := by decide +kernel
theorem d_Mo_clear_126 : decode c_Mo_clear 126 = .ok (.aload_n 0, 1) := by decide +kernel
theorem d_Mo_clear_127 : decode c_Mo_clear 127 = .ok (.iconst 0, 1) := by decide +kernel
theorem d_Mo_clear_128 : decode c_Mo_clear 128 = .ok (.putfield 174, 3) := by decide +kernel
theorem d_Mo_clear_131 : decode c_Mo_clear 131 = .ok (.aload_n 0, 1) := by decide +kernel
theorem d_Mo_clear_132 : decode c_Mo_clear 132 = .ok (.iconst 0, 1) := by decide +kernel
theorem d_Mo_clear_133 : decode c_Mo_clear 133 = .ok (.putfield 177, 3) := by decide +kernel
theorem d_Mo_clear_136 : decode c_Mo_clear 136 = .ok (.aload_n 0, 1) := by decide +kernel
theorem d_Mo_clear_137 : decode c_Mo_clear 137 = .ok (.iconst 0, 1) := by decide +kernel
theorem d_Mo_clear_138 : decode c_Mo_clear 138 = .ok (.putfield 180, 3) := by decide +kernel
theorem d_Mo_clear_141 : decode c_Mo_clear 141 = .ok (.aload_n 0, 1) := by decide +kernel
theorem d_Mo_clear_142 : decode c_Mo_clear 142 = .ok (.iconst (-1), 1) := by decide +kernel
theorem d_Mo_clear_143 : decode c_Mo_clear 143 = .ok (.putfield 183, 3) := by decide +kernel
theorem d_Mo_clear_146 : decode c_Mo_clear 146 = .ok (.aload_n 0, 1) := by decide +kernel
theorem d_Mo_clear_147 : decode c_Mo_clear 147 = .ok (.lconst 0, 1) := by decide +kernel
theorem d_Mo_clear_148 : decode c_Mo_clear 148 = .ok (.putfield 186, 3) := by decide +kernel
theorem d_Mo_clear_151 : decode c_Mo_clear 151 = .ok (.return_, 1) := by decide +kernel
theorem d_Mo_isType_0 : decode c_Mo_isType 0 = .ok (.iload_n 1, 1) := by decide +kernel
theorem d_Mo_isType_1 : decode c_Mo_isType 1 = .ok (.ifCond .lt 15, 3) := by decide +kernel
theorem d_Mo_isType_4 : decode c_Mo_isType 4 = .ok (.iload_n 1, 1) := by decide +kernel
theorem d_Mo_isType_5 : decode c_Mo_isType 5 = .ok (.aload_n 0, 1) := by decide +kernel
theorem d_Mo_isType_6 : decode c_Mo_isType 6 = .ok (.getfield 155, 3) := by decide +kernel
theorem d_Mo_isType_9 : decode c_Mo_isType 9 = .ok (.if_icmp .ge 7, 3) := by decide +kernel
theorem d_Mo_isType_12 : decode c_Mo_isType 12 = .ok (.iconst 1, 1) := by decide +kernel
theorem d_Mo_isType_13 : decode c_Mo_isType 13 = .ok (.goto 4, 3) := by decide +kernel
theorem d_Mo_isType_16 : decode c_Mo_isType 16 = .ok (.iconst 0, 1) := by decide +kernel
theorem d_Mo_isType_17 : decode c_Mo_isType 17 = .ok (.ireturn, 1) := by decide +kernel
theorem d_Mo_typeOf_0 : decode c_Mo_typeOf 0 = .ok (.iconst 3, 1) := by decide +kernel
theorem d_Mo_typeOf_1 : decode c_Mo_typeOf 1 = .ok (.istore 4, 2) := by decide +kernel
theorem d_Mo_typeOf_3 : decode c_Mo_typeOf 3 = .ok (.iload 4, 2) := by decide +kernel
theorem d_Mo_typeOf_5 : decode c_Mo_typeOf 5 = .ok (.aload_n 0, 1) := by decide +kernel
theorem d_Mo_typeOf_6 : decode c_Mo_typeOf 6 = .ok (.getfield 155, 3) := by decide +kernel
theorem d_Mo_typeOf_9 : decode c_Mo_typeOf 9 = .ok (.if_icmp .ge 45, 3) := by decide +kernel
theorem d_Mo_typeOf_12 : decode c_Mo_typeOf 12 = .ok (.aload_n 0, 1) := by decide +kernel
theorem d_Mo_typeOf_13 : decode c_Mo_typeOf 13 = .ok (.getfield 55, 3) := by decide +kernel
theorem d_Mo_typeOf_16 : decode c_Mo_typeOf 16 = .ok (.iload 4, 2) := by decide +kernel
theorem d_Mo_typeOf_18 : decode c_Mo_typeOf 18 = .ok (.iaload, 1) := by decide +kernel
theorem d_Mo_typeOf_19 : decode c_Mo_typeOf 19 = .ok (.iload_n 1, 1) := by decide +kernel
theorem d_Mo_typeOf_20 : decode c_Mo_typeOf 20 = .ok (.if_icmp .ne 28, 3) := by decide +kernel
theorem d_Mo_typeOf_23 : decode c_Mo_typeOf 23 = .ok (.aload_n 0, 1) := by decide +kernel
theorem d_Mo_typeOf_24 : decode c_Mo_typeOf 24 = .ok (.getfield 58, 3) := by decide +kernel
theorem d_Mo_typeOf_27 : decode c_Mo_typeOf 27 = .ok (.iload 4, 2) := by decide +kernel
theorem d_Mo_typeOf_29 : decode c_Mo_typeOf 29 = .ok (.iaload, 1) := by decide +kernel
theorem d_Mo_typeOf_30 : decode c_Mo_typeOf 30 = .ok (.iload_n 2, 1) := by decide +kernel
theorem d_Mo_typeOf_31 : decode c_Mo_typeOf 31 = .ok (.if_icmp .ne 17, 3) := by decide +kernel
theorem d_Mo_typeOf_34 : decode c_Mo_typeOf 34 = .ok (.aload_n 0, 1) := by decide +kernel
theorem d_Mo_typeOf_35 : decode c_Mo_typeOf 35 = .ok (.getfield 61, 3) := by decide +kernel
theorem d_Mo_typeOf_38 : decode c_Mo_typeOf 38 = .ok (.iload 4, 2) := by decide +kernel
theorem d_Mo_typeOf_40 : decode c_Mo_typeOf 40 = .ok (.iaload, 1) := by decide +kernel
theorem d_Mo_typeOf_41 : decode c_Mo_typeOf 41 = .ok (.iload_n 3, 1) := by decide +kernel
theorem d_Mo_typeOf_42 : decode c_Mo_typeOf 42 = .ok (.if_icmp .ne 6, 3) := by decide +kernel
theorem d_Mo_typeOf_45 : decode c_Mo_typeOf 45 = .ok (.iload 4, 2) := by decide +kernel
theorem d_Mo_typeOf_47 : decode c_Mo_typeOf 47 = .ok (.ireturn, 1) := by decide +kernel
theorem d_Mo_typeOf_48 : decode c_Mo_typeOf 48 = .ok (.iinc 4 1, 3) := by decide +kernel
theorem d_Mo_typeOf_51 : decode c_Mo_typeOf 51 = .ok (.goto (-48), 3) := by decide +kernel
theorem d_Mo_typeOf_54 : decode c_Mo_typeOf 54 = .ok (.aload_n 0, 1) := by decide +kernel
theorem d_Mo_typeOf_55 : decode c_Mo_typeOf 55 = .ok (.getfield 155, 3) := by decide +kernel
theorem d_Mo_typeOf_58 : decode c_Mo_typeOf 58 = .ok (.istore 4, 2) := by decide +kernel
theorem d_Mo_typeOf_60 : decode c_Mo_typeOf 60 = .ok (.aload_n 0, 1) := by decide +kernel
theorem d_Mo_typeOf_61 : decode c_Mo_typeOf 61 = .ok (.getfield 55, 3) := by decide +kernel
theorem d_Mo_typeOf_64 : decode c_Mo_typeOf 64 = .ok (.iload 4, 2) := by decide +kernel
theorem d_Mo_typeOf_66 : decode c_Mo_typeOf 66 = .ok (.iload_n 1, 1) := by decide +kernel
theorem d_Mo_typeOf_67 : decode c_Mo_typeOf 67 = .ok (.iastore, 1) := by decide +kernel
theorem d_Mo_typeOf_68 : decode c_Mo_typeOf 68 = .ok (.aload_n 0, 1) := by decide +kernel
theorem d_Mo_typeOf_69 : decode c_Mo_typeOf 69 = .ok (.getfield 58, 3) := by decide +kernel
theorem d_Mo_typeOf_72 : decode c_Mo_typeOf 72 = .ok (.iload 4, 2) := by decide +kernel
theorem d_Mo_typeOf_74 : decode c_Mo_typeOf 74 = .ok (.iload_n 2, 1) := by decide +kernel
theorem d_Mo_typeOf_75 : decode c_Mo_typeOf 75 = .ok (.iastore, 1) := by decide +kernel
theorem d_Mo_typeOf_76 : decode c_Mo_typeOf 76 = .ok (.aload_n 0, 1) := by decide +kernel
theorem d_Mo_typeOf_77 : decode c_Mo_typeOf 77 = .ok (.getfield 61, 3) := by decide +kernel
theorem d_Mo_typeOf_80 : decode c_Mo_typeOf 80 = .ok (.iload 4, 2) := by decide +kernel
theorem d_Mo_typeOf_82 : decode c_Mo_typeOf 82 = .ok (.iload_n 3, 1) := by decide +kernel
theorem d_Mo_typeOf_83 : decode c_Mo_typeOf 83 = .ok (.iastore, 1) := by decide +kernel
theorem d_Mo_typeOf_84 : decode c_Mo_typeOf 84 = .ok (.aload_n 0, 1) := by decide +kernel
theorem d_Mo_typeOf_85 : decode c_Mo_typeOf 85 = .ok (.dup, 1) := by decide +kernel
theorem d_Mo_typeOf_86 : decode c_Mo_typeOf 86 = .ok (.getfield 155, 3) := by decide +kernel
theorem d_Mo_typeOf_89 : decode c_Mo_typeOf 89 = .ok (.iconst 1, 1) := by decide +kernel
theorem d_Mo_typeOf_90 : decode c_Mo_typeOf 90 = .ok (.iadd, 1) := by decide +kernel
theorem d_Mo_typeOf_91 : decode c_Mo_typeOf 91 = .ok (.putfield 155, 3) := by decide +kernel
theorem d_Mo_typeOf_94 : decode c_Mo_typeOf 94 = .ok (.iconst 0, 1) := by decide +kernel
theorem d_Mo_typeOf_95 : decode c_Mo_typeOf 95 = .ok (.istore 5, 2) := by decide +kernel
theorem d_Mo_typeOf_97 : decode c_Mo_typeOf 97 = .ok (.iload 5, 2) := by decide +kernel
theorem d_Mo_typeOf_99 : decode c_Mo_typeOf 99 = .ok (.iload 4, 2) := by decide +kernel
theorem d_Mo_typeOf_101 : decode c_Mo_typeOf 101 = .ok (.if_icmp .gt 53, 3) := by decide +kernel
theorem d_Mo_typeOf_104 : decode c_Mo_typeOf 104 = .ok (.aload_n 0, 1) := by decide +kernel
theorem d_Mo_typeOf_105 : decode c_Mo_typeOf 105 = .ok (.getfield 65, 3) := by decide +kernel
theorem d_Mo_typeOf_108 : decode c_Mo_typeOf 108 = .ok (.sipush 520, 3) := by decide +kernel
theorem d_Mo_typeOf_111 : decode c_Mo_typeOf 111 = .ok (.iload 4, 2) := by decide +kernel
theorem d_Mo_typeOf_113 : decode c_Mo_typeOf 113 = .ok (.imul, 1) := by decide +kernel
theorem d_Mo_typeOf_114 : decode c_Mo_typeOf 114 = .ok (.iload 5, 2) := by decide +kernel
theorem d_Mo_typeOf_116 : decode c_Mo_typeOf 116 = .ok (.iadd, 1) := by decide +kernel
theorem d_Mo_typeOf_117 : decode c_Mo_typeOf 117 = .ok (.aload_n 0, 1) := by decide +kernel
theorem d_Mo_typeOf_118 : decode c_Mo_typeOf 118 = .ok (.iload 4, 2) := by decide +kernel
theorem d_Mo_typeOf_120 : decode c_Mo_typeOf 120 = .ok (.iload 5, 2) := by decide +kernel
theorem d_Mo_typeOf_122 : decode c_Mo_typeOf 122 = .ok (.invokevirtual 190, 3) := by decide +kernel
theorem d_Mo_typeOf_125 : decode c_Mo_typeOf 125 = .ok (.bastore, 1) := by decide +kernel
theorem d_Mo_typeOf_126 : decode c_Mo_typeOf 126 = .ok (.aload_n 0, 1) := by decide +kernel
theorem d_Mo_typeOf_127 : decode c_Mo_typeOf 127 = .ok (.getfield 65, 3) := by decide +kernel
theorem d_Mo_typeOf_130 : decode c_Mo_typeOf 130 = .ok (.sipush 520, 3) := by decide +kernel
theorem d_Mo_typeOf_133 : decode c_Mo_typeOf 133 = .ok (.iload 5, 2) := by decide +kernel
theorem d_Mo_typeOf_135 : decode c_Mo_typeOf 135 = .ok (.imul, 1) := by decide +kernel
theorem d_Mo_typeOf_136 : decode c_Mo_typeOf 136 = .ok (.iload 4, 2) := by decide +kernel
theorem d_Mo_typeOf_138 : decode c_Mo_typeOf 138 = .ok (.iadd, 1) := by decide +kernel
theorem d_Mo_typeOf_139 : decode c_Mo_typeOf 139 = .ok (.aload_n 0, 1) := by decide +kernel
theorem d_Mo_typeOf_140 : decode c_Mo_typeOf 140 = .ok (.iload 5, 2) := by decide +kernel
theorem d_Mo_typeOf_142 : decode c_Mo_typeOf 142 = .ok (.iload 4, 2) := by decide +kernel
theorem d_Mo_typeOf_144 : decode c_Mo_typeOf 144 = .ok (.invokevirtual 190, 3) := by decide +kernel
theorem d_Mo_typeOf_147 : decode c_Mo_typeOf 147 = .ok (.bastore, 1) := by decide +kernel
theorem d_Mo_typeOf_148 : decode c_Mo_typeOf 148 = .ok (.iinc 5 1, 3) := by decide +kernel
theorem d_Mo_typeOf_151 : decode c_Mo_typeOf 151 = .ok (.goto (-54), 3) := by decide +kernel
theorem d_Mo_typeOf_154 : decode c_Mo_typeOf 154 = .ok (.iload 4, 2) := by decide +kernel
theorem d_Mo_typeOf_156 : decode c_Mo_typeOf 156 = .ok (.ireturn, 1) := by decide +kernel
theorem d_Mo_looksFit_0 : decode c_Mo_looksFit 0 = .ok (.iload_n 1, 1) := by decide +kernel
theorem d_Mo_looksFit_1 : decode c_Mo_looksFit 1 = .ok (.iload_n 2, 1) := by decide +kernel
theorem d_Mo_looksFit_2 : decode c_Mo_looksFit 2 = .ok (.if_icmp .ne 5, 3) := by decide +kernel
theorem d_Mo_looksFit_5 : decode c_Mo_looksFit 5 = .ok (.iconst 1, 1) := by decide +kernel
theorem d_Mo_looksFit_6 : decode c_Mo_looksFit 6 = .ok (.ireturn, 1) := by decide +kernel
theorem d_Mo_looksFit_7 : decode c_Mo_looksFit 7 = .ok (.iload_n 1, 1) := by decide +kernel
theorem d_Mo_looksFit_8 : decode c_Mo_looksFit 8 = .ok (.iconst 3, 1) := by decide +kernel
theorem d_Mo_looksFit_9 : decode c_Mo_looksFit 9 = .ok (.if_icmp .lt 8, 3) := by decide +kernel
theorem d_Mo_looksFit_12 : decode c_Mo_looksFit 12 = .ok (.iload_n 2, 1) := by decide +kernel
theorem d_Mo_looksFit_13 : decode c_Mo_looksFit 13 = .ok (.iconst 3, 1) := by decide +kernel
theorem d_Mo_looksFit_14 : decode c_Mo_looksFit 14 = .ok (.if_icmp .ge 5, 3) := by decide +kernel
theorem d_Mo_looksFit_17 : decode c_Mo_looksFit 17 = .ok (.iconst 0, 1) := by decide +kernel
theorem d_Mo_looksFit_18 : decode c_Mo_looksFit 18 = .ok (.ireturn, 1) := by decide +kernel
theorem d_Mo_looksFit_19 : decode c_Mo_looksFit 19 = .ok (.aload_n 0, 1) := by decide +kernel
theorem d_Mo_looksFit_20 : decode c_Mo_looksFit 20 = .ok (.getfield 65, 3) := by decide +kernel
theorem d_Mo_looksFit_23 : decode c_Mo_looksFit 23 = .ok (.sipush 520, 3) := by decide +kernel
theorem d_Mo_looksFit_26 : decode c_Mo_looksFit 26 = .ok (.aload_n 0, 1) := by decide +kernel
theorem d_Mo_looksFit_27 : decode c_Mo_looksFit 27 = .ok (.getfield 55, 3) := by decide +kernel
theorem d_Mo_looksFit_30 : decode c_Mo_looksFit 30 = .ok (.iload_n 2, 1) := by decide +kernel
theorem d_Mo_looksFit_31 : decode c_Mo_looksFit 31 = .ok (.iaload, 1) := by decide +kernel
theorem d_Mo_looksFit_32 : decode c_Mo_looksFit 32 = .ok (.imul, 1) := by decide +kernel
theorem d_Mo_looksFit_33 : decode c_Mo_looksFit 33 = .ok (.aload_n 0, 1) := by decide +kernel
theorem d_Mo_looksFit_34 : decode c_Mo_looksFit 34 = .ok (.getfield 55, 3) := by decide +kernel
theorem d_Mo_looksFit_37 : decode c_Mo_looksFit 37 = .ok (.iload_n 1, 1) := by decide +kernel
theorem d_Mo_looksFit_38 : decode c_Mo_looksFit 38 = .ok (.iaload, 1) := by decide +kernel
theorem d_Mo_looksFit_39 : decode c_Mo_looksFit 39 = .ok (.iadd, 1) := by decide +kernel
theorem d_Mo_looksFit_40 : decode c_Mo_looksFit 40 = .ok (.baload, 1) := by decide +kernel
theorem d_Mo_looksFit_41 : decode c_Mo_looksFit 41 = .ok (.ifCond .eq 50, 3) := by decide +kernel
theorem d_Mo_looksFit_44 : decode c_Mo_looksFit 44 = .ok (.aload_n 0, 1) := by decide +kernel
theorem d_Mo_looksFit_45 : decode c_Mo_looksFit 45 = .ok (.getfield 65, 3) := by decide +kernel
theorem d_Mo_looksFit_48 : decode c_Mo_looksFit 48 = .ok (.sipush 520, 3) := by decide +kernel
theorem d_Mo_looksFit_51 : decode c_Mo_looksFit 51 = .ok (.aload_n 0, 1) := by decide +kernel
theorem d_Mo_looksFit_52 : decode c_Mo_looksFit 52 = .ok (.getfield 58, 3) := by decide +kernel
theorem d_Mo_looksFit_55 : decode c_Mo_looksFit 55 = .ok (.iload_n 1, 1) := by decide +kernel
theorem d_Mo_looksFit_56 : decode c_Mo_looksFit 56 = .ok (.iaload, 1) := by decide +kernel
theorem d_Mo_looksFit_57 : decode c_Mo_looksFit 57 = .ok (.imul, 1) := by decide +kernel
theorem d_Mo_looksFit_58 : decode c_Mo_looksFit 58 = .ok (.aload_n 0, 1) := by decide +kernel
theorem d_Mo_looksFit_59 : decode c_Mo_looksFit 59 = .ok (.getfield 58, 3) := by decide +kernel
theorem d_Mo_looksFit_62 : decode c_Mo_looksFit 62 = .ok (.iload_n 2, 1) := by decide +kernel
theorem d_Mo_looksFit_63 : decode c_Mo_looksFit 63 = .ok (.iaload, 1) := by decide +kernel
theorem d_Mo_looksFit_64 : decode c_Mo_looksFit 64 = .ok (.iadd, 1) := by decide +kernel
theorem d_Mo_looksFit_65 : decode c_Mo_looksFit 65 = .ok (.baload, 1) := by decide +kernel
theorem d_Mo_looksFit_66 : decode c_Mo_looksFit 66 = .ok (.ifCond .eq 25, 3) := by decide +kernel
theorem d_Mo_looksFit_69 : decode c_Mo_looksFit 69 = .ok (.aload_n 0, 1) := by decide +kernel
theorem d_Mo_looksFit_70 : decode c_Mo_looksFit 70 = .ok (.getfield 61, 3) := by decide +kernel
theorem d_Mo_looksFit_73 : decode c_Mo_looksFit 73 = .ok (.iload_n 1, 1) := by decide +kernel
theorem d_Mo_looksFit_74 : decode c_Mo_looksFit 74 = .ok (.iaload, 1) := by decide +kernel
theorem d_Mo_looksFit_75 : decode c_Mo_looksFit 75 = .ok (.aload_n 0, 1) := by decide +kernel
theorem d_Mo_looksFit_76 : decode c_Mo_looksFit 76 = .ok (.getfield 61, 3) := by decide +kernel
theorem d_Mo_looksFit_79 : decode c_Mo_looksFit 79 = .ok (.iload_n 2, 1) := by decide +kernel
theorem d_Mo_looksFit_80 : decode c_Mo_looksFit 80 = .ok (.iaload, 1) := by decide +kernel
theorem d_Mo_looksFit_81 : decode c_Mo_looksFit 81 = .ok (.iconst (-1), 1) := by decide +kernel
theorem d_Mo_looksFit_82 : decode c_Mo_looksFit 82 = .ok (.ixor, 1) := by decide +kernel
theorem d_Mo_looksFit_83 : decode c_Mo_looksFit 83 = .ok (.iand, 1) := by decide +kernel
theorem d_Mo_looksFit_84 : decode c_Mo_looksFit 84 = .ok (.ifCond .ne 7, 3) := by decide +kernel
theorem d_Mo_looksFit_87 : decode c_Mo_looksFit 87 = .ok (.iconst 1, 1) := by decide +kernel
theorem d_Mo_looksFit_88 : decode c_Mo_looksFit 88 = .ok (.goto 4, 3) := by decide +kernel
theorem d_Mo_looksFit_91 : decode c_Mo_looksFit 91 = .ok (.iconst 0, 1) := by decide +kernel
theorem d_Mo_looksFit_92 : decode c_Mo_looksFit 92 = .ok (.ireturn, 1) := by decide +kernel
theorem d_Mo_function_0 : decode c_Mo_function 0 = .ok (.aload_n 0, 1) := by decide +kernel
theorem d_Mo_function_1 : decode c_Mo_function 1 = .ok (.aload_n 0, 1) := by decide +kernel
theorem d_Mo_function_2 : decode c_Mo_function 2 = .ok (.iload_n 1, 1) := by decide +kernel
theorem d_Mo_function_3 : decode c_Mo_function 3 = .ok (.invokevirtual 194, 3) := by decide +kernel
theorem d_Mo_function_6 : decode c_Mo_function 6 = .ok (.ifCond .eq 22, 3) := by decide +kernel
theorem d_Mo_function_9 : decode c_Mo_function 9 = .ok (.aload_n 0, 1) := by decide +kernel
theorem d_Mo_function_10 : decode c_Mo_function 10 = .ok (.iload_n 2, 1) := by decide +kernel
theorem d_Mo_function_11 : decode c_Mo_function 11 = .ok (.invokevirtual 194, 3) := by decide +kernel
theorem d_Mo_function_14 : decode c_Mo_function 14 = .ok (.ifCond .eq 14, 3) := by decide +kernel
theorem d_Mo_function_17 : decode c_Mo_function 17 = .ok (.iload_n 3, 1) := by decide +kernel
theorem d_Mo_function_18 : decode c_Mo_function 18 = .ok (.ifCond .lt 10, 3) := by decide +kernel
theorem d_Mo_function_21 : decode c_Mo_function 21 = .ok (.iload_n 3, 1) := by decide +kernel
theorem d_Mo_function_22 : decode c_Mo_function 22 = .ok (.sipush 255, 3) := by decide +kernel
theorem d_Mo_function_25 : decode c_Mo_function 25 = .ok (.if_icmp .le 7, 3) := by decide +kernel
theorem d_Mo_function_28 : decode c_Mo_function 28 = .ok (.iconst 1, 1) := by decide +kernel
theorem d_Mo_function_29 : decode c_Mo_function 29 = .ok (.goto 4, 3) := by decide +kernel
theorem d_Mo_function_32 : decode c_Mo_function 32 = .ok (.iconst 0, 1) := by decide +kernel
theorem d_Mo_function_33 : decode c_Mo_function 33 = .ok (.putfield 142, 3) := by decide +kernel
theorem d_Mo_function_36 : decode c_Mo_function 36 = .ok (.aload_n 0, 1) := by decide +kernel
theorem d_Mo_function_37 : decode c_Mo_function 37 = .ok (.getfield 142, 3) := by decide +kernel
theorem d_Mo_function_40 : decode c_Mo_function 40 = .ok (.ifCond .eq 5, 3) := by decide +kernel
theorem d_Mo_function_43 : decode c_Mo_function 43 = .ok (.iconst 0, 1) := by decide +kernel
theorem d_Mo_function_44 : decode c_Mo_function 44 = .ok (.ireturn, 1) := by decide +kernel
theorem d_Mo_function_45 : decode c_Mo_function 45 = .ok (.iconst 3, 1) := by decide +kernel
theorem d_Mo_function_46 : decode c_Mo_function 46 = .ok (.istore 4, 2) := by decide +kernel
theorem d_Mo_function_48 : decode c_Mo_function 48 = .ok (.iload 4, 2) := by decide +kernel
theorem d_Mo_function_50 : decode c_Mo_function 50 = .ok (.aload_n 0, 1) := by decide +kernel
theorem d_Mo_function_51 : decode c_Mo_function 51 = .ok (.getfield 155, 3) := by decide +kernel
theorem d_Mo_function_54 : decode c_Mo_function 54 = .ok (.if_icmp .ge 45, 3) := by decide +kernel
theorem d_Mo_function_57 : decode c_Mo_function 57 = .ok (.aload_n 0, 1) := by decide +kernel
theorem d_Mo_function_58 : decode c_Mo_function 58 = .ok (.getfield 55, 3) := by decide +kernel
theorem d_Mo_function_61 : decode c_Mo_function 61 = .ok (.iload 4, 2) := by decide +kernel
theorem d_Mo_function_63 : decode c_Mo_function 63 = .ok (.iaload, 1) := by decide +kernel
theorem d_Mo_function_64 : decode c_Mo_function 64 = .ok (.iload_n 1, 1) := by decide +kernel
theorem d_Mo_function_65 : decode c_Mo_function 65 = .ok (.if_icmp .ne 28, 3) := by decide +kernel
theorem d_Mo_function_68 : decode c_Mo_function 68 = .ok (.aload_n 0, 1) := by decide +kernel
theorem d_Mo_function_69 : decode c_Mo_function 69 = .ok (.getfield 58, 3) := by decide +kernel
theorem d_Mo_function_72 : decode c_Mo_function 72 = .ok (.iload 4, 2) := by decide +kernel
theorem d_Mo_function_74 : decode c_Mo_function 74 = .ok (.iaload, 1) := by decide +kernel
theorem d_Mo_function_75 : decode c_Mo_function 75 = .ok (.iload_n 2, 1) := by decide +kernel
theorem d_Mo_function_76 : decode c_Mo_function 76 = .ok (.if_icmp .ne 17, 3) := by decide +kernel
theorem d_Mo_function_79 : decode c_Mo_function 79 = .ok (.aload_n 0, 1) := by decide +kernel
theorem d_Mo_function_80 : decode c_Mo_function 80 = .ok (.getfield 61, 3) := by decide +kernel
theorem d_Mo_function_83 : decode c_Mo_function 83 = .ok (.iload 4, 2) := by decide +kernel
theorem d_Mo_function_85 : decode c_Mo_function 85 = .ok (.iaload, 1) := by decide +kernel
theorem d_Mo_function_86 : decode c_Mo_function 86 = .ok (.iload_n 3, 1) := by decide +kernel
theorem d_Mo_function_87 : decode c_Mo_function 87 = .ok (.if_icmp .ne 6, 3) := by decide +kernel
theorem d_Mo_function_90 : decode c_Mo_function 90 = .ok (.iload 4, 2) := by decide +kernel
theorem d_Mo_function_92 : decode c_Mo_function 92 = .ok (.ireturn, 1) := by decide +kernel
theorem d_Mo_function_93 : decode c_Mo_function 93 = .ok (.iinc 4 1, 3) := by decide +kernel
theorem d_Mo_function_96 : decode c_Mo_function 96 = .ok (.goto (-48), 3) := by decide +kernel
theorem d_Mo_function_99 : decode c_Mo_function 99 = .ok (.aload_n 0, 1) := by decide +kernel
theorem d_Mo_function_100 : decode c_Mo_function 100 = .ok (.aload_n 0, 1) := by decide +kernel
theorem d_Mo_function_101 : decode c_Mo_function 101 = .ok (.getfield 155, 3) := by decide +kernel
theorem d_Mo_function_104 : decode c_Mo_function 104 = .ok (.bipush 63, 2) := by decide +kernel
theorem d_Mo_function_106 : decode c_Mo_function 106 = .ok (.if_icmp .ne 7, 3) := by decide +kernel
theorem d_Mo_function_109 : decode c_Mo_function 109 = .ok (.iconst 2, 1) := by decide +kernel
theorem d_Mo_function_110 : decode c_Mo_function 110 = .ok (.goto 4, 3) := by decide +kernel
theorem d_Mo_function_113 : decode c_Mo_function 113 = .ok (.iconst 0, 1) := by decide +kernel
theorem d_Mo_function_114 : decode c_Mo_function 114 = .ok (.putfield 142, 3) := by decide +kernel
theorem d_Mo_function_117 : decode c_Mo_function 117 = .ok (.aload_n 0, 1) := by decide +kernel
theorem d_Mo_function_118 : decode c_Mo_function 118 = .ok (.getfield 142, 3) := by decide +kernel
theorem d_Mo_function_121 : decode c_Mo_function 121 = .ok (.ifCond .eq 7, 3) := by decide +kernel
theorem d_Mo_function_124 : decode c_Mo_function 124 = .ok (.iconst 0, 1) := by decide +kernel
theorem d_Mo_function_125 : decode c_Mo_function 125 = .ok (.goto 10, 3) := by decide +kernel
theorem d_Mo_function_128 : decode c_Mo_function 128 = .ok (.aload_n 0, 1) := by decide +kernel
theorem d_Mo_function_129 : decode c_Mo_function 129 = .ok (.iload_n 1, 1) := by decide +kernel
theorem d_Mo_function_130 : decode c_Mo_function 130 = .ok (.iload_n 2, 1) := by decide +kernel
theorem d_Mo_function_131 : decode c_Mo_function 131 = .ok (.iload_n 3, 1) := by decide +kernel
theorem d_Mo_function_132 : decode c_Mo_function 132 = .ok (.invokevirtual 198, 3) := by decide +kernel
theorem d_Mo_function_135 : decode c_Mo_function 135 = .ok (.ireturn, 1) := by decide +kernel
theorem d_Mo_isEffect_0 : decode c_Mo_isEffect 0 = .ok (.iload_n 0, 1) := by decide +kernel
theorem d_Mo_isEffect_1 : decode c_Mo_isEffect 1 = .ok (.ifCond .lt 13, 3) := by decide +kernel
theorem d_Mo_isEffect_4 : decode c_Mo_isEffect 4 = .ok (.iload_n 0, 1) := by decide +kernel
theorem d_Mo_isEffect_5 : decode c_Mo_isEffect 5 = .ok (.bipush 8, 2) := by decide +kernel
theorem d_Mo_isEffect_7 : decode c_Mo_isEffect 7 = .ok (.if_icmp .ge 7, 3) := by decide +kernel
theorem d_Mo_isEffect_10 : decode c_Mo_isEffect 10 = .ok (.iconst 1, 1) := by decide +kernel
theorem d_Mo_isEffect_11 : decode c_Mo_isEffect 11 = .ok (.goto 4, 3) := by decide +kernel
theorem d_Mo_isEffect_14 : decode c_Mo_isEffect 14 = .ok (.iconst 0, 1) := by decide +kernel
theorem d_Mo_isEffect_15 : decode c_Mo_isEffect 15 = .ok (.ireturn, 1) := by decide +kernel
theorem d_Mo_effect_0 : decode c_Mo_effect 0 = .ok (.aload_n 0, 1) := by decide +kernel
theorem d_Mo_effect_1 : decode c_Mo_effect 1 = .ok (.iload_n 1, 1) := by decide +kernel
theorem d_Mo_effect_2 : decode c_Mo_effect 2 = .ok (.invokestatic 202, 3) := by decide +kernel
theorem d_Mo_effect_5 : decode c_Mo_effect 5 = .ok (.ifCond .eq 23, 3) := by decide +kernel
theorem d_Mo_effect_8 : decode c_Mo_effect 8 = .ok (.aload_n 0, 1) := by decide +kernel
theorem d_Mo_effect_9 : decode c_Mo_effect 9 = .ok (.iload_n 2, 1) := by decide +kernel
theorem d_Mo_effect_10 : decode c_Mo_effect 10 = .ok (.invokevirtual 194, 3) := by decide +kernel
theorem d_Mo_effect_13 : decode c_Mo_effect 13 = .ok (.ifCond .eq 15, 3) := by decide +kernel
theorem d_Mo_effect_16 : decode c_Mo_effect 16 = .ok (.aload_n 0, 1) := by decide +kernel
theorem d_Mo_effect_17 : decode c_Mo_effect 17 = .ok (.iload_n 3, 1) := by decide +kernel
theorem d_Mo_effect_18 : decode c_Mo_effect 18 = .ok (.invokevirtual 194, 3) := by decide +kernel
theorem d_Mo_effect_21 : decode c_Mo_effect 21 = .ok (.ifCond .eq 7, 3) := by decide +kernel
theorem d_Mo_effect_24 : decode c_Mo_effect 24 = .ok (.iconst 0, 1) := by decide +kernel
theorem d_Mo_effect_25 : decode c_Mo_effect 25 = .ok (.goto 4, 3) := by decide +kernel
theorem d_Mo_effect_28 : decode c_Mo_effect 28 = .ok (.iconst 1, 1) := by decide +kernel
theorem d_Mo_effect_29 : decode c_Mo_effect 29 = .ok (.putfield 142, 3) := by decide +kernel
theorem d_Mo_effect_32 : decode c_Mo_effect 32 = .ok (.aload_n 0, 1) := by decide +kernel
theorem d_Mo_effect_33 : decode c_Mo_effect 33 = .ok (.getfield 142, 3) := by decide +kernel
theorem d_Mo_effect_36 : decode c_Mo_effect 36 = .ok (.ifCond .eq 4, 3) := by decide +kernel
theorem d_Mo_effect_39 : decode c_Mo_effect 39 = .ok (.return_, 1) := by decide +kernel
theorem d_Mo_effect_40 : decode c_Mo_effect 40 = .ok (.aload_n 0, 1) := by decide +kernel
theorem d_Mo_effect_41 : decode c_Mo_effect 41 = .ok (.getfield 69, 3) := by decide +kernel
theorem d_Mo_effect_44 : decode c_Mo_effect 44 = .ok (.iload_n 1, 1) := by decide +kernel
theorem d_Mo_effect_45 : decode c_Mo_effect 45 = .ok (.iload_n 2, 1) := by decide +kernel
theorem d_Mo_effect_46 : decode c_Mo_effect 46 = .ok (.iastore, 1) := by decide +kernel
theorem d_Mo_effect_47 : decode c_Mo_effect 47 = .ok (.aload_n 0, 1) := by decide +kernel
theorem d_Mo_effect_48 : decode c_Mo_effect 48 = .ok (.getfield 72, 3) := by decide +kernel
theorem d_Mo_effect_51 : decode c_Mo_effect 51 = .ok (.iload_n 1, 1) := by decide +kernel
theorem d_Mo_effect_52 : decode c_Mo_effect 52 = .ok (.iload_n 3, 1) := by decide +kernel
theorem d_Mo_effect_53 : decode c_Mo_effect 53 = .ok (.iastore, 1) := by decide +kernel
theorem d_Mo_effect_54 : decode c_Mo_effect 54 = .ok (.return_, 1) := by decide +kernel
theorem d_Mo_type_0 : decode c_Mo_type 0 = .ok (.aload_n 0, 1) := by decide +kernel
theorem d_Mo_type_1 : decode c_Mo_type 1 = .ok (.iconst 0, 1) := by decide +kernel
theorem d_Mo_type_2 : decode c_Mo_type 2 = .ok (.putfield 142, 3) := by decide +kernel
theorem d_Mo_type_5 : decode c_Mo_type 5 = .ok (.iload_n 1, 1) := by decide +kernel
theorem d_Mo_type_6 : decode c_Mo_type 6 = .ok (.iconst 3, 1) := by decide +kernel
theorem d_Mo_type_7 : decode c_Mo_type 7 = .ok (.if_icmp .lt 11, 3) := by decide +kernel
theorem d_Mo_type_10 : decode c_Mo_type 10 = .ok (.iload_n 1, 1) := by decide +kernel
theorem d_Mo_type_11 : decode c_Mo_type 11 = .ok (.aload_n 0, 1) := by decide +kernel
theorem d_Mo_type_12 : decode c_Mo_type 12 = .ok (.getfield 155, 3) := by decide +kernel
theorem d_Mo_type_15 : decode c_Mo_type 15 = .ok (.if_icmp .lt 5, 3) := by decide +kernel
theorem d_Mo_type_18 : decode c_Mo_type 18 = .ok (.iconst (-1), 1) := by decide +kernel
theorem d_Mo_type_19 : decode c_Mo_type 19 = .ok (.ireturn, 1) := by decide +kernel
theorem d_Mo_type_20 : decode c_Mo_type 20 = .ok (.iload_n 2, 1) := by decide +kernel
theorem d_Mo_type_21 : decode c_Mo_type 21 = .ok (.ifCond .ne 12, 3) := by decide +kernel
theorem d_Mo_type_24 : decode c_Mo_type 24 = .ok (.aload_n 0, 1) := by decide +kernel
theorem d_Mo_type_25 : decode c_Mo_type 25 = .ok (.getfield 55, 3) := by decide +kernel
theorem d_Mo_type_28 : decode c_Mo_type 28 = .ok (.iload_n 1, 1) := by decide +kernel
theorem d_Mo_type_29 : decode c_Mo_type 29 = .ok (.iaload, 1) := by decide +kernel
theorem d_Mo_type_30 : decode c_Mo_type 30 = .ok (.goto 32, 3) := by decide +kernel
theorem d_Mo_type_33 : decode c_Mo_type 33 = .ok (.iload_n 2, 1) := by decide +kernel
theorem d_Mo_type_34 : decode c_Mo_type 34 = .ok (.iconst 1, 1) := by decide +kernel
theorem d_Mo_type_35 : decode c_Mo_type 35 = .ok (.if_icmp .ne 12, 3) := by decide +kernel
theorem d_Mo_type_38 : decode c_Mo_type 38 = .ok (.aload_n 0, 1) := by decide +kernel
theorem d_Mo_type_39 : decode c_Mo_type 39 = .ok (.getfield 58, 3) := by decide +kernel
theorem d_Mo_type_42 : decode c_Mo_type 42 = .ok (.iload_n 1, 1) := by decide +kernel
theorem d_Mo_type_43 : decode c_Mo_type 43 = .ok (.iaload, 1) := by decide +kernel
theorem d_Mo_type_44 : decode c_Mo_type 44 = .ok (.goto 18, 3) := by decide +kernel
theorem d_Mo_type_47 : decode c_Mo_type 47 = .ok (.iload_n 2, 1) := by decide +kernel
theorem d_Mo_type_48 : decode c_Mo_type 48 = .ok (.iconst 2, 1) := by decide +kernel
theorem d_Mo_type_49 : decode c_Mo_type 49 = .ok (.if_icmp .ne 12, 3) := by decide +kernel
theorem d_Mo_type_52 : decode c_Mo_type 52 = .ok (.aload_n 0, 1) := by decide +kernel
theorem d_Mo_type_53 : decode c_Mo_type 53 = .ok (.getfield 61, 3) := by decide +kernel
theorem d_Mo_type_56 : decode c_Mo_type 56 = .ok (.iload_n 1, 1) := by decide +kernel
theorem d_Mo_type_57 : decode c_Mo_type 57 = .ok (.iaload, 1) := by decide +kernel
theorem d_Mo_type_58 : decode c_Mo_type 58 = .ok (.goto 4, 3) := by decide +kernel
theorem d_Mo_type_61 : decode c_Mo_type 61 = .ok (.iconst (-1), 1) := by decide +kernel
theorem d_Mo_type_62 : decode c_Mo_type 62 = .ok (.ireturn, 1) := by decide +kernel
theorem d_Mo_fits_0 : decode c_Mo_fits 0 = .ok (.aload_n 0, 1) := by decide +kernel
theorem d_Mo_fits_1 : decode c_Mo_fits 1 = .ok (.iconst 0, 1) := by decide +kernel
theorem d_Mo_fits_2 : decode c_Mo_fits 2 = .ok (.putfield 142, 3) := by decide +kernel
theorem d_Mo_fits_5 : decode c_Mo_fits 5 = .ok (.aload_n 0, 1) := by decide +kernel
theorem d_Mo_fits_6 : decode c_Mo_fits 6 = .ok (.iload_n 1, 1) := by decide +kernel
theorem d_Mo_fits_7 : decode c_Mo_fits 7 = .ok (.invokevirtual 194, 3) := by decide +kernel
theorem d_Mo_fits_10 : decode c_Mo_fits 10 = .ok (.ifCond .eq 30, 3) := by decide +kernel
theorem d_Mo_fits_13 : decode c_Mo_fits 13 = .ok (.aload_n 0, 1) := by decide +kernel
theorem d_Mo_fits_14 : decode c_Mo_fits 14 = .ok (.iload_n 2, 1) := by decide +kernel
theorem d_Mo_fits_15 : decode c_Mo_fits 15 = .ok (.invokevirtual 194, 3) := by decide +kernel
theorem d_Mo_fits_18 : decode c_Mo_fits 18 = .ok (.ifCond .eq 22, 3) := by decide +kernel
theorem d_Mo_fits_21 : decode c_Mo_fits 21 = .ok (.aload_n 0, 1) := by decide +kernel
theorem d_Mo_fits_22 : decode c_Mo_fits 22 = .ok (.getfield 65, 3) := by decide +kernel
theorem d_Mo_fits_25 : decode c_Mo_fits 25 = .ok (.sipush 520, 3) := by decide +kernel
theorem d_Mo_fits_28 : decode c_Mo_fits 28 = .ok (.iload_n 1, 1) := by decide +kernel
theorem d_Mo_fits_29 : decode c_Mo_fits 29 = .ok (.imul, 1) := by decide +kernel
theorem d_Mo_fits_30 : decode c_Mo_fits 30 = .ok (.iload_n 2, 1) := by decide +kernel
theorem d_Mo_fits_31 : decode c_Mo_fits 31 = .ok (.iadd, 1) := by decide +kernel
theorem d_Mo_fits_32 : decode c_Mo_fits 32 = .ok (.baload, 1) := by decide +kernel
theorem d_Mo_fits_33 : decode c_Mo_fits 33 = .ok (.ifCond .eq 7, 3) := by decide +kernel
theorem d_Mo_fits_36 : decode c_Mo_fits 36 = .ok (.iconst 1, 1) := by decide +kernel
theorem d_Mo_fits_37 : decode c_Mo_fits 37 = .ok (.goto 4, 3) := by decide +kernel
theorem d_Mo_fits_40 : decode c_Mo_fits 40 = .ok (.iconst 0, 1) := by decide +kernel
theorem d_Mo_fits_41 : decode c_Mo_fits 41 = .ok (.ireturn, 1) := by decide +kernel
theorem d_Mo_isNode_0 : decode c_Mo_isNode 0 = .ok (.iload_n 1, 1) := by decide +kernel
theorem d_Mo_isNode_1 : decode c_Mo_isNode 1 = .ok (.ifCond .lt 15, 3) := by decide +kernel
theorem d_Mo_isNode_4 : decode c_Mo_isNode 4 = .ok (.iload_n 1, 1) := by decide +kernel
theorem d_Mo_isNode_5 : decode c_Mo_isNode 5 = .ok (.aload_n 0, 1) := by decide +kernel
theorem d_Mo_isNode_6 : decode c_Mo_isNode 6 = .ok (.getfield 146, 3) := by decide +kernel
theorem d_Mo_isNode_9 : decode c_Mo_isNode 9 = .ok (.if_icmp .ge 7, 3) := by decide +kernel
theorem d_Mo_isNode_12 : decode c_Mo_isNode 12 = .ok (.iconst 1, 1) := by decide +kernel
theorem d_Mo_isNode_13 : decode c_Mo_isNode 13 = .ok (.goto 4, 3) := by decide +kernel
theorem d_Mo_isNode_16 : decode c_Mo_isNode 16 = .ok (.iconst 0, 1) := by decide +kernel
theorem d_Mo_isNode_17 : decode c_Mo_isNode 17 = .ok (.ireturn, 1) := by decide +kernel
theorem d_Mo_isName_0 : decode c_Mo_isName 0 = .ok (.iload_n 0, 1) := by decide +kernel
theorem d_Mo_isName_1 : decode c_Mo_isName 1 = .ok (.ifCond .lt 13, 3) := by decide +kernel
theorem d_Mo_isName_4 : decode c_Mo_isName 4 = .ok (.iload_n 0, 1) := by decide +kernel
theorem d_Mo_isName_5 : decode c_Mo_isName 5 = .ok (.bipush 10, 2) := by decide +kernel
theorem d_Mo_isName_7 : decode c_Mo_isName 7 = .ok (.if_icmp .ge 7, 3) := by decide +kernel
theorem d_Mo_isName_10 : decode c_Mo_isName 10 = .ok (.iconst 1, 1) := by decide +kernel
theorem d_Mo_isName_11 : decode c_Mo_isName 11 = .ok (.goto 4, 3) := by decide +kernel
theorem d_Mo_isName_14 : decode c_Mo_isName 14 = .ok (.iconst 0, 1) := by decide +kernel
theorem d_Mo_isName_15 : decode c_Mo_isName 15 = .ok (.ireturn, 1) := by decide +kernel
theorem d_Mo_add_0 : decode c_Mo_add 0 = .ok (.aload_n 0, 1) := by decide +kernel
theorem d_Mo_add_1 : decode c_Mo_add 1 = .ok (.iload_n 2, 1) := by decide +kernel
theorem d_Mo_add_2 : decode c_Mo_add 2 = .ok (.ifCond .ne 7, 3) := by decide +kernel
theorem d_Mo_add_5 : decode c_Mo_add 5 = .ok (.iconst 1, 1) := by decide +kernel
theorem d_Mo_add_6 : decode c_Mo_add 6 = .ok (.goto 18, 3) := by decide +kernel
theorem d_Mo_add_9 : decode c_Mo_add 9 = .ok (.aload_n 0, 1) := by decide +kernel
theorem d_Mo_add_10 : decode c_Mo_add 10 = .ok (.getfield 146, 3) := by decide +kernel
theorem d_Mo_add_13 : decode c_Mo_add 13 = .ok (.sipush 200, 3) := by decide +kernel
theorem d_Mo_add_16 : decode c_Mo_add 16 = .ok (.if_icmp .ne 7, 3) := by decide +kernel
theorem d_Mo_add_19 : decode c_Mo_add 19 = .ok (.iconst 2, 1) := by decide +kernel
theorem d_Mo_add_20 : decode c_Mo_add 20 = .ok (.goto 4, 3) := by decide +kernel
theorem d_Mo_add_23 : decode c_Mo_add 23 = .ok (.iconst 0, 1) := by decide +kernel
theorem d_Mo_add_24 : decode c_Mo_add 24 = .ok (.putfield 142, 3) := by decide +kernel
theorem d_Mo_add_27 : decode c_Mo_add 27 = .ok (.aload_n 0, 1) := by decide +kernel
theorem d_Mo_add_28 : decode c_Mo_add 28 = .ok (.getfield 142, 3) := by decide +kernel
theorem d_Mo_add_31 : decode c_Mo_add 31 = .ok (.ifCond .eq 5, 3) := by decide +kernel
theorem d_Mo_add_34 : decode c_Mo_add 34 = .ok (.iconst 0, 1) := by decide +kernel
theorem d_Mo_add_35 : decode c_Mo_add 35 = .ok (.ireturn, 1) := by decide +kernel
theorem d_Mo_add_36 : decode c_Mo_add 36 = .ok (.aload_n 0, 1) := by decide +kernel
theorem d_Mo_add_37 : decode c_Mo_add 37 = .ok (.getfield 146, 3) := by decide +kernel
theorem d_Mo_add_40 : decode c_Mo_add 40 = .ok (.istore 6, 2) := by decide +kernel
theorem d_Mo_add_42 : decode c_Mo_add 42 = .ok (.aload_n 0, 1) := by decide +kernel
theorem d_Mo_add_43 : decode c_Mo_add 43 = .ok (.dup, 1) := by decide +kernel
theorem d_Mo_add_44 : decode c_Mo_add 44 = .ok (.getfield 146, 3) := by decide +kernel
theorem d_Mo_add_47 : decode c_Mo_add 47 = .ok (.iconst 1, 1) := by decide +kernel
theorem d_Mo_add_48 : decode c_Mo_add 48 = .ok (.iadd, 1) := by decide +kernel
theorem d_Mo_add_49 : decode c_Mo_add 49 = .ok (.putfield 146, 3) := by decide +kernel
theorem d_Mo_add_52 : decode c_Mo_add 52 = .ok (.aload_n 0, 1) := by decide +kernel
theorem d_Mo_add_53 : decode c_Mo_add 53 = .ok (.getfield 7, 3) := by decide +kernel
theorem d_Mo_add_56 : decode c_Mo_add 56 = .ok (.iload 6, 2) := by decide +kernel
theorem d_Mo_add_58 : decode c_Mo_add 58 = .ok (.iload_n 1, 1) := by decide +kernel
theorem d_Mo_add_59 : decode c_Mo_add 59 = .ok (.iastore, 1) := by decide +kernel
theorem d_Mo_add_60 : decode c_Mo_add 60 = .ok (.aload_n 0, 1) := by decide +kernel
theorem d_Mo_add_61 : decode c_Mo_add 61 = .ok (.getfield 22, 3) := by decide +kernel
theorem d_Mo_add_64 : decode c_Mo_add 64 = .ok (.iload 6, 2) := by decide +kernel
theorem d_Mo_add_66 : decode c_Mo_add 66 = .ok (.iload_n 3, 1) := by decide +kernel
theorem d_Mo_add_67 : decode c_Mo_add 67 = .ok (.iastore, 1) := by decide +kernel
theorem d_Mo_add_68 : decode c_Mo_add 68 = .ok (.aload_n 0, 1) := by decide +kernel
theorem d_Mo_add_69 : decode c_Mo_add 69 = .ok (.getfield 25, 3) := by decide +kernel
theorem d_Mo_add_72 : decode c_Mo_add 72 = .ok (.iload 6, 2) := by decide +kernel
theorem d_Mo_add_74 : decode c_Mo_add 74 = .ok (.iload 4, 2) := by decide +kernel
theorem d_Mo_add_76 : decode c_Mo_add 76 = .ok (.iastore, 1) := by decide +kernel
theorem d_Mo_add_77 : decode c_Mo_add 77 = .ok (.aload_n 0, 1) := by decide +kernel
theorem d_Mo_add_78 : decode c_Mo_add 78 = .ok (.getfield 28, 3) := by decide +kernel
theorem d_Mo_add_81 : decode c_Mo_add 81 = .ok (.iload 6, 2) := by decide +kernel
theorem d_Mo_add_83 : decode c_Mo_add 83 = .ok (.iload 5, 2) := by decide +kernel
theorem d_Mo_add_85 : decode c_Mo_add 85 = .ok (.iastore, 1) := by decide +kernel
theorem d_Mo_add_86 : decode c_Mo_add 86 = .ok (.aload_n 0, 1) := by decide +kernel
theorem d_Mo_add_87 : decode c_Mo_add 87 = .ok (.getfield 13, 3) := by decide +kernel
theorem d_Mo_add_90 : decode c_Mo_add 90 = .ok (.iload 6, 2) := by decide +kernel
theorem d_Mo_add_92 : decode c_Mo_add 92 = .ok (.iconst 0, 1) := by decide +kernel
theorem d_Mo_add_93 : decode c_Mo_add 93 = .ok (.iastore, 1) := by decide +kernel
theorem d_Mo_add_94 : decode c_Mo_add 94 = .ok (.aload_n 0, 1) := by decide +kernel
theorem d_Mo_add_95 : decode c_Mo_add 95 = .ok (.getfield 16, 3) := by decide +kernel
theorem d_Mo_add_98 : decode c_Mo_add 98 = .ok (.iload 6, 2) := by decide +kernel
theorem d_Mo_add_100 : decode c_Mo_add 100 = .ok (.iconst 0, 1) := by decide +kernel
theorem d_Mo_add_101 : decode c_Mo_add 101 = .ok (.iastore, 1) := by decide +kernel
theorem d_Mo_add_102 : decode c_Mo_add 102 = .ok (.aload_n 0, 1) := by decide +kernel
theorem d_Mo_add_103 : decode c_Mo_add 103 = .ok (.getfield 19, 3) := by decide +kernel
theorem d_Mo_add_106 : decode c_Mo_add 106 = .ok (.iload 6, 2) := by decide +kernel
theorem d_Mo_add_108 : decode c_Mo_add 108 = .ok (.iconst 0, 1) := by decide +kernel
theorem d_Mo_add_109 : decode c_Mo_add 109 = .ok (.iastore, 1) := by decide +kernel
theorem d_Mo_add_110 : decode c_Mo_add 110 = .ok (.aload_n 0, 1) := by decide +kernel
theorem d_Mo_add_111 : decode c_Mo_add 111 = .ok (.getfield 31, 3) := by decide +kernel
theorem d_Mo_add_114 : decode c_Mo_add 114 = .ok (.iload 6, 2) := by decide +kernel
theorem d_Mo_add_116 : decode c_Mo_add 116 = .ok (.iconst 1, 1) := by decide +kernel
theorem d_Mo_add_117 : decode c_Mo_add 117 = .ok (.iastore, 1) := by decide +kernel
theorem d_Mo_add_118 : decode c_Mo_add 118 = .ok (.aload_n 0, 1) := by decide +kernel
theorem d_Mo_add_119 : decode c_Mo_add 119 = .ok (.getfield 34, 3) := by decide +kernel
theorem d_Mo_add_122 : decode c_Mo_add 122 = .ok (.iload 6, 2) := by decide +kernel
theorem d_Mo_add_124 : decode c_Mo_add 124 = .ok (.iconst 1, 1) := by decide +kernel
theorem d_Mo_add_125 : decode c_Mo_add 125 = .ok (.iastore, 1) := by decide +kernel
theorem d_Mo_add_126 : decode c_Mo_add 126 = .ok (.aload_n 0, 1) := by decide +kernel
theorem d_Mo_add_127 : decode c_Mo_add 127 = .ok (.iload 6, 2) := by decide +kernel
theorem d_Mo_add_129 : decode c_Mo_add 129 = .ok (.iload_n 3, 1) := by decide +kernel
theorem d_Mo_add_130 : decode c_Mo_add 130 = .ok (.invokevirtual 205, 3) := by decide +kernel
theorem d_Mo_add_133 : decode c_Mo_add 133 = .ok (.aload_n 0, 1) := by decide +kernel
theorem d_Mo_add_134 : decode c_Mo_add 134 = .ok (.iload 6, 2) := by decide +kernel
theorem d_Mo_add_136 : decode c_Mo_add 136 = .ok (.iload 4, 2) := by decide +kernel
theorem d_Mo_add_138 : decode c_Mo_add 138 = .ok (.invokevirtual 205, 3) := by decide +kernel
theorem d_Mo_add_141 : decode c_Mo_add 141 = .ok (.aload_n 0, 1) := by decide +kernel
theorem d_Mo_add_142 : decode c_Mo_add 142 = .ok (.iload 6, 2) := by decide +kernel
theorem d_Mo_add_144 : decode c_Mo_add 144 = .ok (.iload 5, 2) := by decide +kernel
theorem d_Mo_add_146 : decode c_Mo_add 146 = .ok (.invokevirtual 205, 3) := by decide +kernel
theorem d_Mo_add_149 : decode c_Mo_add 149 = .ok (.aload_n 0, 1) := by decide +kernel
theorem d_Mo_add_150 : decode c_Mo_add 150 = .ok (.getfield 40, 3) := by decide +kernel
theorem d_Mo_add_153 : decode c_Mo_add 153 = .ok (.iload 6, 2) := by decide +kernel
theorem d_Mo_add_155 : decode c_Mo_add 155 = .ok (.iconst 0, 1) := by decide +kernel
theorem d_Mo_add_156 : decode c_Mo_add 156 = .ok (.iastore, 1) := by decide +kernel
theorem d_Mo_add_157 : decode c_Mo_add 157 = .ok (.iload 6, 2) := by decide +kernel
theorem d_Mo_add_159 : decode c_Mo_add 159 = .ok (.ireturn, 1) := by decide +kernel
theorem d_Mo_counts_0 : decode c_Mo_counts 0 = .ok (.iload_n 2, 1) := by decide +kernel
theorem d_Mo_counts_1 : decode c_Mo_counts 1 = .ok (.iconst (-1), 1) := by decide +kernel
theorem d_Mo_counts_2 : decode c_Mo_counts 2 = .ok (.if_icmp .ne 4, 3) := by decide +kernel
theorem d_Mo_counts_5 : decode c_Mo_counts 5 = .ok (.return_, 1) := by decide +kernel
theorem d_Mo_counts_6 : decode c_Mo_counts 6 = .ok (.aload_n 0, 1) := by decide +kernel
theorem d_Mo_counts_7 : decode c_Mo_counts 7 = .ok (.getfield 31, 3) := by decide +kernel
theorem d_Mo_counts_10 : decode c_Mo_counts 10 = .ok (.iload_n 1, 1) := by decide +kernel
theorem d_Mo_counts_11 : decode c_Mo_counts 11 = .ok (.dup2, 1) := by decide +kernel
theorem d_Mo_counts_12 : decode c_Mo_counts 12 = .ok (.iaload, 1) := by decide +kernel
theorem d_Mo_counts_13 : decode c_Mo_counts 13 = .ok (.aload_n 0, 1) := by decide +kernel
theorem d_Mo_counts_14 : decode c_Mo_counts 14 = .ok (.getfield 31, 3) := by decide +kernel
theorem d_Mo_counts_17 : decode c_Mo_counts 17 = .ok (.iload_n 2, 1) := by decide +kernel
theorem d_Mo_counts_18 : decode c_Mo_counts 18 = .ok (.iaload, 1) := by decide +kernel
theorem d_Mo_counts_19 : decode c_Mo_counts 19 = .ok (.iadd, 1) := by decide +kernel
theorem d_Mo_counts_20 : decode c_Mo_counts 20 = .ok (.iastore, 1) := by decide +kernel
theorem d_Mo_counts_21 : decode c_Mo_counts 21 = .ok (.aload_n 0, 1) := by decide +kernel
theorem d_Mo_counts_22 : decode c_Mo_counts 22 = .ok (.getfield 31, 3) := by decide +kernel
theorem d_Mo_counts_25 : decode c_Mo_counts 25 = .ok (.iload_n 1, 1) := by decide +kernel
theorem d_Mo_counts_26 : decode c_Mo_counts 26 = .ok (.iaload, 1) := by decide +kernel
theorem d_Mo_counts_27 : decode c_Mo_counts 27 = .ok (.ldc 209, 2) := by decide +kernel
theorem d_Mo_counts_29 : decode c_Mo_counts 29 = .ok (.if_icmp .le 11, 3) := by decide +kernel
theorem d_Mo_counts_32 : decode c_Mo_counts 32 = .ok (.aload_n 0, 1) := by decide +kernel
theorem d_Mo_counts_33 : decode c_Mo_counts 33 = .ok (.getfield 31, 3) := by decide +kernel
theorem d_Mo_counts_36 : decode c_Mo_counts 36 = .ok (.iload_n 1, 1) := by decide +kernel
theorem d_Mo_counts_37 : decode c_Mo_counts 37 = .ok (.ldc 209, 2) := by decide +kernel
theorem d_Mo_counts_39 : decode c_Mo_counts 39 = .ok (.iastore, 1) := by decide +kernel
theorem d_Mo_counts_40 : decode c_Mo_counts 40 = .ok (.aload_n 0, 1) := by decide +kernel
theorem d_Mo_counts_41 : decode c_Mo_counts 41 = .ok (.getfield 34, 3) := by decide +kernel
theorem d_Mo_counts_44 : decode c_Mo_counts 44 = .ok (.iload_n 2, 1) := by decide +kernel
theorem d_Mo_counts_45 : decode c_Mo_counts 45 = .ok (.iaload, 1) := by decide +kernel
theorem d_Mo_counts_46 : decode c_Mo_counts 46 = .ok (.aload_n 0, 1) := by decide +kernel
theorem d_Mo_counts_47 : decode c_Mo_counts 47 = .ok (.getfield 34, 3) := by decide +kernel
theorem d_Mo_counts_50 : decode c_Mo_counts 50 = .ok (.iload_n 1, 1) := by decide +kernel
theorem d_Mo_counts_51 : decode c_Mo_counts 51 = .ok (.iaload, 1) := by decide +kernel
theorem d_Mo_counts_52 : decode c_Mo_counts 52 = .ok (.if_icmp .lt 17, 3) := by decide +kernel
theorem d_Mo_counts_55 : decode c_Mo_counts 55 = .ok (.aload_n 0, 1) := by decide +kernel
theorem d_Mo_counts_56 : decode c_Mo_counts 56 = .ok (.getfield 34, 3) := by decide +kernel
theorem d_Mo_counts_59 : decode c_Mo_counts 59 = .ok (.iload_n 1, 1) := by decide +kernel
theorem d_Mo_counts_60 : decode c_Mo_counts 60 = .ok (.aload_n 0, 1) := by decide +kernel
theorem d_Mo_counts_61 : decode c_Mo_counts 61 = .ok (.getfield 34, 3) := by decide +kernel
theorem d_Mo_counts_64 : decode c_Mo_counts 64 = .ok (.iload_n 2, 1) := by decide +kernel
theorem d_Mo_counts_65 : decode c_Mo_counts 65 = .ok (.iaload, 1) := by decide +kernel
theorem d_Mo_counts_66 : decode c_Mo_counts 66 = .ok (.iconst 1, 1) := by decide +kernel
theorem d_Mo_counts_67 : decode c_Mo_counts 67 = .ok (.iadd, 1) := by decide +kernel
theorem d_Mo_counts_68 : decode c_Mo_counts 68 = .ok (.iastore, 1) := by decide +kernel
theorem d_Mo_counts_69 : decode c_Mo_counts 69 = .ok (.return_, 1) := by decide +kernel
theorem d_Mo_atom_0 : decode c_Mo_atom 0 = .ok (.iload_n 1, 1) := by decide +kernel
theorem d_Mo_atom_1 : decode c_Mo_atom 1 = .ok (.ifCond .lt 38, 3) := by decide +kernel
theorem d_Mo_atom_4 : decode c_Mo_atom 4 = .ok (.iload_n 1, 1) := by decide +kernel
theorem d_Mo_atom_5 : decode c_Mo_atom 5 = .ok (.iconst 3, 1) := by decide +kernel
theorem d_Mo_atom_6 : decode c_Mo_atom 6 = .ok (.if_icmp .gt 33, 3) := by decide +kernel
theorem d_Mo_atom_9 : decode c_Mo_atom 9 = .ok (.iload_n 1, 1) := by decide +kernel
theorem d_Mo_atom_10 : decode c_Mo_atom 10 = .ok (.iconst 1, 1) := by decide +kernel
theorem d_Mo_atom_11 : decode c_Mo_atom 11 = .ok (.if_icmp .ne 12, 3) := by decide +kernel
theorem d_Mo_atom_14 : decode c_Mo_atom 14 = .ok (.iload_n 2, 1) := by decide +kernel
theorem d_Mo_atom_15 : decode c_Mo_atom 15 = .ok (.ifCond .eq 8, 3) := by decide +kernel
theorem d_Mo_atom_18 : decode c_Mo_atom 18 = .ok (.iload_n 2, 1) := by decide +kernel
theorem d_Mo_atom_19 : decode c_Mo_atom 19 = .ok (.iconst 1, 1) := by decide +kernel
theorem d_Mo_atom_20 : decode c_Mo_atom 20 = .ok (.if_icmp .ne 19, 3) := by decide +kernel
theorem d_Mo_atom_23 : decode c_Mo_atom 23 = .ok (.iload_n 1, 1) := by decide +kernel
theorem d_Mo_atom_24 : decode c_Mo_atom 24 = .ok (.iconst 3, 1) := by decide +kernel
theorem d_Mo_atom_25 : decode c_Mo_atom 25 = .ok (.if_icmp .ne 10, 3) := by decide +kernel
theorem d_Mo_atom_28 : decode c_Mo_atom 28 = .ok (.iload_n 2, 1) := by decide +kernel
theorem d_Mo_atom_29 : decode c_Mo_atom 29 = .ok (.invokestatic 210, 3) := by decide +kernel
theorem d_Mo_atom_32 : decode c_Mo_atom 32 = .ok (.ifCond .eq 7, 3) := by decide +kernel
theorem d_Mo_atom_35 : decode c_Mo_atom 35 = .ok (.iconst 1, 1) := by decide +kernel
theorem d_Mo_atom_36 : decode c_Mo_atom 36 = .ok (.goto 4, 3) := by decide +kernel
theorem d_Mo_atom_39 : decode c_Mo_atom 39 = .ok (.iconst 0, 1) := by decide +kernel
theorem d_Mo_atom_40 : decode c_Mo_atom 40 = .ok (.istore_n 3, 1) := by decide +kernel
theorem d_Mo_atom_41 : decode c_Mo_atom 41 = .ok (.aload_n 0, 1) := by decide +kernel
theorem d_Mo_atom_42 : decode c_Mo_atom 42 = .ok (.iload_n 1, 1) := by decide +kernel
theorem d_Mo_atom_43 : decode c_Mo_atom 43 = .ok (.iload_n 3, 1) := by decide +kernel
theorem d_Mo_atom_44 : decode c_Mo_atom 44 = .ok (.iconst (-1), 1) := by decide +kernel
theorem d_Mo_atom_45 : decode c_Mo_atom 45 = .ok (.iconst (-1), 1) := by decide +kernel
theorem d_Mo_atom_46 : decode c_Mo_atom 46 = .ok (.iconst (-1), 1) := by decide +kernel
theorem d_Mo_atom_47 : decode c_Mo_atom 47 = .ok (.invokevirtual 213, 3) := by decide +kernel
theorem d_Mo_atom_50 : decode c_Mo_atom 50 = .ok (.istore 4, 2) := by decide +kernel
theorem d_Mo_atom_52 : decode c_Mo_atom 52 = .ok (.aload_n 0, 1) := by decide +kernel
theorem d_Mo_atom_53 : decode c_Mo_atom 53 = .ok (.getfield 142, 3) := by decide +kernel
theorem d_Mo_atom_56 : decode c_Mo_atom 56 = .ok (.ifCond .ne 11, 3) := by decide +kernel
theorem d_Mo_atom_59 : decode c_Mo_atom 59 = .ok (.aload_n 0, 1) := by decide +kernel
theorem d_Mo_atom_60 : decode c_Mo_atom 60 = .ok (.getfield 13, 3) := by decide +kernel
theorem d_Mo_atom_63 : decode c_Mo_atom 63 = .ok (.iload 4, 2) := by decide +kernel
theorem d_Mo_atom_65 : decode c_Mo_atom 65 = .ok (.iload_n 2, 1) := by decide +kernel
theorem d_Mo_atom_66 : decode c_Mo_atom 66 = .ok (.iastore, 1) := by decide +kernel
theorem d_Mo_atom_67 : decode c_Mo_atom 67 = .ok (.iload 4, 2) := by decide +kernel
theorem d_Mo_atom_69 : decode c_Mo_atom 69 = .ok (.ireturn, 1) := by decide +kernel
theorem d_Mo_let_0 : decode c_Mo_let 0 = .ok (.aload_n 0, 1) := by decide +kernel
theorem d_Mo_let_1 : decode c_Mo_let 1 = .ok (.iconst 4, 1) := by decide +kernel
theorem d_Mo_let_2 : decode c_Mo_let 2 = .ok (.iload_n 1, 1) := by decide +kernel
theorem d_Mo_let_3 : decode c_Mo_let 3 = .ok (.invokestatic 210, 3) := by decide +kernel
theorem d_Mo_let_6 : decode c_Mo_let 6 = .ok (.ifCond .eq 23, 3) := by decide +kernel
theorem d_Mo_let_9 : decode c_Mo_let 9 = .ok (.aload_n 0, 1) := by decide +kernel
theorem d_Mo_let_10 : decode c_Mo_let 10 = .ok (.iload_n 2, 1) := by decide +kernel
theorem d_Mo_let_11 : decode c_Mo_let 11 = .ok (.invokevirtual 217, 3) := by decide +kernel
theorem d_Mo_let_14 : decode c_Mo_let 14 = .ok (.ifCond .eq 15, 3) := by decide +kernel
theorem d_Mo_let_17 : decode c_Mo_let 17 = .ok (.aload_n 0, 1) := by decide +kernel
theorem d_Mo_let_18 : decode c_Mo_let 18 = .ok (.iload_n 3, 1) := by decide +kernel
theorem d_Mo_let_19 : decode c_Mo_let 19 = .ok (.invokevirtual 217, 3) := by decide +kernel
theorem d_Mo_let_22 : decode c_Mo_let 22 = .ok (.ifCond .eq 7, 3) := by decide +kernel
theorem d_Mo_let_25 : decode c_Mo_let 25 = .ok (.iconst 1, 1) := by decide +kernel
theorem d_Mo_let_26 : decode c_Mo_let 26 = .ok (.goto 4, 3) := by decide +kernel
theorem d_Mo_let_29 : decode c_Mo_let 29 = .ok (.iconst 0, 1) := by decide +kernel
theorem d_Mo_let_30 : decode c_Mo_let 30 = .ok (.iload_n 2, 1) := by decide +kernel
theorem d_Mo_let_31 : decode c_Mo_let 31 = .ok (.iload_n 3, 1) := by decide +kernel
theorem d_Mo_let_32 : decode c_Mo_let 32 = .ok (.iconst (-1), 1) := by decide +kernel
theorem d_Mo_let_33 : decode c_Mo_let 33 = .ok (.invokevirtual 213, 3) := by decide +kernel
theorem d_Mo_let_36 : decode c_Mo_let 36 = .ok (.istore 4, 2) := by decide +kernel
theorem d_Mo_let_38 : decode c_Mo_let 38 = .ok (.aload_n 0, 1) := by decide +kernel
theorem d_Mo_let_39 : decode c_Mo_let 39 = .ok (.getfield 142, 3) := by decide +kernel
theorem d_Mo_let_42 : decode c_Mo_let 42 = .ok (.ifCond .ne 11, 3) := by decide +kernel
theorem d_Mo_let_45 : decode c_Mo_let 45 = .ok (.aload_n 0, 1) := by decide +kernel
theorem d_Mo_let_46 : decode c_Mo_let 46 = .ok (.getfield 13, 3) := by decide +kernel
theorem d_Mo_let_49 : decode c_Mo_let 49 = .ok (.iload 4, 2) := by decide +kernel
theorem d_Mo_let_51 : decode c_Mo_let 51 = .ok (.iload_n 1, 1) := by decide +kernel
theorem d_Mo_let_52 : decode c_Mo_let 52 = .ok (.iastore, 1) := by decide +kernel
theorem d_Mo_let_53 : decode c_Mo_let 53 = .ok (.iload 4, 2) := by decide +kernel
theorem d_Mo_let_55 : decode c_Mo_let 55 = .ok (.ireturn, 1) := by decide +kernel
theorem d_Mo_rec_0 : decode c_Mo_rec 0 = .ok (.aload_n 0, 1) := by decide +kernel
theorem d_Mo_rec_1 : decode c_Mo_rec 1 = .ok (.iconst 5, 1) := by decide +kernel
theorem d_Mo_rec_2 : decode c_Mo_rec 2 = .ok (.iload_n 1, 1) := by decide +kernel
theorem d_Mo_rec_3 : decode c_Mo_rec 3 = .ok (.invokestatic 210, 3) := by decide +kernel
theorem d_Mo_rec_6 : decode c_Mo_rec 6 = .ok (.ifCond .eq 45, 3) := by decide +kernel
theorem d_Mo_rec_9 : decode c_Mo_rec 9 = .ok (.iload_n 2, 1) := by decide +kernel
theorem d_Mo_rec_10 : decode c_Mo_rec 10 = .ok (.invokestatic 210, 3) := by decide +kernel
theorem d_Mo_rec_13 : decode c_Mo_rec 13 = .ok (.ifCond .eq 38, 3) := by decide +kernel
theorem d_Mo_rec_16 : decode c_Mo_rec 16 = .ok (.iload_n 3, 1) := by decide +kernel
theorem d_Mo_rec_17 : decode c_Mo_rec 17 = .ok (.iconst 3, 1) := by decide +kernel
theorem d_Mo_rec_18 : decode c_Mo_rec 18 = .ok (.if_icmp .lt 33, 3) := by decide +kernel
theorem d_Mo_rec_21 : decode c_Mo_rec 21 = .ok (.iload_n 3, 1) := by decide +kernel
theorem d_Mo_rec_22 : decode c_Mo_rec 22 = .ok (.aload_n 0, 1) := by decide +kernel
theorem d_Mo_rec_23 : decode c_Mo_rec 23 = .ok (.getfield 155, 3) := by decide +kernel
theorem d_Mo_rec_26 : decode c_Mo_rec 26 = .ok (.if_icmp .ge 25, 3) := by decide +kernel
theorem d_Mo_rec_29 : decode c_Mo_rec 29 = .ok (.aload_n 0, 1) := by decide +kernel
theorem d_Mo_rec_30 : decode c_Mo_rec 30 = .ok (.iload 4, 2) := by decide +kernel
theorem d_Mo_rec_32 : decode c_Mo_rec 32 = .ok (.invokevirtual 217, 3) := by decide +kernel
theorem d_Mo_rec_35 : decode c_Mo_rec 35 = .ok (.ifCond .eq 16, 3) := by decide +kernel
theorem d_Mo_rec_38 : decode c_Mo_rec 38 = .ok (.aload_n 0, 1) := by decide +kernel
theorem d_Mo_rec_39 : decode c_Mo_rec 39 = .ok (.iload 5, 2) := by decide +kernel
theorem d_Mo_rec_41 : decode c_Mo_rec 41 = .ok (.invokevirtual 217, 3) := by decide +kernel
theorem d_Mo_rec_44 : decode c_Mo_rec 44 = .ok (.ifCond .eq 7, 3) := by decide +kernel
theorem d_Mo_rec_47 : decode c_Mo_rec 47 = .ok (.iconst 1, 1) := by decide +kernel
theorem d_Mo_rec_48 : decode c_Mo_rec 48 = .ok (.goto 4, 3) := by decide +kernel
theorem d_Mo_rec_51 : decode c_Mo_rec 51 = .ok (.iconst 0, 1) := by decide +kernel
theorem d_Mo_rec_52 : decode c_Mo_rec 52 = .ok (.iload 4, 2) := by decide +kernel
theorem d_Mo_rec_54 : decode c_Mo_rec 54 = .ok (.iload 5, 2) := by decide +kernel
theorem d_Mo_rec_56 : decode c_Mo_rec 56 = .ok (.iconst (-1), 1) := by decide +kernel
theorem d_Mo_rec_57 : decode c_Mo_rec 57 = .ok (.invokevirtual 213, 3) := by decide +kernel
theorem d_Mo_rec_60 : decode c_Mo_rec 60 = .ok (.istore 6, 2) := by decide +kernel
theorem d_Mo_rec_62 : decode c_Mo_rec 62 = .ok (.aload_n 0, 1) := by decide +kernel
theorem d_Mo_rec_63 : decode c_Mo_rec 63 = .ok (.getfield 142, 3) := by decide +kernel
theorem d_Mo_rec_66 : decode c_Mo_rec 66 = .ok (.ifCond .eq 5, 3) := by decide +kernel
theorem d_Mo_rec_69 : decode c_Mo_rec 69 = .ok (.iconst 0, 1) := by decide +kernel
theorem d_Mo_rec_70 : decode c_Mo_rec 70 = .ok (.ireturn, 1) := by decide +kernel
theorem d_Mo_rec_71 : decode c_Mo_rec 71 = .ok (.aload_n 0, 1) := by decide +kernel
theorem d_Mo_rec_72 : decode c_Mo_rec 72 = .ok (.getfield 13, 3) := by decide +kernel
theorem d_Mo_rec_75 : decode c_Mo_rec 75 = .ok (.iload 6, 2) := by decide +kernel
theorem d_Mo_rec_77 : decode c_Mo_rec 77 = .ok (.iload_n 1, 1) := by decide +kernel
theorem d_Mo_rec_78 : decode c_Mo_rec 78 = .ok (.iastore, 1) := by decide +kernel
theorem d_Mo_rec_79 : decode c_Mo_rec 79 = .ok (.aload_n 0, 1) := by decide +kernel
theorem d_Mo_rec_80 : decode c_Mo_rec 80 = .ok (.getfield 16, 3) := by decide +kernel
theorem d_Mo_rec_83 : decode c_Mo_rec 83 = .ok (.iload 6, 2) := by decide +kernel
theorem d_Mo_rec_85 : decode c_Mo_rec 85 = .ok (.iload_n 2, 1) := by decide +kernel
theorem d_Mo_rec_86 : decode c_Mo_rec 86 = .ok (.iastore, 1) := by decide +kernel
theorem d_Mo_rec_87 : decode c_Mo_rec 87 = .ok (.aload_n 0, 1) := by decide +kernel
theorem d_Mo_rec_88 : decode c_Mo_rec 88 = .ok (.getfield 19, 3) := by decide +kernel
theorem d_Mo_rec_91 : decode c_Mo_rec 91 = .ok (.iload 6, 2) := by decide +kernel
theorem d_Mo_rec_93 : decode c_Mo_rec 93 = .ok (.iload_n 3, 1) := by decide +kernel
theorem d_Mo_rec_94 : decode c_Mo_rec 94 = .ok (.iastore, 1) := by decide +kernel
theorem d_Mo_rec_95 : decode c_Mo_rec 95 = .ok (.iload 6, 2) := by decide +kernel
theorem d_Mo_rec_97 : decode c_Mo_rec 97 = .ok (.ireturn, 1) := by decide +kernel
theorem d_Mo_choice_0 : decode c_Mo_choice 0 = .ok (.aload_n 0, 1) := by decide +kernel
theorem d_Mo_choice_1 : decode c_Mo_choice 1 = .ok (.bipush 6, 2) := by decide +kernel
theorem d_Mo_choice_3 : decode c_Mo_choice 3 = .ok (.aload_n 0, 1) := by decide +kernel
theorem d_Mo_choice_4 : decode c_Mo_choice 4 = .ok (.iload_n 1, 1) := by decide +kernel
theorem d_Mo_choice_5 : decode c_Mo_choice 5 = .ok (.invokevirtual 217, 3) := by decide +kernel
theorem d_Mo_choice_8 : decode c_Mo_choice 8 = .ok (.ifCond .eq 23, 3) := by decide +kernel
theorem d_Mo_choice_11 : decode c_Mo_choice 11 = .ok (.aload_n 0, 1) := by decide +kernel
theorem d_Mo_choice_12 : decode c_Mo_choice 12 = .ok (.iload_n 2, 1) := by decide +kernel
theorem d_Mo_choice_13 : decode c_Mo_choice 13 = .ok (.invokevirtual 217, 3) := by decide +kernel
theorem d_Mo_choice_16 : decode c_Mo_choice 16 = .ok (.ifCond .eq 15, 3) := by decide +kernel
theorem d_Mo_choice_19 : decode c_Mo_choice 19 = .ok (.aload_n 0, 1) := by decide +kernel
theorem d_Mo_choice_20 : decode c_Mo_choice 20 = .ok (.iload_n 3, 1) := by decide +kernel
theorem d_Mo_choice_21 : decode c_Mo_choice 21 = .ok (.invokevirtual 217, 3) := by decide +kernel
theorem d_Mo_choice_24 : decode c_Mo_choice 24 = .ok (.ifCond .eq 7, 3) := by decide +kernel
theorem d_Mo_choice_27 : decode c_Mo_choice 27 = .ok (.iconst 1, 1) := by decide +kernel
theorem d_Mo_choice_28 : decode c_Mo_choice 28 = .ok (.goto 4, 3) := by decide +kernel
theorem d_Mo_choice_31 : decode c_Mo_choice 31 = .ok (.iconst 0, 1) := by decide +kernel
theorem d_Mo_choice_32 : decode c_Mo_choice 32 = .ok (.iload_n 1, 1) := by decide +kernel
theorem d_Mo_choice_33 : decode c_Mo_choice 33 = .ok (.iload_n 2, 1) := by decide +kernel
theorem d_Mo_choice_34 : decode c_Mo_choice 34 = .ok (.iload_n 3, 1) := by decide +kernel
theorem d_Mo_choice_35 : decode c_Mo_choice 35 = .ok (.invokevirtual 213, 3) := by decide +kernel
theorem d_Mo_choice_38 : decode c_Mo_choice 38 = .ok (.ireturn, 1) := by decide +kernel
theorem d_Mo_fn_0 : decode c_Mo_fn 0 = .ok (.aload_n 0, 1) := by decide +kernel
theorem d_Mo_fn_1 : decode c_Mo_fn 1 = .ok (.bipush 7, 2) := by decide +kernel
theorem d_Mo_fn_3 : decode c_Mo_fn 3 = .ok (.iload_n 1, 1) := by decide +kernel
theorem d_Mo_fn_4 : decode c_Mo_fn 4 = .ok (.invokestatic 210, 3) := by decide +kernel
theorem d_Mo_fn_7 : decode c_Mo_fn 7 = .ok (.ifCond .eq 23, 3) := by decide +kernel
theorem d_Mo_fn_10 : decode c_Mo_fn 10 = .ok (.aload_n 0, 1) := by decide +kernel
theorem d_Mo_fn_11 : decode c_Mo_fn 11 = .ok (.iload_n 2, 1) := by decide +kernel
theorem d_Mo_fn_12 : decode c_Mo_fn 12 = .ok (.invokevirtual 194, 3) := by decide +kernel
theorem d_Mo_fn_15 : decode c_Mo_fn 15 = .ok (.ifCond .eq 15, 3) := by decide +kernel
theorem d_Mo_fn_18 : decode c_Mo_fn 18 = .ok (.aload_n 0, 1) := by decide +kernel
theorem d_Mo_fn_19 : decode c_Mo_fn 19 = .ok (.iload_n 3, 1) := by decide +kernel
theorem d_Mo_fn_20 : decode c_Mo_fn 20 = .ok (.invokevirtual 217, 3) := by decide +kernel
theorem d_Mo_fn_23 : decode c_Mo_fn 23 = .ok (.ifCond .eq 7, 3) := by decide +kernel
theorem d_Mo_fn_26 : decode c_Mo_fn 26 = .ok (.iconst 1, 1) := by decide +kernel
theorem d_Mo_fn_27 : decode c_Mo_fn 27 = .ok (.goto 4, 3) := by decide +kernel
theorem d_Mo_fn_30 : decode c_Mo_fn 30 = .ok (.iconst 0, 1) := by decide +kernel
theorem d_Mo_fn_31 : decode c_Mo_fn 31 = .ok (.iload_n 3, 1) := by decide +kernel
theorem d_Mo_fn_32 : decode c_Mo_fn 32 = .ok (.iconst (-1), 1) := by decide +kernel
theorem d_Mo_fn_33 : decode c_Mo_fn 33 = .ok (.iconst (-1), 1) := by decide +kernel
theorem d_Mo_fn_34 : decode c_Mo_fn 34 = .ok (.invokevirtual 213, 3) := by decide +kernel
theorem d_Mo_fn_37 : decode c_Mo_fn 37 = .ok (.istore 4, 2) := by decide +kernel
theorem d_Mo_fn_39 : decode c_Mo_fn 39 = .ok (.aload_n 0, 1) := by decide +kernel
theorem d_Mo_fn_40 : decode c_Mo_fn 40 = .ok (.getfield 142, 3) := by decide +kernel
theorem d_Mo_fn_43 : decode c_Mo_fn 43 = .ok (.ifCond .eq 5, 3) := by decide +kernel
theorem d_Mo_fn_46 : decode c_Mo_fn 46 = .ok (.iconst 0, 1) := by decide +kernel
theorem d_Mo_fn_47 : decode c_Mo_fn 47 = .ok (.ireturn, 1) := by decide +kernel
theorem d_Mo_fn_48 : decode c_Mo_fn 48 = .ok (.aload_n 0, 1) := by decide +kernel
theorem d_Mo_fn_49 : decode c_Mo_fn 49 = .ok (.getfield 13, 3) := by decide +kernel
theorem d_Mo_fn_52 : decode c_Mo_fn 52 = .ok (.iload 4, 2) := by decide +kernel
theorem d_Mo_fn_54 : decode c_Mo_fn 54 = .ok (.iload_n 1, 1) := by decide +kernel
theorem d_Mo_fn_55 : decode c_Mo_fn 55 = .ok (.iastore, 1) := by decide +kernel
theorem d_Mo_fn_56 : decode c_Mo_fn 56 = .ok (.aload_n 0, 1) := by decide +kernel
theorem d_Mo_fn_57 : decode c_Mo_fn 57 = .ok (.getfield 16, 3) := by decide +kernel
theorem d_Mo_fn_60 : decode c_Mo_fn 60 = .ok (.iload 4, 2) := by decide +kernel
theorem d_Mo_fn_62 : decode c_Mo_fn 62 = .ok (.iload_n 2, 1) := by decide +kernel
theorem d_Mo_fn_63 : decode c_Mo_fn 63 = .ok (.iastore, 1) := by decide +kernel
theorem d_Mo_fn_64 : decode c_Mo_fn 64 = .ok (.iload 4, 2) := by decide +kernel
theorem d_Mo_fn_66 : decode c_Mo_fn 66 = .ok (.ireturn, 1) := by decide +kernel
theorem d_Mo_clause_0 : decode c_Mo_clause 0 = .ok (.aload_n 0, 1) := by decide +kernel
theorem d_Mo_clause_1 : decode c_Mo_clause 1 = .ok (.iload_n 1, 1) := by decide +kernel
theorem d_Mo_clause_2 : decode c_Mo_clause 2 = .ok (.invokestatic 202, 3) := by decide +kernel
theorem d_Mo_clause_5 : decode c_Mo_clause 5 = .ok (.ifCond .eq 26, 3) := by decide +kernel
theorem d_Mo_clause_8 : decode c_Mo_clause 8 = .ok (.iload_n 2, 1) := by decide +kernel
theorem d_Mo_clause_9 : decode c_Mo_clause 9 = .ok (.invokestatic 210, 3) := by decide +kernel
theorem d_Mo_clause_12 : decode c_Mo_clause 12 = .ok (.ifCond .eq 19, 3) := by decide +kernel
theorem d_Mo_clause_15 : decode c_Mo_clause 15 = .ok (.iload_n 3, 1) := by decide +kernel
theorem d_Mo_clause_16 : decode c_Mo_clause 16 = .ok (.invokestatic 210, 3) := by decide +kernel
theorem d_Mo_clause_19 : decode c_Mo_clause 19 = .ok (.ifCond .eq 12, 3) := by decide +kernel
theorem d_Mo_clause_22 : decode c_Mo_clause 22 = .ok (.aload_n 0, 1) := by decide +kernel
theorem d_Mo_clause_23 : decode c_Mo_clause 23 = .ok (.iload 4, 2) := by decide +kernel
theorem d_Mo_clause_25 : decode c_Mo_clause 25 = .ok (.invokevirtual 217, 3) := by decide +kernel
theorem d_Mo_clause_28 : decode c_Mo_clause 28 = .ok (.ifCond .ne 7, 3) := by decide +kernel
theorem d_Mo_clause_31 : decode c_Mo_clause 31 = .ok (.iconst 1, 1) := by decide +kernel
theorem d_Mo_clause_32 : decode c_Mo_clause 32 = .ok (.goto 17, 3) := by decide +kernel
theorem d_Mo_clause_35 : decode c_Mo_clause 35 = .ok (.aload_n 0, 1) := by decide +kernel
theorem d_Mo_clause_36 : decode c_Mo_clause 36 = .ok (.getfield 149, 3) := by decide +kernel
theorem d_Mo_clause_39 : decode c_Mo_clause 39 = .ok (.bipush 40, 2) := by decide +kernel
theorem d_Mo_clause_41 : decode c_Mo_clause 41 = .ok (.if_icmp .ne 7, 3) := by decide +kernel
theorem d_Mo_clause_44 : decode c_Mo_clause 44 = .ok (.iconst 2, 1) := by decide +kernel
theorem d_Mo_clause_45 : decode c_Mo_clause 45 = .ok (.goto 4, 3) := by decide +kernel
theorem d_Mo_clause_48 : decode c_Mo_clause 48 = .ok (.iconst 0, 1) := by decide +kernel
theorem d_Mo_clause_49 : decode c_Mo_clause 49 = .ok (.putfield 142, 3) := by decide +kernel
theorem d_Mo_clause_52 : decode c_Mo_clause 52 = .ok (.aload_n 0, 1) := by decide +kernel
theorem d_Mo_clause_53 : decode c_Mo_clause 53 = .ok (.getfield 142, 3) := by decide +kernel
theorem d_Mo_clause_56 : decode c_Mo_clause 56 = .ok (.ifCond .eq 5, 3) := by decide +kernel
theorem d_Mo_clause_59 : decode c_Mo_clause 59 = .ok (.iconst 0, 1) := by decide +kernel
theorem d_Mo_clause_60 : decode c_Mo_clause 60 = .ok (.ireturn, 1) := by decide +kernel
theorem d_Mo_clause_61 : decode c_Mo_clause 61 = .ok (.aload_n 0, 1) := by decide +kernel
theorem d_Mo_clause_62 : decode c_Mo_clause 62 = .ok (.getfield 43, 3) := by decide +kernel
theorem d_Mo_clause_65 : decode c_Mo_clause 65 = .ok (.aload_n 0, 1) := by decide +kernel
theorem d_Mo_clause_66 : decode c_Mo_clause 66 = .ok (.getfield 149, 3) := by decide +kernel
theorem d_Mo_clause_69 : decode c_Mo_clause 69 = .ok (.iload_n 1, 1) := by decide +kernel
theorem d_Mo_clause_70 : decode c_Mo_clause 70 = .ok (.iastore, 1) := by decide +kernel
theorem d_Mo_clause_71 : decode c_Mo_clause 71 = .ok (.aload_n 0, 1) := by decide +kernel
theorem d_Mo_clause_72 : decode c_Mo_clause 72 = .ok (.getfield 46, 3) := by decide +kernel
theorem d_Mo_clause_75 : decode c_Mo_clause 75 = .ok (.aload_n 0, 1) := by decide +kernel
theorem d_Mo_clause_76 : decode c_Mo_clause 76 = .ok (.getfield 149, 3) := by decide +kernel
theorem d_Mo_clause_79 : decode c_Mo_clause 79 = .ok (.iload_n 2, 1) := by decide +kernel
theorem d_Mo_clause_80 : decode c_Mo_clause 80 = .ok (.iastore, 1) := by decide +kernel
theorem d_Mo_clause_81 : decode c_Mo_clause 81 = .ok (.aload_n 0, 1) := by decide +kernel
theorem d_Mo_clause_82 : decode c_Mo_clause 82 = .ok (.getfield 49, 3) := by decide +kernel
theorem d_Mo_clause_85 : decode c_Mo_clause 85 = .ok (.aload_n 0, 1) := by decide +kernel
theorem d_Mo_clause_86 : decode c_Mo_clause 86 = .ok (.getfield 149, 3) := by decide +kernel
theorem d_Mo_clause_89 : decode c_Mo_clause 89 = .ok (.iload_n 3, 1) := by decide +kernel
theorem d_Mo_clause_90 : decode c_Mo_clause 90 = .ok (.iastore, 1) := by decide +kernel
theorem d_Mo_clause_91 : decode c_Mo_clause 91 = .ok (.aload_n 0, 1) := by decide +kernel
theorem d_Mo_clause_92 : decode c_Mo_clause 92 = .ok (.getfield 52, 3) := by decide +kernel
theorem d_Mo_clause_95 : decode c_Mo_clause 95 = .ok (.aload_n 0, 1) := by decide +kernel
theorem d_Mo_clause_96 : decode c_Mo_clause 96 = .ok (.getfield 149, 3) := by decide +kernel
theorem d_Mo_clause_99 : decode c_Mo_clause 99 = .ok (.iload 4, 2) := by decide +kernel
theorem d_Mo_clause_101 : decode c_Mo_clause 101 = .ok (.iastore, 1) := by decide +kernel
theorem d_Mo_clause_102 : decode c_Mo_clause 102 = .ok (.aload_n 0, 1) := by decide +kernel
theorem d_Mo_clause_103 : decode c_Mo_clause 103 = .ok (.dup, 1) := by decide +kernel
theorem d_Mo_clause_104 : decode c_Mo_clause 104 = .ok (.getfield 149, 3) := by decide +kernel
theorem d_Mo_clause_107 : decode c_Mo_clause 107 = .ok (.iconst 1, 1) := by decide +kernel
theorem d_Mo_clause_108 : decode c_Mo_clause 108 = .ok (.iadd, 1) := by decide +kernel
theorem d_Mo_clause_109 : decode c_Mo_clause 109 = .ok (.putfield 149, 3) := by decide +kernel
theorem d_Mo_clause_112 : decode c_Mo_clause 112 = .ok (.aload_n 0, 1) := by decide +kernel
theorem d_Mo_clause_113 : decode c_Mo_clause 113 = .ok (.dup, 1) := by decide +kernel
theorem d_Mo_clause_114 : decode c_Mo_clause 114 = .ok (.getfield 152, 3) := by decide +kernel
theorem d_Mo_clause_117 : decode c_Mo_clause 117 = .ok (.iconst 1, 1) := by decide +kernel
theorem d_Mo_clause_118 : decode c_Mo_clause 118 = .ok (.iadd, 1) := by decide +kernel
theorem d_Mo_clause_119 : decode c_Mo_clause 119 = .ok (.putfield 152, 3) := by decide +kernel
theorem d_Mo_clause_122 : decode c_Mo_clause 122 = .ok (.aload_n 0, 1) := by decide +kernel
theorem d_Mo_clause_123 : decode c_Mo_clause 123 = .ok (.getfield 152, 3) := by decide +kernel
theorem d_Mo_clause_126 : decode c_Mo_clause 126 = .ok (.ireturn, 1) := by decide +kernel
theorem d_Mo_handle_0 : decode c_Mo_handle 0 = .ok (.aload_n 0, 1) := by decide +kernel
theorem d_Mo_handle_1 : decode c_Mo_handle 1 = .ok (.bipush 8, 2) := by decide +kernel
theorem d_Mo_handle_3 : decode c_Mo_handle 3 = .ok (.iload_n 3, 1) := by decide +kernel
theorem d_Mo_handle_4 : decode c_Mo_handle 4 = .ok (.invokestatic 210, 3) := by decide +kernel
theorem d_Mo_handle_7 : decode c_Mo_handle 7 = .ok (.ifCond .eq 35, 3) := by decide +kernel
theorem d_Mo_handle_10 : decode c_Mo_handle 10 = .ok (.aload_n 0, 1) := by decide +kernel
theorem d_Mo_handle_11 : decode c_Mo_handle 11 = .ok (.iload_n 1, 1) := by decide +kernel
theorem d_Mo_handle_12 : decode c_Mo_handle 12 = .ok (.invokevirtual 217, 3) := by decide +kernel
theorem d_Mo_handle_15 : decode c_Mo_handle 15 = .ok (.ifCond .eq 27, 3) := by decide +kernel
theorem d_Mo_handle_18 : decode c_Mo_handle 18 = .ok (.aload_n 0, 1) := by decide +kernel
theorem d_Mo_handle_19 : decode c_Mo_handle 19 = .ok (.iload 4, 2) := by decide +kernel
theorem d_Mo_handle_21 : decode c_Mo_handle 21 = .ok (.invokevirtual 217, 3) := by decide +kernel
theorem d_Mo_handle_24 : decode c_Mo_handle 24 = .ok (.ifCond .eq 18, 3) := by decide +kernel
theorem d_Mo_handle_27 : decode c_Mo_handle 27 = .ok (.iload_n 2, 1) := by decide +kernel
theorem d_Mo_handle_28 : decode c_Mo_handle 28 = .ok (.ifCond .lt 14, 3) := by decide +kernel
theorem d_Mo_handle_31 : decode c_Mo_handle 31 = .ok (.iload_n 2, 1) := by decide +kernel
theorem d_Mo_handle_32 : decode c_Mo_handle 32 = .ok (.sipush 255, 3) := by decide +kernel
theorem d_Mo_handle_35 : decode c_Mo_handle 35 = .ok (.if_icmp .gt 7, 3) := by decide +kernel
theorem d_Mo_handle_38 : decode c_Mo_handle 38 = .ok (.iconst 1, 1) := by decide +kernel
theorem d_Mo_handle_39 : decode c_Mo_handle 39 = .ok (.goto 4, 3) := by decide +kernel
theorem d_Mo_handle_42 : decode c_Mo_handle 42 = .ok (.iconst 0, 1) := by decide +kernel
theorem d_Mo_handle_43 : decode c_Mo_handle 43 = .ok (.iload_n 1, 1) := by decide +kernel
theorem d_Mo_handle_44 : decode c_Mo_handle 44 = .ok (.iload 4, 2) := by decide +kernel
theorem d_Mo_handle_46 : decode c_Mo_handle 46 = .ok (.iconst (-1), 1) := by decide +kernel
theorem d_Mo_handle_47 : decode c_Mo_handle 47 = .ok (.invokevirtual 213, 3) := by decide +kernel
theorem d_Mo_handle_50 : decode c_Mo_handle 50 = .ok (.istore 5, 2) := by decide +kernel
theorem d_Mo_handle_52 : decode c_Mo_handle 52 = .ok (.aload_n 0, 1) := by decide +kernel
theorem d_Mo_handle_53 : decode c_Mo_handle 53 = .ok (.getfield 142, 3) := by decide +kernel
theorem d_Mo_handle_56 : decode c_Mo_handle 56 = .ok (.ifCond .eq 5, 3) := by decide +kernel
theorem d_Mo_handle_59 : decode c_Mo_handle 59 = .ok (.iconst 0, 1) := by decide +kernel
theorem d_Mo_handle_60 : decode c_Mo_handle 60 = .ok (.ireturn, 1) := by decide +kernel
theorem d_Mo_handle_61 : decode c_Mo_handle 61 = .ok (.aload_n 0, 1) := by decide +kernel
theorem d_Mo_handle_62 : decode c_Mo_handle 62 = .ok (.getfield 13, 3) := by decide +kernel
theorem d_Mo_handle_65 : decode c_Mo_handle 65 = .ok (.iload 5, 2) := by decide +kernel
theorem d_Mo_handle_67 : decode c_Mo_handle 67 = .ok (.iload_n 3, 1) := by decide +kernel
theorem d_Mo_handle_68 : decode c_Mo_handle 68 = .ok (.iastore, 1) := by decide +kernel
theorem d_Mo_handle_69 : decode c_Mo_handle 69 = .ok (.aload_n 0, 1) := by decide +kernel
theorem d_Mo_handle_70 : decode c_Mo_handle 70 = .ok (.getfield 16, 3) := by decide +kernel
theorem d_Mo_handle_73 : decode c_Mo_handle 73 = .ok (.iload 5, 2) := by decide +kernel
theorem d_Mo_handle_75 : decode c_Mo_handle 75 = .ok (.iload_n 2, 1) := by decide +kernel
theorem d_Mo_handle_76 : decode c_Mo_handle 76 = .ok (.iastore, 1) := by decide +kernel
theorem d_Mo_handle_77 : decode c_Mo_handle 77 = .ok (.aload_n 0, 1) := by decide +kernel
theorem d_Mo_handle_78 : decode c_Mo_handle 78 = .ok (.getfield 37, 3) := by decide +kernel
theorem d_Mo_handle_81 : decode c_Mo_handle 81 = .ok (.iload 5, 2) := by decide +kernel
theorem d_Mo_handle_83 : decode c_Mo_handle 83 = .ok (.aload_n 0, 1) := by decide +kernel
theorem d_Mo_handle_84 : decode c_Mo_handle 84 = .ok (.getfield 149, 3) := by decide +kernel
theorem d_Mo_handle_87 : decode c_Mo_handle 87 = .ok (.aload_n 0, 1) := by decide +kernel
theorem d_Mo_handle_88 : decode c_Mo_handle 88 = .ok (.getfield 152, 3) := by decide +kernel
theorem d_Mo_handle_91 : decode c_Mo_handle 91 = .ok (.isub, 1) := by decide +kernel
theorem d_Mo_handle_92 : decode c_Mo_handle 92 = .ok (.iastore, 1) := by decide +kernel
theorem d_Mo_handle_93 : decode c_Mo_handle 93 = .ok (.aload_n 0, 1) := by decide +kernel
theorem d_Mo_handle_94 : decode c_Mo_handle 94 = .ok (.getfield 40, 3) := by decide +kernel
theorem d_Mo_handle_97 : decode c_Mo_handle 97 = .ok (.iload 5, 2) := by decide +kernel
theorem d_Mo_handle_99 : decode c_Mo_handle 99 = .ok (.aload_n 0, 1) := by decide +kernel
theorem d_Mo_handle_100 : decode c_Mo_handle 100 = .ok (.getfield 152, 3) := by decide +kernel
theorem d_Mo_handle_103 : decode c_Mo_handle 103 = .ok (.iastore, 1) := by decide +kernel
theorem d_Mo_handle_104 : decode c_Mo_handle 104 = .ok (.aload_n 0, 1) := by decide +kernel
theorem d_Mo_handle_105 : decode c_Mo_handle 105 = .ok (.getfield 37, 3) := by decide +kernel
theorem d_Mo_handle_108 : decode c_Mo_handle 108 = .ok (.iload 5, 2) := by decide +kernel
theorem d_Mo_handle_110 : decode c_Mo_handle 110 = .ok (.iaload, 1) := by decide +kernel
theorem d_Mo_handle_111 : decode c_Mo_handle 111 = .ok (.istore 6, 2) := by decide +kernel
theorem d_Mo_handle_113 : decode c_Mo_handle 113 = .ok (.iload 6, 2) := by decide +kernel
theorem d_Mo_handle_115 : decode c_Mo_handle 115 = .ok (.aload_n 0, 1) := by decide +kernel
theorem d_Mo_handle_116 : decode c_Mo_handle 116 = .ok (.getfield 149, 3) := by decide +kernel
theorem d_Mo_handle_119 : decode c_Mo_handle 119 = .ok (.if_icmp .ge 22, 3) := by decide +kernel
theorem d_Mo_handle_122 : decode c_Mo_handle 122 = .ok (.aload_n 0, 1) := by decide +kernel
theorem d_Mo_handle_123 : decode c_Mo_handle 123 = .ok (.iload 5, 2) := by decide +kernel
theorem d_Mo_handle_125 : decode c_Mo_handle 125 = .ok (.aload_n 0, 1) := by decide +kernel
theorem d_Mo_handle_126 : decode c_Mo_handle 126 = .ok (.getfield 52, 3) := by decide +kernel
theorem d_Mo_handle_129 : decode c_Mo_handle 129 = .ok (.iload 6, 2) := by decide +kernel
theorem d_Mo_handle_131 : decode c_Mo_handle 131 = .ok (.iaload, 1) := by decide +kernel
theorem d_Mo_handle_132 : decode c_Mo_handle 132 = .ok (.invokevirtual 205, 3) := by decide +kernel
theorem d_Mo_handle_135 : decode c_Mo_handle 135 = .ok (.iinc 6 1, 3) := by decide +kernel
theorem d_Mo_handle_138 : decode c_Mo_handle 138 = .ok (.goto (-25), 3) := by decide +kernel
theorem d_Mo_handle_141 : decode c_Mo_handle 141 = .ok (.aload_n 0, 1) := by decide +kernel
theorem d_Mo_handle_142 : decode c_Mo_handle 142 = .ok (.iconst 0, 1) := by decide +kernel
theorem d_Mo_handle_143 : decode c_Mo_handle 143 = .ok (.putfield 152, 3) := by decide +kernel
theorem d_Mo_handle_146 : decode c_Mo_handle 146 = .ok (.iload 5, 2) := by decide +kernel
theorem d_Mo_handle_148 : decode c_Mo_handle 148 = .ok (.ireturn, 1) := by decide +kernel
theorem d_Mo_two_0 : decode c_Mo_two 0 = .ok (.aload_n 0, 1) := by decide +kernel
theorem d_Mo_two_1 : decode c_Mo_two 1 = .ok (.bipush 9, 2) := by decide +kernel
theorem d_Mo_two_3 : decode c_Mo_two 3 = .ok (.iload_n 1, 1) := by decide +kernel
theorem d_Mo_two_4 : decode c_Mo_two 4 = .ok (.ifCond .lt 28, 3) := by decide +kernel
theorem d_Mo_two_7 : decode c_Mo_two 7 = .ok (.iload_n 1, 1) := by decide +kernel
theorem d_Mo_two_8 : decode c_Mo_two 8 = .ok (.iconst 4, 1) := by decide +kernel
theorem d_Mo_two_9 : decode c_Mo_two 9 = .ok (.if_icmp .gt 23, 3) := by decide +kernel
theorem d_Mo_two_12 : decode c_Mo_two 12 = .ok (.aload_n 0, 1) := by decide +kernel
theorem d_Mo_two_13 : decode c_Mo_two 13 = .ok (.iload_n 2, 1) := by decide +kernel
theorem d_Mo_two_14 : decode c_Mo_two 14 = .ok (.invokevirtual 217, 3) := by decide +kernel
theorem d_Mo_two_17 : decode c_Mo_two 17 = .ok (.ifCond .eq 15, 3) := by decide +kernel
theorem d_Mo_two_20 : decode c_Mo_two 20 = .ok (.aload_n 0, 1) := by decide +kernel
theorem d_Mo_two_21 : decode c_Mo_two 21 = .ok (.iload_n 3, 1) := by decide +kernel
theorem d_Mo_two_22 : decode c_Mo_two 22 = .ok (.invokevirtual 217, 3) := by decide +kernel
theorem d_Mo_two_25 : decode c_Mo_two 25 = .ok (.ifCond .eq 7, 3) := by decide +kernel
theorem d_Mo_two_28 : decode c_Mo_two 28 = .ok (.iconst 1, 1) := by decide +kernel
theorem d_Mo_two_29 : decode c_Mo_two 29 = .ok (.goto 4, 3) := by decide +kernel
theorem d_Mo_two_32 : decode c_Mo_two 32 = .ok (.iconst 0, 1) := by decide +kernel
theorem d_Mo_two_33 : decode c_Mo_two 33 = .ok (.iload_n 2, 1) := by decide +kernel
theorem d_Mo_two_34 : decode c_Mo_two 34 = .ok (.iload_n 3, 1) := by decide +kernel
theorem d_Mo_two_35 : decode c_Mo_two 35 = .ok (.iconst (-1), 1) := by decide +kernel
theorem d_Mo_two_36 : decode c_Mo_two 36 = .ok (.invokevirtual 213, 3) := by decide +kernel
theorem d_Mo_two_39 : decode c_Mo_two 39 = .ok (.istore 4, 2) := by decide +kernel
theorem d_Mo_two_41 : decode c_Mo_two 41 = .ok (.aload_n 0, 1) := by decide +kernel
theorem d_Mo_two_42 : decode c_Mo_two 42 = .ok (.getfield 142, 3) := by decide +kernel
theorem d_Mo_two_45 : decode c_Mo_two 45 = .ok (.ifCond .ne 11, 3) := by decide +kernel
theorem d_Mo_two_48 : decode c_Mo_two 48 = .ok (.aload_n 0, 1) := by decide +kernel
theorem d_Mo_two_49 : decode c_Mo_two 49 = .ok (.getfield 13, 3) := by decide +kernel
theorem d_Mo_two_52 : decode c_Mo_two 52 = .ok (.iload 4, 2) := by decide +kernel
theorem d_Mo_two_54 : decode c_Mo_two 54 = .ok (.iload_n 1, 1) := by decide +kernel
theorem d_Mo_two_55 : decode c_Mo_two 55 = .ok (.iastore, 1) := by decide +kernel
theorem d_Mo_two_56 : decode c_Mo_two 56 = .ok (.iload 4, 2) := by decide +kernel
theorem d_Mo_two_58 : decode c_Mo_two 58 = .ok (.ireturn, 1) := by decide +kernel
theorem d_Mo_call_0 : decode c_Mo_call 0 = .ok (.aload_n 0, 1) := by decide +kernel
theorem d_Mo_call_1 : decode c_Mo_call 1 = .ok (.bipush 10, 2) := by decide +kernel
theorem d_Mo_call_3 : decode c_Mo_call 3 = .ok (.aload_n 0, 1) := by decide +kernel
theorem d_Mo_call_4 : decode c_Mo_call 4 = .ok (.iload_n 1, 1) := by decide +kernel
theorem d_Mo_call_5 : decode c_Mo_call 5 = .ok (.invokevirtual 217, 3) := by decide +kernel
theorem d_Mo_call_8 : decode c_Mo_call 8 = .ok (.ifCond .eq 15, 3) := by decide +kernel
theorem d_Mo_call_11 : decode c_Mo_call 11 = .ok (.aload_n 0, 1) := by decide +kernel
theorem d_Mo_call_12 : decode c_Mo_call 12 = .ok (.iload_n 2, 1) := by decide +kernel
theorem d_Mo_call_13 : decode c_Mo_call 13 = .ok (.invokevirtual 217, 3) := by decide +kernel
theorem d_Mo_call_16 : decode c_Mo_call 16 = .ok (.ifCond .eq 7, 3) := by decide +kernel
theorem d_Mo_call_19 : decode c_Mo_call 19 = .ok (.iconst 1, 1) := by decide +kernel
theorem d_Mo_call_20 : decode c_Mo_call 20 = .ok (.goto 4, 3) := by decide +kernel
theorem d_Mo_call_23 : decode c_Mo_call 23 = .ok (.iconst 0, 1) := by decide +kernel
theorem d_Mo_call_24 : decode c_Mo_call 24 = .ok (.iload_n 1, 1) := by decide +kernel
theorem d_Mo_call_25 : decode c_Mo_call 25 = .ok (.iload_n 2, 1) := by decide +kernel
theorem d_Mo_call_26 : decode c_Mo_call 26 = .ok (.iconst (-1), 1) := by decide +kernel
theorem d_Mo_call_27 : decode c_Mo_call 27 = .ok (.invokevirtual 213, 3) := by decide +kernel
theorem d_Mo_call_30 : decode c_Mo_call 30 = .ok (.ireturn, 1) := by decide +kernel
theorem d_Mo_perform_0 : decode c_Mo_perform 0 = .ok (.aload_n 0, 1) := by decide +kernel
theorem d_Mo_perform_1 : decode c_Mo_perform 1 = .ok (.bipush 11, 2) := by decide +kernel
theorem d_Mo_perform_3 : decode c_Mo_perform 3 = .ok (.iload_n 1, 1) := by decide +kernel
theorem d_Mo_perform_4 : decode c_Mo_perform 4 = .ok (.invokestatic 202, 3) := by decide +kernel
theorem d_Mo_perform_7 : decode c_Mo_perform 7 = .ok (.ifCond .eq 15, 3) := by decide +kernel
theorem d_Mo_perform_10 : decode c_Mo_perform 10 = .ok (.aload_n 0, 1) := by decide +kernel
theorem d_Mo_perform_11 : decode c_Mo_perform 11 = .ok (.iload_n 2, 1) := by decide +kernel
theorem d_Mo_perform_12 : decode c_Mo_perform 12 = .ok (.invokevirtual 217, 3) := by decide +kernel
theorem d_Mo_perform_15 : decode c_Mo_perform 15 = .ok (.ifCond .eq 7, 3) := by decide +kernel
theorem d_Mo_perform_18 : decode c_Mo_perform 18 = .ok (.iconst 1, 1) := by decide +kernel
theorem d_Mo_perform_19 : decode c_Mo_perform 19 = .ok (.goto 4, 3) := by decide +kernel
theorem d_Mo_perform_22 : decode c_Mo_perform 22 = .ok (.iconst 0, 1) := by decide +kernel
theorem d_Mo_perform_23 : decode c_Mo_perform 23 = .ok (.iload_n 2, 1) := by decide +kernel
theorem d_Mo_perform_24 : decode c_Mo_perform 24 = .ok (.iconst (-1), 1) := by decide +kernel
theorem d_Mo_perform_25 : decode c_Mo_perform 25 = .ok (.iconst (-1), 1) := by decide +kernel
theorem d_Mo_perform_26 : decode c_Mo_perform 26 = .ok (.invokevirtual 213, 3) := by decide +kernel
theorem d_Mo_perform_29 : decode c_Mo_perform 29 = .ok (.istore_n 3, 1) := by decide +kernel
theorem d_Mo_perform_30 : decode c_Mo_perform 30 = .ok (.aload_n 0, 1) := by decide +kernel
theorem d_Mo_perform_31 : decode c_Mo_perform 31 = .ok (.getfield 142, 3) := by decide +kernel
theorem d_Mo_perform_34 : decode c_Mo_perform 34 = .ok (.ifCond .ne 10, 3) := by decide +kernel
theorem d_Mo_perform_37 : decode c_Mo_perform 37 = .ok (.aload_n 0, 1) := by decide +kernel
theorem d_Mo_perform_38 : decode c_Mo_perform 38 = .ok (.getfield 13, 3) := by decide +kernel
theorem d_Mo_perform_41 : decode c_Mo_perform 41 = .ok (.iload_n 3, 1) := by decide +kernel
theorem d_Mo_perform_42 : decode c_Mo_perform 42 = .ok (.iload_n 1, 1) := by decide +kernel
theorem d_Mo_perform_43 : decode c_Mo_perform 43 = .ok (.iastore, 1) := by decide +kernel
theorem d_Mo_perform_44 : decode c_Mo_perform 44 = .ok (.iload_n 3, 1) := by decide +kernel
theorem d_Mo_perform_45 : decode c_Mo_perform 45 = .ok (.ireturn, 1) := by decide +kernel
theorem d_Mo_wrong_0 : decode c_Mo_wrong 0 = .ok (.aload_n 0, 1) := by decide +kernel
theorem d_Mo_wrong_1 : decode c_Mo_wrong 1 = .ok (.getfield 164, 3) := by decide +kernel
theorem d_Mo_wrong_4 : decode c_Mo_wrong 4 = .ok (.ifCond .eq 4, 3) := by decide +kernel
theorem d_Mo_wrong_7 : decode c_Mo_wrong 7 = .ok (.return_, 1) := by decide +kernel
theorem d_Mo_wrong_8 : decode c_Mo_wrong 8 = .ok (.aload_n 0, 1) := by decide +kernel
theorem d_Mo_wrong_9 : decode c_Mo_wrong 9 = .ok (.iload_n 1, 1) := by decide +kernel
theorem d_Mo_wrong_10 : decode c_Mo_wrong 10 = .ok (.putfield 164, 3) := by decide +kernel
theorem d_Mo_wrong_13 : decode c_Mo_wrong 13 = .ok (.aload_n 0, 1) := by decide +kernel
theorem d_Mo_wrong_14 : decode c_Mo_wrong 14 = .ok (.iload_n 2, 1) := by decide +kernel
theorem d_Mo_wrong_15 : decode c_Mo_wrong 15 = .ok (.putfield 167, 3) := by decide +kernel
theorem d_Mo_wrong_18 : decode c_Mo_wrong 18 = .ok (.return_, 1) := by decide +kernel
theorem d_Mo_into_0 : decode c_Mo_into 0 = .ok (.aload_n 0, 1) := by decide +kernel
theorem d_Mo_into_1 : decode c_Mo_into 1 = .ok (.getfield 220, 3) := by decide +kernel
theorem d_Mo_into_4 : decode c_Mo_into 4 = .ok (.istore_n 2, 1) := by decide +kernel
theorem d_Mo_into_5 : decode c_Mo_into 5 = .ok (.aload_n 0, 1) := by decide +kernel
theorem d_Mo_into_6 : decode c_Mo_into 6 = .ok (.getfield 75, 3) := by decide +kernel
theorem d_Mo_into_9 : decode c_Mo_into 9 = .ok (.iload_n 2, 1) := by decide +kernel
theorem d_Mo_into_10 : decode c_Mo_into 10 = .ok (.iload_n 1, 1) := by decide +kernel
theorem d_Mo_into_11 : decode c_Mo_into 11 = .ok (.iastore, 1) := by decide +kernel
theorem d_Mo_into_12 : decode c_Mo_into 12 = .ok (.aload_n 0, 1) := by decide +kernel
theorem d_Mo_into_13 : decode c_Mo_into 13 = .ok (.getfield 78, 3) := by decide +kernel
theorem d_Mo_into_16 : decode c_Mo_into 16 = .ok (.iload_n 2, 1) := by decide +kernel
theorem d_Mo_into_17 : decode c_Mo_into 17 = .ok (.iconst 0, 1) := by decide +kernel
theorem d_Mo_into_18 : decode c_Mo_into 18 = .ok (.iastore, 1) := by decide +kernel
theorem d_Mo_into_19 : decode c_Mo_into 19 = .ok (.aload_n 0, 1) := by decide +kernel
theorem d_Mo_into_20 : decode c_Mo_into 20 = .ok (.getfield 84, 3) := by decide +kernel
theorem d_Mo_into_23 : decode c_Mo_into 23 = .ok (.iload_n 2, 1) := by decide +kernel
theorem d_Mo_into_24 : decode c_Mo_into 24 = .ok (.iconst 0, 1) := by decide +kernel
theorem d_Mo_into_25 : decode c_Mo_into 25 = .ok (.iastore, 1) := by decide +kernel
theorem d_Mo_into_26 : decode c_Mo_into 26 = .ok (.aload_n 0, 1) := by decide +kernel
theorem d_Mo_into_27 : decode c_Mo_into 27 = .ok (.getfield 81, 3) := by decide +kernel
theorem d_Mo_into_30 : decode c_Mo_into 30 = .ok (.iload_n 2, 1) := by decide +kernel
theorem d_Mo_into_31 : decode c_Mo_into 31 = .ok (.iconst 0, 1) := by decide +kernel
theorem d_Mo_into_32 : decode c_Mo_into 32 = .ok (.iastore, 1) := by decide +kernel
theorem d_Mo_into_33 : decode c_Mo_into 33 = .ok (.iconst 0, 1) := by decide +kernel
theorem d_Mo_into_34 : decode c_Mo_into 34 = .ok (.istore_n 3, 1) := by decide +kernel
theorem d_Mo_into_35 : decode c_Mo_into 35 = .ok (.iload_n 3, 1) := by decide +kernel
theorem d_Mo_into_36 : decode c_Mo_into 36 = .ok (.bipush 10, 2) := by decide +kernel
theorem d_Mo_into_38 : decode c_Mo_into 38 = .ok (.if_icmp .ge 41, 3) := by decide +kernel
theorem d_Mo_into_41 : decode c_Mo_into 41 = .ok (.aload_n 0, 1) := by decide +kernel
theorem d_Mo_into_42 : decode c_Mo_into 42 = .ok (.getfield 87, 3) := by decide +kernel
theorem d_Mo_into_45 : decode c_Mo_into 45 = .ok (.bipush 10, 2) := by decide +kernel
theorem d_Mo_into_47 : decode c_Mo_into 47 = .ok (.iload_n 2, 1) := by decide +kernel
theorem d_Mo_into_48 : decode c_Mo_into 48 = .ok (.imul, 1) := by decide +kernel
theorem d_Mo_into_49 : decode c_Mo_into 49 = .ok (.iload_n 3, 1) := by decide +kernel
theorem d_Mo_into_50 : decode c_Mo_into 50 = .ok (.iadd, 1) := by decide +kernel
theorem d_Mo_into_51 : decode c_Mo_into 51 = .ok (.iload_n 2, 1) := by decide +kernel
theorem d_Mo_into_52 : decode c_Mo_into 52 = .ok (.ifCond .ne 7, 3) := by decide +kernel
theorem d_Mo_into_55 : decode c_Mo_into 55 = .ok (.iconst (-1), 1) := by decide +kernel
theorem d_Mo_into_56 : decode c_Mo_into 56 = .ok (.goto 16, 3) := by decide +kernel
theorem d_Mo_into_59 : decode c_Mo_into 59 = .ok (.aload_n 0, 1) := by decide +kernel
theorem d_Mo_into_60 : decode c_Mo_into 60 = .ok (.getfield 87, 3) := by decide +kernel
theorem d_Mo_into_63 : decode c_Mo_into 63 = .ok (.bipush 10, 2) := by decide +kernel
theorem d_Mo_into_65 : decode c_Mo_into 65 = .ok (.iload_n 2, 1) := by decide +kernel
theorem d_Mo_into_66 : decode c_Mo_into 66 = .ok (.iconst 1, 1) := by decide +kernel
theorem d_Mo_into_67 : decode c_Mo_into 67 = .ok (.isub, 1) := by decide +kernel
theorem d_Mo_into_68 : decode c_Mo_into 68 = .ok (.imul, 1) := by decide +kernel
theorem d_Mo_into_69 : decode c_Mo_into 69 = .ok (.iload_n 3, 1) := by decide +kernel
theorem d_Mo_into_70 : decode c_Mo_into 70 = .ok (.iadd, 1) := by decide +kernel
theorem d_Mo_into_71 : decode c_Mo_into 71 = .ok (.iaload, 1) := by decide +kernel
theorem d_Mo_into_72 : decode c_Mo_into 72 = .ok (.iastore, 1) := by decide +kernel
theorem d_Mo_into_73 : decode c_Mo_into 73 = .ok (.iinc 3 1, 3) := by decide +kernel
theorem d_Mo_into_76 : decode c_Mo_into 76 = .ok (.goto (-41), 3) := by decide +kernel
theorem d_Mo_into_79 : decode c_Mo_into 79 = .ok (.aload_n 0, 1) := by decide +kernel
theorem d_Mo_into_80 : decode c_Mo_into 80 = .ok (.dup, 1) := by decide +kernel
theorem d_Mo_into_81 : decode c_Mo_into 81 = .ok (.getfield 220, 3) := by decide +kernel
theorem d_Mo_into_84 : decode c_Mo_into 84 = .ok (.iconst 1, 1) := by decide +kernel
theorem d_Mo_into_85 : decode c_Mo_into 85 = .ok (.iadd, 1) := by decide +kernel
theorem d_Mo_into_86 : decode c_Mo_into 86 = .ok (.putfield 220, 3) := by decide +kernel
theorem d_Mo_into_89 : decode c_Mo_into 89 = .ok (.return_, 1) := by decide +kernel
theorem d_Mo_intoWith_0 : decode c_Mo_intoWith 0 = .ok (.aload_n 0, 1) := by decide +kernel
theorem d_Mo_intoWith_1 : decode c_Mo_intoWith 1 = .ok (.iload_n 1, 1) := by decide +kernel
theorem d_Mo_intoWith_2 : decode c_Mo_intoWith 2 = .ok (.invokevirtual 223, 3) := by decide +kernel
theorem d_Mo_intoWith_5 : decode c_Mo_intoWith 5 = .ok (.aload_n 0, 1) := by decide +kernel
theorem d_Mo_intoWith_6 : decode c_Mo_intoWith 6 = .ok (.getfield 87, 3) := by decide +kernel
theorem d_Mo_intoWith_9 : decode c_Mo_intoWith 9 = .ok (.bipush 10, 2) := by decide +kernel
theorem d_Mo_intoWith_11 : decode c_Mo_intoWith 11 = .ok (.aload_n 0, 1) := by decide +kernel
theorem d_Mo_intoWith_12 : decode c_Mo_intoWith 12 = .ok (.getfield 220, 3) := by decide +kernel
theorem d_Mo_intoWith_15 : decode c_Mo_intoWith 15 = .ok (.iconst 1, 1) := by decide +kernel
theorem d_Mo_intoWith_16 : decode c_Mo_intoWith 16 = .ok (.isub, 1) := by decide +kernel
theorem d_Mo_intoWith_17 : decode c_Mo_intoWith 17 = .ok (.imul, 1) := by decide +kernel
theorem d_Mo_intoWith_18 : decode c_Mo_intoWith 18 = .ok (.iload_n 2, 1) := by decide +kernel
theorem d_Mo_intoWith_19 : decode c_Mo_intoWith 19 = .ok (.iadd, 1) := by decide +kernel
theorem d_Mo_intoWith_20 : decode c_Mo_intoWith 20 = .ok (.iload_n 3, 1) := by decide +kernel
theorem d_Mo_intoWith_21 : decode c_Mo_intoWith 21 = .ok (.iastore, 1) := by decide +kernel
theorem d_Mo_intoWith_22 : decode c_Mo_intoWith 22 = .ok (.return_, 1) := by decide +kernel
theorem d_Mo_ends_0 : decode c_Mo_ends 0 = .ok (.aload_n 0, 1) := by decide +kernel
theorem d_Mo_ends_1 : decode c_Mo_ends 1 = .ok (.iload_n 1, 1) := by decide +kernel
theorem d_Mo_ends_2 : decode c_Mo_ends 2 = .ok (.putfield 227, 3) := by decide +kernel
theorem d_Mo_ends_5 : decode c_Mo_ends 5 = .ok (.aload_n 0, 1) := by decide +kernel
theorem d_Mo_ends_6 : decode c_Mo_ends 6 = .ok (.iload_n 2, 1) := by decide +kernel
theorem d_Mo_ends_7 : decode c_Mo_ends 7 = .ok (.putfield 230, 3) := by decide +kernel
theorem d_Mo_ends_10 : decode c_Mo_ends 10 = .ok (.aload_n 0, 1) := by decide +kernel
theorem d_Mo_ends_11 : decode c_Mo_ends 11 = .ok (.dup, 1) := by decide +kernel
theorem d_Mo_ends_12 : decode c_Mo_ends 12 = .ok (.getfield 220, 3) := by decide +kernel
theorem d_Mo_ends_15 : decode c_Mo_ends 15 = .ok (.iconst 1, 1) := by decide +kernel
theorem d_Mo_ends_16 : decode c_Mo_ends 16 = .ok (.isub, 1) := by decide +kernel
theorem d_Mo_ends_17 : decode c_Mo_ends 17 = .ok (.putfield 220, 3) := by decide +kernel
theorem d_Mo_ends_20 : decode c_Mo_ends 20 = .ok (.return_, 1) := by decide +kernel
theorem d_Mo_checkRec_0 : decode c_Mo_checkRec 0 = .ok (.aload_n 0, 1) := by decide +kernel
theorem d_Mo_checkRec_1 : decode c_Mo_checkRec 1 = .ok (.getfield 19, 3) := by decide +kernel
theorem d_Mo_checkRec_4 : decode c_Mo_checkRec 4 = .ok (.iload_n 2, 1) := by decide +kernel
theorem d_Mo_checkRec_5 : decode c_Mo_checkRec 5 = .ok (.iaload, 1) := by decide +kernel
theorem d_Mo_checkRec_6 : decode c_Mo_checkRec 6 = .ok (.istore 4, 2) := by decide +kernel
theorem d_Mo_checkRec_8 : decode c_Mo_checkRec 8 = .ok (.iload_n 3, 1) := by decide +kernel
theorem d_Mo_checkRec_9 : decode c_Mo_checkRec 9 = .ok (.ifCond .ne 52, 3) := by decide +kernel
theorem d_Mo_checkRec_12 : decode c_Mo_checkRec 12 = .ok (.aload_n 0, 1) := by decide +kernel
theorem d_Mo_checkRec_13 : decode c_Mo_checkRec 13 = .ok (.aload_n 0, 1) := by decide +kernel
theorem d_Mo_checkRec_14 : decode c_Mo_checkRec 14 = .ok (.getfield 22, 3) := by decide +kernel
theorem d_Mo_checkRec_17 : decode c_Mo_checkRec 17 = .ok (.iload_n 2, 1) := by decide +kernel
theorem d_Mo_checkRec_18 : decode c_Mo_checkRec 18 = .ok (.iaload, 1) := by decide +kernel
theorem d_Mo_checkRec_19 : decode c_Mo_checkRec 19 = .ok (.aload_n 0, 1) := by decide +kernel
theorem d_Mo_checkRec_20 : decode c_Mo_checkRec 20 = .ok (.getfield 13, 3) := by decide +kernel
theorem d_Mo_checkRec_23 : decode c_Mo_checkRec 23 = .ok (.iload_n 2, 1) := by decide +kernel
theorem d_Mo_checkRec_24 : decode c_Mo_checkRec 24 = .ok (.iaload, 1) := by decide +kernel
theorem d_Mo_checkRec_25 : decode c_Mo_checkRec 25 = .ok (.iload 4, 2) := by decide +kernel
theorem d_Mo_checkRec_27 : decode c_Mo_checkRec 27 = .ok (.invokevirtual 233, 3) := by decide +kernel
theorem d_Mo_checkRec_30 : decode c_Mo_checkRec 30 = .ok (.aload_n 0, 1) := by decide +kernel
theorem d_Mo_checkRec_31 : decode c_Mo_checkRec 31 = .ok (.getfield 87, 3) := by decide +kernel
theorem d_Mo_checkRec_34 : decode c_Mo_checkRec 34 = .ok (.bipush 10, 2) := by decide +kernel
theorem d_Mo_checkRec_36 : decode c_Mo_checkRec 36 = .ok (.aload_n 0, 1) := by decide +kernel
theorem d_Mo_checkRec_37 : decode c_Mo_checkRec 37 = .ok (.getfield 220, 3) := by decide +kernel
theorem d_Mo_checkRec_40 : decode c_Mo_checkRec 40 = .ok (.iconst 1, 1) := by decide +kernel
theorem d_Mo_checkRec_41 : decode c_Mo_checkRec 41 = .ok (.isub, 1) := by decide +kernel
theorem d_Mo_checkRec_42 : decode c_Mo_checkRec 42 = .ok (.imul, 1) := by decide +kernel
theorem d_Mo_checkRec_43 : decode c_Mo_checkRec 43 = .ok (.aload_n 0, 1) := by decide +kernel
theorem d_Mo_checkRec_44 : decode c_Mo_checkRec 44 = .ok (.getfield 16, 3) := by decide +kernel
theorem d_Mo_checkRec_47 : decode c_Mo_checkRec 47 = .ok (.iload_n 2, 1) := by decide +kernel
theorem d_Mo_checkRec_48 : decode c_Mo_checkRec 48 = .ok (.iaload, 1) := by decide +kernel
theorem d_Mo_checkRec_49 : decode c_Mo_checkRec 49 = .ok (.iadd, 1) := by decide +kernel
theorem d_Mo_checkRec_50 : decode c_Mo_checkRec 50 = .ok (.aload_n 0, 1) := by decide +kernel
theorem d_Mo_checkRec_51 : decode c_Mo_checkRec 51 = .ok (.getfield 55, 3) := by decide +kernel
theorem d_Mo_checkRec_54 : decode c_Mo_checkRec 54 = .ok (.iload 4, 2) := by decide +kernel
theorem d_Mo_checkRec_56 : decode c_Mo_checkRec 56 = .ok (.iaload, 1) := by decide +kernel
theorem d_Mo_checkRec_57 : decode c_Mo_checkRec 57 = .ok (.iastore, 1) := by decide +kernel
theorem d_Mo_checkRec_58 : decode c_Mo_checkRec 58 = .ok (.goto 106, 3) := by decide +kernel
theorem d_Mo_checkRec_61 : decode c_Mo_checkRec 61 = .ok (.iload_n 3, 1) := by decide +kernel
theorem d_Mo_checkRec_62 : decode c_Mo_checkRec 62 = .ok (.iconst 1, 1) := by decide +kernel
theorem d_Mo_checkRec_63 : decode c_Mo_checkRec 63 = .ok (.if_icmp .ne 89, 3) := by decide +kernel
theorem d_Mo_checkRec_66 : decode c_Mo_checkRec 66 = .ok (.aload_n 0, 1) := by decide +kernel
theorem d_Mo_checkRec_67 : decode c_Mo_checkRec 67 = .ok (.getfield 65, 3) := by decide +kernel
theorem d_Mo_checkRec_70 : decode c_Mo_checkRec 70 = .ok (.sipush 520, 3) := by decide +kernel
theorem d_Mo_checkRec_73 : decode c_Mo_checkRec 73 = .ok (.aload_n 0, 1) := by decide +kernel
theorem d_Mo_checkRec_74 : decode c_Mo_checkRec 74 = .ok (.getfield 227, 3) := by decide +kernel
theorem d_Mo_checkRec_77 : decode c_Mo_checkRec 77 = .ok (.imul, 1) := by decide +kernel
theorem d_Mo_checkRec_78 : decode c_Mo_checkRec 78 = .ok (.aload_n 0, 1) := by decide +kernel
theorem d_Mo_checkRec_79 : decode c_Mo_checkRec 79 = .ok (.getfield 58, 3) := by decide +kernel
theorem d_Mo_checkRec_82 : decode c_Mo_checkRec 82 = .ok (.iload 4, 2) := by decide +kernel
theorem d_Mo_checkRec_84 : decode c_Mo_checkRec 84 = .ok (.iaload, 1) := by decide +kernel
theorem d_Mo_checkRec_85 : decode c_Mo_checkRec 85 = .ok (.iadd, 1) := by decide +kernel
theorem d_Mo_checkRec_86 : decode c_Mo_checkRec 86 = .ok (.baload, 1) := by decide +kernel
theorem d_Mo_checkRec_87 : decode c_Mo_checkRec 87 = .ok (.ifCond .ne 15, 3) := by decide +kernel
theorem d_Mo_checkRec_90 : decode c_Mo_checkRec 90 = .ok (.aload_n 0, 1) := by decide +kernel
theorem d_Mo_checkRec_91 : decode c_Mo_checkRec 91 = .ok (.bipush 6, 2) := by decide +kernel
theorem d_Mo_checkRec_93 : decode c_Mo_checkRec 93 = .ok (.aload_n 0, 1) := by decide +kernel
theorem d_Mo_checkRec_94 : decode c_Mo_checkRec 94 = .ok (.getfield 22, 3) := by decide +kernel
theorem d_Mo_checkRec_97 : decode c_Mo_checkRec 97 = .ok (.iload_n 2, 1) := by decide +kernel
theorem d_Mo_checkRec_98 : decode c_Mo_checkRec 98 = .ok (.iaload, 1) := by decide +kernel
theorem d_Mo_checkRec_99 : decode c_Mo_checkRec 99 = .ok (.invokevirtual 237, 3) := by decide +kernel
theorem d_Mo_checkRec_102 : decode c_Mo_checkRec 102 = .ok (.aload_n 0, 1) := by decide +kernel
theorem d_Mo_checkRec_103 : decode c_Mo_checkRec 103 = .ok (.getfield 230, 3) := by decide +kernel
theorem d_Mo_checkRec_106 : decode c_Mo_checkRec 106 = .ok (.aload_n 0, 1) := by decide +kernel
theorem d_Mo_checkRec_107 : decode c_Mo_checkRec 107 = .ok (.getfield 61, 3) := by decide +kernel
theorem d_Mo_checkRec_110 : decode c_Mo_checkRec 110 = .ok (.iload 4, 2) := by decide +kernel
theorem d_Mo_checkRec_112 : decode c_Mo_checkRec 112 = .ok (.iaload, 1) := by decide +kernel
theorem d_Mo_checkRec_113 : decode c_Mo_checkRec 113 = .ok (.iconst (-1), 1) := by decide +kernel
theorem d_Mo_checkRec_114 : decode c_Mo_checkRec 114 = .ok (.ixor, 1) := by decide +kernel
theorem d_Mo_checkRec_115 : decode c_Mo_checkRec 115 = .ok (.iand, 1) := by decide +kernel
theorem d_Mo_checkRec_116 : decode c_Mo_checkRec 116 = .ok (.ifCond .eq 15, 3) := by decide +kernel
theorem d_Mo_checkRec_119 : decode c_Mo_checkRec 119 = .ok (.aload_n 0, 1) := by decide +kernel
theorem d_Mo_checkRec_120 : decode c_Mo_checkRec 120 = .ok (.bipush 7, 2) := by decide +kernel
theorem d_Mo_checkRec_122 : decode c_Mo_checkRec 122 = .ok (.aload_n 0, 1) := by decide +kernel
theorem d_Mo_checkRec_123 : decode c_Mo_checkRec 123 = .ok (.getfield 22, 3) := by decide +kernel
theorem d_Mo_checkRec_126 : decode c_Mo_checkRec 126 = .ok (.iload_n 2, 1) := by decide +kernel
theorem d_Mo_checkRec_127 : decode c_Mo_checkRec 127 = .ok (.iaload, 1) := by decide +kernel
theorem d_Mo_checkRec_128 : decode c_Mo_checkRec 128 = .ok (.invokevirtual 237, 3) := by decide +kernel
theorem d_Mo_checkRec_131 : decode c_Mo_checkRec 131 = .ok (.aload_n 0, 1) := by decide +kernel
theorem d_Mo_checkRec_132 : decode c_Mo_checkRec 132 = .ok (.aload_n 0, 1) := by decide +kernel
theorem d_Mo_checkRec_133 : decode c_Mo_checkRec 133 = .ok (.getfield 25, 3) := by decide +kernel
theorem d_Mo_checkRec_136 : decode c_Mo_checkRec 136 = .ok (.iload_n 2, 1) := by decide +kernel
theorem d_Mo_checkRec_137 : decode c_Mo_checkRec 137 = .ok (.iaload, 1) := by decide +kernel
theorem d_Mo_checkRec_138 : decode c_Mo_checkRec 138 = .ok (.aload_n 0, 1) := by decide +kernel
theorem d_Mo_checkRec_139 : decode c_Mo_checkRec 139 = .ok (.getfield 13, 3) := by decide +kernel
theorem d_Mo_checkRec_142 : decode c_Mo_checkRec 142 = .ok (.iload_n 2, 1) := by decide +kernel
theorem d_Mo_checkRec_143 : decode c_Mo_checkRec 143 = .ok (.iaload, 1) := by decide +kernel
theorem d_Mo_checkRec_144 : decode c_Mo_checkRec 144 = .ok (.iload 4, 2) := by decide +kernel
theorem d_Mo_checkRec_146 : decode c_Mo_checkRec 146 = .ok (.invokevirtual 233, 3) := by decide +kernel
theorem d_Mo_checkRec_149 : decode c_Mo_checkRec 149 = .ok (.goto 15, 3) := by decide +kernel
theorem d_Mo_checkRec_152 : decode c_Mo_checkRec 152 = .ok (.aload_n 0, 1) := by decide +kernel
theorem d_Mo_checkRec_153 : decode c_Mo_checkRec 153 = .ok (.aload_n 0, 1) := by decide +kernel
theorem d_Mo_checkRec_154 : decode c_Mo_checkRec 154 = .ok (.getfield 227, 3) := by decide +kernel
theorem d_Mo_checkRec_157 : decode c_Mo_checkRec 157 = .ok (.aload_n 0, 1) := by decide +kernel
theorem d_Mo_checkRec_158 : decode c_Mo_checkRec 158 = .ok (.getfield 230, 3) := by decide +kernel
theorem d_Mo_checkRec_161 : decode c_Mo_checkRec 161 = .ok (.invokevirtual 240, 3) := by decide +kernel
theorem d_Mo_checkRec_164 : decode c_Mo_checkRec 164 = .ok (.return_, 1) := by decide +kernel
theorem d_Mo_checkIf_0 : decode c_Mo_checkIf 0 = .ok (.iload_n 3, 1) := by decide +kernel
theorem d_Mo_checkIf_1 : decode c_Mo_checkIf 1 = .ok (.ifCond .ne 16, 3) := by decide +kernel
theorem d_Mo_checkIf_4 : decode c_Mo_checkIf 4 = .ok (.aload_n 0, 1) := by decide +kernel
theorem d_Mo_checkIf_5 : decode c_Mo_checkIf 5 = .ok (.aload_n 0, 1) := by decide +kernel
theorem d_Mo_checkIf_6 : decode c_Mo_checkIf 6 = .ok (.getfield 22, 3) := by decide +kernel
theorem d_Mo_checkIf_9 : decode c_Mo_checkIf 9 = .ok (.iload_n 2, 1) := by decide +kernel
theorem d_Mo_checkIf_10 : decode c_Mo_checkIf 10 = .ok (.iaload, 1) := by decide +kernel
theorem d_Mo_checkIf_11 : decode c_Mo_checkIf 11 = .ok (.invokevirtual 223, 3) := by decide +kernel
theorem d_Mo_checkIf_14 : decode c_Mo_checkIf 14 = .ok (.goto 138, 3) := by decide +kernel
theorem d_Mo_checkIf_17 : decode c_Mo_checkIf 17 = .ok (.iload_n 3, 1) := by decide +kernel
theorem d_Mo_checkIf_18 : decode c_Mo_checkIf 18 = .ok (.iconst 1, 1) := by decide +kernel
theorem d_Mo_checkIf_19 : decode c_Mo_checkIf 19 = .ok (.if_icmp .ne 46, 3) := by decide +kernel
theorem d_Mo_checkIf_22 : decode c_Mo_checkIf 22 = .ok (.aload_n 0, 1) := by decide +kernel
theorem d_Mo_checkIf_23 : decode c_Mo_checkIf 23 = .ok (.getfield 227, 3) := by decide +kernel
theorem d_Mo_checkIf_26 : decode c_Mo_checkIf 26 = .ok (.iconst 1, 1) := by decide +kernel
theorem d_Mo_checkIf_27 : decode c_Mo_checkIf 27 = .ok (.if_icmp .eq 15, 3) := by decide +kernel
theorem d_Mo_checkIf_30 : decode c_Mo_checkIf 30 = .ok (.aload_n 0, 1) := by decide +kernel
theorem d_Mo_checkIf_31 : decode c_Mo_checkIf 31 = .ok (.bipush 6, 2) := by decide +kernel
theorem d_Mo_checkIf_33 : decode c_Mo_checkIf 33 = .ok (.aload_n 0, 1) := by decide +kernel
theorem d_Mo_checkIf_34 : decode c_Mo_checkIf 34 = .ok (.getfield 22, 3) := by decide +kernel
theorem d_Mo_checkIf_37 : decode c_Mo_checkIf 37 = .ok (.iload_n 2, 1) := by decide +kernel
theorem d_Mo_checkIf_38 : decode c_Mo_checkIf 38 = .ok (.iaload, 1) := by decide +kernel
theorem d_Mo_checkIf_39 : decode c_Mo_checkIf 39 = .ok (.invokevirtual 237, 3) := by decide +kernel
theorem d_Mo_checkIf_42 : decode c_Mo_checkIf 42 = .ok (.aload_n 0, 1) := by decide +kernel
theorem d_Mo_checkIf_43 : decode c_Mo_checkIf 43 = .ok (.getfield 84, 3) := by decide +kernel
theorem d_Mo_checkIf_46 : decode c_Mo_checkIf 46 = .ok (.iload_n 1, 1) := by decide +kernel
theorem d_Mo_checkIf_47 : decode c_Mo_checkIf 47 = .ok (.aload_n 0, 1) := by decide +kernel
theorem d_Mo_checkIf_48 : decode c_Mo_checkIf 48 = .ok (.getfield 230, 3) := by decide +kernel
theorem d_Mo_checkIf_51 : decode c_Mo_checkIf 51 = .ok (.iastore, 1) := by decide +kernel
theorem d_Mo_checkIf_52 : decode c_Mo_checkIf 52 = .ok (.aload_n 0, 1) := by decide +kernel
theorem d_Mo_checkIf_53 : decode c_Mo_checkIf 53 = .ok (.aload_n 0, 1) := by decide +kernel
theorem d_Mo_checkIf_54 : decode c_Mo_checkIf 54 = .ok (.getfield 25, 3) := by decide +kernel
theorem d_Mo_checkIf_57 : decode c_Mo_checkIf 57 = .ok (.iload_n 2, 1) := by decide +kernel
theorem d_Mo_checkIf_58 : decode c_Mo_checkIf 58 = .ok (.iaload, 1) := by decide +kernel
theorem d_Mo_checkIf_59 : decode c_Mo_checkIf 59 = .ok (.invokevirtual 223, 3) := by decide +kernel
theorem d_Mo_checkIf_62 : decode c_Mo_checkIf 62 = .ok (.goto 90, 3) := by decide +kernel
theorem d_Mo_checkIf_65 : decode c_Mo_checkIf 65 = .ok (.iload_n 3, 1) := by decide +kernel
theorem d_Mo_checkIf_66 : decode c_Mo_checkIf 66 = .ok (.iconst 2, 1) := by decide +kernel
theorem d_Mo_checkIf_67 : decode c_Mo_checkIf 67 = .ok (.if_icmp .ne 39, 3) := by decide +kernel
theorem d_Mo_checkIf_70 : decode c_Mo_checkIf 70 = .ok (.aload_n 0, 1) := by decide +kernel
theorem d_Mo_checkIf_71 : decode c_Mo_checkIf 71 = .ok (.getfield 81, 3) := by decide +kernel
theorem d_Mo_checkIf_74 : decode c_Mo_checkIf 74 = .ok (.iload_n 1, 1) := by decide +kernel
theorem d_Mo_checkIf_75 : decode c_Mo_checkIf 75 = .ok (.aload_n 0, 1) := by decide +kernel
theorem d_Mo_checkIf_76 : decode c_Mo_checkIf 76 = .ok (.getfield 227, 3) := by decide +kernel
theorem d_Mo_checkIf_79 : decode c_Mo_checkIf 79 = .ok (.iastore, 1) := by decide +kernel
theorem d_Mo_checkIf_80 : decode c_Mo_checkIf 80 = .ok (.aload_n 0, 1) := by decide +kernel
theorem d_Mo_checkIf_81 : decode c_Mo_checkIf 81 = .ok (.getfield 84, 3) := by decide +kernel
theorem d_Mo_checkIf_84 : decode c_Mo_checkIf 84 = .ok (.iload_n 1, 1) := by decide +kernel
theorem d_Mo_checkIf_85 : decode c_Mo_checkIf 85 = .ok (.dup2, 1) := by decide +kernel
theorem d_Mo_checkIf_86 : decode c_Mo_checkIf 86 = .ok (.iaload, 1) := by decide +kernel
theorem d_Mo_checkIf_87 : decode c_Mo_checkIf 87 = .ok (.aload_n 0, 1) := by decide +kernel
theorem d_Mo_checkIf_88 : decode c_Mo_checkIf 88 = .ok (.getfield 230, 3) := by decide +kernel
theorem d_Mo_checkIf_91 : decode c_Mo_checkIf 91 = .ok (.ior, 1) := by decide +kernel
theorem d_Mo_checkIf_92 : decode c_Mo_checkIf 92 = .ok (.iastore, 1) := by decide +kernel
theorem d_Mo_checkIf_93 : decode c_Mo_checkIf 93 = .ok (.aload_n 0, 1) := by decide +kernel
theorem d_Mo_checkIf_94 : decode c_Mo_checkIf 94 = .ok (.aload_n 0, 1) := by decide +kernel
theorem d_Mo_checkIf_95 : decode c_Mo_checkIf 95 = .ok (.getfield 28, 3) := by decide +kernel
theorem d_Mo_checkIf_98 : decode c_Mo_checkIf 98 = .ok (.iload_n 2, 1) := by decide +kernel
theorem d_Mo_checkIf_99 : decode c_Mo_checkIf 99 = .ok (.iaload, 1) := by decide +kernel
theorem d_Mo_checkIf_100 : decode c_Mo_checkIf 100 = .ok (.invokevirtual 223, 3) := by decide +kernel
theorem d_Mo_checkIf_103 : decode c_Mo_checkIf 103 = .ok (.goto 49, 3) := by decide +kernel
theorem d_Mo_checkIf_106 : decode c_Mo_checkIf 106 = .ok (.aload_n 0, 1) := by decide +kernel
theorem d_Mo_checkIf_107 : decode c_Mo_checkIf 107 = .ok (.getfield 227, 3) := by decide +kernel
theorem d_Mo_checkIf_110 : decode c_Mo_checkIf 110 = .ok (.aload_n 0, 1) := by decide +kernel
theorem d_Mo_checkIf_111 : decode c_Mo_checkIf 111 = .ok (.getfield 81, 3) := by decide +kernel
theorem d_Mo_checkIf_114 : decode c_Mo_checkIf 114 = .ok (.iload_n 1, 1) := by decide +kernel
theorem d_Mo_checkIf_115 : decode c_Mo_checkIf 115 = .ok (.iaload, 1) := by decide +kernel
theorem d_Mo_checkIf_116 : decode c_Mo_checkIf 116 = .ok (.if_icmp .eq 15, 3) := by decide +kernel
theorem d_Mo_checkIf_119 : decode c_Mo_checkIf 119 = .ok (.aload_n 0, 1) := by decide +kernel
theorem d_Mo_checkIf_120 : decode c_Mo_checkIf 120 = .ok (.bipush 6, 2) := by decide +kernel
theorem d_Mo_checkIf_122 : decode c_Mo_checkIf 122 = .ok (.aload_n 0, 1) := by decide +kernel
theorem d_Mo_checkIf_123 : decode c_Mo_checkIf 123 = .ok (.getfield 28, 3) := by decide +kernel
theorem d_Mo_checkIf_126 : decode c_Mo_checkIf 126 = .ok (.iload_n 2, 1) := by decide +kernel
theorem d_Mo_checkIf_127 : decode c_Mo_checkIf 127 = .ok (.iaload, 1) := by decide +kernel
theorem d_Mo_checkIf_128 : decode c_Mo_checkIf 128 = .ok (.invokevirtual 237, 3) := by decide +kernel
theorem d_Mo_checkIf_131 : decode c_Mo_checkIf 131 = .ok (.aload_n 0, 1) := by decide +kernel
theorem d_Mo_checkIf_132 : decode c_Mo_checkIf 132 = .ok (.aload_n 0, 1) := by decide +kernel
theorem d_Mo_checkIf_133 : decode c_Mo_checkIf 133 = .ok (.getfield 81, 3) := by decide +kernel
theorem d_Mo_checkIf_136 : decode c_Mo_checkIf 136 = .ok (.iload_n 1, 1) := by decide +kernel
theorem d_Mo_checkIf_137 : decode c_Mo_checkIf 137 = .ok (.iaload, 1) := by decide +kernel
theorem d_Mo_checkIf_138 : decode c_Mo_checkIf 138 = .ok (.aload_n 0, 1) := by decide +kernel
theorem d_Mo_checkIf_139 : decode c_Mo_checkIf 139 = .ok (.getfield 84, 3) := by decide +kernel
theorem d_Mo_checkIf_142 : decode c_Mo_checkIf 142 = .ok (.iload_n 1, 1) := by decide +kernel
theorem d_Mo_checkIf_143 : decode c_Mo_checkIf 143 = .ok (.iaload, 1) := by decide +kernel
theorem d_Mo_checkIf_144 : decode c_Mo_checkIf 144 = .ok (.aload_n 0, 1) := by decide +kernel
theorem d_Mo_checkIf_145 : decode c_Mo_checkIf 145 = .ok (.getfield 230, 3) := by decide +kernel
theorem d_Mo_checkIf_148 : decode c_Mo_checkIf 148 = .ok (.ior, 1) := by decide +kernel
theorem d_Mo_checkIf_149 : decode c_Mo_checkIf 149 = .ok (.invokevirtual 240, 3) := by decide +kernel
theorem d_Mo_checkIf_152 : decode c_Mo_checkIf 152 = .ok (.return_, 1) := by decide +kernel
theorem d_Mo_checkTwo_0 : decode c_Mo_checkTwo 0 = .ok (.iload_n 3, 1) := by decide +kernel
theorem d_Mo_checkTwo_1 : decode c_Mo_checkTwo 1 = .ok (.ifCond .ne 14, 3) := by decide +kernel
theorem d_Mo_checkTwo_4 : decode c_Mo_checkTwo 4 = .ok (.aload_n 0, 1) := by decide +kernel
theorem d_Mo_checkTwo_5 : decode c_Mo_checkTwo 5 = .ok (.aload_n 0, 1) := by decide +kernel
theorem d_Mo_checkTwo_6 : decode c_Mo_checkTwo 6 = .ok (.getfield 22, 3) := by decide +kernel
theorem d_Mo_checkTwo_9 : decode c_Mo_checkTwo 9 = .ok (.iload_n 2, 1) := by decide +kernel
theorem d_Mo_checkTwo_10 : decode c_Mo_checkTwo 10 = .ok (.iaload, 1) := by decide +kernel
theorem d_Mo_checkTwo_11 : decode c_Mo_checkTwo 11 = .ok (.invokevirtual 223, 3) := by decide +kernel
theorem d_Mo_checkTwo_14 : decode c_Mo_checkTwo 14 = .ok (.return_, 1) := by decide +kernel
theorem d_Mo_checkTwo_15 : decode c_Mo_checkTwo 15 = .ok (.iload_n 3, 1) := by decide +kernel
theorem d_Mo_checkTwo_16 : decode c_Mo_checkTwo 16 = .ok (.iconst 1, 1) := by decide +kernel
theorem d_Mo_checkTwo_17 : decode c_Mo_checkTwo 17 = .ok (.if_icmp .ne 34, 3) := by decide +kernel
theorem d_Mo_checkTwo_20 : decode c_Mo_checkTwo 20 = .ok (.aload_n 0, 1) := by decide +kernel
theorem d_Mo_checkTwo_21 : decode c_Mo_checkTwo 21 = .ok (.getfield 81, 3) := by decide +kernel
theorem d_Mo_checkTwo_24 : decode c_Mo_checkTwo 24 = .ok (.iload_n 1, 1) := by decide +kernel
theorem d_Mo_checkTwo_25 : decode c_Mo_checkTwo 25 = .ok (.aload_n 0, 1) := by decide +kernel
theorem d_Mo_checkTwo_26 : decode c_Mo_checkTwo 26 = .ok (.getfield 227, 3) := by decide +kernel
theorem d_Mo_checkTwo_29 : decode c_Mo_checkTwo 29 = .ok (.iastore, 1) := by decide +kernel
theorem d_Mo_checkTwo_30 : decode c_Mo_checkTwo 30 = .ok (.aload_n 0, 1) := by decide +kernel
theorem d_Mo_checkTwo_31 : decode c_Mo_checkTwo 31 = .ok (.getfield 84, 3) := by decide +kernel
theorem d_Mo_checkTwo_34 : decode c_Mo_checkTwo 34 = .ok (.iload_n 1, 1) := by decide +kernel
theorem d_Mo_checkTwo_35 : decode c_Mo_checkTwo 35 = .ok (.aload_n 0, 1) := by decide +kernel
theorem d_Mo_checkTwo_36 : decode c_Mo_checkTwo 36 = .ok (.getfield 230, 3) := by decide +kernel
theorem d_Mo_checkTwo_39 : decode c_Mo_checkTwo 39 = .ok (.iastore, 1) := by decide +kernel
theorem d_Mo_checkTwo_40 : decode c_Mo_checkTwo 40 = .ok (.aload_n 0, 1) := by decide +kernel
theorem d_Mo_checkTwo_41 : decode c_Mo_checkTwo 41 = .ok (.aload_n 0, 1) := by decide +kernel
theorem d_Mo_checkTwo_42 : decode c_Mo_checkTwo 42 = .ok (.getfield 25, 3) := by decide +kernel
theorem d_Mo_checkTwo_45 : decode c_Mo_checkTwo 45 = .ok (.iload_n 2, 1) := by decide +kernel
theorem d_Mo_checkTwo_46 : decode c_Mo_checkTwo 46 = .ok (.iaload, 1) := by decide +kernel
theorem d_Mo_checkTwo_47 : decode c_Mo_checkTwo 47 = .ok (.invokevirtual 223, 3) := by decide +kernel
theorem d_Mo_checkTwo_50 : decode c_Mo_checkTwo 50 = .ok (.return_, 1) := by decide +kernel
theorem d_Mo_checkTwo_51 : decode c_Mo_checkTwo 51 = .ok (.aload_n 0, 1) := by decide +kernel
theorem d_Mo_checkTwo_52 : decode c_Mo_checkTwo 52 = .ok (.getfield 81, 3) := by decide +kernel
theorem d_Mo_checkTwo_55 : decode c_Mo_checkTwo 55 = .ok (.iload_n 1, 1) := by decide +kernel
theorem d_Mo_checkTwo_56 : decode c_Mo_checkTwo 56 = .ok (.iaload, 1) := by decide +kernel
theorem d_Mo_checkTwo_57 : decode c_Mo_checkTwo 57 = .ok (.ifCond .eq 15, 3) := by decide +kernel
theorem d_Mo_checkTwo_60 : decode c_Mo_checkTwo 60 = .ok (.aload_n 0, 1) := by decide +kernel
theorem d_Mo_checkTwo_61 : decode c_Mo_checkTwo 61 = .ok (.bipush 6, 2) := by decide +kernel
theorem d_Mo_checkTwo_63 : decode c_Mo_checkTwo 63 = .ok (.aload_n 0, 1) := by decide +kernel
theorem d_Mo_checkTwo_64 : decode c_Mo_checkTwo 64 = .ok (.getfield 22, 3) := by decide +kernel
theorem d_Mo_checkTwo_67 : decode c_Mo_checkTwo 67 = .ok (.iload_n 2, 1) := by decide +kernel
theorem d_Mo_checkTwo_68 : decode c_Mo_checkTwo 68 = .ok (.iaload, 1) := by decide +kernel
theorem d_Mo_checkTwo_69 : decode c_Mo_checkTwo 69 = .ok (.invokevirtual 237, 3) := by decide +kernel
theorem d_Mo_checkTwo_72 : decode c_Mo_checkTwo 72 = .ok (.aload_n 0, 1) := by decide +kernel
theorem d_Mo_checkTwo_73 : decode c_Mo_checkTwo 73 = .ok (.getfield 227, 3) := by decide +kernel
theorem d_Mo_checkTwo_76 : decode c_Mo_checkTwo 76 = .ok (.ifCond .eq 15, 3) := by decide +kernel
theorem d_Mo_checkTwo_79 : decode c_Mo_checkTwo 79 = .ok (.aload_n 0, 1) := by decide +kernel
theorem d_Mo_checkTwo_80 : decode c_Mo_checkTwo 80 = .ok (.bipush 6, 2) := by decide +kernel
theorem d_Mo_checkTwo_82 : decode c_Mo_checkTwo 82 = .ok (.aload_n 0, 1) := by decide +kernel
theorem d_Mo_checkTwo_83 : decode c_Mo_checkTwo 83 = .ok (.getfield 25, 3) := by decide +kernel
theorem d_Mo_checkTwo_86 : decode c_Mo_checkTwo 86 = .ok (.iload_n 2, 1) := by decide +kernel
theorem d_Mo_checkTwo_87 : decode c_Mo_checkTwo 87 = .ok (.iaload, 1) := by decide +kernel
theorem d_Mo_checkTwo_88 : decode c_Mo_checkTwo 88 = .ok (.invokevirtual 237, 3) := by decide +kernel
theorem d_Mo_checkTwo_91 : decode c_Mo_checkTwo 91 = .ok (.aload_n 0, 1) := by decide +kernel
theorem d_Mo_checkTwo_92 : decode c_Mo_checkTwo 92 = .ok (.aload_n 0, 1) := by decide +kernel
theorem d_Mo_checkTwo_93 : decode c_Mo_checkTwo 93 = .ok (.getfield 13, 3) := by decide +kernel
theorem d_Mo_checkTwo_96 : decode c_Mo_checkTwo 96 = .ok (.iload_n 2, 1) := by decide +kernel
theorem d_Mo_checkTwo_97 : decode c_Mo_checkTwo 97 = .ok (.iaload, 1) := by decide +kernel
theorem d_Mo_checkTwo_98 : decode c_Mo_checkTwo 98 = .ok (.iconst 3, 1) := by decide +kernel
theorem d_Mo_checkTwo_99 : decode c_Mo_checkTwo 99 = .ok (.if_icmp .ge 7, 3) := by decide +kernel
theorem d_Mo_checkTwo_102 : decode c_Mo_checkTwo 102 = .ok (.iconst 0, 1) := by decide +kernel
theorem d_Mo_checkTwo_103 : decode c_Mo_checkTwo 103 = .ok (.goto 4, 3) := by decide +kernel
theorem d_Mo_checkTwo_106 : decode c_Mo_checkTwo 106 = .ok (.iconst 1, 1) := by decide +kernel
theorem d_Mo_checkTwo_107 : decode c_Mo_checkTwo 107 = .ok (.aload_n 0, 1) := by decide +kernel
theorem d_Mo_checkTwo_108 : decode c_Mo_checkTwo 108 = .ok (.getfield 84, 3) := by decide +kernel
theorem d_Mo_checkTwo_111 : decode c_Mo_checkTwo 111 = .ok (.iload_n 1, 1) := by decide +kernel
theorem d_Mo_checkTwo_112 : decode c_Mo_checkTwo 112 = .ok (.iaload, 1) := by decide +kernel
theorem d_Mo_checkTwo_113 : decode c_Mo_checkTwo 113 = .ok (.aload_n 0, 1) := by decide +kernel
theorem d_Mo_checkTwo_114 : decode c_Mo_checkTwo 114 = .ok (.getfield 230, 3) := by decide +kernel
theorem d_Mo_checkTwo_117 : decode c_Mo_checkTwo 117 = .ok (.ior, 1) := by decide +kernel
theorem d_Mo_checkTwo_118 : decode c_Mo_checkTwo 118 = .ok (.invokevirtual 240, 3) := by decide +kernel
theorem d_Mo_checkTwo_121 : decode c_Mo_checkTwo 121 = .ok (.return_, 1) := by decide +kernel
theorem d_Mo_checkCall_0 : decode c_Mo_checkCall 0 = .ok (.iload_n 3, 1) := by decide +kernel
theorem d_Mo_checkCall_1 : decode c_Mo_checkCall 1 = .ok (.ifCond .ne 16, 3) := by decide +kernel
theorem d_Mo_checkCall_4 : decode c_Mo_checkCall 4 = .ok (.aload_n 0, 1) := by decide +kernel
theorem d_Mo_checkCall_5 : decode c_Mo_checkCall 5 = .ok (.aload_n 0, 1) := by decide +kernel
theorem d_Mo_checkCall_6 : decode c_Mo_checkCall 6 = .ok (.getfield 22, 3) := by decide +kernel
theorem d_Mo_checkCall_9 : decode c_Mo_checkCall 9 = .ok (.iload_n 2, 1) := by decide +kernel
theorem d_Mo_checkCall_10 : decode c_Mo_checkCall 10 = .ok (.iaload, 1) := by decide +kernel
theorem d_Mo_checkCall_11 : decode c_Mo_checkCall 11 = .ok (.invokevirtual 223, 3) := by decide +kernel
theorem d_Mo_checkCall_14 : decode c_Mo_checkCall 14 = .ok (.goto 135, 3) := by decide +kernel
theorem d_Mo_checkCall_17 : decode c_Mo_checkCall 17 = .ok (.iload_n 3, 1) := by decide +kernel
theorem d_Mo_checkCall_18 : decode c_Mo_checkCall 18 = .ok (.iconst 1, 1) := by decide +kernel
theorem d_Mo_checkCall_19 : decode c_Mo_checkCall 19 = .ok (.if_icmp .ne 56, 3) := by decide +kernel
theorem d_Mo_checkCall_22 : decode c_Mo_checkCall 22 = .ok (.aload_n 0, 1) := by decide +kernel
theorem d_Mo_checkCall_23 : decode c_Mo_checkCall 23 = .ok (.getfield 227, 3) := by decide +kernel
theorem d_Mo_checkCall_26 : decode c_Mo_checkCall 26 = .ok (.iconst 3, 1) := by decide +kernel
theorem d_Mo_checkCall_27 : decode c_Mo_checkCall 27 = .ok (.if_icmp .ge 15, 3) := by decide +kernel
theorem d_Mo_checkCall_30 : decode c_Mo_checkCall 30 = .ok (.aload_n 0, 1) := by decide +kernel
theorem d_Mo_checkCall_31 : decode c_Mo_checkCall 31 = .ok (.bipush 6, 2) := by decide +kernel
theorem d_Mo_checkCall_33 : decode c_Mo_checkCall 33 = .ok (.aload_n 0, 1) := by decide +kernel
theorem d_Mo_checkCall_34 : decode c_Mo_checkCall 34 = .ok (.getfield 22, 3) := by decide +kernel
theorem d_Mo_checkCall_37 : decode c_Mo_checkCall 37 = .ok (.iload_n 2, 1) := by decide +kernel
theorem d_Mo_checkCall_38 : decode c_Mo_checkCall 38 = .ok (.iaload, 1) := by decide +kernel
theorem d_Mo_checkCall_39 : decode c_Mo_checkCall 39 = .ok (.invokevirtual 237, 3) := by decide +kernel
theorem d_Mo_checkCall_42 : decode c_Mo_checkCall 42 = .ok (.aload_n 0, 1) := by decide +kernel
theorem d_Mo_checkCall_43 : decode c_Mo_checkCall 43 = .ok (.getfield 81, 3) := by decide +kernel
theorem d_Mo_checkCall_46 : decode c_Mo_checkCall 46 = .ok (.iload_n 1, 1) := by decide +kernel
theorem d_Mo_checkCall_47 : decode c_Mo_checkCall 47 = .ok (.aload_n 0, 1) := by decide +kernel
theorem d_Mo_checkCall_48 : decode c_Mo_checkCall 48 = .ok (.getfield 227, 3) := by decide +kernel
theorem d_Mo_checkCall_51 : decode c_Mo_checkCall 51 = .ok (.iastore, 1) := by decide +kernel
theorem d_Mo_checkCall_52 : decode c_Mo_checkCall 52 = .ok (.aload_n 0, 1) := by decide +kernel
theorem d_Mo_checkCall_53 : decode c_Mo_checkCall 53 = .ok (.getfield 84, 3) := by decide +kernel
theorem d_Mo_checkCall_56 : decode c_Mo_checkCall 56 = .ok (.iload_n 1, 1) := by decide +kernel
theorem d_Mo_checkCall_57 : decode c_Mo_checkCall 57 = .ok (.aload_n 0, 1) := by decide +kernel
theorem d_Mo_checkCall_58 : decode c_Mo_checkCall 58 = .ok (.getfield 230, 3) := by decide +kernel
theorem d_Mo_checkCall_61 : decode c_Mo_checkCall 61 = .ok (.iastore, 1) := by decide +kernel
theorem d_Mo_checkCall_62 : decode c_Mo_checkCall 62 = .ok (.aload_n 0, 1) := by decide +kernel
theorem d_Mo_checkCall_63 : decode c_Mo_checkCall 63 = .ok (.aload_n 0, 1) := by decide +kernel
theorem d_Mo_checkCall_64 : decode c_Mo_checkCall 64 = .ok (.getfield 25, 3) := by decide +kernel
theorem d_Mo_checkCall_67 : decode c_Mo_checkCall 67 = .ok (.iload_n 2, 1) := by decide +kernel
theorem d_Mo_checkCall_68 : decode c_Mo_checkCall 68 = .ok (.iaload, 1) := by decide +kernel
theorem d_Mo_checkCall_69 : decode c_Mo_checkCall 69 = .ok (.invokevirtual 223, 3) := by decide +kernel
theorem d_Mo_checkCall_72 : decode c_Mo_checkCall 72 = .ok (.goto 77, 3) := by decide +kernel
theorem d_Mo_checkCall_75 : decode c_Mo_checkCall 75 = .ok (.aload_n 0, 1) := by decide +kernel
theorem d_Mo_checkCall_76 : decode c_Mo_checkCall 76 = .ok (.getfield 81, 3) := by decide +kernel
theorem d_Mo_checkCall_79 : decode c_Mo_checkCall 79 = .ok (.iload_n 1, 1) := by decide +kernel
theorem d_Mo_checkCall_80 : decode c_Mo_checkCall 80 = .ok (.iaload, 1) := by decide +kernel
theorem d_Mo_checkCall_81 : decode c_Mo_checkCall 81 = .ok (.istore 4, 2) := by decide +kernel
theorem d_Mo_checkCall_83 : decode c_Mo_checkCall 83 = .ok (.aload_n 0, 1) := by decide +kernel
theorem d_Mo_checkCall_84 : decode c_Mo_checkCall 84 = .ok (.getfield 65, 3) := by decide +kernel
theorem d_Mo_checkCall_87 : decode c_Mo_checkCall 87 = .ok (.sipush 520, 3) := by decide +kernel
theorem d_Mo_checkCall_90 : decode c_Mo_checkCall 90 = .ok (.aload_n 0, 1) := by decide +kernel
theorem d_Mo_checkCall_91 : decode c_Mo_checkCall 91 = .ok (.getfield 227, 3) := by decide +kernel
theorem d_Mo_checkCall_94 : decode c_Mo_checkCall 94 = .ok (.imul, 1) := by decide +kernel
theorem d_Mo_checkCall_95 : decode c_Mo_checkCall 95 = .ok (.aload_n 0, 1) := by decide +kernel
theorem d_Mo_checkCall_96 : decode c_Mo_checkCall 96 = .ok (.getfield 55, 3) := by decide +kernel
theorem d_Mo_checkCall_99 : decode c_Mo_checkCall 99 = .ok (.iload 4, 2) := by decide +kernel
theorem d_Mo_checkCall_101 : decode c_Mo_checkCall 101 = .ok (.iaload, 1) := by decide +kernel
theorem d_Mo_checkCall_102 : decode c_Mo_checkCall 102 = .ok (.iadd, 1) := by decide +kernel
theorem d_Mo_checkCall_103 : decode c_Mo_checkCall 103 = .ok (.baload, 1) := by decide +kernel
theorem d_Mo_checkCall_104 : decode c_Mo_checkCall 104 = .ok (.ifCond .ne 15, 3) := by decide +kernel
theorem d_Mo_checkCall_107 : decode c_Mo_checkCall 107 = .ok (.aload_n 0, 1) := by decide +kernel
theorem d_Mo_checkCall_108 : decode c_Mo_checkCall 108 = .ok (.bipush 6, 2) := by decide +kernel
theorem d_Mo_checkCall_110 : decode c_Mo_checkCall 110 = .ok (.aload_n 0, 1) := by decide +kernel
theorem d_Mo_checkCall_111 : decode c_Mo_checkCall 111 = .ok (.getfield 25, 3) := by decide +kernel
theorem d_Mo_checkCall_114 : decode c_Mo_checkCall 114 = .ok (.iload_n 2, 1) := by decide +kernel
theorem d_Mo_checkCall_115 : decode c_Mo_checkCall 115 = .ok (.iaload, 1) := by decide +kernel
theorem d_Mo_checkCall_116 : decode c_Mo_checkCall 116 = .ok (.invokevirtual 237, 3) := by decide +kernel
theorem d_Mo_checkCall_119 : decode c_Mo_checkCall 119 = .ok (.aload_n 0, 1) := by decide +kernel
theorem d_Mo_checkCall_120 : decode c_Mo_checkCall 120 = .ok (.aload_n 0, 1) := by decide +kernel
theorem d_Mo_checkCall_121 : decode c_Mo_checkCall 121 = .ok (.getfield 58, 3) := by decide +kernel
theorem d_Mo_checkCall_124 : decode c_Mo_checkCall 124 = .ok (.iload 4, 2) := by decide +kernel
theorem d_Mo_checkCall_126 : decode c_Mo_checkCall 126 = .ok (.iaload, 1) := by decide +kernel
theorem d_Mo_checkCall_127 : decode c_Mo_checkCall 127 = .ok (.aload_n 0, 1) := by decide +kernel
theorem d_Mo_checkCall_128 : decode c_Mo_checkCall 128 = .ok (.getfield 84, 3) := by decide +kernel
theorem d_Mo_checkCall_131 : decode c_Mo_checkCall 131 = .ok (.iload_n 1, 1) := by decide +kernel
theorem d_Mo_checkCall_132 : decode c_Mo_checkCall 132 = .ok (.iaload, 1) := by decide +kernel
theorem d_Mo_checkCall_133 : decode c_Mo_checkCall 133 = .ok (.aload_n 0, 1) := by decide +kernel
theorem d_Mo_checkCall_134 : decode c_Mo_checkCall 134 = .ok (.getfield 230, 3) := by decide +kernel
theorem d_Mo_checkCall_137 : decode c_Mo_checkCall 137 = .ok (.ior, 1) := by decide +kernel
theorem d_Mo_checkCall_138 : decode c_Mo_checkCall 138 = .ok (.aload_n 0, 1) := by decide +kernel
theorem d_Mo_checkCall_139 : decode c_Mo_checkCall 139 = .ok (.getfield 61, 3) := by decide +kernel
theorem d_Mo_checkCall_142 : decode c_Mo_checkCall 142 = .ok (.iload 4, 2) := by decide +kernel
theorem d_Mo_checkCall_144 : decode c_Mo_checkCall 144 = .ok (.iaload, 1) := by decide +kernel
theorem d_Mo_checkCall_145 : decode c_Mo_checkCall 145 = .ok (.ior, 1) := by decide +kernel
theorem d_Mo_checkCall_146 : decode c_Mo_checkCall 146 = .ok (.invokevirtual 240, 3) := by decide +kernel
theorem d_Mo_checkCall_149 : decode c_Mo_checkCall 149 = .ok (.return_, 1) := by decide +kernel
theorem d_Mo_checkPerform_0 : decode c_Mo_checkPerform 0 = .ok (.iload_n 2, 1) := by decide +kernel
theorem d_Mo_checkPerform_1 : decode c_Mo_checkPerform 1 = .ok (.ifCond .ne 16, 3) := by decide +kernel
theorem d_Mo_checkPerform_4 : decode c_Mo_checkPerform 4 = .ok (.aload_n 0, 1) := by decide +kernel
theorem d_Mo_checkPerform_5 : decode c_Mo_checkPerform 5 = .ok (.aload_n 0, 1) := by decide +kernel
theorem d_Mo_checkPerform_6 : decode c_Mo_checkPerform 6 = .ok (.getfield 22, 3) := by decide +kernel
theorem d_Mo_checkPerform_9 : decode c_Mo_checkPerform 9 = .ok (.iload_n 1, 1) := by decide +kernel
theorem d_Mo_checkPerform_10 : decode c_Mo_checkPerform 10 = .ok (.iaload, 1) := by decide +kernel
theorem d_Mo_checkPerform_11 : decode c_Mo_checkPerform 11 = .ok (.invokevirtual 223, 3) := by decide +kernel
theorem d_Mo_checkPerform_14 : decode c_Mo_checkPerform 14 = .ok (.goto 71, 3) := by decide +kernel
theorem d_Mo_checkPerform_17 : decode c_Mo_checkPerform 17 = .ok (.aload_n 0, 1) := by decide +kernel
theorem d_Mo_checkPerform_18 : decode c_Mo_checkPerform 18 = .ok (.getfield 65, 3) := by decide +kernel
theorem d_Mo_checkPerform_21 : decode c_Mo_checkPerform 21 = .ok (.sipush 520, 3) := by decide +kernel
theorem d_Mo_checkPerform_24 : decode c_Mo_checkPerform 24 = .ok (.aload_n 0, 1) := by decide +kernel
theorem d_Mo_checkPerform_25 : decode c_Mo_checkPerform 25 = .ok (.getfield 227, 3) := by decide +kernel
theorem d_Mo_checkPerform_28 : decode c_Mo_checkPerform 28 = .ok (.imul, 1) := by decide +kernel
theorem d_Mo_checkPerform_29 : decode c_Mo_checkPerform 29 = .ok (.aload_n 0, 1) := by decide +kernel
theorem d_Mo_checkPerform_30 : decode c_Mo_checkPerform 30 = .ok (.getfield 69, 3) := by decide +kernel
theorem d_Mo_checkPerform_33 : decode c_Mo_checkPerform 33 = .ok (.aload_n 0, 1) := by decide +kernel
theorem d_Mo_checkPerform_34 : decode c_Mo_checkPerform 34 = .ok (.getfield 13, 3) := by decide +kernel
theorem d_Mo_checkPerform_37 : decode c_Mo_checkPerform 37 = .ok (.iload_n 1, 1) := by decide +kernel
theorem d_Mo_checkPerform_38 : decode c_Mo_checkPerform 38 = .ok (.iaload, 1) := by decide +kernel
theorem d_Mo_checkPerform_39 : decode c_Mo_checkPerform 39 = .ok (.iaload, 1) := by decide +kernel
theorem d_Mo_checkPerform_40 : decode c_Mo_checkPerform 40 = .ok (.iadd, 1) := by decide +kernel
theorem d_Mo_checkPerform_41 : decode c_Mo_checkPerform 41 = .ok (.baload, 1) := by decide +kernel
theorem d_Mo_checkPerform_42 : decode c_Mo_checkPerform 42 = .ok (.ifCond .ne 15, 3) := by decide +kernel
theorem d_Mo_checkPerform_45 : decode c_Mo_checkPerform 45 = .ok (.aload_n 0, 1) := by decide +kernel
theorem d_Mo_checkPerform_46 : decode c_Mo_checkPerform 46 = .ok (.bipush 6, 2) := by decide +kernel
theorem d_Mo_checkPerform_48 : decode c_Mo_checkPerform 48 = .ok (.aload_n 0, 1) := by decide +kernel
theorem d_Mo_checkPerform_49 : decode c_Mo_checkPerform 49 = .ok (.getfield 22, 3) := by decide +kernel
theorem d_Mo_checkPerform_52 : decode c_Mo_checkPerform 52 = .ok (.iload_n 1, 1) := by decide +kernel
theorem d_Mo_checkPerform_53 : decode c_Mo_checkPerform 53 = .ok (.iaload, 1) := by decide +kernel
theorem d_Mo_checkPerform_54 : decode c_Mo_checkPerform 54 = .ok (.invokevirtual 237, 3) := by decide +kernel
theorem d_Mo_checkPerform_57 : decode c_Mo_checkPerform 57 = .ok (.aload_n 0, 1) := by decide +kernel
theorem d_Mo_checkPerform_58 : decode c_Mo_checkPerform 58 = .ok (.aload_n 0, 1) := by decide +kernel
theorem d_Mo_checkPerform_59 : decode c_Mo_checkPerform 59 = .ok (.getfield 72, 3) := by decide +kernel
theorem d_Mo_checkPerform_62 : decode c_Mo_checkPerform 62 = .ok (.aload_n 0, 1) := by decide +kernel
theorem d_Mo_checkPerform_63 : decode c_Mo_checkPerform 63 = .ok (.getfield 13, 3) := by decide +kernel
theorem d_Mo_checkPerform_66 : decode c_Mo_checkPerform 66 = .ok (.iload_n 1, 1) := by decide +kernel
theorem d_Mo_checkPerform_67 : decode c_Mo_checkPerform 67 = .ok (.iaload, 1) := by decide +kernel
theorem d_Mo_checkPerform_68 : decode c_Mo_checkPerform 68 = .ok (.iaload, 1) := by decide +kernel
theorem d_Mo_checkPerform_69 : decode c_Mo_checkPerform 69 = .ok (.aload_n 0, 1) := by decide +kernel
theorem d_Mo_checkPerform_70 : decode c_Mo_checkPerform 70 = .ok (.getfield 230, 3) := by decide +kernel
theorem d_Mo_checkPerform_73 : decode c_Mo_checkPerform 73 = .ok (.iconst 1, 1) := by decide +kernel
theorem d_Mo_checkPerform_74 : decode c_Mo_checkPerform 74 = .ok (.aload_n 0, 1) := by decide +kernel
theorem d_Mo_checkPerform_75 : decode c_Mo_checkPerform 75 = .ok (.getfield 13, 3) := by decide +kernel
theorem d_Mo_checkPerform_78 : decode c_Mo_checkPerform 78 = .ok (.iload_n 1, 1) := by decide +kernel
theorem d_Mo_checkPerform_79 : decode c_Mo_checkPerform 79 = .ok (.iaload, 1) := by decide +kernel
theorem d_Mo_checkPerform_80 : decode c_Mo_checkPerform 80 = .ok (.ishl, 1) := by decide +kernel
theorem d_Mo_checkPerform_81 : decode c_Mo_checkPerform 81 = .ok (.ior, 1) := by decide +kernel
theorem d_Mo_checkPerform_82 : decode c_Mo_checkPerform 82 = .ok (.invokevirtual 240, 3) := by decide +kernel
theorem d_Mo_checkPerform_85 : decode c_Mo_checkPerform 85 = .ok (.return_, 1) := by decide +kernel
theorem d_Mo_unhandled_0 : decode c_Mo_unhandled 0 = .ok (.iload_n 2, 1) := by decide +kernel
theorem d_Mo_unhandled_1 : decode c_Mo_unhandled 1 = .ok (.istore_n 3, 1) := by decide +kernel
theorem d_Mo_unhandled_2 : decode c_Mo_unhandled 2 = .ok (.iconst 0, 1) := by decide +kernel
theorem d_Mo_unhandled_3 : decode c_Mo_unhandled 3 = .ok (.istore 4, 2) := by decide +kernel
theorem d_Mo_unhandled_5 : decode c_Mo_unhandled 5 = .ok (.iload 4, 2) := by decide +kernel
theorem d_Mo_unhandled_7 : decode c_Mo_unhandled 7 = .ok (.aload_n 0, 1) := by decide +kernel
theorem d_Mo_unhandled_8 : decode c_Mo_unhandled 8 = .ok (.getfield 40, 3) := by decide +kernel
theorem d_Mo_unhandled_11 : decode c_Mo_unhandled 11 = .ok (.iload_n 1, 1) := by decide +kernel
theorem d_Mo_unhandled_12 : decode c_Mo_unhandled 12 = .ok (.iaload, 1) := by decide +kernel
theorem d_Mo_unhandled_13 : decode c_Mo_unhandled 13 = .ok (.if_icmp .ge 30, 3) := by decide +kernel
theorem d_Mo_unhandled_16 : decode c_Mo_unhandled 16 = .ok (.iload_n 3, 1) := by decide +kernel
theorem d_Mo_unhandled_17 : decode c_Mo_unhandled 17 = .ok (.iconst 1, 1) := by decide +kernel
theorem d_Mo_unhandled_18 : decode c_Mo_unhandled 18 = .ok (.aload_n 0, 1) := by decide +kernel
theorem d_Mo_unhandled_19 : decode c_Mo_unhandled 19 = .ok (.getfield 43, 3) := by decide +kernel
theorem d_Mo_unhandled_22 : decode c_Mo_unhandled 22 = .ok (.aload_n 0, 1) := by decide +kernel
theorem d_Mo_unhandled_23 : decode c_Mo_unhandled 23 = .ok (.getfield 37, 3) := by decide +kernel
theorem d_Mo_unhandled_26 : decode c_Mo_unhandled 26 = .ok (.iload_n 1, 1) := by decide +kernel
theorem d_Mo_unhandled_27 : decode c_Mo_unhandled 27 = .ok (.iaload, 1) := by decide +kernel
theorem d_Mo_unhandled_28 : decode c_Mo_unhandled 28 = .ok (.iload 4, 2) := by decide +kernel
theorem d_Mo_unhandled_30 : decode c_Mo_unhandled 30 = .ok (.iadd, 1) := by decide +kernel
theorem d_Mo_unhandled_31 : decode c_Mo_unhandled 31 = .ok (.iaload, 1) := by decide +kernel
theorem d_Mo_unhandled_32 : decode c_Mo_unhandled 32 = .ok (.ishl, 1) := by decide +kernel
theorem d_Mo_unhandled_33 : decode c_Mo_unhandled 33 = .ok (.iconst (-1), 1) := by decide +kernel
theorem d_Mo_unhandled_34 : decode c_Mo_unhandled 34 = .ok (.ixor, 1) := by decide +kernel
theorem d_Mo_unhandled_35 : decode c_Mo_unhandled 35 = .ok (.iand, 1) := by decide +kernel
theorem d_Mo_unhandled_36 : decode c_Mo_unhandled 36 = .ok (.istore_n 3, 1) := by decide +kernel
theorem d_Mo_unhandled_37 : decode c_Mo_unhandled 37 = .ok (.iinc 4 1, 3) := by decide +kernel
theorem d_Mo_unhandled_40 : decode c_Mo_unhandled 40 = .ok (.goto (-35), 3) := by decide +kernel
theorem d_Mo_unhandled_43 : decode c_Mo_unhandled 43 = .ok (.iload_n 3, 1) := by decide +kernel
theorem d_Mo_unhandled_44 : decode c_Mo_unhandled 44 = .ok (.ireturn, 1) := by decide +kernel
theorem d_Mo_checkHandle_0 : decode c_Mo_checkHandle 0 = .ok (.aload_n 0, 1) := by decide +kernel
theorem d_Mo_checkHandle_1 : decode c_Mo_checkHandle 1 = .ok (.getfield 16, 3) := by decide +kernel
theorem d_Mo_checkHandle_4 : decode c_Mo_checkHandle 4 = .ok (.iload_n 2, 1) := by decide +kernel
theorem d_Mo_checkHandle_5 : decode c_Mo_checkHandle 5 = .ok (.iaload, 1) := by decide +kernel
theorem d_Mo_checkHandle_6 : decode c_Mo_checkHandle 6 = .ok (.istore 4, 2) := by decide +kernel
theorem d_Mo_checkHandle_8 : decode c_Mo_checkHandle 8 = .ok (.iload_n 3, 1) := by decide +kernel
theorem d_Mo_checkHandle_9 : decode c_Mo_checkHandle 9 = .ok (.ifCond .ne 14, 3) := by decide +kernel
theorem d_Mo_checkHandle_12 : decode c_Mo_checkHandle 12 = .ok (.aload_n 0, 1) := by decide +kernel
theorem d_Mo_checkHandle_13 : decode c_Mo_checkHandle 13 = .ok (.aload_n 0, 1) := by decide +kernel
theorem d_Mo_checkHandle_14 : decode c_Mo_checkHandle 14 = .ok (.getfield 22, 3) := by decide +kernel
theorem d_Mo_checkHandle_17 : decode c_Mo_checkHandle 17 = .ok (.iload_n 2, 1) := by decide +kernel
theorem d_Mo_checkHandle_18 : decode c_Mo_checkHandle 18 = .ok (.iaload, 1) := by decide +kernel
theorem d_Mo_checkHandle_19 : decode c_Mo_checkHandle 19 = .ok (.invokevirtual 223, 3) := by decide +kernel
theorem d_Mo_checkHandle_22 : decode c_Mo_checkHandle 22 = .ok (.return_, 1) := by decide +kernel
theorem d_Mo_checkHandle_23 : decode c_Mo_checkHandle 23 = .ok (.iload_n 3, 1) := by decide +kernel
theorem d_Mo_checkHandle_24 : decode c_Mo_checkHandle 24 = .ok (.iconst 1, 1) := by decide +kernel
theorem d_Mo_checkHandle_25 : decode c_Mo_checkHandle 25 = .ok (.if_icmp .ne 34, 3) := by decide +kernel
theorem d_Mo_checkHandle_28 : decode c_Mo_checkHandle 28 = .ok (.aload_n 0, 1) := by decide +kernel
theorem d_Mo_checkHandle_29 : decode c_Mo_checkHandle 29 = .ok (.getfield 84, 3) := by decide +kernel
theorem d_Mo_checkHandle_32 : decode c_Mo_checkHandle 32 = .ok (.iload_n 1, 1) := by decide +kernel
theorem d_Mo_checkHandle_33 : decode c_Mo_checkHandle 33 = .ok (.aload_n 0, 1) := by decide +kernel
theorem d_Mo_checkHandle_34 : decode c_Mo_checkHandle 34 = .ok (.getfield 230, 3) := by decide +kernel
theorem d_Mo_checkHandle_37 : decode c_Mo_checkHandle 37 = .ok (.iastore, 1) := by decide +kernel
theorem d_Mo_checkHandle_38 : decode c_Mo_checkHandle 38 = .ok (.aload_n 0, 1) := by decide +kernel
theorem d_Mo_checkHandle_39 : decode c_Mo_checkHandle 39 = .ok (.aload_n 0, 1) := by decide +kernel
theorem d_Mo_checkHandle_40 : decode c_Mo_checkHandle 40 = .ok (.getfield 25, 3) := by decide +kernel
theorem d_Mo_checkHandle_43 : decode c_Mo_checkHandle 43 = .ok (.iload_n 2, 1) := by decide +kernel
theorem d_Mo_checkHandle_44 : decode c_Mo_checkHandle 44 = .ok (.iaload, 1) := by decide +kernel
theorem d_Mo_checkHandle_45 : decode c_Mo_checkHandle 45 = .ok (.aload_n 0, 1) := by decide +kernel
theorem d_Mo_checkHandle_46 : decode c_Mo_checkHandle 46 = .ok (.getfield 13, 3) := by decide +kernel
theorem d_Mo_checkHandle_49 : decode c_Mo_checkHandle 49 = .ok (.iload_n 2, 1) := by decide +kernel
theorem d_Mo_checkHandle_50 : decode c_Mo_checkHandle 50 = .ok (.iaload, 1) := by decide +kernel
theorem d_Mo_checkHandle_51 : decode c_Mo_checkHandle 51 = .ok (.aload_n 0, 1) := by decide +kernel
theorem d_Mo_checkHandle_52 : decode c_Mo_checkHandle 52 = .ok (.getfield 227, 3) := by decide +kernel
theorem d_Mo_checkHandle_55 : decode c_Mo_checkHandle 55 = .ok (.invokevirtual 233, 3) := by decide +kernel
theorem d_Mo_checkHandle_58 : decode c_Mo_checkHandle 58 = .ok (.return_, 1) := by decide +kernel
theorem d_Mo_checkHandle_59 : decode c_Mo_checkHandle 59 = .ok (.iload_n 3, 1) := by decide +kernel
theorem d_Mo_checkHandle_60 : decode c_Mo_checkHandle 60 = .ok (.iconst 2, 1) := by decide +kernel
theorem d_Mo_checkHandle_61 : decode c_Mo_checkHandle 61 = .ok (.if_icmp .ne 40, 3) := by decide +kernel
theorem d_Mo_checkHandle_64 : decode c_Mo_checkHandle 64 = .ok (.aload_n 0, 1) := by decide +kernel
theorem d_Mo_checkHandle_65 : decode c_Mo_checkHandle 65 = .ok (.getfield 81, 3) := by decide +kernel
theorem d_Mo_checkHandle_68 : decode c_Mo_checkHandle 68 = .ok (.iload_n 1, 1) := by decide +kernel
theorem d_Mo_checkHandle_69 : decode c_Mo_checkHandle 69 = .ok (.aload_n 0, 1) := by decide +kernel
theorem d_Mo_checkHandle_70 : decode c_Mo_checkHandle 70 = .ok (.getfield 227, 3) := by decide +kernel
theorem d_Mo_checkHandle_73 : decode c_Mo_checkHandle 73 = .ok (.iastore, 1) := by decide +kernel
theorem d_Mo_checkHandle_74 : decode c_Mo_checkHandle 74 = .ok (.aload_n 0, 1) := by decide +kernel
theorem d_Mo_checkHandle_75 : decode c_Mo_checkHandle 75 = .ok (.getfield 230, 3) := by decide +kernel
theorem d_Mo_checkHandle_78 : decode c_Mo_checkHandle 78 = .ok (.iload 4, 2) := by decide +kernel
theorem d_Mo_checkHandle_80 : decode c_Mo_checkHandle 80 = .ok (.iconst (-1), 1) := by decide +kernel
theorem d_Mo_checkHandle_81 : decode c_Mo_checkHandle 81 = .ok (.ixor, 1) := by decide +kernel
theorem d_Mo_checkHandle_82 : decode c_Mo_checkHandle 82 = .ok (.iand, 1) := by decide +kernel
theorem d_Mo_checkHandle_83 : decode c_Mo_checkHandle 83 = .ok (.ifCond .eq 86, 3) := by decide +kernel
theorem d_Mo_checkHandle_86 : decode c_Mo_checkHandle 86 = .ok (.aload_n 0, 1) := by decide +kernel
theorem d_Mo_checkHandle_87 : decode c_Mo_checkHandle 87 = .ok (.bipush 7, 2) := by decide +kernel
theorem d_Mo_checkHandle_89 : decode c_Mo_checkHandle 89 = .ok (.aload_n 0, 1) := by decide +kernel
theorem d_Mo_checkHandle_90 : decode c_Mo_checkHandle 90 = .ok (.getfield 25, 3) := by decide +kernel
theorem d_Mo_checkHandle_93 : decode c_Mo_checkHandle 93 = .ok (.iload_n 2, 1) := by decide +kernel
theorem d_Mo_checkHandle_94 : decode c_Mo_checkHandle 94 = .ok (.iaload, 1) := by decide +kernel
theorem d_Mo_checkHandle_95 : decode c_Mo_checkHandle 95 = .ok (.invokevirtual 237, 3) := by decide +kernel
theorem d_Mo_checkHandle_98 : decode c_Mo_checkHandle 98 = .ok (.goto 71, 3) := by decide +kernel
theorem d_Mo_checkHandle_101 : decode c_Mo_checkHandle 101 = .ok (.aload_n 0, 1) := by decide +kernel
theorem d_Mo_checkHandle_102 : decode c_Mo_checkHandle 102 = .ok (.getfield 52, 3) := by decide +kernel
theorem d_Mo_checkHandle_105 : decode c_Mo_checkHandle 105 = .ok (.aload_n 0, 1) := by decide +kernel
theorem d_Mo_checkHandle_106 : decode c_Mo_checkHandle 106 = .ok (.getfield 37, 3) := by decide +kernel
theorem d_Mo_checkHandle_109 : decode c_Mo_checkHandle 109 = .ok (.iload_n 2, 1) := by decide +kernel
theorem d_Mo_checkHandle_110 : decode c_Mo_checkHandle 110 = .ok (.iaload, 1) := by decide +kernel
theorem d_Mo_checkHandle_111 : decode c_Mo_checkHandle 111 = .ok (.iload_n 3, 1) := by decide +kernel
theorem d_Mo_checkHandle_112 : decode c_Mo_checkHandle 112 = .ok (.iadd, 1) := by decide +kernel
theorem d_Mo_checkHandle_113 : decode c_Mo_checkHandle 113 = .ok (.iconst 3, 1) := by decide +kernel
theorem d_Mo_checkHandle_114 : decode c_Mo_checkHandle 114 = .ok (.isub, 1) := by decide +kernel
theorem d_Mo_checkHandle_115 : decode c_Mo_checkHandle 115 = .ok (.iaload, 1) := by decide +kernel
theorem d_Mo_checkHandle_116 : decode c_Mo_checkHandle 116 = .ok (.istore 5, 2) := by decide +kernel
theorem d_Mo_checkHandle_118 : decode c_Mo_checkHandle 118 = .ok (.aload_n 0, 1) := by decide +kernel
theorem d_Mo_checkHandle_119 : decode c_Mo_checkHandle 119 = .ok (.getfield 65, 3) := by decide +kernel
theorem d_Mo_checkHandle_122 : decode c_Mo_checkHandle 122 = .ok (.sipush 520, 3) := by decide +kernel
theorem d_Mo_checkHandle_125 : decode c_Mo_checkHandle 125 = .ok (.aload_n 0, 1) := by decide +kernel
theorem d_Mo_checkHandle_126 : decode c_Mo_checkHandle 126 = .ok (.getfield 227, 3) := by decide +kernel
theorem d_Mo_checkHandle_129 : decode c_Mo_checkHandle 129 = .ok (.imul, 1) := by decide +kernel
theorem d_Mo_checkHandle_130 : decode c_Mo_checkHandle 130 = .ok (.aload_n 0, 1) := by decide +kernel
theorem d_Mo_checkHandle_131 : decode c_Mo_checkHandle 131 = .ok (.getfield 81, 3) := by decide +kernel
theorem d_Mo_checkHandle_134 : decode c_Mo_checkHandle 134 = .ok (.iload_n 1, 1) := by decide +kernel
theorem d_Mo_checkHandle_135 : decode c_Mo_checkHandle 135 = .ok (.iaload, 1) := by decide +kernel
theorem d_Mo_checkHandle_136 : decode c_Mo_checkHandle 136 = .ok (.iadd, 1) := by decide +kernel
theorem d_Mo_checkHandle_137 : decode c_Mo_checkHandle 137 = .ok (.baload, 1) := by decide +kernel
theorem d_Mo_checkHandle_138 : decode c_Mo_checkHandle 138 = .ok (.ifCond .ne 11, 3) := by decide +kernel
theorem d_Mo_checkHandle_141 : decode c_Mo_checkHandle 141 = .ok (.aload_n 0, 1) := by decide +kernel
theorem d_Mo_checkHandle_142 : decode c_Mo_checkHandle 142 = .ok (.bipush 6, 2) := by decide +kernel
theorem d_Mo_checkHandle_144 : decode c_Mo_checkHandle 144 = .ok (.iload 5, 2) := by decide +kernel
theorem d_Mo_checkHandle_146 : decode c_Mo_checkHandle 146 = .ok (.invokevirtual 237, 3) := by decide +kernel
theorem d_Mo_checkHandle_149 : decode c_Mo_checkHandle 149 = .ok (.aload_n 0, 1) := by decide +kernel
theorem d_Mo_checkHandle_150 : decode c_Mo_checkHandle 150 = .ok (.getfield 230, 3) := by decide +kernel
theorem d_Mo_checkHandle_153 : decode c_Mo_checkHandle 153 = .ok (.iload 4, 2) := by decide +kernel
theorem d_Mo_checkHandle_155 : decode c_Mo_checkHandle 155 = .ok (.iconst (-1), 1) := by decide +kernel
theorem d_Mo_checkHandle_156 : decode c_Mo_checkHandle 156 = .ok (.ixor, 1) := by decide +kernel
theorem d_Mo_checkHandle_157 : decode c_Mo_checkHandle 157 = .ok (.iand, 1) := by decide +kernel
theorem d_Mo_checkHandle_158 : decode c_Mo_checkHandle 158 = .ok (.ifCond .eq 11, 3) := by decide +kernel
theorem d_Mo_checkHandle_161 : decode c_Mo_checkHandle 161 = .ok (.aload_n 0, 1) := by decide +kernel
theorem d_Mo_checkHandle_162 : decode c_Mo_checkHandle 162 = .ok (.bipush 7, 2) := by decide +kernel
theorem d_Mo_checkHandle_164 : decode c_Mo_checkHandle 164 = .ok (.iload 5, 2) := by decide +kernel
theorem d_Mo_checkHandle_166 : decode c_Mo_checkHandle 166 = .ok (.invokevirtual 237, 3) := by decide +kernel
theorem d_Mo_checkHandle_169 : decode c_Mo_checkHandle 169 = .ok (.iload_n 3, 1) := by decide +kernel
theorem d_Mo_checkHandle_170 : decode c_Mo_checkHandle 170 = .ok (.iconst 2, 1) := by decide +kernel
theorem d_Mo_checkHandle_171 : decode c_Mo_checkHandle 171 = .ok (.isub, 1) := by decide +kernel
theorem d_Mo_checkHandle_172 : decode c_Mo_checkHandle 172 = .ok (.istore 5, 2) := by decide +kernel
theorem d_Mo_checkHandle_174 : decode c_Mo_checkHandle 174 = .ok (.iload 5, 2) := by decide +kernel
theorem d_Mo_checkHandle_176 : decode c_Mo_checkHandle 176 = .ok (.aload_n 0, 1) := by decide +kernel
theorem d_Mo_checkHandle_177 : decode c_Mo_checkHandle 177 = .ok (.getfield 40, 3) := by decide +kernel
theorem d_Mo_checkHandle_180 : decode c_Mo_checkHandle 180 = .ok (.iload_n 2, 1) := by decide +kernel
theorem d_Mo_checkHandle_181 : decode c_Mo_checkHandle 181 = .ok (.iaload, 1) := by decide +kernel
theorem d_Mo_checkHandle_182 : decode c_Mo_checkHandle 182 = .ok (.if_icmp .ge 14, 3) := by decide +kernel
theorem d_Mo_checkHandle_185 : decode c_Mo_checkHandle 185 = .ok (.aload_n 0, 1) := by decide +kernel
theorem d_Mo_checkHandle_186 : decode c_Mo_checkHandle 186 = .ok (.iload_n 1, 1) := by decide +kernel
theorem d_Mo_checkHandle_187 : decode c_Mo_checkHandle 187 = .ok (.iload_n 2, 1) := by decide +kernel
theorem d_Mo_checkHandle_188 : decode c_Mo_checkHandle 188 = .ok (.iload 5, 2) := by decide +kernel
theorem d_Mo_checkHandle_190 : decode c_Mo_checkHandle 190 = .ok (.invokevirtual 243, 3) := by decide +kernel
theorem d_Mo_checkHandle_193 : decode c_Mo_checkHandle 193 = .ok (.goto 46, 3) := by decide +kernel
theorem d_Mo_checkHandle_196 : decode c_Mo_checkHandle 196 = .ok (.aload_n 0, 1) := by decide +kernel
theorem d_Mo_checkHandle_197 : decode c_Mo_checkHandle 197 = .ok (.iload_n 2, 1) := by decide +kernel
theorem d_Mo_checkHandle_198 : decode c_Mo_checkHandle 198 = .ok (.aload_n 0, 1) := by decide +kernel
theorem d_Mo_checkHandle_199 : decode c_Mo_checkHandle 199 = .ok (.getfield 84, 3) := by decide +kernel
theorem d_Mo_checkHandle_202 : decode c_Mo_checkHandle 202 = .ok (.iload_n 1, 1) := by decide +kernel
theorem d_Mo_checkHandle_203 : decode c_Mo_checkHandle 203 = .ok (.iaload, 1) := by decide +kernel
theorem d_Mo_checkHandle_204 : decode c_Mo_checkHandle 204 = .ok (.invokevirtual 246, 3) := by decide +kernel
theorem d_Mo_checkHandle_207 : decode c_Mo_checkHandle 207 = .ok (.iload 4, 2) := by decide +kernel
theorem d_Mo_checkHandle_209 : decode c_Mo_checkHandle 209 = .ok (.iconst (-1), 1) := by decide +kernel
theorem d_Mo_checkHandle_210 : decode c_Mo_checkHandle 210 = .ok (.ixor, 1) := by decide +kernel
theorem d_Mo_checkHandle_211 : decode c_Mo_checkHandle 211 = .ok (.iand, 1) := by decide +kernel
theorem d_Mo_checkHandle_212 : decode c_Mo_checkHandle 212 = .ok (.ifCond .eq 15, 3) := by decide +kernel
theorem d_Mo_checkHandle_215 : decode c_Mo_checkHandle 215 = .ok (.aload_n 0, 1) := by decide +kernel
theorem d_Mo_checkHandle_216 : decode c_Mo_checkHandle 216 = .ok (.bipush 7, 2) := by decide +kernel
theorem d_Mo_checkHandle_218 : decode c_Mo_checkHandle 218 = .ok (.aload_n 0, 1) := by decide +kernel
theorem d_Mo_checkHandle_219 : decode c_Mo_checkHandle 219 = .ok (.getfield 22, 3) := by decide +kernel
theorem d_Mo_checkHandle_222 : decode c_Mo_checkHandle 222 = .ok (.iload_n 2, 1) := by decide +kernel
theorem d_Mo_checkHandle_223 : decode c_Mo_checkHandle 223 = .ok (.iaload, 1) := by decide +kernel
theorem d_Mo_checkHandle_224 : decode c_Mo_checkHandle 224 = .ok (.invokevirtual 237, 3) := by decide +kernel
theorem d_Mo_checkHandle_227 : decode c_Mo_checkHandle 227 = .ok (.aload_n 0, 1) := by decide +kernel
theorem d_Mo_checkHandle_228 : decode c_Mo_checkHandle 228 = .ok (.aload_n 0, 1) := by decide +kernel
theorem d_Mo_checkHandle_229 : decode c_Mo_checkHandle 229 = .ok (.getfield 81, 3) := by decide +kernel
theorem d_Mo_checkHandle_232 : decode c_Mo_checkHandle 232 = .ok (.iload_n 1, 1) := by decide +kernel
theorem d_Mo_checkHandle_233 : decode c_Mo_checkHandle 233 = .ok (.iaload, 1) := by decide +kernel
theorem d_Mo_checkHandle_234 : decode c_Mo_checkHandle 234 = .ok (.iload 4, 2) := by decide +kernel
theorem d_Mo_checkHandle_236 : decode c_Mo_checkHandle 236 = .ok (.invokevirtual 240, 3) := by decide +kernel
theorem d_Mo_checkHandle_239 : decode c_Mo_checkHandle 239 = .ok (.return_, 1) := by decide +kernel
theorem d_Mo_beginClause_0 : decode c_Mo_beginClause 0 = .ok (.aload_n 0, 1) := by decide +kernel
theorem d_Mo_beginClause_1 : decode c_Mo_beginClause 1 = .ok (.getfield 37, 3) := by decide +kernel
theorem d_Mo_beginClause_4 : decode c_Mo_beginClause 4 = .ok (.iload_n 2, 1) := by decide +kernel
theorem d_Mo_beginClause_5 : decode c_Mo_beginClause 5 = .ok (.iaload, 1) := by decide +kernel
theorem d_Mo_beginClause_6 : decode c_Mo_beginClause 6 = .ok (.iload_n 3, 1) := by decide +kernel
theorem d_Mo_beginClause_7 : decode c_Mo_beginClause 7 = .ok (.iadd, 1) := by decide +kernel
theorem d_Mo_beginClause_8 : decode c_Mo_beginClause 8 = .ok (.istore 4, 2) := by decide +kernel
theorem d_Mo_beginClause_10 : decode c_Mo_beginClause 10 = .ok (.aload_n 0, 1) := by decide +kernel
theorem d_Mo_beginClause_11 : decode c_Mo_beginClause 11 = .ok (.getfield 37, 3) := by decide +kernel
theorem d_Mo_beginClause_14 : decode c_Mo_beginClause 14 = .ok (.iload_n 2, 1) := by decide +kernel
theorem d_Mo_beginClause_15 : decode c_Mo_beginClause 15 = .ok (.iaload, 1) := by decide +kernel
theorem d_Mo_beginClause_16 : decode c_Mo_beginClause 16 = .ok (.istore 5, 2) := by decide +kernel
theorem d_Mo_beginClause_18 : decode c_Mo_beginClause 18 = .ok (.iload 5, 2) := by decide +kernel
theorem d_Mo_beginClause_20 : decode c_Mo_beginClause 20 = .ok (.iload 4, 2) := by decide +kernel
theorem d_Mo_beginClause_22 : decode c_Mo_beginClause 22 = .ok (.if_icmp .ge 39, 3) := by decide +kernel
theorem d_Mo_beginClause_25 : decode c_Mo_beginClause 25 = .ok (.aload_n 0, 1) := by decide +kernel
theorem d_Mo_beginClause_26 : decode c_Mo_beginClause 26 = .ok (.getfield 43, 3) := by decide +kernel
theorem d_Mo_beginClause_29 : decode c_Mo_beginClause 29 = .ok (.iload 5, 2) := by decide +kernel
theorem d_Mo_beginClause_31 : decode c_Mo_beginClause 31 = .ok (.iaload, 1) := by decide +kernel
theorem d_Mo_beginClause_32 : decode c_Mo_beginClause 32 = .ok (.aload_n 0, 1) := by decide +kernel
theorem d_Mo_beginClause_33 : decode c_Mo_beginClause 33 = .ok (.getfield 43, 3) := by decide +kernel
theorem d_Mo_beginClause_36 : decode c_Mo_beginClause 36 = .ok (.iload 4, 2) := by decide +kernel
theorem d_Mo_beginClause_38 : decode c_Mo_beginClause 38 = .ok (.iaload, 1) := by decide +kernel
theorem d_Mo_beginClause_39 : decode c_Mo_beginClause 39 = .ok (.if_icmp .ne 16, 3) := by decide +kernel
theorem d_Mo_beginClause_42 : decode c_Mo_beginClause 42 = .ok (.aload_n 0, 1) := by decide +kernel
theorem d_Mo_beginClause_43 : decode c_Mo_beginClause 43 = .ok (.bipush 8, 2) := by decide +kernel
theorem d_Mo_beginClause_45 : decode c_Mo_beginClause 45 = .ok (.aload_n 0, 1) := by decide +kernel
theorem d_Mo_beginClause_46 : decode c_Mo_beginClause 46 = .ok (.getfield 52, 3) := by decide +kernel
theorem d_Mo_beginClause_49 : decode c_Mo_beginClause 49 = .ok (.iload 4, 2) := by decide +kernel
theorem d_Mo_beginClause_51 : decode c_Mo_beginClause 51 = .ok (.iaload, 1) := by decide +kernel
theorem d_Mo_beginClause_52 : decode c_Mo_beginClause 52 = .ok (.invokevirtual 237, 3) := by decide +kernel
theorem d_Mo_beginClause_55 : decode c_Mo_beginClause 55 = .ok (.iinc 5 1, 3) := by decide +kernel
theorem d_Mo_beginClause_58 : decode c_Mo_beginClause 58 = .ok (.goto (-40), 3) := by decide +kernel
theorem d_Mo_beginClause_61 : decode c_Mo_beginClause 61 = .ok (.aload_n 0, 1) := by decide +kernel
theorem d_Mo_beginClause_62 : decode c_Mo_beginClause 62 = .ok (.getfield 164, 3) := by decide +kernel
theorem d_Mo_beginClause_65 : decode c_Mo_beginClause 65 = .ok (.ifCond .eq 4, 3) := by decide +kernel
theorem d_Mo_beginClause_68 : decode c_Mo_beginClause 68 = .ok (.return_, 1) := by decide +kernel
theorem d_Mo_beginClause_69 : decode c_Mo_beginClause 69 = .ok (.aload_n 0, 1) := by decide +kernel
theorem d_Mo_beginClause_70 : decode c_Mo_beginClause 70 = .ok (.getfield 43, 3) := by decide +kernel
theorem d_Mo_beginClause_73 : decode c_Mo_beginClause 73 = .ok (.iload 4, 2) := by decide +kernel
theorem d_Mo_beginClause_75 : decode c_Mo_beginClause 75 = .ok (.iaload, 1) := by decide +kernel
theorem d_Mo_beginClause_76 : decode c_Mo_beginClause 76 = .ok (.istore 5, 2) := by decide +kernel
theorem d_Mo_beginClause_78 : decode c_Mo_beginClause 78 = .ok (.aload_n 0, 1) := by decide +kernel
theorem d_Mo_beginClause_79 : decode c_Mo_beginClause 79 = .ok (.aload_n 0, 1) := by decide +kernel
theorem d_Mo_beginClause_80 : decode c_Mo_beginClause 80 = .ok (.getfield 72, 3) := by decide +kernel
theorem d_Mo_beginClause_83 : decode c_Mo_beginClause 83 = .ok (.iload 5, 2) := by decide +kernel
theorem d_Mo_beginClause_85 : decode c_Mo_beginClause 85 = .ok (.iaload, 1) := by decide +kernel
theorem d_Mo_beginClause_86 : decode c_Mo_beginClause 86 = .ok (.aload_n 0, 1) := by decide +kernel
theorem d_Mo_beginClause_87 : decode c_Mo_beginClause 87 = .ok (.getfield 81, 3) := by decide +kernel
theorem d_Mo_beginClause_90 : decode c_Mo_beginClause 90 = .ok (.iload_n 1, 1) := by decide +kernel
theorem d_Mo_beginClause_91 : decode c_Mo_beginClause 91 = .ok (.iaload, 1) := by decide +kernel
theorem d_Mo_beginClause_92 : decode c_Mo_beginClause 92 = .ok (.aload_n 0, 1) := by decide +kernel
theorem d_Mo_beginClause_93 : decode c_Mo_beginClause 93 = .ok (.getfield 16, 3) := by decide +kernel
theorem d_Mo_beginClause_96 : decode c_Mo_beginClause 96 = .ok (.iload_n 2, 1) := by decide +kernel
theorem d_Mo_beginClause_97 : decode c_Mo_beginClause 97 = .ok (.iaload, 1) := by decide +kernel
theorem d_Mo_beginClause_98 : decode c_Mo_beginClause 98 = .ok (.invokevirtual 198, 3) := by decide +kernel
theorem d_Mo_beginClause_101 : decode c_Mo_beginClause 101 = .ok (.istore 6, 2) := by decide +kernel
theorem d_Mo_beginClause_103 : decode c_Mo_beginClause 103 = .ok (.aload_n 0, 1) := by decide +kernel
theorem d_Mo_beginClause_104 : decode c_Mo_beginClause 104 = .ok (.aload_n 0, 1) := by decide +kernel
theorem d_Mo_beginClause_105 : decode c_Mo_beginClause 105 = .ok (.getfield 52, 3) := by decide +kernel
theorem d_Mo_beginClause_108 : decode c_Mo_beginClause 108 = .ok (.iload 4, 2) := by decide +kernel
theorem d_Mo_beginClause_110 : decode c_Mo_beginClause 110 = .ok (.iaload, 1) := by decide +kernel
theorem d_Mo_beginClause_111 : decode c_Mo_beginClause 111 = .ok (.aload_n 0, 1) := by decide +kernel
theorem d_Mo_beginClause_112 : decode c_Mo_beginClause 112 = .ok (.getfield 46, 3) := by decide +kernel
theorem d_Mo_beginClause_115 : decode c_Mo_beginClause 115 = .ok (.iload 4, 2) := by decide +kernel
theorem d_Mo_beginClause_117 : decode c_Mo_beginClause 117 = .ok (.iaload, 1) := by decide +kernel
theorem d_Mo_beginClause_118 : decode c_Mo_beginClause 118 = .ok (.aload_n 0, 1) := by decide +kernel
theorem d_Mo_beginClause_119 : decode c_Mo_beginClause 119 = .ok (.getfield 69, 3) := by decide +kernel
theorem d_Mo_beginClause_122 : decode c_Mo_beginClause 122 = .ok (.iload 5, 2) := by decide +kernel
theorem d_Mo_beginClause_124 : decode c_Mo_beginClause 124 = .ok (.iaload, 1) := by decide +kernel
theorem d_Mo_beginClause_125 : decode c_Mo_beginClause 125 = .ok (.invokevirtual 233, 3) := by decide +kernel
theorem d_Mo_beginClause_128 : decode c_Mo_beginClause 128 = .ok (.aload_n 0, 1) := by decide +kernel
theorem d_Mo_beginClause_129 : decode c_Mo_beginClause 129 = .ok (.getfield 87, 3) := by decide +kernel
theorem d_Mo_beginClause_132 : decode c_Mo_beginClause 132 = .ok (.bipush 10, 2) := by decide +kernel
theorem d_Mo_beginClause_134 : decode c_Mo_beginClause 134 = .ok (.aload_n 0, 1) := by decide +kernel
theorem d_Mo_beginClause_135 : decode c_Mo_beginClause 135 = .ok (.getfield 220, 3) := by decide +kernel
theorem d_Mo_beginClause_138 : decode c_Mo_beginClause 138 = .ok (.iconst 1, 1) := by decide +kernel
theorem d_Mo_beginClause_139 : decode c_Mo_beginClause 139 = .ok (.isub, 1) := by decide +kernel
theorem d_Mo_beginClause_140 : decode c_Mo_beginClause 140 = .ok (.imul, 1) := by decide +kernel
theorem d_Mo_beginClause_141 : decode c_Mo_beginClause 141 = .ok (.aload_n 0, 1) := by decide +kernel
theorem d_Mo_beginClause_142 : decode c_Mo_beginClause 142 = .ok (.getfield 49, 3) := by decide +kernel
theorem d_Mo_beginClause_145 : decode c_Mo_beginClause 145 = .ok (.iload 4, 2) := by decide +kernel
theorem d_Mo_beginClause_147 : decode c_Mo_beginClause 147 = .ok (.iaload, 1) := by decide +kernel
theorem d_Mo_beginClause_148 : decode c_Mo_beginClause 148 = .ok (.iadd, 1) := by decide +kernel
theorem d_Mo_beginClause_149 : decode c_Mo_beginClause 149 = .ok (.iload 6, 2) := by decide +kernel
theorem d_Mo_beginClause_151 : decode c_Mo_beginClause 151 = .ok (.iastore, 1) := by decide +kernel
theorem d_Mo_beginClause_152 : decode c_Mo_beginClause 152 = .ok (.return_, 1) := by decide +kernel
theorem d_Mo_checkAtom_0 : decode c_Mo_checkAtom 0 = .ok (.aload_n 0, 1) := by decide +kernel
theorem d_Mo_checkAtom_1 : decode c_Mo_checkAtom 1 = .ok (.getfield 7, 3) := by decide +kernel
theorem d_Mo_checkAtom_4 : decode c_Mo_checkAtom 4 = .ok (.iload_n 2, 1) := by decide +kernel
theorem d_Mo_checkAtom_5 : decode c_Mo_checkAtom 5 = .ok (.iaload, 1) := by decide +kernel
theorem d_Mo_checkAtom_6 : decode c_Mo_checkAtom 6 = .ok (.iconst 3, 1) := by decide +kernel
theorem d_Mo_checkAtom_7 : decode c_Mo_checkAtom 7 = .ok (.if_icmp .eq 37, 3) := by decide +kernel
theorem d_Mo_checkAtom_10 : decode c_Mo_checkAtom 10 = .ok (.aload_n 0, 1) := by decide +kernel
theorem d_Mo_checkAtom_11 : decode c_Mo_checkAtom 11 = .ok (.aload_n 0, 1) := by decide +kernel
theorem d_Mo_checkAtom_12 : decode c_Mo_checkAtom 12 = .ok (.getfield 7, 3) := by decide +kernel
theorem d_Mo_checkAtom_15 : decode c_Mo_checkAtom 15 = .ok (.iload_n 2, 1) := by decide +kernel
theorem d_Mo_checkAtom_16 : decode c_Mo_checkAtom 16 = .ok (.iaload, 1) := by decide +kernel
theorem d_Mo_checkAtom_17 : decode c_Mo_checkAtom 17 = .ok (.ifCond .ne 7, 3) := by decide +kernel
theorem d_Mo_checkAtom_20 : decode c_Mo_checkAtom 20 = .ok (.iconst 0, 1) := by decide +kernel
theorem d_Mo_checkAtom_21 : decode c_Mo_checkAtom 21 = .ok (.goto 18, 3) := by decide +kernel
theorem d_Mo_checkAtom_24 : decode c_Mo_checkAtom 24 = .ok (.aload_n 0, 1) := by decide +kernel
theorem d_Mo_checkAtom_25 : decode c_Mo_checkAtom 25 = .ok (.getfield 7, 3) := by decide +kernel
theorem d_Mo_checkAtom_28 : decode c_Mo_checkAtom 28 = .ok (.iload_n 2, 1) := by decide +kernel
theorem d_Mo_checkAtom_29 : decode c_Mo_checkAtom 29 = .ok (.iaload, 1) := by decide +kernel
theorem d_Mo_checkAtom_30 : decode c_Mo_checkAtom 30 = .ok (.iconst 1, 1) := by decide +kernel
theorem d_Mo_checkAtom_31 : decode c_Mo_checkAtom 31 = .ok (.if_icmp .ne 7, 3) := by decide +kernel
theorem d_Mo_checkAtom_34 : decode c_Mo_checkAtom 34 = .ok (.iconst 1, 1) := by decide +kernel
theorem d_Mo_checkAtom_35 : decode c_Mo_checkAtom 35 = .ok (.goto 4, 3) := by decide +kernel
theorem d_Mo_checkAtom_38 : decode c_Mo_checkAtom 38 = .ok (.iconst 2, 1) := by decide +kernel
theorem d_Mo_checkAtom_39 : decode c_Mo_checkAtom 39 = .ok (.iconst 0, 1) := by decide +kernel
theorem d_Mo_checkAtom_40 : decode c_Mo_checkAtom 40 = .ok (.invokevirtual 240, 3) := by decide +kernel
theorem d_Mo_checkAtom_43 : decode c_Mo_checkAtom 43 = .ok (.return_, 1) := by decide +kernel
theorem d_Mo_checkAtom_44 : decode c_Mo_checkAtom 44 = .ok (.aload_n 0, 1) := by decide +kernel
theorem d_Mo_checkAtom_45 : decode c_Mo_checkAtom 45 = .ok (.getfield 87, 3) := by decide +kernel
theorem d_Mo_checkAtom_48 : decode c_Mo_checkAtom 48 = .ok (.bipush 10, 2) := by decide +kernel
theorem d_Mo_checkAtom_50 : decode c_Mo_checkAtom 50 = .ok (.iload_n 1, 1) := by decide +kernel
theorem d_Mo_checkAtom_51 : decode c_Mo_checkAtom 51 = .ok (.imul, 1) := by decide +kernel
theorem d_Mo_checkAtom_52 : decode c_Mo_checkAtom 52 = .ok (.aload_n 0, 1) := by decide +kernel
theorem d_Mo_checkAtom_53 : decode c_Mo_checkAtom 53 = .ok (.getfield 13, 3) := by decide +kernel
theorem d_Mo_checkAtom_56 : decode c_Mo_checkAtom 56 = .ok (.iload_n 2, 1) := by decide +kernel
theorem d_Mo_checkAtom_57 : decode c_Mo_checkAtom 57 = .ok (.iaload, 1) := by decide +kernel
theorem d_Mo_checkAtom_58 : decode c_Mo_checkAtom 58 = .ok (.iadd, 1) := by decide +kernel
theorem d_Mo_checkAtom_59 : decode c_Mo_checkAtom 59 = .ok (.iaload, 1) := by decide +kernel
theorem d_Mo_checkAtom_60 : decode c_Mo_checkAtom 60 = .ok (.istore_n 3, 1) := by decide +kernel
theorem d_Mo_checkAtom_61 : decode c_Mo_checkAtom 61 = .ok (.iload_n 3, 1) := by decide +kernel
theorem d_Mo_checkAtom_62 : decode c_Mo_checkAtom 62 = .ok (.iconst (-1), 1) := by decide +kernel
theorem d_Mo_checkAtom_63 : decode c_Mo_checkAtom 63 = .ok (.if_icmp .ne 9, 3) := by decide +kernel
theorem d_Mo_checkAtom_66 : decode c_Mo_checkAtom 66 = .ok (.aload_n 0, 1) := by decide +kernel
theorem d_Mo_checkAtom_67 : decode c_Mo_checkAtom 67 = .ok (.iconst 5, 1) := by decide +kernel
theorem d_Mo_checkAtom_68 : decode c_Mo_checkAtom 68 = .ok (.iload_n 2, 1) := by decide +kernel
theorem d_Mo_checkAtom_69 : decode c_Mo_checkAtom 69 = .ok (.invokevirtual 237, 3) := by decide +kernel
theorem d_Mo_checkAtom_72 : decode c_Mo_checkAtom 72 = .ok (.aload_n 0, 1) := by decide +kernel
theorem d_Mo_checkAtom_73 : decode c_Mo_checkAtom 73 = .ok (.iload_n 3, 1) := by decide +kernel
theorem d_Mo_checkAtom_74 : decode c_Mo_checkAtom 74 = .ok (.iconst 0, 1) := by decide +kernel
theorem d_Mo_checkAtom_75 : decode c_Mo_checkAtom 75 = .ok (.invokevirtual 240, 3) := by decide +kernel
theorem d_Mo_checkAtom_78 : decode c_Mo_checkAtom 78 = .ok (.return_, 1) := by decide +kernel
theorem d_Mo_checkStep_0 : decode c_Mo_checkStep 0 = .ok (.aload_n 0, 1) := by decide +kernel
theorem d_Mo_checkStep_1 : decode c_Mo_checkStep 1 = .ok (.getfield 220, 3) := by decide +kernel
theorem d_Mo_checkStep_4 : decode c_Mo_checkStep 4 = .ok (.iconst 1, 1) := by decide +kernel
theorem d_Mo_checkStep_5 : decode c_Mo_checkStep 5 = .ok (.isub, 1) := by decide +kernel
theorem d_Mo_checkStep_6 : decode c_Mo_checkStep 6 = .ok (.istore_n 1, 1) := by decide +kernel
theorem d_Mo_checkStep_7 : decode c_Mo_checkStep 7 = .ok (.aload_n 0, 1) := by decide +kernel
theorem d_Mo_checkStep_8 : decode c_Mo_checkStep 8 = .ok (.getfield 75, 3) := by decide +kernel
theorem d_Mo_checkStep_11 : decode c_Mo_checkStep 11 = .ok (.iload_n 1, 1) := by decide +kernel
theorem d_Mo_checkStep_12 : decode c_Mo_checkStep 12 = .ok (.iaload, 1) := by decide +kernel
theorem d_Mo_checkStep_13 : decode c_Mo_checkStep 13 = .ok (.istore_n 2, 1) := by decide +kernel
theorem d_Mo_checkStep_14 : decode c_Mo_checkStep 14 = .ok (.aload_n 0, 1) := by decide +kernel
theorem d_Mo_checkStep_15 : decode c_Mo_checkStep 15 = .ok (.getfield 78, 3) := by decide +kernel
theorem d_Mo_checkStep_18 : decode c_Mo_checkStep 18 = .ok (.iload_n 1, 1) := by decide +kernel
theorem d_Mo_checkStep_19 : decode c_Mo_checkStep 19 = .ok (.iaload, 1) := by decide +kernel
theorem d_Mo_checkStep_20 : decode c_Mo_checkStep 20 = .ok (.istore_n 3, 1) := by decide +kernel
theorem d_Mo_checkStep_21 : decode c_Mo_checkStep 21 = .ok (.aload_n 0, 1) := by decide +kernel
theorem d_Mo_checkStep_22 : decode c_Mo_checkStep 22 = .ok (.getfield 78, 3) := by decide +kernel
theorem d_Mo_checkStep_25 : decode c_Mo_checkStep 25 = .ok (.iload_n 1, 1) := by decide +kernel
theorem d_Mo_checkStep_26 : decode c_Mo_checkStep 26 = .ok (.dup2, 1) := by decide +kernel
theorem d_Mo_checkStep_27 : decode c_Mo_checkStep 27 = .ok (.iaload, 1) := by decide +kernel
theorem d_Mo_checkStep_28 : decode c_Mo_checkStep 28 = .ok (.iconst 1, 1) := by decide +kernel
theorem d_Mo_checkStep_29 : decode c_Mo_checkStep 29 = .ok (.iadd, 1) := by decide +kernel
theorem d_Mo_checkStep_30 : decode c_Mo_checkStep 30 = .ok (.iastore, 1) := by decide +kernel
theorem d_Mo_checkStep_31 : decode c_Mo_checkStep 31 = .ok (.aload_n 0, 1) := by decide +kernel
theorem d_Mo_checkStep_32 : decode c_Mo_checkStep 32 = .ok (.getfield 7, 3) := by decide +kernel
theorem d_Mo_checkStep_35 : decode c_Mo_checkStep 35 = .ok (.iload_n 2, 1) := by decide +kernel
theorem d_Mo_checkStep_36 : decode c_Mo_checkStep 36 = .ok (.iaload, 1) := by decide +kernel
theorem d_Mo_checkStep_37 : decode c_Mo_checkStep 37 = .ok (.tableswitch 238 4 11 #[47, 124, 134, 144, 199, 209, 219, 229], 47) := by decide +kernel
theorem d_Mo_checkStep_84 : decode c_Mo_checkStep 84 = .ok (.iload_n 3, 1) := by decide +kernel
theorem d_Mo_checkStep_85 : decode c_Mo_checkStep 85 = .ok (.ifCond .ne 16, 3) := by decide +kernel
theorem d_Mo_checkStep_88 : decode c_Mo_checkStep 88 = .ok (.aload_n 0, 1) := by decide +kernel
theorem d_Mo_checkStep_89 : decode c_Mo_checkStep 89 = .ok (.aload_n 0, 1) := by decide +kernel
theorem d_Mo_checkStep_90 : decode c_Mo_checkStep 90 = .ok (.getfield 22, 3) := by decide +kernel
theorem d_Mo_checkStep_93 : decode c_Mo_checkStep 93 = .ok (.iload_n 2, 1) := by decide +kernel
theorem d_Mo_checkStep_94 : decode c_Mo_checkStep 94 = .ok (.iaload, 1) := by decide +kernel
theorem d_Mo_checkStep_95 : decode c_Mo_checkStep 95 = .ok (.invokevirtual 223, 3) := by decide +kernel
theorem d_Mo_checkStep_98 : decode c_Mo_checkStep 98 = .ok (.goto 183, 3) := by decide +kernel
theorem d_Mo_checkStep_101 : decode c_Mo_checkStep 101 = .ok (.iload_n 3, 1) := by decide +kernel
theorem d_Mo_checkStep_102 : decode c_Mo_checkStep 102 = .ok (.iconst 1, 1) := by decide +kernel
theorem d_Mo_checkStep_103 : decode c_Mo_checkStep 103 = .ok (.if_icmp .ne 36, 3) := by decide +kernel
theorem d_Mo_checkStep_106 : decode c_Mo_checkStep 106 = .ok (.aload_n 0, 1) := by decide +kernel
theorem d_Mo_checkStep_107 : decode c_Mo_checkStep 107 = .ok (.getfield 84, 3) := by decide +kernel
theorem d_Mo_checkStep_110 : decode c_Mo_checkStep 110 = .ok (.iload_n 1, 1) := by decide +kernel
theorem d_Mo_checkStep_111 : decode c_Mo_checkStep 111 = .ok (.aload_n 0, 1) := by decide +kernel
theorem d_Mo_checkStep_112 : decode c_Mo_checkStep 112 = .ok (.getfield 230, 3) := by decide +kernel
theorem d_Mo_checkStep_115 : decode c_Mo_checkStep 115 = .ok (.iastore, 1) := by decide +kernel
theorem d_Mo_checkStep_116 : decode c_Mo_checkStep 116 = .ok (.aload_n 0, 1) := by decide +kernel
theorem d_Mo_checkStep_117 : decode c_Mo_checkStep 117 = .ok (.aload_n 0, 1) := by decide +kernel
theorem d_Mo_checkStep_118 : decode c_Mo_checkStep 118 = .ok (.getfield 25, 3) := by decide +kernel
theorem d_Mo_checkStep_121 : decode c_Mo_checkStep 121 = .ok (.iload_n 2, 1) := by decide +kernel
theorem d_Mo_checkStep_122 : decode c_Mo_checkStep 122 = .ok (.iaload, 1) := by decide +kernel
theorem d_Mo_checkStep_123 : decode c_Mo_checkStep 123 = .ok (.aload_n 0, 1) := by decide +kernel
theorem d_Mo_checkStep_124 : decode c_Mo_checkStep 124 = .ok (.getfield 13, 3) := by decide +kernel
theorem d_Mo_checkStep_127 : decode c_Mo_checkStep 127 = .ok (.iload_n 2, 1) := by decide +kernel
theorem d_Mo_checkStep_128 : decode c_Mo_checkStep 128 = .ok (.iaload, 1) := by decide +kernel
theorem d_Mo_checkStep_129 : decode c_Mo_checkStep 129 = .ok (.aload_n 0, 1) := by decide +kernel
theorem d_Mo_checkStep_130 : decode c_Mo_checkStep 130 = .ok (.getfield 227, 3) := by decide +kernel
theorem d_Mo_checkStep_133 : decode c_Mo_checkStep 133 = .ok (.invokevirtual 233, 3) := by decide +kernel
theorem d_Mo_checkStep_136 : decode c_Mo_checkStep 136 = .ok (.goto 145, 3) := by decide +kernel
theorem d_Mo_checkStep_139 : decode c_Mo_checkStep 139 = .ok (.aload_n 0, 1) := by decide +kernel
theorem d_Mo_checkStep_140 : decode c_Mo_checkStep 140 = .ok (.aload_n 0, 1) := by decide +kernel
theorem d_Mo_checkStep_141 : decode c_Mo_checkStep 141 = .ok (.getfield 227, 3) := by decide +kernel
theorem d_Mo_checkStep_144 : decode c_Mo_checkStep 144 = .ok (.aload_n 0, 1) := by decide +kernel
theorem d_Mo_checkStep_145 : decode c_Mo_checkStep 145 = .ok (.getfield 84, 3) := by decide +kernel
theorem d_Mo_checkStep_148 : decode c_Mo_checkStep 148 = .ok (.iload_n 1, 1) := by decide +kernel
theorem d_Mo_checkStep_149 : decode c_Mo_checkStep 149 = .ok (.iaload, 1) := by decide +kernel
theorem d_Mo_checkStep_150 : decode c_Mo_checkStep 150 = .ok (.aload_n 0, 1) := by decide +kernel
theorem d_Mo_checkStep_151 : decode c_Mo_checkStep 151 = .ok (.getfield 230, 3) := by decide +kernel
theorem d_Mo_checkStep_154 : decode c_Mo_checkStep 154 = .ok (.ior, 1) := by decide +kernel
theorem d_Mo_checkStep_155 : decode c_Mo_checkStep 155 = .ok (.invokevirtual 240, 3) := by decide +kernel
theorem d_Mo_checkStep_158 : decode c_Mo_checkStep 158 = .ok (.goto 123, 3) := by decide +kernel
theorem d_Mo_checkStep_161 : decode c_Mo_checkStep 161 = .ok (.aload_n 0, 1) := by decide +kernel
theorem d_Mo_checkStep_162 : decode c_Mo_checkStep 162 = .ok (.iload_n 1, 1) := by decide +kernel
theorem d_Mo_checkStep_163 : decode c_Mo_checkStep 163 = .ok (.iload_n 2, 1) := by decide +kernel
theorem d_Mo_checkStep_164 : decode c_Mo_checkStep 164 = .ok (.iload_n 3, 1) := by decide +kernel
theorem d_Mo_checkStep_165 : decode c_Mo_checkStep 165 = .ok (.invokevirtual 250, 3) := by decide +kernel
theorem d_Mo_checkStep_168 : decode c_Mo_checkStep 168 = .ok (.goto 113, 3) := by decide +kernel
theorem d_Mo_checkStep_171 : decode c_Mo_checkStep 171 = .ok (.aload_n 0, 1) := by decide +kernel
theorem d_Mo_checkStep_172 : decode c_Mo_checkStep 172 = .ok (.iload_n 1, 1) := by decide +kernel
theorem d_Mo_checkStep_173 : decode c_Mo_checkStep 173 = .ok (.iload_n 2, 1) := by decide +kernel
theorem d_Mo_checkStep_174 : decode c_Mo_checkStep 174 = .ok (.iload_n 3, 1) := by decide +kernel
theorem d_Mo_checkStep_175 : decode c_Mo_checkStep 175 = .ok (.invokevirtual 253, 3) := by decide +kernel
theorem d_Mo_checkStep_178 : decode c_Mo_checkStep 178 = .ok (.goto 103, 3) := by decide +kernel
theorem d_Mo_checkStep_181 : decode c_Mo_checkStep 181 = .ok (.iload_n 3, 1) := by decide +kernel
theorem d_Mo_checkStep_182 : decode c_Mo_checkStep 182 = .ok (.ifCond .ne 28, 3) := by decide +kernel
theorem d_Mo_checkStep_185 : decode c_Mo_checkStep 185 = .ok (.aload_n 0, 1) := by decide +kernel
theorem d_Mo_checkStep_186 : decode c_Mo_checkStep 186 = .ok (.aload_n 0, 1) := by decide +kernel
theorem d_Mo_checkStep_187 : decode c_Mo_checkStep 187 = .ok (.getfield 22, 3) := by decide +kernel
theorem d_Mo_checkStep_190 : decode c_Mo_checkStep 190 = .ok (.iload_n 2, 1) := by decide +kernel
theorem d_Mo_checkStep_191 : decode c_Mo_checkStep 191 = .ok (.iaload, 1) := by decide +kernel
theorem d_Mo_checkStep_192 : decode c_Mo_checkStep 192 = .ok (.aload_n 0, 1) := by decide +kernel
theorem d_Mo_checkStep_193 : decode c_Mo_checkStep 193 = .ok (.getfield 13, 3) := by decide +kernel
theorem d_Mo_checkStep_196 : decode c_Mo_checkStep 196 = .ok (.iload_n 2, 1) := by decide +kernel
theorem d_Mo_checkStep_197 : decode c_Mo_checkStep 197 = .ok (.iaload, 1) := by decide +kernel
theorem d_Mo_checkStep_198 : decode c_Mo_checkStep 198 = .ok (.aload_n 0, 1) := by decide +kernel
theorem d_Mo_checkStep_199 : decode c_Mo_checkStep 199 = .ok (.getfield 16, 3) := by decide +kernel
theorem d_Mo_checkStep_202 : decode c_Mo_checkStep 202 = .ok (.iload_n 2, 1) := by decide +kernel
theorem d_Mo_checkStep_203 : decode c_Mo_checkStep 203 = .ok (.iaload, 1) := by decide +kernel
theorem d_Mo_checkStep_204 : decode c_Mo_checkStep 204 = .ok (.invokevirtual 233, 3) := by decide +kernel
theorem d_Mo_checkStep_207 : decode c_Mo_checkStep 207 = .ok (.goto 74, 3) := by decide +kernel
theorem d_Mo_checkStep_210 : decode c_Mo_checkStep 210 = .ok (.aload_n 0, 1) := by decide +kernel
theorem d_Mo_checkStep_211 : decode c_Mo_checkStep 211 = .ok (.aload_n 0, 1) := by decide +kernel
theorem d_Mo_checkStep_212 : decode c_Mo_checkStep 212 = .ok (.aload_n 0, 1) := by decide +kernel
theorem d_Mo_checkStep_213 : decode c_Mo_checkStep 213 = .ok (.getfield 16, 3) := by decide +kernel
theorem d_Mo_checkStep_216 : decode c_Mo_checkStep 216 = .ok (.iload_n 2, 1) := by decide +kernel
theorem d_Mo_checkStep_217 : decode c_Mo_checkStep 217 = .ok (.iaload, 1) := by decide +kernel
theorem d_Mo_checkStep_218 : decode c_Mo_checkStep 218 = .ok (.aload_n 0, 1) := by decide +kernel
theorem d_Mo_checkStep_219 : decode c_Mo_checkStep 219 = .ok (.getfield 227, 3) := by decide +kernel
theorem d_Mo_checkStep_222 : decode c_Mo_checkStep 222 = .ok (.aload_n 0, 1) := by decide +kernel
theorem d_Mo_checkStep_223 : decode c_Mo_checkStep 223 = .ok (.getfield 230, 3) := by decide +kernel
theorem d_Mo_checkStep_226 : decode c_Mo_checkStep 226 = .ok (.invokevirtual 198, 3) := by decide +kernel
theorem d_Mo_checkStep_229 : decode c_Mo_checkStep 229 = .ok (.iconst 0, 1) := by decide +kernel
theorem d_Mo_checkStep_230 : decode c_Mo_checkStep 230 = .ok (.invokevirtual 240, 3) := by decide +kernel
theorem d_Mo_checkStep_233 : decode c_Mo_checkStep 233 = .ok (.goto 48, 3) := by decide +kernel
theorem d_Mo_checkStep_236 : decode c_Mo_checkStep 236 = .ok (.aload_n 0, 1) := by decide +kernel
theorem d_Mo_checkStep_237 : decode c_Mo_checkStep 237 = .ok (.iload_n 1, 1) := by decide +kernel
theorem d_Mo_checkStep_238 : decode c_Mo_checkStep 238 = .ok (.iload_n 2, 1) := by decide +kernel
theorem d_Mo_checkStep_239 : decode c_Mo_checkStep 239 = .ok (.iload_n 3, 1) := by decide +kernel
theorem d_Mo_checkStep_240 : decode c_Mo_checkStep 240 = .ok (.invokevirtual 256, 3) := by decide +kernel
theorem d_Mo_checkStep_243 : decode c_Mo_checkStep 243 = .ok (.goto 38, 3) := by decide +kernel
theorem d_Mo_checkStep_246 : decode c_Mo_checkStep 246 = .ok (.aload_n 0, 1) := by decide +kernel
theorem d_Mo_checkStep_247 : decode c_Mo_checkStep 247 = .ok (.iload_n 1, 1) := by decide +kernel
theorem d_Mo_checkStep_248 : decode c_Mo_checkStep 248 = .ok (.iload_n 2, 1) := by decide +kernel
theorem d_Mo_checkStep_249 : decode c_Mo_checkStep 249 = .ok (.iload_n 3, 1) := by decide +kernel
theorem d_Mo_checkStep_250 : decode c_Mo_checkStep 250 = .ok (.invokevirtual 259, 3) := by decide +kernel
theorem d_Mo_checkStep_253 : decode c_Mo_checkStep 253 = .ok (.goto 28, 3) := by decide +kernel
theorem d_Mo_checkStep_256 : decode c_Mo_checkStep 256 = .ok (.aload_n 0, 1) := by decide +kernel
theorem d_Mo_checkStep_257 : decode c_Mo_checkStep 257 = .ok (.iload_n 1, 1) := by decide +kernel
theorem d_Mo_checkStep_258 : decode c_Mo_checkStep 258 = .ok (.iload_n 2, 1) := by decide +kernel
theorem d_Mo_checkStep_259 : decode c_Mo_checkStep 259 = .ok (.iload_n 3, 1) := by decide +kernel
theorem d_Mo_checkStep_260 : decode c_Mo_checkStep 260 = .ok (.invokevirtual 262, 3) := by decide +kernel
theorem d_Mo_checkStep_263 : decode c_Mo_checkStep 263 = .ok (.goto 18, 3) := by decide +kernel
theorem d_Mo_checkStep_266 : decode c_Mo_checkStep 266 = .ok (.aload_n 0, 1) := by decide +kernel
theorem d_Mo_checkStep_267 : decode c_Mo_checkStep 267 = .ok (.iload_n 2, 1) := by decide +kernel
theorem d_Mo_checkStep_268 : decode c_Mo_checkStep 268 = .ok (.iload_n 3, 1) := by decide +kernel
theorem d_Mo_checkStep_269 : decode c_Mo_checkStep 269 = .ok (.invokevirtual 265, 3) := by decide +kernel
theorem d_Mo_checkStep_272 : decode c_Mo_checkStep 272 = .ok (.goto 9, 3) := by decide +kernel
theorem d_Mo_checkStep_275 : decode c_Mo_checkStep 275 = .ok (.aload_n 0, 1) := by decide +kernel
theorem d_Mo_checkStep_276 : decode c_Mo_checkStep 276 = .ok (.iload_n 1, 1) := by decide +kernel
theorem d_Mo_checkStep_277 : decode c_Mo_checkStep 277 = .ok (.iload_n 2, 1) := by decide +kernel
theorem d_Mo_checkStep_278 : decode c_Mo_checkStep 278 = .ok (.invokevirtual 268, 3) := by decide +kernel
theorem d_Mo_checkStep_281 : decode c_Mo_checkStep 281 = .ok (.return_, 1) := by decide +kernel
theorem d_Mo_check_0 : decode c_Mo_check 0 = .ok (.aload_n 0, 1) := by decide +kernel
theorem d_Mo_check_1 : decode c_Mo_check 1 = .ok (.aload_n 0, 1) := by decide +kernel
theorem d_Mo_check_2 : decode c_Mo_check 2 = .ok (.iload_n 1, 1) := by decide +kernel
theorem d_Mo_check_3 : decode c_Mo_check 3 = .ok (.invokevirtual 217, 3) := by decide +kernel
theorem d_Mo_check_6 : decode c_Mo_check 6 = .ok (.ifCond .ne 7, 3) := by decide +kernel
theorem d_Mo_check_9 : decode c_Mo_check 9 = .ok (.iconst 1, 1) := by decide +kernel
theorem d_Mo_check_10 : decode c_Mo_check 10 = .ok (.goto 31, 3) := by decide +kernel
theorem d_Mo_check_13 : decode c_Mo_check 13 = .ok (.aload_n 0, 1) := by decide +kernel
theorem d_Mo_check_14 : decode c_Mo_check 14 = .ok (.getfield 31, 3) := by decide +kernel
theorem d_Mo_check_17 : decode c_Mo_check 17 = .ok (.iload_n 1, 1) := by decide +kernel
theorem d_Mo_check_18 : decode c_Mo_check 18 = .ok (.iaload, 1) := by decide +kernel
theorem d_Mo_check_19 : decode c_Mo_check 19 = .ok (.sipush 400, 3) := by decide +kernel
theorem d_Mo_check_22 : decode c_Mo_check 22 = .ok (.if_icmp .gt 14, 3) := by decide +kernel
theorem d_Mo_check_25 : decode c_Mo_check 25 = .ok (.aload_n 0, 1) := by decide +kernel
theorem d_Mo_check_26 : decode c_Mo_check 26 = .ok (.getfield 34, 3) := by decide +kernel
theorem d_Mo_check_29 : decode c_Mo_check 29 = .ok (.iload_n 1, 1) := by decide +kernel
theorem d_Mo_check_30 : decode c_Mo_check 30 = .ok (.iaload, 1) := by decide +kernel
theorem d_Mo_check_31 : decode c_Mo_check 31 = .ok (.bipush 40, 2) := by decide +kernel
theorem d_Mo_check_33 : decode c_Mo_check 33 = .ok (.if_icmp .le 7, 3) := by decide +kernel
theorem d_Mo_check_36 : decode c_Mo_check 36 = .ok (.iconst 2, 1) := by decide +kernel
theorem d_Mo_check_37 : decode c_Mo_check 37 = .ok (.goto 4, 3) := by decide +kernel
theorem d_Mo_check_40 : decode c_Mo_check 40 = .ok (.iconst 0, 1) := by decide +kernel
theorem d_Mo_check_41 : decode c_Mo_check 41 = .ok (.putfield 142, 3) := by decide +kernel
theorem d_Mo_check_44 : decode c_Mo_check 44 = .ok (.aload_n 0, 1) := by decide +kernel
theorem d_Mo_check_45 : decode c_Mo_check 45 = .ok (.getfield 142, 3) := by decide +kernel
theorem d_Mo_check_48 : decode c_Mo_check 48 = .ok (.ifCond .eq 5, 3) := by decide +kernel
theorem d_Mo_check_51 : decode c_Mo_check 51 = .ok (.iconst 0, 1) := by decide +kernel
theorem d_Mo_check_52 : decode c_Mo_check 52 = .ok (.ireturn, 1) := by decide +kernel
theorem d_Mo_check_53 : decode c_Mo_check 53 = .ok (.aload_n 0, 1) := by decide +kernel
theorem d_Mo_check_54 : decode c_Mo_check 54 = .ok (.getfield 155, 3) := by decide +kernel
theorem d_Mo_check_57 : decode c_Mo_check 57 = .ok (.istore_n 2, 1) := by decide +kernel
theorem d_Mo_check_58 : decode c_Mo_check 58 = .ok (.aload_n 0, 1) := by decide +kernel
theorem d_Mo_check_59 : decode c_Mo_check 59 = .ok (.iconst 0, 1) := by decide +kernel
theorem d_Mo_check_60 : decode c_Mo_check 60 = .ok (.putfield 164, 3) := by decide +kernel
theorem d_Mo_check_63 : decode c_Mo_check 63 = .ok (.aload_n 0, 1) := by decide +kernel
theorem d_Mo_check_64 : decode c_Mo_check 64 = .ok (.iconst (-1), 1) := by decide +kernel
theorem d_Mo_check_65 : decode c_Mo_check 65 = .ok (.putfield 167, 3) := by decide +kernel
theorem d_Mo_check_68 : decode c_Mo_check 68 = .ok (.aload_n 0, 1) := by decide +kernel
theorem d_Mo_check_69 : decode c_Mo_check 69 = .ok (.iconst 1, 1) := by decide +kernel
theorem d_Mo_check_70 : decode c_Mo_check 70 = .ok (.putfield 170, 3) := by decide +kernel
theorem d_Mo_check_73 : decode c_Mo_check 73 = .ok (.aload_n 0, 1) := by decide +kernel
theorem d_Mo_check_74 : decode c_Mo_check 74 = .ok (.iconst (-1), 1) := by decide +kernel
theorem d_Mo_check_75 : decode c_Mo_check 75 = .ok (.putfield 158, 3) := by decide +kernel
theorem d_Mo_check_78 : decode c_Mo_check 78 = .ok (.aload_n 0, 1) := by decide +kernel
theorem d_Mo_check_79 : decode c_Mo_check 79 = .ok (.iconst 0, 1) := by decide +kernel
theorem d_Mo_check_80 : decode c_Mo_check 80 = .ok (.putfield 161, 3) := by decide +kernel
theorem d_Mo_check_83 : decode c_Mo_check 83 = .ok (.aload_n 0, 1) := by decide +kernel
theorem d_Mo_check_84 : decode c_Mo_check 84 = .ok (.iconst 0, 1) := by decide +kernel
theorem d_Mo_check_85 : decode c_Mo_check 85 = .ok (.putfield 220, 3) := by decide +kernel
theorem d_Mo_check_88 : decode c_Mo_check 88 = .ok (.aload_n 0, 1) := by decide +kernel
theorem d_Mo_check_89 : decode c_Mo_check 89 = .ok (.iload_n 1, 1) := by decide +kernel
theorem d_Mo_check_90 : decode c_Mo_check 90 = .ok (.invokevirtual 223, 3) := by decide +kernel
theorem d_Mo_check_93 : decode c_Mo_check 93 = .ok (.aload_n 0, 1) := by decide +kernel
theorem d_Mo_check_94 : decode c_Mo_check 94 = .ok (.getfield 220, 3) := by decide +kernel
theorem d_Mo_check_97 : decode c_Mo_check 97 = .ok (.ifCond .le 17, 3) := by decide +kernel
theorem d_Mo_check_100 : decode c_Mo_check 100 = .ok (.aload_n 0, 1) := by decide +kernel
theorem d_Mo_check_101 : decode c_Mo_check 101 = .ok (.getfield 164, 3) := by decide +kernel
theorem d_Mo_check_104 : decode c_Mo_check 104 = .ok (.ifCond .ne 10, 3) := by decide +kernel
theorem d_Mo_check_107 : decode c_Mo_check 107 = .ok (.aload_n 0, 1) := by decide +kernel
theorem d_Mo_check_108 : decode c_Mo_check 108 = .ok (.invokevirtual 271, 3) := by decide +kernel
theorem d_Mo_check_111 : decode c_Mo_check 111 = .ok (.goto (-18), 3) := by decide +kernel
theorem d_Mo_check_114 : decode c_Mo_check 114 = .ok (.aload_n 0, 1) := by decide +kernel
theorem d_Mo_check_115 : decode c_Mo_check 115 = .ok (.getfield 164, 3) := by decide +kernel
theorem d_Mo_check_118 : decode c_Mo_check 118 = .ok (.ifCond .ne 18, 3) := by decide +kernel
theorem d_Mo_check_121 : decode c_Mo_check 121 = .ok (.aload_n 0, 1) := by decide +kernel
theorem d_Mo_check_122 : decode c_Mo_check 122 = .ok (.getfield 155, 3) := by decide +kernel
theorem d_Mo_check_125 : decode c_Mo_check 125 = .ok (.bipush 63, 2) := by decide +kernel
theorem d_Mo_check_127 : decode c_Mo_check 127 = .ok (.if_icmp .le 9, 3) := by decide +kernel
theorem d_Mo_check_130 : decode c_Mo_check 130 = .ok (.aload_n 0, 1) := by decide +kernel
theorem d_Mo_check_131 : decode c_Mo_check 131 = .ok (.bipush 9, 2) := by decide +kernel
theorem d_Mo_check_133 : decode c_Mo_check 133 = .ok (.putfield 164, 3) := by decide +kernel
theorem d_Mo_check_136 : decode c_Mo_check 136 = .ok (.aload_n 0, 1) := by decide +kernel
theorem d_Mo_check_137 : decode c_Mo_check 137 = .ok (.aload_n 0, 1) := by decide +kernel
theorem d_Mo_check_138 : decode c_Mo_check 138 = .ok (.getfield 164, 3) := by decide +kernel
theorem d_Mo_check_141 : decode c_Mo_check 141 = .ok (.ifCond .eq 7, 3) := by decide +kernel
theorem d_Mo_check_144 : decode c_Mo_check 144 = .ok (.iconst 3, 1) := by decide +kernel
theorem d_Mo_check_145 : decode c_Mo_check 145 = .ok (.goto 4, 3) := by decide +kernel
theorem d_Mo_check_148 : decode c_Mo_check 148 = .ok (.iconst 0, 1) := by decide +kernel
theorem d_Mo_check_149 : decode c_Mo_check 149 = .ok (.putfield 142, 3) := by decide +kernel
theorem d_Mo_check_152 : decode c_Mo_check 152 = .ok (.aload_n 0, 1) := by decide +kernel
theorem d_Mo_check_153 : decode c_Mo_check 153 = .ok (.invokevirtual 274, 3) := by decide +kernel
theorem d_Mo_check_156 : decode c_Mo_check 156 = .ok (.aload_n 0, 1) := by decide +kernel
theorem d_Mo_check_157 : decode c_Mo_check 157 = .ok (.iconst 0, 1) := by decide +kernel
theorem d_Mo_check_158 : decode c_Mo_check 158 = .ok (.putfield 161, 3) := by decide +kernel
theorem d_Mo_check_161 : decode c_Mo_check 161 = .ok (.aload_n 0, 1) := by decide +kernel
theorem d_Mo_check_162 : decode c_Mo_check 162 = .ok (.getfield 164, 3) := by decide +kernel
theorem d_Mo_check_165 : decode c_Mo_check 165 = .ok (.ifCond .eq 10, 3) := by decide +kernel
theorem d_Mo_check_168 : decode c_Mo_check 168 = .ok (.aload_n 0, 1) := by decide +kernel
theorem d_Mo_check_169 : decode c_Mo_check 169 = .ok (.iload_n 2, 1) := by decide +kernel
theorem d_Mo_check_170 : decode c_Mo_check 170 = .ok (.putfield 155, 3) := by decide +kernel
theorem d_Mo_check_173 : decode c_Mo_check 173 = .ok (.iconst 0, 1) := by decide +kernel
theorem d_Mo_check_174 : decode c_Mo_check 174 = .ok (.ireturn, 1) := by decide +kernel
theorem d_Mo_check_175 : decode c_Mo_check 175 = .ok (.aload_n 0, 1) := by decide +kernel
theorem d_Mo_check_176 : decode c_Mo_check 176 = .ok (.iload_n 1, 1) := by decide +kernel
theorem d_Mo_check_177 : decode c_Mo_check 177 = .ok (.putfield 158, 3) := by decide +kernel
theorem d_Mo_check_180 : decode c_Mo_check 180 = .ok (.aload_n 0, 1) := by decide +kernel
theorem d_Mo_check_181 : decode c_Mo_check 181 = .ok (.aload_n 0, 1) := by decide +kernel
theorem d_Mo_check_182 : decode c_Mo_check 182 = .ok (.getfield 227, 3) := by decide +kernel
theorem d_Mo_check_185 : decode c_Mo_check 185 = .ok (.putfield 277, 3) := by decide +kernel
theorem d_Mo_check_188 : decode c_Mo_check 188 = .ok (.aload_n 0, 1) := by decide +kernel
theorem d_Mo_check_189 : decode c_Mo_check 189 = .ok (.aload_n 0, 1) := by decide +kernel
theorem d_Mo_check_190 : decode c_Mo_check 190 = .ok (.getfield 230, 3) := by decide +kernel
theorem d_Mo_check_193 : decode c_Mo_check 193 = .ok (.putfield 280, 3) := by decide +kernel
theorem d_Mo_check_196 : decode c_Mo_check 196 = .ok (.aload_n 0, 1) := by decide +kernel
theorem d_Mo_check_197 : decode c_Mo_check 197 = .ok (.getfield 227, 3) := by decide +kernel
theorem d_Mo_check_200 : decode c_Mo_check 200 = .ok (.ireturn, 1) := by decide +kernel
theorem d_Mo_fault_0 : decode c_Mo_fault 0 = .ok (.aload_n 0, 1) := by decide +kernel
theorem d_Mo_fault_1 : decode c_Mo_fault 1 = .ok (.iconst 0, 1) := by decide +kernel
theorem d_Mo_fault_2 : decode c_Mo_fault 2 = .ok (.putfield 142, 3) := by decide +kernel
theorem d_Mo_fault_5 : decode c_Mo_fault 5 = .ok (.iload_n 1, 1) := by decide +kernel
theorem d_Mo_fault_6 : decode c_Mo_fault 6 = .ok (.ifCond .ne 8, 3) := by decide +kernel
theorem d_Mo_fault_9 : decode c_Mo_fault 9 = .ok (.aload_n 0, 1) := by decide +kernel
theorem d_Mo_fault_10 : decode c_Mo_fault 10 = .ok (.getfield 164, 3) := by decide +kernel
theorem d_Mo_fault_13 : decode c_Mo_fault 13 = .ok (.ireturn, 1) := by decide +kernel
theorem d_Mo_fault_14 : decode c_Mo_fault 14 = .ok (.iload_n 1, 1) := by decide +kernel
theorem d_Mo_fault_15 : decode c_Mo_fault 15 = .ok (.iconst 1, 1) := by decide +kernel
theorem d_Mo_fault_16 : decode c_Mo_fault 16 = .ok (.if_icmp .ne 8, 3) := by decide +kernel
theorem d_Mo_fault_19 : decode c_Mo_fault 19 = .ok (.aload_n 0, 1) := by decide +kernel
theorem d_Mo_fault_20 : decode c_Mo_fault 20 = .ok (.getfield 167, 3) := by decide +kernel
theorem d_Mo_fault_23 : decode c_Mo_fault 23 = .ok (.ireturn, 1) := by decide +kernel
theorem d_Mo_fault_24 : decode c_Mo_fault 24 = .ok (.iload_n 1, 1) := by decide +kernel
theorem d_Mo_fault_25 : decode c_Mo_fault 25 = .ok (.iconst 2, 1) := by decide +kernel
theorem d_Mo_fault_26 : decode c_Mo_fault 26 = .ok (.if_icmp .ne 17, 3) := by decide +kernel
theorem d_Mo_fault_29 : decode c_Mo_fault 29 = .ok (.aload_n 0, 1) := by decide +kernel
theorem d_Mo_fault_30 : decode c_Mo_fault 30 = .ok (.getfield 170, 3) := by decide +kernel
theorem d_Mo_fault_33 : decode c_Mo_fault 33 = .ok (.ifCond .eq 10, 3) := by decide +kernel
theorem d_Mo_fault_36 : decode c_Mo_fault 36 = .ok (.aload_n 0, 1) := by decide +kernel
theorem d_Mo_fault_37 : decode c_Mo_fault 37 = .ok (.getfield 164, 3) := by decide +kernel
theorem d_Mo_fault_40 : decode c_Mo_fault 40 = .ok (.ifCond .eq 7, 3) := by decide +kernel
theorem d_Mo_fault_43 : decode c_Mo_fault 43 = .ok (.iconst (-1), 1) := by decide +kernel
theorem d_Mo_fault_44 : decode c_Mo_fault 44 = .ok (.goto 7, 3) := by decide +kernel
theorem d_Mo_fault_47 : decode c_Mo_fault 47 = .ok (.aload_n 0, 1) := by decide +kernel
theorem d_Mo_fault_48 : decode c_Mo_fault 48 = .ok (.getfield 280, 3) := by decide +kernel
theorem d_Mo_fault_51 : decode c_Mo_fault 51 = .ok (.ireturn, 1) := by decide +kernel
theorem d_Mo_begin_0 : decode c_Mo_begin 0 = .ok (.aload_n 0, 1) := by decide +kernel
theorem d_Mo_begin_1 : decode c_Mo_begin 1 = .ok (.iconst 0, 1) := by decide +kernel
theorem d_Mo_begin_2 : decode c_Mo_begin 2 = .ok (.putfield 283, 3) := by decide +kernel
theorem d_Mo_begin_5 : decode c_Mo_begin 5 = .ok (.aload_n 0, 1) := by decide +kernel
theorem d_Mo_begin_6 : decode c_Mo_begin 6 = .ok (.aload_n 0, 1) := by decide +kernel
theorem d_Mo_begin_7 : decode c_Mo_begin 7 = .ok (.getfield 158, 3) := by decide +kernel
theorem d_Mo_begin_10 : decode c_Mo_begin 10 = .ok (.putfield 286, 3) := by decide +kernel
theorem d_Mo_begin_13 : decode c_Mo_begin 13 = .ok (.aload_n 0, 1) := by decide +kernel
theorem d_Mo_begin_14 : decode c_Mo_begin 14 = .ok (.iconst 0, 1) := by decide +kernel
theorem d_Mo_begin_15 : decode c_Mo_begin 15 = .ok (.putfield 289, 3) := by decide +kernel
theorem d_Mo_begin_18 : decode c_Mo_begin 18 = .ok (.aload_n 0, 1) := by decide +kernel
theorem d_Mo_begin_19 : decode c_Mo_begin 19 = .ok (.iconst 1, 1) := by decide +kernel
theorem d_Mo_begin_20 : decode c_Mo_begin 20 = .ok (.putfield 161, 3) := by decide +kernel
theorem d_Mo_begin_23 : decode c_Mo_begin 23 = .ok (.aload_n 0, 1) := by decide +kernel
theorem d_Mo_begin_24 : decode c_Mo_begin 24 = .ok (.iconst 0, 1) := by decide +kernel
theorem d_Mo_begin_25 : decode c_Mo_begin 25 = .ok (.putfield 174, 3) := by decide +kernel
theorem d_Mo_begin_28 : decode c_Mo_begin 28 = .ok (.aload_n 0, 1) := by decide +kernel
theorem d_Mo_begin_29 : decode c_Mo_begin 29 = .ok (.iconst 0, 1) := by decide +kernel
theorem d_Mo_begin_30 : decode c_Mo_begin 30 = .ok (.putfield 177, 3) := by decide +kernel
theorem d_Mo_begin_33 : decode c_Mo_begin 33 = .ok (.aload_n 0, 1) := by decide +kernel
theorem d_Mo_begin_34 : decode c_Mo_begin 34 = .ok (.iconst 0, 1) := by decide +kernel
theorem d_Mo_begin_35 : decode c_Mo_begin 35 = .ok (.putfield 180, 3) := by decide +kernel
theorem d_Mo_begin_38 : decode c_Mo_begin 38 = .ok (.aload_n 0, 1) := by decide +kernel
theorem d_Mo_begin_39 : decode c_Mo_begin 39 = .ok (.iconst (-1), 1) := by decide +kernel
theorem d_Mo_begin_40 : decode c_Mo_begin 40 = .ok (.putfield 183, 3) := by decide +kernel
theorem d_Mo_begin_43 : decode c_Mo_begin 43 = .ok (.aload_n 0, 1) := by decide +kernel
theorem d_Mo_begin_44 : decode c_Mo_begin 44 = .ok (.iconst 0, 1) := by decide +kernel
theorem d_Mo_begin_45 : decode c_Mo_begin 45 = .ok (.putfield 292, 3) := by decide +kernel
theorem d_Mo_begin_48 : decode c_Mo_begin 48 = .ok (.aload_n 0, 1) := by decide +kernel
theorem d_Mo_begin_49 : decode c_Mo_begin 49 = .ok (.iconst 0, 1) := by decide +kernel
theorem d_Mo_begin_50 : decode c_Mo_begin 50 = .ok (.putfield 295, 3) := by decide +kernel
theorem d_Mo_begin_53 : decode c_Mo_begin 53 = .ok (.aload_n 0, 1) := by decide +kernel
theorem d_Mo_begin_54 : decode c_Mo_begin 54 = .ok (.iconst 0, 1) := by decide +kernel
theorem d_Mo_begin_55 : decode c_Mo_begin 55 = .ok (.putfield 298, 3) := by decide +kernel
theorem d_Mo_begin_58 : decode c_Mo_begin 58 = .ok (.aload_n 0, 1) := by decide +kernel
theorem d_Mo_begin_59 : decode c_Mo_begin 59 = .ok (.lconst 0, 1) := by decide +kernel
theorem d_Mo_begin_60 : decode c_Mo_begin 60 = .ok (.putfield 186, 3) := by decide +kernel
theorem d_Mo_begin_63 : decode c_Mo_begin 63 = .ok (.return_, 1) := by decide +kernel
theorem d_Mo_start_0 : decode c_Mo_start 0 = .ok (.aload_n 0, 1) := by decide +kernel
theorem d_Mo_start_1 : decode c_Mo_start 1 = .ok (.aload_n 0, 1) := by decide +kernel
theorem d_Mo_start_2 : decode c_Mo_start 2 = .ok (.getfield 158, 3) := by decide +kernel
theorem d_Mo_start_5 : decode c_Mo_start 5 = .ok (.iconst (-1), 1) := by decide +kernel
theorem d_Mo_start_6 : decode c_Mo_start 6 = .ok (.if_icmp .ne 7, 3) := by decide +kernel
theorem d_Mo_start_9 : decode c_Mo_start 9 = .ok (.iconst 1, 1) := by decide +kernel
theorem d_Mo_start_10 : decode c_Mo_start 10 = .ok (.goto 4, 3) := by decide +kernel
theorem d_Mo_start_13 : decode c_Mo_start 13 = .ok (.iconst 0, 1) := by decide +kernel
theorem d_Mo_start_14 : decode c_Mo_start 14 = .ok (.putfield 142, 3) := by decide +kernel
theorem d_Mo_start_17 : decode c_Mo_start 17 = .ok (.aload_n 0, 1) := by decide +kernel
theorem d_Mo_start_18 : decode c_Mo_start 18 = .ok (.getfield 142, 3) := by decide +kernel
theorem d_Mo_start_21 : decode c_Mo_start 21 = .ok (.ifCond .ne 7, 3) := by decide +kernel
theorem d_Mo_start_24 : decode c_Mo_start 24 = .ok (.aload_n 0, 1) := by decide +kernel
theorem d_Mo_start_25 : decode c_Mo_start 25 = .ok (.invokevirtual 274, 3) := by decide +kernel
theorem d_Mo_start_28 : decode c_Mo_start 28 = .ok (.return_, 1) := by decide +kernel
theorem d_Mo_push_0 : decode c_Mo_push 0 = .ok (.aload_n 0, 1) := by decide +kernel
theorem d_Mo_push_1 : decode c_Mo_push 1 = .ok (.getfield 90, 3) := by decide +kernel
theorem d_Mo_push_4 : decode c_Mo_push 4 = .ok (.aload_n 0, 1) := by decide +kernel
theorem d_Mo_push_5 : decode c_Mo_push 5 = .ok (.getfield 283, 3) := by decide +kernel
theorem d_Mo_push_8 : decode c_Mo_push 8 = .ok (.iload_n 1, 1) := by decide +kernel
theorem d_Mo_push_9 : decode c_Mo_push 9 = .ok (.iastore, 1) := by decide +kernel
theorem d_Mo_push_10 : decode c_Mo_push 10 = .ok (.aload_n 0, 1) := by decide +kernel
theorem d_Mo_push_11 : decode c_Mo_push 11 = .ok (.getfield 93, 3) := by decide +kernel
theorem d_Mo_push_14 : decode c_Mo_push 14 = .ok (.aload_n 0, 1) := by decide +kernel
theorem d_Mo_push_15 : decode c_Mo_push 15 = .ok (.getfield 283, 3) := by decide +kernel
theorem d_Mo_push_18 : decode c_Mo_push 18 = .ok (.iconst 0, 1) := by decide +kernel
theorem d_Mo_push_19 : decode c_Mo_push 19 = .ok (.iastore, 1) := by decide +kernel
theorem d_Mo_push_20 : decode c_Mo_push 20 = .ok (.aload_n 0, 1) := by decide +kernel
theorem d_Mo_push_21 : decode c_Mo_push 21 = .ok (.getfield 96, 3) := by decide +kernel
theorem d_Mo_push_24 : decode c_Mo_push 24 = .ok (.aload_n 0, 1) := by decide +kernel
theorem d_Mo_push_25 : decode c_Mo_push 25 = .ok (.getfield 283, 3) := by decide +kernel
theorem d_Mo_push_28 : decode c_Mo_push 28 = .ok (.lconst 0, 1) := by decide +kernel
theorem d_Mo_push_29 : decode c_Mo_push 29 = .ok (.lastore, 1) := by decide +kernel
theorem d_Mo_push_30 : decode c_Mo_push 30 = .ok (.iconst 0, 1) := by decide +kernel
theorem d_Mo_push_31 : decode c_Mo_push 31 = .ok (.istore_n 2, 1) := by decide +kernel
theorem d_Mo_push_32 : decode c_Mo_push 32 = .ok (.iload_n 2, 1) := by decide +kernel
theorem d_Mo_push_33 : decode c_Mo_push 33 = .ok (.bipush 10, 2) := by decide +kernel
theorem d_Mo_push_35 : decode c_Mo_push 35 = .ok (.if_icmp .ge 29, 3) := by decide +kernel
theorem d_Mo_push_38 : decode c_Mo_push 38 = .ok (.aload_n 0, 1) := by decide +kernel
theorem d_Mo_push_39 : decode c_Mo_push 39 = .ok (.getfield 101, 3) := by decide +kernel
theorem d_Mo_push_42 : decode c_Mo_push 42 = .ok (.bipush 10, 2) := by decide +kernel
theorem d_Mo_push_44 : decode c_Mo_push 44 = .ok (.aload_n 0, 1) := by decide +kernel
theorem d_Mo_push_45 : decode c_Mo_push 45 = .ok (.getfield 283, 3) := by decide +kernel
theorem d_Mo_push_48 : decode c_Mo_push 48 = .ok (.imul, 1) := by decide +kernel
theorem d_Mo_push_49 : decode c_Mo_push 49 = .ok (.iload_n 2, 1) := by decide +kernel
theorem d_Mo_push_50 : decode c_Mo_push 50 = .ok (.iadd, 1) := by decide +kernel
theorem d_Mo_push_51 : decode c_Mo_push 51 = .ok (.aload_n 0, 1) := by decide +kernel
theorem d_Mo_push_52 : decode c_Mo_push 52 = .ok (.getfield 104, 3) := by decide +kernel
theorem d_Mo_push_55 : decode c_Mo_push 55 = .ok (.iload_n 2, 1) := by decide +kernel
theorem d_Mo_push_56 : decode c_Mo_push 56 = .ok (.laload, 1) := by decide +kernel
theorem d_Mo_push_57 : decode c_Mo_push 57 = .ok (.lastore, 1) := by decide +kernel
theorem d_Mo_push_58 : decode c_Mo_push 58 = .ok (.iinc 2 1, 3) := by decide +kernel
theorem d_Mo_push_61 : decode c_Mo_push 61 = .ok (.goto (-29), 3) := by decide +kernel
theorem d_Mo_push_64 : decode c_Mo_push 64 = .ok (.aload_n 0, 1) := by decide +kernel
theorem d_Mo_push_65 : decode c_Mo_push 65 = .ok (.dup, 1) := by decide +kernel
theorem d_Mo_push_66 : decode c_Mo_push 66 = .ok (.getfield 283, 3) := by decide +kernel
theorem d_Mo_push_69 : decode c_Mo_push 69 = .ok (.iconst 1, 1) := by decide +kernel
theorem d_Mo_push_70 : decode c_Mo_push 70 = .ok (.iadd, 1) := by decide +kernel
theorem d_Mo_push_71 : decode c_Mo_push 71 = .ok (.putfield 283, 3) := by decide +kernel
theorem d_Mo_push_74 : decode c_Mo_push 74 = .ok (.return_, 1) := by decide +kernel
theorem d_Mo_seeAgain_0 : decode c_Mo_seeAgain 0 = .ok (.iconst 0, 1) := by decide +kernel
theorem d_Mo_seeAgain_1 : decode c_Mo_seeAgain 1 = .ok (.istore_n 2, 1) := by decide +kernel
theorem d_Mo_seeAgain_2 : decode c_Mo_seeAgain 2 = .ok (.iload_n 2, 1) := by decide +kernel
theorem d_Mo_seeAgain_3 : decode c_Mo_seeAgain 3 = .ok (.bipush 10, 2) := by decide +kernel
theorem d_Mo_seeAgain_5 : decode c_Mo_seeAgain 5 = .ok (.if_icmp .ge 26, 3) := by decide +kernel
theorem d_Mo_seeAgain_8 : decode c_Mo_seeAgain 8 = .ok (.aload_n 0, 1) := by decide +kernel
theorem d_Mo_seeAgain_9 : decode c_Mo_seeAgain 9 = .ok (.getfield 104, 3) := by decide +kernel
theorem d_Mo_seeAgain_12 : decode c_Mo_seeAgain 12 = .ok (.iload_n 2, 1) := by decide +kernel
theorem d_Mo_seeAgain_13 : decode c_Mo_seeAgain 13 = .ok (.aload_n 0, 1) := by decide +kernel
theorem d_Mo_seeAgain_14 : decode c_Mo_seeAgain 14 = .ok (.getfield 101, 3) := by decide +kernel
theorem d_Mo_seeAgain_17 : decode c_Mo_seeAgain 17 = .ok (.bipush 10, 2) := by decide +kernel
theorem d_Mo_seeAgain_19 : decode c_Mo_seeAgain 19 = .ok (.iload_n 1, 1) := by decide +kernel
theorem d_Mo_seeAgain_20 : decode c_Mo_seeAgain 20 = .ok (.imul, 1) := by decide +kernel
theorem d_Mo_seeAgain_21 : decode c_Mo_seeAgain 21 = .ok (.iload_n 2, 1) := by decide +kernel
theorem d_Mo_seeAgain_22 : decode c_Mo_seeAgain 22 = .ok (.iadd, 1) := by decide +kernel
theorem d_Mo_seeAgain_23 : decode c_Mo_seeAgain 23 = .ok (.laload, 1) := by decide +kernel
theorem d_Mo_seeAgain_24 : decode c_Mo_seeAgain 24 = .ok (.lastore, 1) := by decide +kernel
theorem d_Mo_seeAgain_25 : decode c_Mo_seeAgain 25 = .ok (.iinc 2 1, 3) := by decide +kernel
theorem d_Mo_seeAgain_28 : decode c_Mo_seeAgain 28 = .ok (.goto (-26), 3) := by decide +kernel
theorem d_Mo_seeAgain_31 : decode c_Mo_seeAgain 31 = .ok (.return_, 1) := by decide +kernel
theorem d_Mo_give_0 : decode c_Mo_give 0 = .ok (.aload_n 0, 1) := by decide +kernel
theorem d_Mo_give_1 : decode c_Mo_give 1 = .ok (.lload_n 1, 1) := by decide +kernel
theorem d_Mo_give_2 : decode c_Mo_give 2 = .ok (.putfield 186, 3) := by decide +kernel
theorem d_Mo_give_5 : decode c_Mo_give 5 = .ok (.aload_n 0, 1) := by decide +kernel
theorem d_Mo_give_6 : decode c_Mo_give 6 = .ok (.iconst 1, 1) := by decide +kernel
theorem d_Mo_give_7 : decode c_Mo_give 7 = .ok (.putfield 289, 3) := by decide +kernel
theorem d_Mo_give_10 : decode c_Mo_give 10 = .ok (.return_, 1) := by decide +kernel
theorem d_Mo_work_0 : decode c_Mo_work 0 = .ok (.aload_n 0, 1) := by decide +kernel
theorem d_Mo_work_1 : decode c_Mo_work 1 = .ok (.iload_n 1, 1) := by decide +kernel
theorem d_Mo_work_2 : decode c_Mo_work 2 = .ok (.putfield 286, 3) := by decide +kernel
theorem d_Mo_work_5 : decode c_Mo_work 5 = .ok (.aload_n 0, 1) := by decide +kernel
theorem d_Mo_work_6 : decode c_Mo_work 6 = .ok (.iconst 0, 1) := by decide +kernel
theorem d_Mo_work_7 : decode c_Mo_work 7 = .ok (.putfield 289, 3) := by decide +kernel
theorem d_Mo_work_10 : decode c_Mo_work 10 = .ok (.return_, 1) := by decide +kernel
theorem d_Mo_makes_0 : decode c_Mo_makes 0 = .ok (.aload_n 0, 1) := by decide +kernel
theorem d_Mo_makes_1 : decode c_Mo_makes 1 = .ok (.getfield 177, 3) := by decide +kernel
theorem d_Mo_makes_4 : decode c_Mo_makes 4 = .ok (.sipush 1000, 3) := by decide +kernel
theorem d_Mo_makes_7 : decode c_Mo_makes 7 = .ok (.if_icmp .ne 10, 3) := by decide +kernel
theorem d_Mo_makes_10 : decode c_Mo_makes 10 = .ok (.aload_n 0, 1) := by decide +kernel
theorem d_Mo_makes_11 : decode c_Mo_makes 11 = .ok (.iconst 5, 1) := by decide +kernel
theorem d_Mo_makes_12 : decode c_Mo_makes 12 = .ok (.putfield 161, 3) := by decide +kernel
theorem d_Mo_makes_15 : decode c_Mo_makes 15 = .ok (.iconst 0, 1) := by decide +kernel
theorem d_Mo_makes_16 : decode c_Mo_makes 16 = .ok (.ireturn, 1) := by decide +kernel
theorem d_Mo_makes_17 : decode c_Mo_makes 17 = .ok (.aload_n 0, 1) := by decide +kernel
theorem d_Mo_makes_18 : decode c_Mo_makes 18 = .ok (.dup, 1) := by decide +kernel
theorem d_Mo_makes_19 : decode c_Mo_makes 19 = .ok (.getfield 177, 3) := by decide +kernel
theorem d_Mo_makes_22 : decode c_Mo_makes 22 = .ok (.iconst 1, 1) := by decide +kernel
theorem d_Mo_makes_23 : decode c_Mo_makes 23 = .ok (.iadd, 1) := by decide +kernel
theorem d_Mo_makes_24 : decode c_Mo_makes 24 = .ok (.putfield 177, 3) := by decide +kernel
theorem d_Mo_makes_27 : decode c_Mo_makes 27 = .ok (.aload_n 0, 1) := by decide +kernel
theorem d_Mo_makes_28 : decode c_Mo_makes 28 = .ok (.getfield 107, 3) := by decide +kernel
theorem d_Mo_makes_31 : decode c_Mo_makes 31 = .ok (.aload_n 0, 1) := by decide +kernel
theorem d_Mo_makes_32 : decode c_Mo_makes 32 = .ok (.getfield 292, 3) := by decide +kernel
theorem d_Mo_makes_35 : decode c_Mo_makes 35 = .ok (.iload_n 1, 1) := by decide +kernel
theorem d_Mo_makes_36 : decode c_Mo_makes 36 = .ok (.iastore, 1) := by decide +kernel
theorem d_Mo_makes_37 : decode c_Mo_makes 37 = .ok (.iconst 0, 1) := by decide +kernel
theorem d_Mo_makes_38 : decode c_Mo_makes 38 = .ok (.istore_n 2, 1) := by decide +kernel
theorem d_Mo_makes_39 : decode c_Mo_makes 39 = .ok (.iload_n 2, 1) := by decide +kernel
theorem d_Mo_makes_40 : decode c_Mo_makes 40 = .ok (.bipush 10, 2) := by decide +kernel
theorem d_Mo_makes_42 : decode c_Mo_makes 42 = .ok (.if_icmp .ge 29, 3) := by decide +kernel
theorem d_Mo_makes_45 : decode c_Mo_makes 45 = .ok (.aload_n 0, 1) := by decide +kernel
theorem d_Mo_makes_46 : decode c_Mo_makes 46 = .ok (.getfield 110, 3) := by decide +kernel
theorem d_Mo_makes_49 : decode c_Mo_makes 49 = .ok (.bipush 10, 2) := by decide +kernel
theorem d_Mo_makes_51 : decode c_Mo_makes 51 = .ok (.aload_n 0, 1) := by decide +kernel
theorem d_Mo_makes_52 : decode c_Mo_makes 52 = .ok (.getfield 292, 3) := by decide +kernel
theorem d_Mo_makes_55 : decode c_Mo_makes 55 = .ok (.imul, 1) := by decide +kernel
theorem d_Mo_makes_56 : decode c_Mo_makes 56 = .ok (.iload_n 2, 1) := by decide +kernel
theorem d_Mo_makes_57 : decode c_Mo_makes 57 = .ok (.iadd, 1) := by decide +kernel
theorem d_Mo_makes_58 : decode c_Mo_makes 58 = .ok (.aload_n 0, 1) := by decide +kernel
theorem d_Mo_makes_59 : decode c_Mo_makes 59 = .ok (.getfield 104, 3) := by decide +kernel
theorem d_Mo_makes_62 : decode c_Mo_makes 62 = .ok (.iload_n 2, 1) := by decide +kernel
theorem d_Mo_makes_63 : decode c_Mo_makes 63 = .ok (.laload, 1) := by decide +kernel
theorem d_Mo_makes_64 : decode c_Mo_makes 64 = .ok (.lastore, 1) := by decide +kernel
theorem d_Mo_makes_65 : decode c_Mo_makes 65 = .ok (.iinc 2 1, 3) := by decide +kernel
theorem d_Mo_makes_68 : decode c_Mo_makes 68 = .ok (.goto (-29), 3) := by decide +kernel
theorem d_Mo_makes_71 : decode c_Mo_makes 71 = .ok (.aload_n 0, 1) := by decide +kernel
theorem d_Mo_makes_72 : decode c_Mo_makes 72 = .ok (.dup, 1) := by decide +kernel
theorem d_Mo_makes_73 : decode c_Mo_makes 73 = .ok (.getfield 292, 3) := by decide +kernel
theorem d_Mo_makes_76 : decode c_Mo_makes 76 = .ok (.iconst 1, 1) := by decide +kernel
theorem d_Mo_makes_77 : decode c_Mo_makes 77 = .ok (.iadd, 1) := by decide +kernel
theorem d_Mo_makes_78 : decode c_Mo_makes 78 = .ok (.putfield 292, 3) := by decide +kernel
theorem d_Mo_makes_81 : decode c_Mo_makes 81 = .ok (.iconst 1, 1) := by decide +kernel
theorem d_Mo_makes_82 : decode c_Mo_makes 82 = .ok (.ireturn, 1) := by decide +kernel
theorem d_Mo_workNode_0 : decode c_Mo_workNode 0 = .ok (.aload_n 0, 1) := by decide +kernel
theorem d_Mo_workNode_1 : decode c_Mo_workNode 1 = .ok (.getfield 286, 3) := by decide +kernel
theorem d_Mo_workNode_4 : decode c_Mo_workNode 4 = .ok (.istore_n 1, 1) := by decide +kernel
theorem d_Mo_workNode_5 : decode c_Mo_workNode 5 = .ok (.aload_n 0, 1) := by decide +kernel
theorem d_Mo_workNode_6 : decode c_Mo_workNode 6 = .ok (.getfield 7, 3) := by decide +kernel
theorem d_Mo_workNode_9 : decode c_Mo_workNode 9 = .ok (.iload_n 1, 1) := by decide +kernel
theorem d_Mo_workNode_10 : decode c_Mo_workNode 10 = .ok (.iaload, 1) := by decide +kernel
theorem d_Mo_workNode_11 : decode c_Mo_workNode 11 = .ok (.tableswitch 231 0 8 #[49, 49, 63, 71, 231, 89, 231, 128, 150], 49) := by decide +kernel
theorem d_Mo_workNode_60 : decode c_Mo_workNode 60 = .ok (.aload_n 0, 1) := by decide +kernel
theorem d_Mo_workNode_61 : decode c_Mo_workNode 61 = .ok (.aload_n 0, 1) := by decide +kernel
theorem d_Mo_workNode_62 : decode c_Mo_workNode 62 = .ok (.getfield 13, 3) := by decide +kernel
theorem d_Mo_workNode_65 : decode c_Mo_workNode 65 = .ok (.iload_n 1, 1) := by decide +kernel
theorem d_Mo_workNode_66 : decode c_Mo_workNode 66 = .ok (.iaload, 1) := by decide +kernel
theorem d_Mo_workNode_67 : decode c_Mo_workNode 67 = .ok (.i2l, 1) := by decide +kernel
theorem d_Mo_workNode_68 : decode c_Mo_workNode 68 = .ok (.invokevirtual 301, 3) := by decide +kernel
theorem d_Mo_workNode_71 : decode c_Mo_workNode 71 = .ok (.goto 186, 3) := by decide +kernel
theorem d_Mo_workNode_74 : decode c_Mo_workNode 74 = .ok (.aload_n 0, 1) := by decide +kernel
theorem d_Mo_workNode_75 : decode c_Mo_workNode 75 = .ok (.lconst 0, 1) := by decide +kernel
theorem d_Mo_workNode_76 : decode c_Mo_workNode 76 = .ok (.invokevirtual 301, 3) := by decide +kernel
theorem d_Mo_workNode_79 : decode c_Mo_workNode 79 = .ok (.goto 178, 3) := by decide +kernel
theorem d_Mo_workNode_82 : decode c_Mo_workNode 82 = .ok (.aload_n 0, 1) := by decide +kernel
theorem d_Mo_workNode_83 : decode c_Mo_workNode 83 = .ok (.aload_n 0, 1) := by decide +kernel
theorem d_Mo_workNode_84 : decode c_Mo_workNode 84 = .ok (.getfield 104, 3) := by decide +kernel
theorem d_Mo_workNode_87 : decode c_Mo_workNode 87 = .ok (.aload_n 0, 1) := by decide +kernel
theorem d_Mo_workNode_88 : decode c_Mo_workNode 88 = .ok (.getfield 13, 3) := by decide +kernel
theorem d_Mo_workNode_91 : decode c_Mo_workNode 91 = .ok (.iload_n 1, 1) := by decide +kernel
theorem d_Mo_workNode_92 : decode c_Mo_workNode 92 = .ok (.iaload, 1) := by decide +kernel
theorem d_Mo_workNode_93 : decode c_Mo_workNode 93 = .ok (.laload, 1) := by decide +kernel
theorem d_Mo_workNode_94 : decode c_Mo_workNode 94 = .ok (.invokevirtual 301, 3) := by decide +kernel
theorem d_Mo_workNode_97 : decode c_Mo_workNode 97 = .ok (.goto 160, 3) := by decide +kernel
theorem d_Mo_workNode_100 : decode c_Mo_workNode 100 = .ok (.aload_n 0, 1) := by decide +kernel
theorem d_Mo_workNode_101 : decode c_Mo_workNode 101 = .ok (.iload_n 1, 1) := by decide +kernel
theorem d_Mo_workNode_102 : decode c_Mo_workNode 102 = .ok (.invokevirtual 305, 3) := by decide +kernel
theorem d_Mo_workNode_105 : decode c_Mo_workNode 105 = .ok (.ifCond .eq 152, 3) := by decide +kernel
theorem d_Mo_workNode_108 : decode c_Mo_workNode 108 = .ok (.aload_n 0, 1) := by decide +kernel
theorem d_Mo_workNode_109 : decode c_Mo_workNode 109 = .ok (.getfield 104, 3) := by decide +kernel
theorem d_Mo_workNode_112 : decode c_Mo_workNode 112 = .ok (.aload_n 0, 1) := by decide +kernel
theorem d_Mo_workNode_113 : decode c_Mo_workNode 113 = .ok (.getfield 13, 3) := by decide +kernel
theorem d_Mo_workNode_116 : decode c_Mo_workNode 116 = .ok (.iload_n 1, 1) := by decide +kernel
theorem d_Mo_workNode_117 : decode c_Mo_workNode 117 = .ok (.iaload, 1) := by decide +kernel
theorem d_Mo_workNode_118 : decode c_Mo_workNode 118 = .ok (.aload_n 0, 1) := by decide +kernel
theorem d_Mo_workNode_119 : decode c_Mo_workNode 119 = .ok (.getfield 292, 3) := by decide +kernel
theorem d_Mo_workNode_122 : decode c_Mo_workNode 122 = .ok (.iconst 1, 1) := by decide +kernel
theorem d_Mo_workNode_123 : decode c_Mo_workNode 123 = .ok (.isub, 1) := by decide +kernel
theorem d_Mo_workNode_124 : decode c_Mo_workNode 124 = .ok (.i2l, 1) := by decide +kernel
theorem d_Mo_workNode_125 : decode c_Mo_workNode 125 = .ok (.lastore, 1) := by decide +kernel
theorem d_Mo_workNode_126 : decode c_Mo_workNode 126 = .ok (.aload_n 0, 1) := by decide +kernel
theorem d_Mo_workNode_127 : decode c_Mo_workNode 127 = .ok (.aload_n 0, 1) := by decide +kernel
theorem d_Mo_workNode_128 : decode c_Mo_workNode 128 = .ok (.getfield 25, 3) := by decide +kernel
theorem d_Mo_workNode_131 : decode c_Mo_workNode 131 = .ok (.iload_n 1, 1) := by decide +kernel
theorem d_Mo_workNode_132 : decode c_Mo_workNode 132 = .ok (.iaload, 1) := by decide +kernel
theorem d_Mo_workNode_133 : decode c_Mo_workNode 133 = .ok (.invokevirtual 308, 3) := by decide +kernel
theorem d_Mo_workNode_136 : decode c_Mo_workNode 136 = .ok (.goto 121, 3) := by decide +kernel
theorem d_Mo_workNode_139 : decode c_Mo_workNode 139 = .ok (.aload_n 0, 1) := by decide +kernel
theorem d_Mo_workNode_140 : decode c_Mo_workNode 140 = .ok (.iload_n 1, 1) := by decide +kernel
theorem d_Mo_workNode_141 : decode c_Mo_workNode 141 = .ok (.invokevirtual 305, 3) := by decide +kernel
theorem d_Mo_workNode_144 : decode c_Mo_workNode 144 = .ok (.ifCond .eq 113, 3) := by decide +kernel
theorem d_Mo_workNode_147 : decode c_Mo_workNode 147 = .ok (.aload_n 0, 1) := by decide +kernel
theorem d_Mo_workNode_148 : decode c_Mo_workNode 148 = .ok (.aload_n 0, 1) := by decide +kernel
theorem d_Mo_workNode_149 : decode c_Mo_workNode 149 = .ok (.getfield 292, 3) := by decide +kernel
theorem d_Mo_workNode_152 : decode c_Mo_workNode 152 = .ok (.iconst 1, 1) := by decide +kernel
theorem d_Mo_workNode_153 : decode c_Mo_workNode 153 = .ok (.isub, 1) := by decide +kernel
theorem d_Mo_workNode_154 : decode c_Mo_workNode 154 = .ok (.i2l, 1) := by decide +kernel
theorem d_Mo_workNode_155 : decode c_Mo_workNode 155 = .ok (.invokevirtual 301, 3) := by decide +kernel
theorem d_Mo_workNode_158 : decode c_Mo_workNode 158 = .ok (.goto 99, 3) := by decide +kernel
theorem d_Mo_workNode_161 : decode c_Mo_workNode 161 = .ok (.aload_n 0, 1) := by decide +kernel
theorem d_Mo_workNode_162 : decode c_Mo_workNode 162 = .ok (.getfield 177, 3) := by decide +kernel
theorem d_Mo_workNode_165 : decode c_Mo_workNode 165 = .ok (.sipush 1000, 3) := by decide +kernel
theorem d_Mo_workNode_168 : decode c_Mo_workNode 168 = .ok (.if_icmp .eq 13, 3) := by decide +kernel
theorem d_Mo_workNode_171 : decode c_Mo_workNode 171 = .ok (.aload_n 0, 1) := by decide +kernel
theorem d_Mo_workNode_172 : decode c_Mo_workNode 172 = .ok (.getfield 180, 3) := by decide +kernel
theorem d_Mo_workNode_175 : decode c_Mo_workNode 175 = .ok (.sipush 400, 3) := by decide +kernel
theorem d_Mo_workNode_178 : decode c_Mo_workNode 178 = .ok (.if_icmp .ne 26, 3) := by decide +kernel
theorem d_Mo_workNode_181 : decode c_Mo_workNode 181 = .ok (.aload_n 0, 1) := by decide +kernel
theorem d_Mo_workNode_182 : decode c_Mo_workNode 182 = .ok (.aload_n 0, 1) := by decide +kernel
theorem d_Mo_workNode_183 : decode c_Mo_workNode 183 = .ok (.getfield 177, 3) := by decide +kernel
theorem d_Mo_workNode_186 : decode c_Mo_workNode 186 = .ok (.sipush 1000, 3) := by decide +kernel
theorem d_Mo_workNode_189 : decode c_Mo_workNode 189 = .ok (.if_icmp .ne 7, 3) := by decide +kernel
theorem d_Mo_workNode_192 : decode c_Mo_workNode 192 = .ok (.iconst 5, 1) := by decide +kernel
theorem d_Mo_workNode_193 : decode c_Mo_workNode 193 = .ok (.goto 5, 3) := by decide +kernel
theorem d_Mo_workNode_196 : decode c_Mo_workNode 196 = .ok (.bipush 6, 2) := by decide +kernel
theorem d_Mo_workNode_198 : decode c_Mo_workNode 198 = .ok (.putfield 161, 3) := by decide +kernel
theorem d_Mo_workNode_201 : decode c_Mo_workNode 201 = .ok (.goto 56, 3) := by decide +kernel
theorem d_Mo_workNode_204 : decode c_Mo_workNode 204 = .ok (.aload_n 0, 1) := by decide +kernel
theorem d_Mo_workNode_205 : decode c_Mo_workNode 205 = .ok (.dup, 1) := by decide +kernel
theorem d_Mo_workNode_206 : decode c_Mo_workNode 206 = .ok (.getfield 177, 3) := by decide +kernel
theorem d_Mo_workNode_209 : decode c_Mo_workNode 209 = .ok (.iconst 1, 1) := by decide +kernel
theorem d_Mo_workNode_210 : decode c_Mo_workNode 210 = .ok (.iadd, 1) := by decide +kernel
theorem d_Mo_workNode_211 : decode c_Mo_workNode 211 = .ok (.putfield 177, 3) := by decide +kernel
theorem d_Mo_workNode_214 : decode c_Mo_workNode 214 = .ok (.aload_n 0, 1) := by decide +kernel
theorem d_Mo_workNode_215 : decode c_Mo_workNode 215 = .ok (.dup, 1) := by decide +kernel
theorem d_Mo_workNode_216 : decode c_Mo_workNode 216 = .ok (.getfield 180, 3) := by decide +kernel
theorem d_Mo_workNode_219 : decode c_Mo_workNode 219 = .ok (.iconst 1, 1) := by decide +kernel
theorem d_Mo_workNode_220 : decode c_Mo_workNode 220 = .ok (.iadd, 1) := by decide +kernel
theorem d_Mo_workNode_221 : decode c_Mo_workNode 221 = .ok (.putfield 180, 3) := by decide +kernel
theorem d_Mo_workNode_224 : decode c_Mo_workNode 224 = .ok (.aload_n 0, 1) := by decide +kernel
theorem d_Mo_workNode_225 : decode c_Mo_workNode 225 = .ok (.iload_n 1, 1) := by decide +kernel
theorem d_Mo_workNode_226 : decode c_Mo_workNode 226 = .ok (.invokevirtual 311, 3) := by decide +kernel
theorem d_Mo_workNode_229 : decode c_Mo_workNode 229 = .ok (.aload_n 0, 1) := by decide +kernel
theorem d_Mo_workNode_230 : decode c_Mo_workNode 230 = .ok (.aload_n 0, 1) := by decide +kernel
theorem d_Mo_workNode_231 : decode c_Mo_workNode 231 = .ok (.getfield 22, 3) := by decide +kernel
theorem d_Mo_workNode_234 : decode c_Mo_workNode 234 = .ok (.iload_n 1, 1) := by decide +kernel
theorem d_Mo_workNode_235 : decode c_Mo_workNode 235 = .ok (.iaload, 1) := by decide +kernel
theorem d_Mo_workNode_236 : decode c_Mo_workNode 236 = .ok (.invokevirtual 308, 3) := by decide +kernel
theorem d_Mo_workNode_239 : decode c_Mo_workNode 239 = .ok (.goto 18, 3) := by decide +kernel
theorem d_Mo_workNode_242 : decode c_Mo_workNode 242 = .ok (.aload_n 0, 1) := by decide +kernel
theorem d_Mo_workNode_243 : decode c_Mo_workNode 243 = .ok (.iload_n 1, 1) := by decide +kernel
theorem d_Mo_workNode_244 : decode c_Mo_workNode 244 = .ok (.invokevirtual 311, 3) := by decide +kernel
theorem d_Mo_workNode_247 : decode c_Mo_workNode 247 = .ok (.aload_n 0, 1) := by decide +kernel
theorem d_Mo_workNode_248 : decode c_Mo_workNode 248 = .ok (.aload_n 0, 1) := by decide +kernel
theorem d_Mo_workNode_249 : decode c_Mo_workNode 249 = .ok (.getfield 22, 3) := by decide +kernel
theorem d_Mo_workNode_252 : decode c_Mo_workNode 252 = .ok (.iload_n 1, 1) := by decide +kernel
theorem d_Mo_workNode_253 : decode c_Mo_workNode 253 = .ok (.iaload, 1) := by decide +kernel
theorem d_Mo_workNode_254 : decode c_Mo_workNode 254 = .ok (.invokevirtual 308, 3) := by decide +kernel
theorem d_Mo_workNode_257 : decode c_Mo_workNode 257 = .ok (.return_, 1) := by decide +kernel
theorem d_Mo_reckoned_0 : decode c_Mo_reckoned 0 = .ok (.iload_n 0, 1) := by decide +kernel
theorem d_Mo_reckoned_1 : decode c_Mo_reckoned 1 = .ok (.tableswitch 54 0 3 #[31, 35, 39, 43], 31) := by decide +kernel
theorem d_Mo_reckoned_32 : decode c_Mo_reckoned 32 = .ok (.iload_n 1, 1) := by decide +kernel
theorem d_Mo_reckoned_33 : decode c_Mo_reckoned 33 = .ok (.iload_n 2, 1) := by decide +kernel
theorem d_Mo_reckoned_34 : decode c_Mo_reckoned 34 = .ok (.iadd, 1) := by decide +kernel
theorem d_Mo_reckoned_35 : decode c_Mo_reckoned 35 = .ok (.ireturn, 1) := by decide +kernel
theorem d_Mo_reckoned_36 : decode c_Mo_reckoned 36 = .ok (.iload_n 1, 1) := by decide +kernel
theorem d_Mo_reckoned_37 : decode c_Mo_reckoned 37 = .ok (.iload_n 2, 1) := by decide +kernel
theorem d_Mo_reckoned_38 : decode c_Mo_reckoned 38 = .ok (.isub, 1) := by decide +kernel
theorem d_Mo_reckoned_39 : decode c_Mo_reckoned 39 = .ok (.ireturn, 1) := by decide +kernel
theorem d_Mo_reckoned_40 : decode c_Mo_reckoned 40 = .ok (.iload_n 1, 1) := by decide +kernel
theorem d_Mo_reckoned_41 : decode c_Mo_reckoned 41 = .ok (.iload_n 2, 1) := by decide +kernel
theorem d_Mo_reckoned_42 : decode c_Mo_reckoned 42 = .ok (.imul, 1) := by decide +kernel
theorem d_Mo_reckoned_43 : decode c_Mo_reckoned 43 = .ok (.ireturn, 1) := by decide +kernel
theorem d_Mo_reckoned_44 : decode c_Mo_reckoned 44 = .ok (.iload_n 1, 1) := by decide +kernel
theorem d_Mo_reckoned_45 : decode c_Mo_reckoned 45 = .ok (.iload_n 2, 1) := by decide +kernel
theorem d_Mo_reckoned_46 : decode c_Mo_reckoned 46 = .ok (.if_icmp .ge 7, 3) := by decide +kernel
theorem d_Mo_reckoned_49 : decode c_Mo_reckoned 49 = .ok (.iconst 1, 1) := by decide +kernel
theorem d_Mo_reckoned_50 : decode c_Mo_reckoned 50 = .ok (.goto 4, 3) := by decide +kernel
theorem d_Mo_reckoned_53 : decode c_Mo_reckoned 53 = .ok (.iconst 0, 1) := by decide +kernel
theorem d_Mo_reckoned_54 : decode c_Mo_reckoned 54 = .ok (.ireturn, 1) := by decide +kernel
theorem d_Mo_reckoned_55 : decode c_Mo_reckoned 55 = .ok (.iload_n 1, 1) := by decide +kernel
theorem d_Mo_reckoned_56 : decode c_Mo_reckoned 56 = .ok (.iload_n 2, 1) := by decide +kernel
theorem d_Mo_reckoned_57 : decode c_Mo_reckoned 57 = .ok (.if_icmp .ne 7, 3) := by decide +kernel
theorem d_Mo_reckoned_60 : decode c_Mo_reckoned 60 = .ok (.iconst 1, 1) := by decide +kernel
theorem d_Mo_reckoned_61 : decode c_Mo_reckoned 61 = .ok (.goto 4, 3) := by decide +kernel
theorem d_Mo_reckoned_64 : decode c_Mo_reckoned 64 = .ok (.iconst 0, 1) := by decide +kernel
theorem d_Mo_reckoned_65 : decode c_Mo_reckoned 65 = .ok (.ireturn, 1) := by decide +kernel
theorem d_Mo_workMarked_0 : decode c_Mo_workMarked 0 = .ok (.aload_n 0, 1) := by decide +kernel
theorem d_Mo_workMarked_1 : decode c_Mo_workMarked 1 = .ok (.getfield 90, 3) := by decide +kernel
theorem d_Mo_workMarked_4 : decode c_Mo_workMarked 4 = .ok (.aload_n 0, 1) := by decide +kernel
theorem d_Mo_workMarked_5 : decode c_Mo_workMarked 5 = .ok (.getfield 283, 3) := by decide +kernel
theorem d_Mo_workMarked_8 : decode c_Mo_workMarked 8 = .ok (.iconst (-1), 1) := by decide +kernel
theorem d_Mo_workMarked_9 : decode c_Mo_workMarked 9 = .ok (.iastore, 1) := by decide +kernel
theorem d_Mo_workMarked_10 : decode c_Mo_workMarked 10 = .ok (.aload_n 0, 1) := by decide +kernel
theorem d_Mo_workMarked_11 : decode c_Mo_workMarked 11 = .ok (.dup, 1) := by decide +kernel
theorem d_Mo_workMarked_12 : decode c_Mo_workMarked 12 = .ok (.getfield 283, 3) := by decide +kernel
theorem d_Mo_workMarked_15 : decode c_Mo_workMarked 15 = .ok (.iconst 1, 1) := by decide +kernel
theorem d_Mo_workMarked_16 : decode c_Mo_workMarked 16 = .ok (.iadd, 1) := by decide +kernel
theorem d_Mo_workMarked_17 : decode c_Mo_workMarked 17 = .ok (.putfield 283, 3) := by decide +kernel
theorem d_Mo_workMarked_20 : decode c_Mo_workMarked 20 = .ok (.aload_n 0, 1) := by decide +kernel
theorem d_Mo_workMarked_21 : decode c_Mo_workMarked 21 = .ok (.iload_n 1, 1) := by decide +kernel
theorem d_Mo_workMarked_22 : decode c_Mo_workMarked 22 = .ok (.invokevirtual 308, 3) := by decide +kernel
theorem d_Mo_workMarked_25 : decode c_Mo_workMarked 25 = .ok (.return_, 1) := by decide +kernel
theorem d_Mo_callFunction_0 : decode c_Mo_callFunction 0 = .ok (.aload_n 0, 1) := by decide +kernel
theorem d_Mo_callFunction_1 : decode c_Mo_callFunction 1 = .ok (.getfield 180, 3) := by decide +kernel
theorem d_Mo_callFunction_4 : decode c_Mo_callFunction 4 = .ok (.sipush 400, 3) := by decide +kernel
theorem d_Mo_callFunction_7 : decode c_Mo_callFunction 7 = .ok (.if_icmp .ne 10, 3) := by decide +kernel
theorem d_Mo_callFunction_10 : decode c_Mo_callFunction 10 = .ok (.aload_n 0, 1) := by decide +kernel
theorem d_Mo_callFunction_11 : decode c_Mo_callFunction 11 = .ok (.bipush 6, 2) := by decide +kernel
theorem d_Mo_callFunction_13 : decode c_Mo_callFunction 13 = .ok (.putfield 161, 3) := by decide +kernel
theorem d_Mo_callFunction_16 : decode c_Mo_callFunction 16 = .ok (.return_, 1) := by decide +kernel
theorem d_Mo_callFunction_17 : decode c_Mo_callFunction 17 = .ok (.aload_n 0, 1) := by decide +kernel
theorem d_Mo_callFunction_18 : decode c_Mo_callFunction 18 = .ok (.dup, 1) := by decide +kernel
theorem d_Mo_callFunction_19 : decode c_Mo_callFunction 19 = .ok (.getfield 283, 3) := by decide +kernel
theorem d_Mo_callFunction_22 : decode c_Mo_callFunction 22 = .ok (.iconst 1, 1) := by decide +kernel
theorem d_Mo_callFunction_23 : decode c_Mo_callFunction 23 = .ok (.isub, 1) := by decide +kernel
theorem d_Mo_callFunction_24 : decode c_Mo_callFunction 24 = .ok (.putfield 283, 3) := by decide +kernel
theorem d_Mo_callFunction_27 : decode c_Mo_callFunction 27 = .ok (.aload_n 0, 1) := by decide +kernel
theorem d_Mo_callFunction_28 : decode c_Mo_callFunction 28 = .ok (.dup, 1) := by decide +kernel
theorem d_Mo_callFunction_29 : decode c_Mo_callFunction 29 = .ok (.getfield 180, 3) := by decide +kernel
theorem d_Mo_callFunction_32 : decode c_Mo_callFunction 32 = .ok (.iconst 1, 1) := by decide +kernel
theorem d_Mo_callFunction_33 : decode c_Mo_callFunction 33 = .ok (.iadd, 1) := by decide +kernel
theorem d_Mo_callFunction_34 : decode c_Mo_callFunction 34 = .ok (.putfield 180, 3) := by decide +kernel
theorem d_Mo_callFunction_37 : decode c_Mo_callFunction 37 = .ok (.aload_n 0, 1) := by decide +kernel
theorem d_Mo_callFunction_38 : decode c_Mo_callFunction 38 = .ok (.getfield 107, 3) := by decide +kernel
theorem d_Mo_callFunction_41 : decode c_Mo_callFunction 41 = .ok (.iload_n 1, 1) := by decide +kernel
theorem d_Mo_callFunction_42 : decode c_Mo_callFunction 42 = .ok (.iaload, 1) := by decide +kernel
theorem d_Mo_callFunction_43 : decode c_Mo_callFunction 43 = .ok (.istore_n 2, 1) := by decide +kernel
theorem d_Mo_callFunction_44 : decode c_Mo_callFunction 44 = .ok (.iconst 0, 1) := by decide +kernel
theorem d_Mo_callFunction_45 : decode c_Mo_callFunction 45 = .ok (.istore_n 3, 1) := by decide +kernel
theorem d_Mo_callFunction_46 : decode c_Mo_callFunction 46 = .ok (.iload_n 3, 1) := by decide +kernel
theorem d_Mo_callFunction_47 : decode c_Mo_callFunction 47 = .ok (.bipush 10, 2) := by decide +kernel
theorem d_Mo_callFunction_49 : decode c_Mo_callFunction 49 = .ok (.if_icmp .ge 26, 3) := by decide +kernel
theorem d_Mo_callFunction_52 : decode c_Mo_callFunction 52 = .ok (.aload_n 0, 1) := by decide +kernel
theorem d_Mo_callFunction_53 : decode c_Mo_callFunction 53 = .ok (.getfield 104, 3) := by decide +kernel
theorem d_Mo_callFunction_56 : decode c_Mo_callFunction 56 = .ok (.iload_n 3, 1) := by decide +kernel
theorem d_Mo_callFunction_57 : decode c_Mo_callFunction 57 = .ok (.aload_n 0, 1) := by decide +kernel
theorem d_Mo_callFunction_58 : decode c_Mo_callFunction 58 = .ok (.getfield 110, 3) := by decide +kernel
theorem d_Mo_callFunction_61 : decode c_Mo_callFunction 61 = .ok (.bipush 10, 2) := by decide +kernel
theorem d_Mo_callFunction_63 : decode c_Mo_callFunction 63 = .ok (.iload_n 1, 1) := by decide +kernel
theorem d_Mo_callFunction_64 : decode c_Mo_callFunction 64 = .ok (.imul, 1) := by decide +kernel
theorem d_Mo_callFunction_65 : decode c_Mo_callFunction 65 = .ok (.iload_n 3, 1) := by decide +kernel
theorem d_Mo_callFunction_66 : decode c_Mo_callFunction 66 = .ok (.iadd, 1) := by decide +kernel
theorem d_Mo_callFunction_67 : decode c_Mo_callFunction 67 = .ok (.laload, 1) := by decide +kernel
theorem d_Mo_callFunction_68 : decode c_Mo_callFunction 68 = .ok (.lastore, 1) := by decide +kernel
theorem d_Mo_callFunction_69 : decode c_Mo_callFunction 69 = .ok (.iinc 3 1, 3) := by decide +kernel
theorem d_Mo_callFunction_72 : decode c_Mo_callFunction 72 = .ok (.goto (-26), 3) := by decide +kernel
theorem d_Mo_callFunction_75 : decode c_Mo_callFunction 75 = .ok (.aload_n 0, 1) := by decide +kernel
theorem d_Mo_callFunction_76 : decode c_Mo_callFunction 76 = .ok (.getfield 7, 3) := by decide +kernel
theorem d_Mo_callFunction_79 : decode c_Mo_callFunction 79 = .ok (.iload_n 2, 1) := by decide +kernel
theorem d_Mo_callFunction_80 : decode c_Mo_callFunction 80 = .ok (.iaload, 1) := by decide +kernel
theorem d_Mo_callFunction_81 : decode c_Mo_callFunction 81 = .ok (.iconst 5, 1) := by decide +kernel
theorem d_Mo_callFunction_82 : decode c_Mo_callFunction 82 = .ok (.if_icmp .ne 16, 3) := by decide +kernel
theorem d_Mo_callFunction_85 : decode c_Mo_callFunction 85 = .ok (.aload_n 0, 1) := by decide +kernel
theorem d_Mo_callFunction_86 : decode c_Mo_callFunction 86 = .ok (.getfield 104, 3) := by decide +kernel
theorem d_Mo_callFunction_89 : decode c_Mo_callFunction 89 = .ok (.aload_n 0, 1) := by decide +kernel
theorem d_Mo_callFunction_90 : decode c_Mo_callFunction 90 = .ok (.getfield 13, 3) := by decide +kernel
theorem d_Mo_callFunction_93 : decode c_Mo_callFunction 93 = .ok (.iload_n 2, 1) := by decide +kernel
theorem d_Mo_callFunction_94 : decode c_Mo_callFunction 94 = .ok (.iaload, 1) := by decide +kernel
theorem d_Mo_callFunction_95 : decode c_Mo_callFunction 95 = .ok (.iload_n 1, 1) := by decide +kernel
theorem d_Mo_callFunction_96 : decode c_Mo_callFunction 96 = .ok (.i2l, 1) := by decide +kernel
theorem d_Mo_callFunction_97 : decode c_Mo_callFunction 97 = .ok (.lastore, 1) := by decide +kernel
theorem d_Mo_callFunction_98 : decode c_Mo_callFunction 98 = .ok (.aload_n 0, 1) := by decide +kernel
theorem d_Mo_callFunction_99 : decode c_Mo_callFunction 99 = .ok (.getfield 104, 3) := by decide +kernel
theorem d_Mo_callFunction_102 : decode c_Mo_callFunction 102 = .ok (.aload_n 0, 1) := by decide +kernel
theorem d_Mo_callFunction_103 : decode c_Mo_callFunction 103 = .ok (.getfield 7, 3) := by decide +kernel
theorem d_Mo_callFunction_106 : decode c_Mo_callFunction 106 = .ok (.iload_n 2, 1) := by decide +kernel
theorem d_Mo_callFunction_107 : decode c_Mo_callFunction 107 = .ok (.iaload, 1) := by decide +kernel
theorem d_Mo_callFunction_108 : decode c_Mo_callFunction 108 = .ok (.iconst 5, 1) := by decide +kernel
theorem d_Mo_callFunction_109 : decode c_Mo_callFunction 109 = .ok (.if_icmp .ne 12, 3) := by decide +kernel
theorem d_Mo_callFunction_112 : decode c_Mo_callFunction 112 = .ok (.aload_n 0, 1) := by decide +kernel
theorem d_Mo_callFunction_113 : decode c_Mo_callFunction 113 = .ok (.getfield 16, 3) := by decide +kernel
theorem d_Mo_callFunction_116 : decode c_Mo_callFunction 116 = .ok (.iload_n 2, 1) := by decide +kernel
theorem d_Mo_callFunction_117 : decode c_Mo_callFunction 117 = .ok (.iaload, 1) := by decide +kernel
theorem d_Mo_callFunction_118 : decode c_Mo_callFunction 118 = .ok (.goto 9, 3) := by decide +kernel
theorem d_Mo_callFunction_121 : decode c_Mo_callFunction 121 = .ok (.aload_n 0, 1) := by decide +kernel
theorem d_Mo_callFunction_122 : decode c_Mo_callFunction 122 = .ok (.getfield 13, 3) := by decide +kernel
theorem d_Mo_callFunction_125 : decode c_Mo_callFunction 125 = .ok (.iload_n 2, 1) := by decide +kernel
theorem d_Mo_callFunction_126 : decode c_Mo_callFunction 126 = .ok (.iaload, 1) := by decide +kernel
theorem d_Mo_callFunction_127 : decode c_Mo_callFunction 127 = .ok (.aload_n 0, 1) := by decide +kernel
theorem d_Mo_callFunction_128 : decode c_Mo_callFunction 128 = .ok (.getfield 186, 3) := by decide +kernel
theorem d_Mo_callFunction_131 : decode c_Mo_callFunction 131 = .ok (.lastore, 1) := by decide +kernel
theorem d_Mo_callFunction_132 : decode c_Mo_callFunction 132 = .ok (.aload_n 0, 1) := by decide +kernel
theorem d_Mo_callFunction_133 : decode c_Mo_callFunction 133 = .ok (.aload_n 0, 1) := by decide +kernel
theorem d_Mo_callFunction_134 : decode c_Mo_callFunction 134 = .ok (.getfield 22, 3) := by decide +kernel
theorem d_Mo_callFunction_137 : decode c_Mo_callFunction 137 = .ok (.iload_n 2, 1) := by decide +kernel
theorem d_Mo_callFunction_138 : decode c_Mo_callFunction 138 = .ok (.iaload, 1) := by decide +kernel
theorem d_Mo_callFunction_139 : decode c_Mo_callFunction 139 = .ok (.invokevirtual 314, 3) := by decide +kernel
theorem d_Mo_callFunction_142 : decode c_Mo_callFunction 142 = .ok (.return_, 1) := by decide +kernel
theorem d_Mo_goOn_0 : decode c_Mo_goOn 0 = .ok (.aload_n 0, 1) := by decide +kernel
theorem d_Mo_goOn_1 : decode c_Mo_goOn 1 = .ok (.getfield 122, 3) := by decide +kernel
theorem d_Mo_goOn_4 : decode c_Mo_goOn 4 = .ok (.iload_n 1, 1) := by decide +kernel
theorem d_Mo_goOn_5 : decode c_Mo_goOn 5 = .ok (.baload, 1) := by decide +kernel
theorem d_Mo_goOn_6 : decode c_Mo_goOn 6 = .ok (.ifCond .ne 20, 3) := by decide +kernel
theorem d_Mo_goOn_9 : decode c_Mo_goOn 9 = .ok (.aload_n 0, 1) := by decide +kernel
theorem d_Mo_goOn_10 : decode c_Mo_goOn 10 = .ok (.getfield 180, 3) := by decide +kernel
theorem d_Mo_goOn_13 : decode c_Mo_goOn 13 = .ok (.aload_n 0, 1) := by decide +kernel
theorem d_Mo_goOn_14 : decode c_Mo_goOn 14 = .ok (.getfield 119, 3) := by decide +kernel
theorem d_Mo_goOn_17 : decode c_Mo_goOn 17 = .ok (.iload_n 1, 1) := by decide +kernel
theorem d_Mo_goOn_18 : decode c_Mo_goOn 18 = .ok (.iaload, 1) := by decide +kernel
theorem d_Mo_goOn_19 : decode c_Mo_goOn 19 = .ok (.iadd, 1) := by decide +kernel
theorem d_Mo_goOn_20 : decode c_Mo_goOn 20 = .ok (.sipush 400, 3) := by decide +kernel
theorem d_Mo_goOn_23 : decode c_Mo_goOn 23 = .ok (.if_icmp .le 23, 3) := by decide +kernel
theorem d_Mo_goOn_26 : decode c_Mo_goOn 26 = .ok (.aload_n 0, 1) := by decide +kernel
theorem d_Mo_goOn_27 : decode c_Mo_goOn 27 = .ok (.aload_n 0, 1) := by decide +kernel
theorem d_Mo_goOn_28 : decode c_Mo_goOn 28 = .ok (.getfield 122, 3) := by decide +kernel
theorem d_Mo_goOn_31 : decode c_Mo_goOn 31 = .ok (.iload_n 1, 1) := by decide +kernel
theorem d_Mo_goOn_32 : decode c_Mo_goOn 32 = .ok (.baload, 1) := by decide +kernel
theorem d_Mo_goOn_33 : decode c_Mo_goOn 33 = .ok (.ifCond .eq 7, 3) := by decide +kernel
theorem d_Mo_goOn_36 : decode c_Mo_goOn 36 = .ok (.iconst 3, 1) := by decide +kernel
theorem d_Mo_goOn_37 : decode c_Mo_goOn 37 = .ok (.goto 5, 3) := by decide +kernel
theorem d_Mo_goOn_40 : decode c_Mo_goOn 40 = .ok (.bipush 6, 2) := by decide +kernel
theorem d_Mo_goOn_42 : decode c_Mo_goOn 42 = .ok (.putfield 161, 3) := by decide +kernel
theorem d_Mo_goOn_45 : decode c_Mo_goOn 45 = .ok (.return_, 1) := by decide +kernel
theorem d_Mo_goOn_46 : decode c_Mo_goOn 46 = .ok (.aload_n 0, 1) := by decide +kernel
theorem d_Mo_goOn_47 : decode c_Mo_goOn 47 = .ok (.dup, 1) := by decide +kernel
theorem d_Mo_goOn_48 : decode c_Mo_goOn 48 = .ok (.getfield 283, 3) := by decide +kernel
theorem d_Mo_goOn_51 : decode c_Mo_goOn 51 = .ok (.iconst 1, 1) := by decide +kernel
theorem d_Mo_goOn_52 : decode c_Mo_goOn 52 = .ok (.isub, 1) := by decide +kernel
theorem d_Mo_goOn_53 : decode c_Mo_goOn 53 = .ok (.putfield 283, 3) := by decide +kernel
theorem d_Mo_goOn_56 : decode c_Mo_goOn 56 = .ok (.aload_n 0, 1) := by decide +kernel
theorem d_Mo_goOn_57 : decode c_Mo_goOn 57 = .ok (.getfield 122, 3) := by decide +kernel
theorem d_Mo_goOn_60 : decode c_Mo_goOn 60 = .ok (.iload_n 1, 1) := by decide +kernel
theorem d_Mo_goOn_61 : decode c_Mo_goOn 61 = .ok (.iconst 1, 1) := by decide +kernel
theorem d_Mo_goOn_62 : decode c_Mo_goOn 62 = .ok (.bastore, 1) := by decide +kernel
theorem d_Mo_goOn_63 : decode c_Mo_goOn 63 = .ok (.aload_n 0, 1) := by decide +kernel
theorem d_Mo_goOn_64 : decode c_Mo_goOn 64 = .ok (.dup, 1) := by decide +kernel
theorem d_Mo_goOn_65 : decode c_Mo_goOn 65 = .ok (.getfield 180, 3) := by decide +kernel
theorem d_Mo_goOn_68 : decode c_Mo_goOn 68 = .ok (.aload_n 0, 1) := by decide +kernel
theorem d_Mo_goOn_69 : decode c_Mo_goOn 69 = .ok (.getfield 119, 3) := by decide +kernel
theorem d_Mo_goOn_72 : decode c_Mo_goOn 72 = .ok (.iload_n 1, 1) := by decide +kernel
theorem d_Mo_goOn_73 : decode c_Mo_goOn 73 = .ok (.iaload, 1) := by decide +kernel
theorem d_Mo_goOn_74 : decode c_Mo_goOn 74 = .ok (.iadd, 1) := by decide +kernel
theorem d_Mo_goOn_75 : decode c_Mo_goOn 75 = .ok (.putfield 180, 3) := by decide +kernel
theorem d_Mo_goOn_78 : decode c_Mo_goOn 78 = .ok (.aload_n 0, 1) := by decide +kernel
theorem d_Mo_goOn_79 : decode c_Mo_goOn 79 = .ok (.getfield 113, 3) := by decide +kernel
theorem d_Mo_goOn_82 : decode c_Mo_goOn 82 = .ok (.iload_n 1, 1) := by decide +kernel
theorem d_Mo_goOn_83 : decode c_Mo_goOn 83 = .ok (.iaload, 1) := by decide +kernel
theorem d_Mo_goOn_84 : decode c_Mo_goOn 84 = .ok (.istore_n 2, 1) := by decide +kernel
theorem d_Mo_goOn_85 : decode c_Mo_goOn 85 = .ok (.iload_n 2, 1) := by decide +kernel
theorem d_Mo_goOn_86 : decode c_Mo_goOn 86 = .ok (.aload_n 0, 1) := by decide +kernel
theorem d_Mo_goOn_87 : decode c_Mo_goOn 87 = .ok (.getfield 113, 3) := by decide +kernel
theorem d_Mo_goOn_90 : decode c_Mo_goOn 90 = .ok (.iload_n 1, 1) := by decide +kernel
theorem d_Mo_goOn_91 : decode c_Mo_goOn 91 = .ok (.iaload, 1) := by decide +kernel
theorem d_Mo_goOn_92 : decode c_Mo_goOn 92 = .ok (.aload_n 0, 1) := by decide +kernel
theorem d_Mo_goOn_93 : decode c_Mo_goOn 93 = .ok (.getfield 116, 3) := by decide +kernel
theorem d_Mo_goOn_96 : decode c_Mo_goOn 96 = .ok (.iload_n 1, 1) := by decide +kernel
theorem d_Mo_goOn_97 : decode c_Mo_goOn 97 = .ok (.iaload, 1) := by decide +kernel
theorem d_Mo_goOn_98 : decode c_Mo_goOn 98 = .ok (.iadd, 1) := by decide +kernel
theorem d_Mo_goOn_99 : decode c_Mo_goOn 99 = .ok (.if_icmp .ge 103, 3) := by decide +kernel
theorem d_Mo_goOn_102 : decode c_Mo_goOn 102 = .ok (.aload_n 0, 1) := by decide +kernel
theorem d_Mo_goOn_103 : decode c_Mo_goOn 103 = .ok (.getfield 90, 3) := by decide +kernel
theorem d_Mo_goOn_106 : decode c_Mo_goOn 106 = .ok (.aload_n 0, 1) := by decide +kernel
theorem d_Mo_goOn_107 : decode c_Mo_goOn 107 = .ok (.getfield 283, 3) := by decide +kernel
theorem d_Mo_goOn_110 : decode c_Mo_goOn 110 = .ok (.aload_n 0, 1) := by decide +kernel
theorem d_Mo_goOn_111 : decode c_Mo_goOn 111 = .ok (.getfield 126, 3) := by decide +kernel
theorem d_Mo_goOn_114 : decode c_Mo_goOn 114 = .ok (.iload_n 2, 1) := by decide +kernel
theorem d_Mo_goOn_115 : decode c_Mo_goOn 115 = .ok (.iaload, 1) := by decide +kernel
theorem d_Mo_goOn_116 : decode c_Mo_goOn 116 = .ok (.iastore, 1) := by decide +kernel
theorem d_Mo_goOn_117 : decode c_Mo_goOn 117 = .ok (.aload_n 0, 1) := by decide +kernel
theorem d_Mo_goOn_118 : decode c_Mo_goOn 118 = .ok (.getfield 93, 3) := by decide +kernel
theorem d_Mo_goOn_121 : decode c_Mo_goOn 121 = .ok (.aload_n 0, 1) := by decide +kernel
theorem d_Mo_goOn_122 : decode c_Mo_goOn 122 = .ok (.getfield 283, 3) := by decide +kernel
theorem d_Mo_goOn_125 : decode c_Mo_goOn 125 = .ok (.aload_n 0, 1) := by decide +kernel
theorem d_Mo_goOn_126 : decode c_Mo_goOn 126 = .ok (.getfield 129, 3) := by decide +kernel
theorem d_Mo_goOn_129 : decode c_Mo_goOn 129 = .ok (.iload_n 2, 1) := by decide +kernel
theorem d_Mo_goOn_130 : decode c_Mo_goOn 130 = .ok (.iaload, 1) := by decide +kernel
theorem d_Mo_goOn_131 : decode c_Mo_goOn 131 = .ok (.iastore, 1) := by decide +kernel
theorem d_Mo_goOn_132 : decode c_Mo_goOn 132 = .ok (.aload_n 0, 1) := by decide +kernel
theorem d_Mo_goOn_133 : decode c_Mo_goOn 133 = .ok (.getfield 96, 3) := by decide +kernel
theorem d_Mo_goOn_136 : decode c_Mo_goOn 136 = .ok (.aload_n 0, 1) := by decide +kernel
theorem d_Mo_goOn_137 : decode c_Mo_goOn 137 = .ok (.getfield 283, 3) := by decide +kernel
theorem d_Mo_goOn_140 : decode c_Mo_goOn 140 = .ok (.aload_n 0, 1) := by decide +kernel
theorem d_Mo_goOn_141 : decode c_Mo_goOn 141 = .ok (.getfield 132, 3) := by decide +kernel
theorem d_Mo_goOn_144 : decode c_Mo_goOn 144 = .ok (.iload_n 2, 1) := by decide +kernel
theorem d_Mo_goOn_145 : decode c_Mo_goOn 145 = .ok (.laload, 1) := by decide +kernel
theorem d_Mo_goOn_146 : decode c_Mo_goOn 146 = .ok (.lastore, 1) := by decide +kernel
theorem d_Mo_goOn_147 : decode c_Mo_goOn 147 = .ok (.iconst 0, 1) := by decide +kernel
theorem d_Mo_goOn_148 : decode c_Mo_goOn 148 = .ok (.istore_n 3, 1) := by decide +kernel
theorem d_Mo_goOn_149 : decode c_Mo_goOn 149 = .ok (.iload_n 3, 1) := by decide +kernel
theorem d_Mo_goOn_150 : decode c_Mo_goOn 150 = .ok (.bipush 10, 2) := by decide +kernel
theorem d_Mo_goOn_152 : decode c_Mo_goOn 152 = .ok (.if_icmp .ge 34, 3) := by decide +kernel
theorem d_Mo_goOn_155 : decode c_Mo_goOn 155 = .ok (.aload_n 0, 1) := by decide +kernel
theorem d_Mo_goOn_156 : decode c_Mo_goOn 156 = .ok (.getfield 101, 3) := by decide +kernel
theorem d_Mo_goOn_159 : decode c_Mo_goOn 159 = .ok (.bipush 10, 2) := by decide +kernel
theorem d_Mo_goOn_161 : decode c_Mo_goOn 161 = .ok (.aload_n 0, 1) := by decide +kernel
theorem d_Mo_goOn_162 : decode c_Mo_goOn 162 = .ok (.getfield 283, 3) := by decide +kernel
theorem d_Mo_goOn_165 : decode c_Mo_goOn 165 = .ok (.imul, 1) := by decide +kernel
theorem d_Mo_goOn_166 : decode c_Mo_goOn 166 = .ok (.iload_n 3, 1) := by decide +kernel
theorem d_Mo_goOn_167 : decode c_Mo_goOn 167 = .ok (.iadd, 1) := by decide +kernel
theorem d_Mo_goOn_168 : decode c_Mo_goOn 168 = .ok (.aload_n 0, 1) := by decide +kernel
theorem d_Mo_goOn_169 : decode c_Mo_goOn 169 = .ok (.getfield 136, 3) := by decide +kernel
theorem d_Mo_goOn_172 : decode c_Mo_goOn 172 = .ok (.bipush 10, 2) := by decide +kernel
theorem d_Mo_goOn_174 : decode c_Mo_goOn 174 = .ok (.iload_n 2, 1) := by decide +kernel
theorem d_Mo_goOn_175 : decode c_Mo_goOn 175 = .ok (.imul, 1) := by decide +kernel
theorem d_Mo_goOn_176 : decode c_Mo_goOn 176 = .ok (.iload_n 3, 1) := by decide +kernel
theorem d_Mo_goOn_177 : decode c_Mo_goOn 177 = .ok (.iadd, 1) := by decide +kernel
theorem d_Mo_goOn_178 : decode c_Mo_goOn 178 = .ok (.laload, 1) := by decide +kernel
theorem d_Mo_goOn_179 : decode c_Mo_goOn 179 = .ok (.lastore, 1) := by decide +kernel
theorem d_Mo_goOn_180 : decode c_Mo_goOn 180 = .ok (.iinc 3 1, 3) := by decide +kernel
theorem d_Mo_goOn_183 : decode c_Mo_goOn 183 = .ok (.goto (-34), 3) := by decide +kernel
theorem d_Mo_goOn_186 : decode c_Mo_goOn 186 = .ok (.aload_n 0, 1) := by decide +kernel
theorem d_Mo_goOn_187 : decode c_Mo_goOn 187 = .ok (.dup, 1) := by decide +kernel
theorem d_Mo_goOn_188 : decode c_Mo_goOn 188 = .ok (.getfield 283, 3) := by decide +kernel
theorem d_Mo_goOn_191 : decode c_Mo_goOn 191 = .ok (.iconst 1, 1) := by decide +kernel
theorem d_Mo_goOn_192 : decode c_Mo_goOn 192 = .ok (.iadd, 1) := by decide +kernel
theorem d_Mo_goOn_193 : decode c_Mo_goOn 193 = .ok (.putfield 283, 3) := by decide +kernel
theorem d_Mo_goOn_196 : decode c_Mo_goOn 196 = .ok (.iinc 2 1, 3) := by decide +kernel
theorem d_Mo_goOn_199 : decode c_Mo_goOn 199 = .ok (.goto (-114), 3) := by decide +kernel
theorem d_Mo_goOn_202 : decode c_Mo_goOn 202 = .ok (.aload_n 0, 1) := by decide +kernel
theorem d_Mo_goOn_203 : decode c_Mo_goOn 203 = .ok (.iconst 1, 1) := by decide +kernel
theorem d_Mo_goOn_204 : decode c_Mo_goOn 204 = .ok (.putfield 289, 3) := by decide +kernel
theorem d_Mo_goOn_207 : decode c_Mo_goOn 207 = .ok (.return_, 1) := by decide +kernel
theorem d_Mo_clauseOf_0 : decode c_Mo_clauseOf 0 = .ok (.aload_n 0, 1) := by decide +kernel
theorem d_Mo_clauseOf_1 : decode c_Mo_clauseOf 1 = .ok (.getfield 37, 3) := by decide +kernel
theorem d_Mo_clauseOf_4 : decode c_Mo_clauseOf 4 = .ok (.iload_n 1, 1) := by decide +kernel
theorem d_Mo_clauseOf_5 : decode c_Mo_clauseOf 5 = .ok (.iaload, 1) := by decide +kernel
theorem d_Mo_clauseOf_6 : decode c_Mo_clauseOf 6 = .ok (.istore_n 3, 1) := by decide +kernel
theorem d_Mo_clauseOf_7 : decode c_Mo_clauseOf 7 = .ok (.iload_n 3, 1) := by decide +kernel
theorem d_Mo_clauseOf_8 : decode c_Mo_clauseOf 8 = .ok (.aload_n 0, 1) := by decide +kernel
theorem d_Mo_clauseOf_9 : decode c_Mo_clauseOf 9 = .ok (.getfield 37, 3) := by decide +kernel
theorem d_Mo_clauseOf_12 : decode c_Mo_clauseOf 12 = .ok (.iload_n 1, 1) := by decide +kernel
theorem d_Mo_clauseOf_13 : decode c_Mo_clauseOf 13 = .ok (.iaload, 1) := by decide +kernel
theorem d_Mo_clauseOf_14 : decode c_Mo_clauseOf 14 = .ok (.aload_n 0, 1) := by decide +kernel
theorem d_Mo_clauseOf_15 : decode c_Mo_clauseOf 15 = .ok (.getfield 40, 3) := by decide +kernel
theorem d_Mo_clauseOf_18 : decode c_Mo_clauseOf 18 = .ok (.iload_n 1, 1) := by decide +kernel
theorem d_Mo_clauseOf_19 : decode c_Mo_clauseOf 19 = .ok (.iaload, 1) := by decide +kernel
theorem d_Mo_clauseOf_20 : decode c_Mo_clauseOf 20 = .ok (.iadd, 1) := by decide +kernel
theorem d_Mo_clauseOf_21 : decode c_Mo_clauseOf 21 = .ok (.if_icmp .ge 21, 3) := by decide +kernel
theorem d_Mo_clauseOf_24 : decode c_Mo_clauseOf 24 = .ok (.aload_n 0, 1) := by decide +kernel
theorem d_Mo_clauseOf_25 : decode c_Mo_clauseOf 25 = .ok (.getfield 43, 3) := by decide +kernel
theorem d_Mo_clauseOf_28 : decode c_Mo_clauseOf 28 = .ok (.iload_n 3, 1) := by decide +kernel
theorem d_Mo_clauseOf_29 : decode c_Mo_clauseOf 29 = .ok (.iaload, 1) := by decide +kernel
theorem d_Mo_clauseOf_30 : decode c_Mo_clauseOf 30 = .ok (.iload_n 2, 1) := by decide +kernel
theorem d_Mo_clauseOf_31 : decode c_Mo_clauseOf 31 = .ok (.if_icmp .ne 5, 3) := by decide +kernel
theorem d_Mo_clauseOf_34 : decode c_Mo_clauseOf 34 = .ok (.iload_n 3, 1) := by decide +kernel
theorem d_Mo_clauseOf_35 : decode c_Mo_clauseOf 35 = .ok (.ireturn, 1) := by decide +kernel
theorem d_Mo_clauseOf_36 : decode c_Mo_clauseOf 36 = .ok (.iinc 3 1, 3) := by decide +kernel
theorem d_Mo_clauseOf_39 : decode c_Mo_clauseOf 39 = .ok (.goto (-32), 3) := by decide +kernel
theorem d_Mo_clauseOf_42 : decode c_Mo_clauseOf 42 = .ok (.iconst (-1), 1) := by decide +kernel
theorem d_Mo_clauseOf_43 : decode c_Mo_clauseOf 43 = .ok (.ireturn, 1) := by decide +kernel
theorem d_Mo_counted_0 : decode c_Mo_counted 0 = .ok (.aload_n 0, 1) := by decide +kernel
theorem d_Mo_counted_1 : decode c_Mo_counted 1 = .ok (.getfield 90, 3) := by decide +kernel
theorem d_Mo_counted_4 : decode c_Mo_counted 4 = .ok (.iload_n 1, 1) := by decide +kernel
theorem d_Mo_counted_5 : decode c_Mo_counted 5 = .ok (.iaload, 1) := by decide +kernel
theorem d_Mo_counted_6 : decode c_Mo_counted 6 = .ok (.iconst (-1), 1) := by decide +kernel
theorem d_Mo_counted_7 : decode c_Mo_counted 7 = .ok (.if_icmp .eq 19, 3) := by decide +kernel
theorem d_Mo_counted_10 : decode c_Mo_counted 10 = .ok (.aload_n 0, 1) := by decide +kernel
theorem d_Mo_counted_11 : decode c_Mo_counted 11 = .ok (.getfield 7, 3) := by decide +kernel
theorem d_Mo_counted_14 : decode c_Mo_counted 14 = .ok (.aload_n 0, 1) := by decide +kernel
theorem d_Mo_counted_15 : decode c_Mo_counted 15 = .ok (.getfield 90, 3) := by decide +kernel
theorem d_Mo_counted_18 : decode c_Mo_counted 18 = .ok (.iload_n 1, 1) := by decide +kernel
theorem d_Mo_counted_19 : decode c_Mo_counted 19 = .ok (.iaload, 1) := by decide +kernel
theorem d_Mo_counted_20 : decode c_Mo_counted 20 = .ok (.iaload, 1) := by decide +kernel
theorem d_Mo_counted_21 : decode c_Mo_counted 21 = .ok (.bipush 8, 2) := by decide +kernel
theorem d_Mo_counted_23 : decode c_Mo_counted 23 = .ok (.if_icmp .ne 7, 3) := by decide +kernel
theorem d_Mo_counted_26 : decode c_Mo_counted 26 = .ok (.iconst 1, 1) := by decide +kernel
theorem d_Mo_counted_27 : decode c_Mo_counted 27 = .ok (.goto 4, 3) := by decide +kernel
theorem d_Mo_counted_30 : decode c_Mo_counted 30 = .ok (.iconst 0, 1) := by decide +kernel
theorem d_Mo_counted_31 : decode c_Mo_counted 31 = .ok (.ireturn, 1) := by decide +kernel
theorem d_Mo_performs_0 : decode c_Mo_performs 0 = .ok (.aload_n 0, 1) := by decide +kernel
theorem d_Mo_performs_1 : decode c_Mo_performs 1 = .ok (.getfield 283, 3) := by decide +kernel
theorem d_Mo_performs_4 : decode c_Mo_performs 4 = .ok (.iconst 2, 1) := by decide +kernel
theorem d_Mo_performs_5 : decode c_Mo_performs 5 = .ok (.isub, 1) := by decide +kernel
theorem d_Mo_performs_6 : decode c_Mo_performs 6 = .ok (.istore_n 2, 1) := by decide +kernel
theorem d_Mo_performs_7 : decode c_Mo_performs 7 = .ok (.iconst 0, 1) := by decide +kernel
theorem d_Mo_performs_8 : decode c_Mo_performs 8 = .ok (.istore_n 3, 1) := by decide +kernel
theorem d_Mo_performs_9 : decode c_Mo_performs 9 = .ok (.iconst (-1), 1) := by decide +kernel
theorem d_Mo_performs_10 : decode c_Mo_performs 10 = .ok (.istore 4, 2) := by decide +kernel
theorem d_Mo_performs_12 : decode c_Mo_performs 12 = .ok (.iload_n 2, 1) := by decide +kernel
theorem d_Mo_performs_13 : decode c_Mo_performs 13 = .ok (.ifCond .lt 71, 3) := by decide +kernel
theorem d_Mo_performs_16 : decode c_Mo_performs 16 = .ok (.iload 4, 2) := by decide +kernel
theorem d_Mo_performs_18 : decode c_Mo_performs 18 = .ok (.iconst (-1), 1) := by decide +kernel
theorem d_Mo_performs_19 : decode c_Mo_performs 19 = .ok (.if_icmp .ne 65, 3) := by decide +kernel
theorem d_Mo_performs_22 : decode c_Mo_performs 22 = .ok (.aload_n 0, 1) := by decide +kernel
theorem d_Mo_performs_23 : decode c_Mo_performs 23 = .ok (.iload_n 2, 1) := by decide +kernel
theorem d_Mo_performs_24 : decode c_Mo_performs 24 = .ok (.invokevirtual 317, 3) := by decide +kernel
theorem d_Mo_performs_27 : decode c_Mo_performs 27 = .ok (.ifCond .eq 6, 3) := by decide +kernel
theorem d_Mo_performs_30 : decode c_Mo_performs 30 = .ok (.iinc 3 1, 3) := by decide +kernel
theorem d_Mo_performs_33 : decode c_Mo_performs 33 = .ok (.aload_n 0, 1) := by decide +kernel
theorem d_Mo_performs_34 : decode c_Mo_performs 34 = .ok (.getfield 90, 3) := by decide +kernel
theorem d_Mo_performs_37 : decode c_Mo_performs 37 = .ok (.iload_n 2, 1) := by decide +kernel
theorem d_Mo_performs_38 : decode c_Mo_performs 38 = .ok (.iaload, 1) := by decide +kernel
theorem d_Mo_performs_39 : decode c_Mo_performs 39 = .ok (.iconst (-1), 1) := by decide +kernel
theorem d_Mo_performs_40 : decode c_Mo_performs 40 = .ok (.if_icmp .eq 32, 3) := by decide +kernel
theorem d_Mo_performs_43 : decode c_Mo_performs 43 = .ok (.aload_n 0, 1) := by decide +kernel
theorem d_Mo_performs_44 : decode c_Mo_performs 44 = .ok (.getfield 7, 3) := by decide +kernel
theorem d_Mo_performs_47 : decode c_Mo_performs 47 = .ok (.aload_n 0, 1) := by decide +kernel
theorem d_Mo_performs_48 : decode c_Mo_performs 48 = .ok (.getfield 90, 3) := by decide +kernel
theorem d_Mo_performs_51 : decode c_Mo_performs 51 = .ok (.iload_n 2, 1) := by decide +kernel
theorem d_Mo_performs_52 : decode c_Mo_performs 52 = .ok (.iaload, 1) := by decide +kernel
theorem d_Mo_performs_53 : decode c_Mo_performs 53 = .ok (.iaload, 1) := by decide +kernel
theorem d_Mo_performs_54 : decode c_Mo_performs 54 = .ok (.bipush 8, 2) := by decide +kernel
theorem d_Mo_performs_56 : decode c_Mo_performs 56 = .ok (.if_icmp .ne 16, 3) := by decide +kernel
theorem d_Mo_performs_59 : decode c_Mo_performs 59 = .ok (.aload_n 0, 1) := by decide +kernel
theorem d_Mo_performs_60 : decode c_Mo_performs 60 = .ok (.aload_n 0, 1) := by decide +kernel
theorem d_Mo_performs_61 : decode c_Mo_performs 61 = .ok (.getfield 90, 3) := by decide +kernel
theorem d_Mo_performs_64 : decode c_Mo_performs 64 = .ok (.iload_n 2, 1) := by decide +kernel
theorem d_Mo_performs_65 : decode c_Mo_performs 65 = .ok (.iaload, 1) := by decide +kernel
theorem d_Mo_performs_66 : decode c_Mo_performs 66 = .ok (.iload_n 1, 1) := by decide +kernel
theorem d_Mo_performs_67 : decode c_Mo_performs 67 = .ok (.invokevirtual 320, 3) := by decide +kernel
theorem d_Mo_performs_70 : decode c_Mo_performs 70 = .ok (.istore 4, 2) := by decide +kernel
theorem d_Mo_performs_72 : decode c_Mo_performs 72 = .ok (.iload 4, 2) := by decide +kernel
theorem d_Mo_performs_74 : decode c_Mo_performs 74 = .ok (.iconst (-1), 1) := by decide +kernel
theorem d_Mo_performs_75 : decode c_Mo_performs 75 = .ok (.if_icmp .ne (-63), 3) := by decide +kernel
theorem d_Mo_performs_78 : decode c_Mo_performs 78 = .ok (.iinc 2 (-1), 3) := by decide +kernel
theorem d_Mo_performs_81 : decode c_Mo_performs 81 = .ok (.goto (-69), 3) := by decide +kernel
theorem d_Mo_performs_84 : decode c_Mo_performs 84 = .ok (.iload 4, 2) := by decide +kernel
theorem d_Mo_performs_86 : decode c_Mo_performs 86 = .ok (.iconst (-1), 1) := by decide +kernel
theorem d_Mo_performs_87 : decode c_Mo_performs 87 = .ok (.if_icmp .ne 14, 3) := by decide +kernel
theorem d_Mo_performs_90 : decode c_Mo_performs 90 = .ok (.aload_n 0, 1) := by decide +kernel
theorem d_Mo_performs_91 : decode c_Mo_performs 91 = .ok (.iconst 4, 1) := by decide +kernel
theorem d_Mo_performs_92 : decode c_Mo_performs 92 = .ok (.putfield 161, 3) := by decide +kernel
theorem d_Mo_performs_95 : decode c_Mo_performs 95 = .ok (.aload_n 0, 1) := by decide +kernel
theorem d_Mo_performs_96 : decode c_Mo_performs 96 = .ok (.iload_n 1, 1) := by decide +kernel
theorem d_Mo_performs_97 : decode c_Mo_performs 97 = .ok (.putfield 183, 3) := by decide +kernel
theorem d_Mo_performs_100 : decode c_Mo_performs 100 = .ok (.return_, 1) := by decide +kernel
theorem d_Mo_performs_101 : decode c_Mo_performs 101 = .ok (.aload_n 0, 1) := by decide +kernel
theorem d_Mo_performs_102 : decode c_Mo_performs 102 = .ok (.getfield 177, 3) := by decide +kernel
theorem d_Mo_performs_105 : decode c_Mo_performs 105 = .ok (.iconst 1, 1) := by decide +kernel
theorem d_Mo_performs_106 : decode c_Mo_performs 106 = .ok (.iadd, 1) := by decide +kernel
theorem d_Mo_performs_107 : decode c_Mo_performs 107 = .ok (.iload_n 3, 1) := by decide +kernel
theorem d_Mo_performs_108 : decode c_Mo_performs 108 = .ok (.iadd, 1) := by decide +kernel
theorem d_Mo_performs_109 : decode c_Mo_performs 109 = .ok (.sipush 1000, 3) := by decide +kernel
theorem d_Mo_performs_112 : decode c_Mo_performs 112 = .ok (.if_icmp .le 9, 3) := by decide +kernel
theorem d_Mo_performs_115 : decode c_Mo_performs 115 = .ok (.aload_n 0, 1) := by decide +kernel
theorem d_Mo_performs_116 : decode c_Mo_performs 116 = .ok (.iconst 5, 1) := by decide +kernel
theorem d_Mo_performs_117 : decode c_Mo_performs 117 = .ok (.putfield 161, 3) := by decide +kernel
theorem d_Mo_performs_120 : decode c_Mo_performs 120 = .ok (.return_, 1) := by decide +kernel
theorem d_Mo_performs_121 : decode c_Mo_performs 121 = .ok (.aload_n 0, 1) := by decide +kernel
theorem d_Mo_performs_122 : decode c_Mo_performs 122 = .ok (.dup, 1) := by decide +kernel
theorem d_Mo_performs_123 : decode c_Mo_performs 123 = .ok (.getfield 177, 3) := by decide +kernel
theorem d_Mo_performs_126 : decode c_Mo_performs 126 = .ok (.iconst 1, 1) := by decide +kernel
theorem d_Mo_performs_127 : decode c_Mo_performs 127 = .ok (.iload_n 3, 1) := by decide +kernel
theorem d_Mo_performs_128 : decode c_Mo_performs 128 = .ok (.iadd, 1) := by decide +kernel
theorem d_Mo_performs_129 : decode c_Mo_performs 129 = .ok (.iadd, 1) := by decide +kernel
theorem d_Mo_performs_130 : decode c_Mo_performs 130 = .ok (.putfield 177, 3) := by decide +kernel
theorem d_Mo_performs_133 : decode c_Mo_performs 133 = .ok (.aload_n 0, 1) := by decide +kernel
theorem d_Mo_performs_134 : decode c_Mo_performs 134 = .ok (.iload_n 2, 1) := by decide +kernel
theorem d_Mo_performs_135 : decode c_Mo_performs 135 = .ok (.aload_n 0, 1) := by decide +kernel
theorem d_Mo_performs_136 : decode c_Mo_performs 136 = .ok (.getfield 283, 3) := by decide +kernel
theorem d_Mo_performs_139 : decode c_Mo_performs 139 = .ok (.iconst 1, 1) := by decide +kernel
theorem d_Mo_performs_140 : decode c_Mo_performs 140 = .ok (.isub, 1) := by decide +kernel
theorem d_Mo_performs_141 : decode c_Mo_performs 141 = .ok (.iload_n 3, 1) := by decide +kernel
theorem d_Mo_performs_142 : decode c_Mo_performs 142 = .ok (.invokevirtual 323, 3) := by decide +kernel
theorem d_Mo_performs_145 : decode c_Mo_performs 145 = .ok (.aload_n 0, 1) := by decide +kernel
theorem d_Mo_performs_146 : decode c_Mo_performs 146 = .ok (.iload_n 2, 1) := by decide +kernel
theorem d_Mo_performs_147 : decode c_Mo_performs 147 = .ok (.invokevirtual 326, 3) := by decide +kernel
theorem d_Mo_performs_150 : decode c_Mo_performs 150 = .ok (.aload_n 0, 1) := by decide +kernel
theorem d_Mo_performs_151 : decode c_Mo_performs 151 = .ok (.iload_n 2, 1) := by decide +kernel
theorem d_Mo_performs_152 : decode c_Mo_performs 152 = .ok (.putfield 283, 3) := by decide +kernel
theorem d_Mo_performs_155 : decode c_Mo_performs 155 = .ok (.aload_n 0, 1) := by decide +kernel
theorem d_Mo_performs_156 : decode c_Mo_performs 156 = .ok (.dup, 1) := by decide +kernel
theorem d_Mo_performs_157 : decode c_Mo_performs 157 = .ok (.getfield 180, 3) := by decide +kernel
theorem d_Mo_performs_160 : decode c_Mo_performs 160 = .ok (.iload_n 3, 1) := by decide +kernel
theorem d_Mo_performs_161 : decode c_Mo_performs 161 = .ok (.iconst 1, 1) := by decide +kernel
theorem d_Mo_performs_162 : decode c_Mo_performs 162 = .ok (.isub, 1) := by decide +kernel
theorem d_Mo_performs_163 : decode c_Mo_performs 163 = .ok (.isub, 1) := by decide +kernel
theorem d_Mo_performs_164 : decode c_Mo_performs 164 = .ok (.putfield 180, 3) := by decide +kernel
theorem d_Mo_performs_167 : decode c_Mo_performs 167 = .ok (.aload_n 0, 1) := by decide +kernel
theorem d_Mo_performs_168 : decode c_Mo_performs 168 = .ok (.getfield 104, 3) := by decide +kernel
theorem d_Mo_performs_171 : decode c_Mo_performs 171 = .ok (.aload_n 0, 1) := by decide +kernel
theorem d_Mo_performs_172 : decode c_Mo_performs 172 = .ok (.getfield 46, 3) := by decide +kernel
theorem d_Mo_performs_175 : decode c_Mo_performs 175 = .ok (.iload 4, 2) := by decide +kernel
theorem d_Mo_performs_177 : decode c_Mo_performs 177 = .ok (.iaload, 1) := by decide +kernel
theorem d_Mo_performs_178 : decode c_Mo_performs 178 = .ok (.aload_n 0, 1) := by decide +kernel
theorem d_Mo_performs_179 : decode c_Mo_performs 179 = .ok (.getfield 186, 3) := by decide +kernel
theorem d_Mo_performs_182 : decode c_Mo_performs 182 = .ok (.lastore, 1) := by decide +kernel
theorem d_Mo_performs_183 : decode c_Mo_performs 183 = .ok (.aload_n 0, 1) := by decide +kernel
theorem d_Mo_performs_184 : decode c_Mo_performs 184 = .ok (.getfield 104, 3) := by decide +kernel
theorem d_Mo_performs_187 : decode c_Mo_performs 187 = .ok (.aload_n 0, 1) := by decide +kernel
theorem d_Mo_performs_188 : decode c_Mo_performs 188 = .ok (.getfield 49, 3) := by decide +kernel
theorem d_Mo_performs_191 : decode c_Mo_performs 191 = .ok (.iload 4, 2) := by decide +kernel
theorem d_Mo_performs_193 : decode c_Mo_performs 193 = .ok (.iaload, 1) := by decide +kernel
theorem d_Mo_performs_194 : decode c_Mo_performs 194 = .ok (.aload_n 0, 1) := by decide +kernel
theorem d_Mo_performs_195 : decode c_Mo_performs 195 = .ok (.getfield 295, 3) := by decide +kernel
theorem d_Mo_performs_198 : decode c_Mo_performs 198 = .ok (.ineg, 1) := by decide +kernel
theorem d_Mo_performs_199 : decode c_Mo_performs 199 = .ok (.i2l, 1) := by decide +kernel
theorem d_Mo_performs_200 : decode c_Mo_performs 200 = .ok (.lastore, 1) := by decide +kernel
theorem d_Mo_performs_201 : decode c_Mo_performs 201 = .ok (.aload_n 0, 1) := by decide +kernel
theorem d_Mo_performs_202 : decode c_Mo_performs 202 = .ok (.aload_n 0, 1) := by decide +kernel
theorem d_Mo_performs_203 : decode c_Mo_performs 203 = .ok (.getfield 52, 3) := by decide +kernel
theorem d_Mo_performs_206 : decode c_Mo_performs 206 = .ok (.iload 4, 2) := by decide +kernel
theorem d_Mo_performs_208 : decode c_Mo_performs 208 = .ok (.iaload, 1) := by decide +kernel
theorem d_Mo_performs_209 : decode c_Mo_performs 209 = .ok (.invokevirtual 314, 3) := by decide +kernel
theorem d_Mo_performs_212 : decode c_Mo_performs 212 = .ok (.return_, 1) := by decide +kernel
theorem d_Mo_keep_0 : decode c_Mo_keep 0 = .ok (.aload_n 0, 1) := by decide +kernel
theorem d_Mo_keep_1 : decode c_Mo_keep 1 = .ok (.getfield 113, 3) := by decide +kernel
theorem d_Mo_keep_4 : decode c_Mo_keep 4 = .ok (.aload_n 0, 1) := by decide +kernel
theorem d_Mo_keep_5 : decode c_Mo_keep 5 = .ok (.getfield 295, 3) := by decide +kernel
theorem d_Mo_keep_8 : decode c_Mo_keep 8 = .ok (.aload_n 0, 1) := by decide +kernel
theorem d_Mo_keep_9 : decode c_Mo_keep 9 = .ok (.getfield 298, 3) := by decide +kernel
theorem d_Mo_keep_12 : decode c_Mo_keep 12 = .ok (.iastore, 1) := by decide +kernel
theorem d_Mo_keep_13 : decode c_Mo_keep 13 = .ok (.aload_n 0, 1) := by decide +kernel
theorem d_Mo_keep_14 : decode c_Mo_keep 14 = .ok (.getfield 116, 3) := by decide +kernel
theorem d_Mo_keep_17 : decode c_Mo_keep 17 = .ok (.aload_n 0, 1) := by decide +kernel
theorem d_Mo_keep_18 : decode c_Mo_keep 18 = .ok (.getfield 295, 3) := by decide +kernel
theorem d_Mo_keep_21 : decode c_Mo_keep 21 = .ok (.iload_n 2, 1) := by decide +kernel
theorem d_Mo_keep_22 : decode c_Mo_keep 22 = .ok (.iload_n 1, 1) := by decide +kernel
theorem d_Mo_keep_23 : decode c_Mo_keep 23 = .ok (.isub, 1) := by decide +kernel
theorem d_Mo_keep_24 : decode c_Mo_keep 24 = .ok (.iastore, 1) := by decide +kernel
theorem d_Mo_keep_25 : decode c_Mo_keep 25 = .ok (.aload_n 0, 1) := by decide +kernel
theorem d_Mo_keep_26 : decode c_Mo_keep 26 = .ok (.getfield 119, 3) := by decide +kernel
theorem d_Mo_keep_29 : decode c_Mo_keep 29 = .ok (.aload_n 0, 1) := by decide +kernel
theorem d_Mo_keep_30 : decode c_Mo_keep 30 = .ok (.getfield 295, 3) := by decide +kernel
theorem d_Mo_keep_33 : decode c_Mo_keep 33 = .ok (.iload_n 3, 1) := by decide +kernel
theorem d_Mo_keep_34 : decode c_Mo_keep 34 = .ok (.iastore, 1) := by decide +kernel
theorem d_Mo_keep_35 : decode c_Mo_keep 35 = .ok (.aload_n 0, 1) := by decide +kernel
theorem d_Mo_keep_36 : decode c_Mo_keep 36 = .ok (.getfield 122, 3) := by decide +kernel
theorem d_Mo_keep_39 : decode c_Mo_keep 39 = .ok (.aload_n 0, 1) := by decide +kernel
theorem d_Mo_keep_40 : decode c_Mo_keep 40 = .ok (.getfield 295, 3) := by decide +kernel
theorem d_Mo_keep_43 : decode c_Mo_keep 43 = .ok (.iconst 0, 1) := by decide +kernel
theorem d_Mo_keep_44 : decode c_Mo_keep 44 = .ok (.bastore, 1) := by decide +kernel
theorem d_Mo_keep_45 : decode c_Mo_keep 45 = .ok (.aload_n 0, 1) := by decide +kernel
theorem d_Mo_keep_46 : decode c_Mo_keep 46 = .ok (.dup, 1) := by decide +kernel
theorem d_Mo_keep_47 : decode c_Mo_keep 47 = .ok (.getfield 295, 3) := by decide +kernel
theorem d_Mo_keep_50 : decode c_Mo_keep 50 = .ok (.iconst 1, 1) := by decide +kernel
theorem d_Mo_keep_51 : decode c_Mo_keep 51 = .ok (.iadd, 1) := by decide +kernel
theorem d_Mo_keep_52 : decode c_Mo_keep 52 = .ok (.putfield 295, 3) := by decide +kernel
theorem d_Mo_keep_55 : decode c_Mo_keep 55 = .ok (.iload_n 1, 1) := by decide +kernel
theorem d_Mo_keep_56 : decode c_Mo_keep 56 = .ok (.istore 4, 2) := by decide +kernel
theorem d_Mo_keep_58 : decode c_Mo_keep 58 = .ok (.iload 4, 2) := by decide +kernel
theorem d_Mo_keep_60 : decode c_Mo_keep 60 = .ok (.iload_n 2, 1) := by decide +kernel
theorem d_Mo_keep_61 : decode c_Mo_keep 61 = .ok (.if_icmp .ge 111, 3) := by decide +kernel
theorem d_Mo_keep_64 : decode c_Mo_keep 64 = .ok (.aload_n 0, 1) := by decide +kernel
theorem d_Mo_keep_65 : decode c_Mo_keep 65 = .ok (.getfield 126, 3) := by decide +kernel
theorem d_Mo_keep_68 : decode c_Mo_keep 68 = .ok (.aload_n 0, 1) := by decide +kernel
theorem d_Mo_keep_69 : decode c_Mo_keep 69 = .ok (.getfield 298, 3) := by decide +kernel
theorem d_Mo_keep_72 : decode c_Mo_keep 72 = .ok (.aload_n 0, 1) := by decide +kernel
theorem d_Mo_keep_73 : decode c_Mo_keep 73 = .ok (.getfield 90, 3) := by decide +kernel
theorem d_Mo_keep_76 : decode c_Mo_keep 76 = .ok (.iload 4, 2) := by decide +kernel
theorem d_Mo_keep_78 : decode c_Mo_keep 78 = .ok (.iaload, 1) := by decide +kernel
theorem d_Mo_keep_79 : decode c_Mo_keep 79 = .ok (.iastore, 1) := by decide +kernel
theorem d_Mo_keep_80 : decode c_Mo_keep 80 = .ok (.aload_n 0, 1) := by decide +kernel
theorem d_Mo_keep_81 : decode c_Mo_keep 81 = .ok (.getfield 129, 3) := by decide +kernel
theorem d_Mo_keep_84 : decode c_Mo_keep 84 = .ok (.aload_n 0, 1) := by decide +kernel
theorem d_Mo_keep_85 : decode c_Mo_keep 85 = .ok (.getfield 298, 3) := by decide +kernel
theorem d_Mo_keep_88 : decode c_Mo_keep 88 = .ok (.aload_n 0, 1) := by decide +kernel
theorem d_Mo_keep_89 : decode c_Mo_keep 89 = .ok (.getfield 93, 3) := by decide +kernel
theorem d_Mo_keep_92 : decode c_Mo_keep 92 = .ok (.iload 4, 2) := by decide +kernel
theorem d_Mo_keep_94 : decode c_Mo_keep 94 = .ok (.iaload, 1) := by decide +kernel
theorem d_Mo_keep_95 : decode c_Mo_keep 95 = .ok (.iastore, 1) := by decide +kernel
theorem d_Mo_keep_96 : decode c_Mo_keep 96 = .ok (.aload_n 0, 1) := by decide +kernel
theorem d_Mo_keep_97 : decode c_Mo_keep 97 = .ok (.getfield 132, 3) := by decide +kernel
theorem d_Mo_keep_100 : decode c_Mo_keep 100 = .ok (.aload_n 0, 1) := by decide +kernel
theorem d_Mo_keep_101 : decode c_Mo_keep 101 = .ok (.getfield 298, 3) := by decide +kernel
theorem d_Mo_keep_104 : decode c_Mo_keep 104 = .ok (.aload_n 0, 1) := by decide +kernel
theorem d_Mo_keep_105 : decode c_Mo_keep 105 = .ok (.getfield 96, 3) := by decide +kernel
theorem d_Mo_keep_108 : decode c_Mo_keep 108 = .ok (.iload 4, 2) := by decide +kernel
theorem d_Mo_keep_110 : decode c_Mo_keep 110 = .ok (.laload, 1) := by decide +kernel
theorem d_Mo_keep_111 : decode c_Mo_keep 111 = .ok (.lastore, 1) := by decide +kernel
theorem d_Mo_keep_112 : decode c_Mo_keep 112 = .ok (.iconst 0, 1) := by decide +kernel
theorem d_Mo_keep_113 : decode c_Mo_keep 113 = .ok (.istore 5, 2) := by decide +kernel
theorem d_Mo_keep_115 : decode c_Mo_keep 115 = .ok (.iload 5, 2) := by decide +kernel
theorem d_Mo_keep_117 : decode c_Mo_keep 117 = .ok (.bipush 10, 2) := by decide +kernel
theorem d_Mo_keep_119 : decode c_Mo_keep 119 = .ok (.if_icmp .ge 37, 3) := by decide +kernel
theorem d_Mo_keep_122 : decode c_Mo_keep 122 = .ok (.aload_n 0, 1) := by decide +kernel
theorem d_Mo_keep_123 : decode c_Mo_keep 123 = .ok (.getfield 136, 3) := by decide +kernel
theorem d_Mo_keep_126 : decode c_Mo_keep 126 = .ok (.bipush 10, 2) := by decide +kernel
theorem d_Mo_keep_128 : decode c_Mo_keep 128 = .ok (.aload_n 0, 1) := by decide +kernel
theorem d_Mo_keep_129 : decode c_Mo_keep 129 = .ok (.getfield 298, 3) := by decide +kernel
theorem d_Mo_keep_132 : decode c_Mo_keep 132 = .ok (.imul, 1) := by decide +kernel
theorem d_Mo_keep_133 : decode c_Mo_keep 133 = .ok (.iload 5, 2) := by decide +kernel
theorem d_Mo_keep_135 : decode c_Mo_keep 135 = .ok (.iadd, 1) := by decide +kernel
theorem d_Mo_keep_136 : decode c_Mo_keep 136 = .ok (.aload_n 0, 1) := by decide +kernel
theorem d_Mo_keep_137 : decode c_Mo_keep 137 = .ok (.getfield 101, 3) := by decide +kernel
theorem d_Mo_keep_140 : decode c_Mo_keep 140 = .ok (.bipush 10, 2) := by decide +kernel
theorem d_Mo_keep_142 : decode c_Mo_keep 142 = .ok (.iload 4, 2) := by decide +kernel
theorem d_Mo_keep_144 : decode c_Mo_keep 144 = .ok (.imul, 1) := by decide +kernel
theorem d_Mo_keep_145 : decode c_Mo_keep 145 = .ok (.iload 5, 2) := by decide +kernel
theorem d_Mo_keep_147 : decode c_Mo_keep 147 = .ok (.iadd, 1) := by decide +kernel
theorem d_Mo_keep_148 : decode c_Mo_keep 148 = .ok (.laload, 1) := by decide +kernel
theorem d_Mo_keep_149 : decode c_Mo_keep 149 = .ok (.lastore, 1) := by decide +kernel
theorem d_Mo_keep_150 : decode c_Mo_keep 150 = .ok (.iinc 5 1, 3) := by decide +kernel
theorem d_Mo_keep_153 : decode c_Mo_keep 153 = .ok (.goto (-38), 3) := by decide +kernel
theorem d_Mo_keep_156 : decode c_Mo_keep 156 = .ok (.aload_n 0, 1) := by decide +kernel
theorem d_Mo_keep_157 : decode c_Mo_keep 157 = .ok (.dup, 1) := by decide +kernel
theorem d_Mo_keep_158 : decode c_Mo_keep 158 = .ok (.getfield 298, 3) := by decide +kernel
theorem d_Mo_keep_161 : decode c_Mo_keep 161 = .ok (.iconst 1, 1) := by decide +kernel
theorem d_Mo_keep_162 : decode c_Mo_keep 162 = .ok (.iadd, 1) := by decide +kernel
theorem d_Mo_keep_163 : decode c_Mo_keep 163 = .ok (.putfield 298, 3) := by decide +kernel
theorem d_Mo_keep_166 : decode c_Mo_keep 166 = .ok (.iinc 4 1, 3) := by decide +kernel
theorem d_Mo_keep_169 : decode c_Mo_keep 169 = .ok (.goto (-111), 3) := by decide +kernel
theorem d_Mo_keep_172 : decode c_Mo_keep 172 = .ok (.return_, 1) := by decide +kernel
theorem d_Mo_comes_0 : decode c_Mo_comes 0 = .ok (.aload_n 0, 1) := by decide +kernel
theorem d_Mo_comes_1 : decode c_Mo_comes 1 = .ok (.getfield 283, 3) := by decide +kernel
theorem d_Mo_comes_4 : decode c_Mo_comes 4 = .ok (.iconst 1, 1) := by decide +kernel
theorem d_Mo_comes_5 : decode c_Mo_comes 5 = .ok (.isub, 1) := by decide +kernel
theorem d_Mo_comes_6 : decode c_Mo_comes 6 = .ok (.istore_n 2, 1) := by decide +kernel
theorem d_Mo_comes_7 : decode c_Mo_comes 7 = .ok (.aload_n 0, 1) := by decide +kernel
theorem d_Mo_comes_8 : decode c_Mo_comes 8 = .ok (.getfield 90, 3) := by decide +kernel
theorem d_Mo_comes_11 : decode c_Mo_comes 11 = .ok (.iload_n 2, 1) := by decide +kernel
theorem d_Mo_comes_12 : decode c_Mo_comes 12 = .ok (.iaload, 1) := by decide +kernel
theorem d_Mo_comes_13 : decode c_Mo_comes 13 = .ok (.istore_n 3, 1) := by decide +kernel
theorem d_Mo_comes_14 : decode c_Mo_comes 14 = .ok (.iload_n 3, 1) := by decide +kernel
theorem d_Mo_comes_15 : decode c_Mo_comes 15 = .ok (.iconst (-1), 1) := by decide +kernel
theorem d_Mo_comes_16 : decode c_Mo_comes 16 = .ok (.if_icmp .ne 25, 3) := by decide +kernel
theorem d_Mo_comes_19 : decode c_Mo_comes 19 = .ok (.aload_n 0, 1) := by decide +kernel
theorem d_Mo_comes_20 : decode c_Mo_comes 20 = .ok (.dup, 1) := by decide +kernel
theorem d_Mo_comes_21 : decode c_Mo_comes 21 = .ok (.getfield 283, 3) := by decide +kernel
theorem d_Mo_comes_24 : decode c_Mo_comes 24 = .ok (.iconst 1, 1) := by decide +kernel
theorem d_Mo_comes_25 : decode c_Mo_comes 25 = .ok (.isub, 1) := by decide +kernel
theorem d_Mo_comes_26 : decode c_Mo_comes 26 = .ok (.putfield 283, 3) := by decide +kernel
theorem d_Mo_comes_29 : decode c_Mo_comes 29 = .ok (.aload_n 0, 1) := by decide +kernel
theorem d_Mo_comes_30 : decode c_Mo_comes 30 = .ok (.dup, 1) := by decide +kernel
theorem d_Mo_comes_31 : decode c_Mo_comes 31 = .ok (.getfield 180, 3) := by decide +kernel
theorem d_Mo_comes_34 : decode c_Mo_comes 34 = .ok (.iconst 1, 1) := by decide +kernel
theorem d_Mo_comes_35 : decode c_Mo_comes 35 = .ok (.isub, 1) := by decide +kernel
theorem d_Mo_comes_36 : decode c_Mo_comes 36 = .ok (.putfield 180, 3) := by decide +kernel
theorem d_Mo_comes_39 : decode c_Mo_comes 39 = .ok (.iconst 1, 1) := by decide +kernel
theorem d_Mo_comes_40 : decode c_Mo_comes 40 = .ok (.ireturn, 1) := by decide +kernel
theorem d_Mo_comes_41 : decode c_Mo_comes 41 = .ok (.aload_n 0, 1) := by decide +kernel
theorem d_Mo_comes_42 : decode c_Mo_comes 42 = .ok (.getfield 7, 3) := by decide +kernel
theorem d_Mo_comes_45 : decode c_Mo_comes 45 = .ok (.iload_n 3, 1) := by decide +kernel
theorem d_Mo_comes_46 : decode c_Mo_comes 46 = .ok (.iaload, 1) := by decide +kernel
theorem d_Mo_comes_47 : decode c_Mo_comes 47 = .ok (.bipush 9, 2) := by decide +kernel
theorem d_Mo_comes_49 : decode c_Mo_comes 49 = .ok (.if_icmp .eq 14, 3) := by decide +kernel
theorem d_Mo_comes_52 : decode c_Mo_comes 52 = .ok (.aload_n 0, 1) := by decide +kernel
theorem d_Mo_comes_53 : decode c_Mo_comes 53 = .ok (.getfield 7, 3) := by decide +kernel
theorem d_Mo_comes_56 : decode c_Mo_comes 56 = .ok (.iload_n 3, 1) := by decide +kernel
theorem d_Mo_comes_57 : decode c_Mo_comes 57 = .ok (.iaload, 1) := by decide +kernel
theorem d_Mo_comes_58 : decode c_Mo_comes 58 = .ok (.bipush 10, 2) := by decide +kernel
theorem d_Mo_comes_60 : decode c_Mo_comes 60 = .ok (.if_icmp .ne 16, 3) := by decide +kernel
theorem d_Mo_comes_63 : decode c_Mo_comes 63 = .ok (.aload_n 0, 1) := by decide +kernel
theorem d_Mo_comes_64 : decode c_Mo_comes 64 = .ok (.getfield 93, 3) := by decide +kernel
theorem d_Mo_comes_67 : decode c_Mo_comes 67 = .ok (.iload_n 2, 1) := by decide +kernel
theorem d_Mo_comes_68 : decode c_Mo_comes 68 = .ok (.iaload, 1) := by decide +kernel
theorem d_Mo_comes_69 : decode c_Mo_comes 69 = .ok (.ifCond .ne 7, 3) := by decide +kernel
theorem d_Mo_comes_72 : decode c_Mo_comes 72 = .ok (.iconst 1, 1) := by decide +kernel
theorem d_Mo_comes_73 : decode c_Mo_comes 73 = .ok (.goto 4, 3) := by decide +kernel
theorem d_Mo_comes_76 : decode c_Mo_comes 76 = .ok (.iconst 0, 1) := by decide +kernel
theorem d_Mo_comes_77 : decode c_Mo_comes 77 = .ok (.istore 4, 2) := by decide +kernel
theorem d_Mo_comes_79 : decode c_Mo_comes 79 = .ok (.iload 4, 2) := by decide +kernel
theorem d_Mo_comes_81 : decode c_Mo_comes 81 = .ok (.ifCond .eq 37, 3) := by decide +kernel
theorem d_Mo_comes_84 : decode c_Mo_comes 84 = .ok (.aload_n 0, 1) := by decide +kernel
theorem d_Mo_comes_85 : decode c_Mo_comes 85 = .ok (.getfield 96, 3) := by decide +kernel
theorem d_Mo_comes_88 : decode c_Mo_comes 88 = .ok (.iload_n 2, 1) := by decide +kernel
theorem d_Mo_comes_89 : decode c_Mo_comes 89 = .ok (.aload_n 0, 1) := by decide +kernel
theorem d_Mo_comes_90 : decode c_Mo_comes 90 = .ok (.getfield 186, 3) := by decide +kernel
theorem d_Mo_comes_93 : decode c_Mo_comes 93 = .ok (.lastore, 1) := by decide +kernel
theorem d_Mo_comes_94 : decode c_Mo_comes 94 = .ok (.aload_n 0, 1) := by decide +kernel
theorem d_Mo_comes_95 : decode c_Mo_comes 95 = .ok (.getfield 93, 3) := by decide +kernel
theorem d_Mo_comes_98 : decode c_Mo_comes 98 = .ok (.iload_n 2, 1) := by decide +kernel
theorem d_Mo_comes_99 : decode c_Mo_comes 99 = .ok (.iconst 1, 1) := by decide +kernel
theorem d_Mo_comes_100 : decode c_Mo_comes 100 = .ok (.iastore, 1) := by decide +kernel
theorem d_Mo_comes_101 : decode c_Mo_comes 101 = .ok (.aload_n 0, 1) := by decide +kernel
theorem d_Mo_comes_102 : decode c_Mo_comes 102 = .ok (.iload_n 2, 1) := by decide +kernel
theorem d_Mo_comes_103 : decode c_Mo_comes 103 = .ok (.invokevirtual 326, 3) := by decide +kernel
theorem d_Mo_comes_106 : decode c_Mo_comes 106 = .ok (.aload_n 0, 1) := by decide +kernel
theorem d_Mo_comes_107 : decode c_Mo_comes 107 = .ok (.aload_n 0, 1) := by decide +kernel
theorem d_Mo_comes_108 : decode c_Mo_comes 108 = .ok (.getfield 25, 3) := by decide +kernel
theorem d_Mo_comes_111 : decode c_Mo_comes 111 = .ok (.iload_n 3, 1) := by decide +kernel
theorem d_Mo_comes_112 : decode c_Mo_comes 112 = .ok (.iaload, 1) := by decide +kernel
theorem d_Mo_comes_113 : decode c_Mo_comes 113 = .ok (.invokevirtual 308, 3) := by decide +kernel
theorem d_Mo_comes_116 : decode c_Mo_comes 116 = .ok (.iconst 1, 1) := by decide +kernel
theorem d_Mo_comes_117 : decode c_Mo_comes 117 = .ok (.ireturn, 1) := by decide +kernel
theorem d_Mo_comes_118 : decode c_Mo_comes 118 = .ok (.aload_n 0, 1) := by decide +kernel
theorem d_Mo_comes_119 : decode c_Mo_comes 119 = .ok (.getfield 7, 3) := by decide +kernel
theorem d_Mo_comes_122 : decode c_Mo_comes 122 = .ok (.iload_n 3, 1) := by decide +kernel
theorem d_Mo_comes_123 : decode c_Mo_comes 123 = .ok (.iaload, 1) := by decide +kernel
theorem d_Mo_comes_124 : decode c_Mo_comes 124 = .ok (.bipush 10, 2) := by decide +kernel
theorem d_Mo_comes_126 : decode c_Mo_comes 126 = .ok (.if_icmp .eq 14, 3) := by decide +kernel
theorem d_Mo_comes_129 : decode c_Mo_comes 129 = .ok (.aload_n 0, 1) := by decide +kernel
theorem d_Mo_comes_130 : decode c_Mo_comes 130 = .ok (.getfield 7, 3) := by decide +kernel
theorem d_Mo_comes_133 : decode c_Mo_comes 133 = .ok (.iload_n 3, 1) := by decide +kernel
theorem d_Mo_comes_134 : decode c_Mo_comes 134 = .ok (.iaload, 1) := by decide +kernel
theorem d_Mo_comes_135 : decode c_Mo_comes 135 = .ok (.bipush 11, 2) := by decide +kernel
theorem d_Mo_comes_137 : decode c_Mo_comes 137 = .ok (.if_icmp .ne 85, 3) := by decide +kernel
theorem d_Mo_comes_140 : decode c_Mo_comes 140 = .ok (.iload_n 1, 1) := by decide +kernel
theorem d_Mo_comes_141 : decode c_Mo_comes 141 = .ok (.ifCond .ne 5, 3) := by decide +kernel
theorem d_Mo_comes_144 : decode c_Mo_comes 144 = .ok (.iconst 0, 1) := by decide +kernel
theorem d_Mo_comes_145 : decode c_Mo_comes 145 = .ok (.ireturn, 1) := by decide +kernel
theorem d_Mo_comes_146 : decode c_Mo_comes 146 = .ok (.aload_n 0, 1) := by decide +kernel
theorem d_Mo_comes_147 : decode c_Mo_comes 147 = .ok (.dup, 1) := by decide +kernel
theorem d_Mo_comes_148 : decode c_Mo_comes 148 = .ok (.getfield 174, 3) := by decide +kernel
theorem d_Mo_comes_151 : decode c_Mo_comes 151 = .ok (.iconst 1, 1) := by decide +kernel
theorem d_Mo_comes_152 : decode c_Mo_comes 152 = .ok (.iadd, 1) := by decide +kernel
theorem d_Mo_comes_153 : decode c_Mo_comes 153 = .ok (.putfield 174, 3) := by decide +kernel
theorem d_Mo_comes_156 : decode c_Mo_comes 156 = .ok (.aload_n 0, 1) := by decide +kernel
theorem d_Mo_comes_157 : decode c_Mo_comes 157 = .ok (.getfield 7, 3) := by decide +kernel
theorem d_Mo_comes_160 : decode c_Mo_comes 160 = .ok (.iload_n 3, 1) := by decide +kernel
theorem d_Mo_comes_161 : decode c_Mo_comes 161 = .ok (.iaload, 1) := by decide +kernel
theorem d_Mo_comes_162 : decode c_Mo_comes 162 = .ok (.bipush 11, 2) := by decide +kernel
theorem d_Mo_comes_164 : decode c_Mo_comes 164 = .ok (.if_icmp .ne 16, 3) := by decide +kernel
theorem d_Mo_comes_167 : decode c_Mo_comes 167 = .ok (.aload_n 0, 1) := by decide +kernel
theorem d_Mo_comes_168 : decode c_Mo_comes 168 = .ok (.aload_n 0, 1) := by decide +kernel
theorem d_Mo_comes_169 : decode c_Mo_comes 169 = .ok (.getfield 13, 3) := by decide +kernel
theorem d_Mo_comes_172 : decode c_Mo_comes 172 = .ok (.iload_n 3, 1) := by decide +kernel
theorem d_Mo_comes_173 : decode c_Mo_comes 173 = .ok (.iaload, 1) := by decide +kernel
theorem d_Mo_comes_174 : decode c_Mo_comes 174 = .ok (.invokevirtual 329, 3) := by decide +kernel
theorem d_Mo_comes_177 : decode c_Mo_comes 177 = .ok (.goto 43, 3) := by decide +kernel
theorem d_Mo_comes_180 : decode c_Mo_comes 180 = .ok (.aload_n 0, 1) := by decide +kernel
theorem d_Mo_comes_181 : decode c_Mo_comes 181 = .ok (.getfield 96, 3) := by decide +kernel
theorem d_Mo_comes_184 : decode c_Mo_comes 184 = .ok (.iload_n 2, 1) := by decide +kernel
theorem d_Mo_comes_185 : decode c_Mo_comes 185 = .ok (.laload, 1) := by decide +kernel
theorem d_Mo_comes_186 : decode c_Mo_comes 186 = .ok (.lconst 0, 1) := by decide +kernel
theorem d_Mo_comes_187 : decode c_Mo_comes 187 = .ok (.lcmp, 1) := by decide +kernel
theorem d_Mo_comes_188 : decode c_Mo_comes 188 = .ok (.ifCond .lt 17, 3) := by decide +kernel
theorem d_Mo_comes_191 : decode c_Mo_comes 191 = .ok (.aload_n 0, 1) := by decide +kernel
theorem d_Mo_comes_192 : decode c_Mo_comes 192 = .ok (.aload_n 0, 1) := by decide +kernel
theorem d_Mo_comes_193 : decode c_Mo_comes 193 = .ok (.getfield 96, 3) := by decide +kernel
theorem d_Mo_comes_196 : decode c_Mo_comes 196 = .ok (.iload_n 2, 1) := by decide +kernel
theorem d_Mo_comes_197 : decode c_Mo_comes 197 = .ok (.laload, 1) := by decide +kernel
theorem d_Mo_comes_198 : decode c_Mo_comes 198 = .ok (.l2i, 1) := by decide +kernel
theorem d_Mo_comes_199 : decode c_Mo_comes 199 = .ok (.invokevirtual 332, 3) := by decide +kernel
theorem d_Mo_comes_202 : decode c_Mo_comes 202 = .ok (.goto 18, 3) := by decide +kernel
theorem d_Mo_comes_205 : decode c_Mo_comes 205 = .ok (.aload_n 0, 1) := by decide +kernel
theorem d_Mo_comes_206 : decode c_Mo_comes 206 = .ok (.ldc2_w 335, 3) := by decide +kernel
theorem d_Mo_comes_209 : decode c_Mo_comes 209 = .ok (.aload_n 0, 1) := by decide +kernel
theorem d_Mo_comes_210 : decode c_Mo_comes 210 = .ok (.getfield 96, 3) := by decide +kernel
theorem d_Mo_comes_213 : decode c_Mo_comes 213 = .ok (.iload_n 2, 1) := by decide +kernel
theorem d_Mo_comes_214 : decode c_Mo_comes 214 = .ok (.laload, 1) := by decide +kernel
theorem d_Mo_comes_215 : decode c_Mo_comes 215 = .ok (.lsub, 1) := by decide +kernel
theorem d_Mo_comes_216 : decode c_Mo_comes 216 = .ok (.l2i, 1) := by decide +kernel
theorem d_Mo_comes_217 : decode c_Mo_comes 217 = .ok (.invokevirtual 337, 3) := by decide +kernel
theorem d_Mo_comes_220 : decode c_Mo_comes 220 = .ok (.iconst 1, 1) := by decide +kernel
theorem d_Mo_comes_221 : decode c_Mo_comes 221 = .ok (.ireturn, 1) := by decide +kernel
theorem d_Mo_comes_222 : decode c_Mo_comes 222 = .ok (.aload_n 0, 1) := by decide +kernel
theorem d_Mo_comes_223 : decode c_Mo_comes 223 = .ok (.iload_n 2, 1) := by decide +kernel
theorem d_Mo_comes_224 : decode c_Mo_comes 224 = .ok (.iload_n 3, 1) := by decide +kernel
theorem d_Mo_comes_225 : decode c_Mo_comes 225 = .ok (.invokevirtual 340, 3) := by decide +kernel
theorem d_Mo_comes_228 : decode c_Mo_comes 228 = .ok (.iconst 1, 1) := by decide +kernel
theorem d_Mo_comes_229 : decode c_Mo_comes 229 = .ok (.ireturn, 1) := by decide +kernel
theorem d_Mo_goesBehind_0 : decode c_Mo_goesBehind 0 = .ok (.aload_n 0, 1) := by decide +kernel
theorem d_Mo_goesBehind_1 : decode c_Mo_goesBehind 1 = .ok (.getfield 7, 3) := by decide +kernel
theorem d_Mo_goesBehind_4 : decode c_Mo_goesBehind 4 = .ok (.iload_n 2, 1) := by decide +kernel
theorem d_Mo_goesBehind_5 : decode c_Mo_goesBehind 5 = .ok (.iaload, 1) := by decide +kernel
theorem d_Mo_goesBehind_6 : decode c_Mo_goesBehind 6 = .ok (.bipush 9, 2) := by decide +kernel
theorem d_Mo_goesBehind_8 : decode c_Mo_goesBehind 8 = .ok (.if_icmp .ne 40, 3) := by decide +kernel
theorem d_Mo_goesBehind_11 : decode c_Mo_goesBehind 11 = .ok (.aload_n 0, 1) := by decide +kernel
theorem d_Mo_goesBehind_12 : decode c_Mo_goesBehind 12 = .ok (.aload_n 0, 1) := by decide +kernel
theorem d_Mo_goesBehind_13 : decode c_Mo_goesBehind 13 = .ok (.getfield 13, 3) := by decide +kernel
theorem d_Mo_goesBehind_16 : decode c_Mo_goesBehind 16 = .ok (.iload_n 2, 1) := by decide +kernel
theorem d_Mo_goesBehind_17 : decode c_Mo_goesBehind 17 = .ok (.iaload, 1) := by decide +kernel
theorem d_Mo_goesBehind_18 : decode c_Mo_goesBehind 18 = .ok (.aload_n 0, 1) := by decide +kernel
theorem d_Mo_goesBehind_19 : decode c_Mo_goesBehind 19 = .ok (.getfield 96, 3) := by decide +kernel
theorem d_Mo_goesBehind_22 : decode c_Mo_goesBehind 22 = .ok (.iload_n 1, 1) := by decide +kernel
theorem d_Mo_goesBehind_23 : decode c_Mo_goesBehind 23 = .ok (.laload, 1) := by decide +kernel
theorem d_Mo_goesBehind_24 : decode c_Mo_goesBehind 24 = .ok (.l2i, 1) := by decide +kernel
theorem d_Mo_goesBehind_25 : decode c_Mo_goesBehind 25 = .ok (.aload_n 0, 1) := by decide +kernel
theorem d_Mo_goesBehind_26 : decode c_Mo_goesBehind 26 = .ok (.getfield 186, 3) := by decide +kernel
theorem d_Mo_goesBehind_29 : decode c_Mo_goesBehind 29 = .ok (.l2i, 1) := by decide +kernel
theorem d_Mo_goesBehind_30 : decode c_Mo_goesBehind 30 = .ok (.invokestatic 343, 3) := by decide +kernel
theorem d_Mo_goesBehind_33 : decode c_Mo_goesBehind 33 = .ok (.i2l, 1) := by decide +kernel
theorem d_Mo_goesBehind_34 : decode c_Mo_goesBehind 34 = .ok (.invokevirtual 301, 3) := by decide +kernel
theorem d_Mo_goesBehind_37 : decode c_Mo_goesBehind 37 = .ok (.aload_n 0, 1) := by decide +kernel
theorem d_Mo_goesBehind_38 : decode c_Mo_goesBehind 38 = .ok (.dup, 1) := by decide +kernel
theorem d_Mo_goesBehind_39 : decode c_Mo_goesBehind 39 = .ok (.getfield 283, 3) := by decide +kernel
theorem d_Mo_goesBehind_42 : decode c_Mo_goesBehind 42 = .ok (.iconst 1, 1) := by decide +kernel
theorem d_Mo_goesBehind_43 : decode c_Mo_goesBehind 43 = .ok (.isub, 1) := by decide +kernel
theorem d_Mo_goesBehind_44 : decode c_Mo_goesBehind 44 = .ok (.putfield 283, 3) := by decide +kernel
theorem d_Mo_goesBehind_47 : decode c_Mo_goesBehind 47 = .ok (.return_, 1) := by decide +kernel
theorem d_Mo_goesBehind_48 : decode c_Mo_goesBehind 48 = .ok (.aload_n 0, 1) := by decide +kernel
theorem d_Mo_goesBehind_49 : decode c_Mo_goesBehind 49 = .ok (.iload_n 1, 1) := by decide +kernel
theorem d_Mo_goesBehind_50 : decode c_Mo_goesBehind 50 = .ok (.invokevirtual 326, 3) := by decide +kernel
theorem d_Mo_goesBehind_53 : decode c_Mo_goesBehind 53 = .ok (.aload_n 0, 1) := by decide +kernel
theorem d_Mo_goesBehind_54 : decode c_Mo_goesBehind 54 = .ok (.dup, 1) := by decide +kernel
theorem d_Mo_goesBehind_55 : decode c_Mo_goesBehind 55 = .ok (.getfield 283, 3) := by decide +kernel
theorem d_Mo_goesBehind_58 : decode c_Mo_goesBehind 58 = .ok (.iconst 1, 1) := by decide +kernel
theorem d_Mo_goesBehind_59 : decode c_Mo_goesBehind 59 = .ok (.isub, 1) := by decide +kernel
theorem d_Mo_goesBehind_60 : decode c_Mo_goesBehind 60 = .ok (.putfield 283, 3) := by decide +kernel
theorem d_Mo_goesBehind_63 : decode c_Mo_goesBehind 63 = .ok (.aload_n 0, 1) := by decide +kernel
theorem d_Mo_goesBehind_64 : decode c_Mo_goesBehind 64 = .ok (.getfield 7, 3) := by decide +kernel
theorem d_Mo_goesBehind_67 : decode c_Mo_goesBehind 67 = .ok (.iload_n 2, 1) := by decide +kernel
theorem d_Mo_goesBehind_68 : decode c_Mo_goesBehind 68 = .ok (.iaload, 1) := by decide +kernel
theorem d_Mo_goesBehind_69 : decode c_Mo_goesBehind 69 = .ok (.bipush 6, 2) := by decide +kernel
theorem d_Mo_goesBehind_71 : decode c_Mo_goesBehind 71 = .ok (.if_icmp .ne 34, 3) := by decide +kernel
theorem d_Mo_goesBehind_74 : decode c_Mo_goesBehind 74 = .ok (.aload_n 0, 1) := by decide +kernel
theorem d_Mo_goesBehind_75 : decode c_Mo_goesBehind 75 = .ok (.aload_n 0, 1) := by decide +kernel
theorem d_Mo_goesBehind_76 : decode c_Mo_goesBehind 76 = .ok (.getfield 186, 3) := by decide +kernel
theorem d_Mo_goesBehind_79 : decode c_Mo_goesBehind 79 = .ok (.lconst 0, 1) := by decide +kernel
theorem d_Mo_goesBehind_80 : decode c_Mo_goesBehind 80 = .ok (.lcmp, 1) := by decide +kernel
theorem d_Mo_goesBehind_81 : decode c_Mo_goesBehind 81 = .ok (.ifCond .eq 12, 3) := by decide +kernel
theorem d_Mo_goesBehind_84 : decode c_Mo_goesBehind 84 = .ok (.aload_n 0, 1) := by decide +kernel
theorem d_Mo_goesBehind_85 : decode c_Mo_goesBehind 85 = .ok (.getfield 25, 3) := by decide +kernel
theorem d_Mo_goesBehind_88 : decode c_Mo_goesBehind 88 = .ok (.iload_n 2, 1) := by decide +kernel
theorem d_Mo_goesBehind_89 : decode c_Mo_goesBehind 89 = .ok (.iaload, 1) := by decide +kernel
theorem d_Mo_goesBehind_90 : decode c_Mo_goesBehind 90 = .ok (.goto 9, 3) := by decide +kernel
theorem d_Mo_goesBehind_93 : decode c_Mo_goesBehind 93 = .ok (.aload_n 0, 1) := by decide +kernel
theorem d_Mo_goesBehind_94 : decode c_Mo_goesBehind 94 = .ok (.getfield 28, 3) := by decide +kernel
theorem d_Mo_goesBehind_97 : decode c_Mo_goesBehind 97 = .ok (.iload_n 2, 1) := by decide +kernel
theorem d_Mo_goesBehind_98 : decode c_Mo_goesBehind 98 = .ok (.iaload, 1) := by decide +kernel
theorem d_Mo_goesBehind_99 : decode c_Mo_goesBehind 99 = .ok (.invokevirtual 308, 3) := by decide +kernel
theorem d_Mo_goesBehind_102 : decode c_Mo_goesBehind 102 = .ok (.goto 52, 3) := by decide +kernel
theorem d_Mo_goesBehind_105 : decode c_Mo_goesBehind 105 = .ok (.aload_n 0, 1) := by decide +kernel
theorem d_Mo_goesBehind_106 : decode c_Mo_goesBehind 106 = .ok (.getfield 104, 3) := by decide +kernel
theorem d_Mo_goesBehind_109 : decode c_Mo_goesBehind 109 = .ok (.aload_n 0, 1) := by decide +kernel
theorem d_Mo_goesBehind_110 : decode c_Mo_goesBehind 110 = .ok (.getfield 13, 3) := by decide +kernel
theorem d_Mo_goesBehind_113 : decode c_Mo_goesBehind 113 = .ok (.iload_n 2, 1) := by decide +kernel
theorem d_Mo_goesBehind_114 : decode c_Mo_goesBehind 114 = .ok (.iaload, 1) := by decide +kernel
theorem d_Mo_goesBehind_115 : decode c_Mo_goesBehind 115 = .ok (.aload_n 0, 1) := by decide +kernel
theorem d_Mo_goesBehind_116 : decode c_Mo_goesBehind 116 = .ok (.getfield 186, 3) := by decide +kernel
theorem d_Mo_goesBehind_119 : decode c_Mo_goesBehind 119 = .ok (.lastore, 1) := by decide +kernel
theorem d_Mo_goesBehind_120 : decode c_Mo_goesBehind 120 = .ok (.aload_n 0, 1) := by decide +kernel
theorem d_Mo_goesBehind_121 : decode c_Mo_goesBehind 121 = .ok (.getfield 7, 3) := by decide +kernel
theorem d_Mo_goesBehind_124 : decode c_Mo_goesBehind 124 = .ok (.iload_n 2, 1) := by decide +kernel
theorem d_Mo_goesBehind_125 : decode c_Mo_goesBehind 125 = .ok (.iaload, 1) := by decide +kernel
theorem d_Mo_goesBehind_126 : decode c_Mo_goesBehind 126 = .ok (.bipush 8, 2) := by decide +kernel
theorem d_Mo_goesBehind_128 : decode c_Mo_goesBehind 128 = .ok (.if_icmp .ne 16, 3) := by decide +kernel
theorem d_Mo_goesBehind_131 : decode c_Mo_goesBehind 131 = .ok (.aload_n 0, 1) := by decide +kernel
theorem d_Mo_goesBehind_132 : decode c_Mo_goesBehind 132 = .ok (.aload_n 0, 1) := by decide +kernel
theorem d_Mo_goesBehind_133 : decode c_Mo_goesBehind 133 = .ok (.getfield 25, 3) := by decide +kernel
theorem d_Mo_goesBehind_136 : decode c_Mo_goesBehind 136 = .ok (.iload_n 2, 1) := by decide +kernel
theorem d_Mo_goesBehind_137 : decode c_Mo_goesBehind 137 = .ok (.iaload, 1) := by decide +kernel
theorem d_Mo_goesBehind_138 : decode c_Mo_goesBehind 138 = .ok (.invokevirtual 314, 3) := by decide +kernel
theorem d_Mo_goesBehind_141 : decode c_Mo_goesBehind 141 = .ok (.goto 13, 3) := by decide +kernel
theorem d_Mo_goesBehind_144 : decode c_Mo_goesBehind 144 = .ok (.aload_n 0, 1) := by decide +kernel
theorem d_Mo_goesBehind_145 : decode c_Mo_goesBehind 145 = .ok (.aload_n 0, 1) := by decide +kernel
theorem d_Mo_goesBehind_146 : decode c_Mo_goesBehind 146 = .ok (.getfield 25, 3) := by decide +kernel
theorem d_Mo_goesBehind_149 : decode c_Mo_goesBehind 149 = .ok (.iload_n 2, 1) := by decide +kernel
theorem d_Mo_goesBehind_150 : decode c_Mo_goesBehind 150 = .ok (.iaload, 1) := by decide +kernel
theorem d_Mo_goesBehind_151 : decode c_Mo_goesBehind 151 = .ok (.invokevirtual 308, 3) := by decide +kernel
theorem d_Mo_goesBehind_154 : decode c_Mo_goesBehind 154 = .ok (.return_, 1) := by decide +kernel
theorem d_Mo_run_0 : decode c_Mo_run 0 = .ok (.aload_n 0, 1) := by decide +kernel
theorem d_Mo_run_1 : decode c_Mo_run 1 = .ok (.aload_n 0, 1) := by decide +kernel
theorem d_Mo_run_2 : decode c_Mo_run 2 = .ok (.getfield 161, 3) := by decide +kernel
theorem d_Mo_run_5 : decode c_Mo_run 5 = .ok (.ifCond .ne 7, 3) := by decide +kernel
theorem d_Mo_run_8 : decode c_Mo_run 8 = .ok (.iconst 1, 1) := by decide +kernel
theorem d_Mo_run_9 : decode c_Mo_run 9 = .ok (.goto 19, 3) := by decide +kernel
theorem d_Mo_run_12 : decode c_Mo_run 12 = .ok (.iload_n 1, 1) := by decide +kernel
theorem d_Mo_run_13 : decode c_Mo_run 13 = .ok (.ifCond .lt 10, 3) := by decide +kernel
theorem d_Mo_run_16 : decode c_Mo_run 16 = .ok (.iload_n 1, 1) := by decide +kernel
theorem d_Mo_run_17 : decode c_Mo_run 17 = .ok (.sipush 200, 3) := by decide +kernel
theorem d_Mo_run_20 : decode c_Mo_run 20 = .ok (.if_icmp .le 7, 3) := by decide +kernel
theorem d_Mo_run_23 : decode c_Mo_run 23 = .ok (.iconst 2, 1) := by decide +kernel
theorem d_Mo_run_24 : decode c_Mo_run 24 = .ok (.goto 4, 3) := by decide +kernel
theorem d_Mo_run_27 : decode c_Mo_run 27 = .ok (.iconst 0, 1) := by decide +kernel
theorem d_Mo_run_28 : decode c_Mo_run 28 = .ok (.putfield 142, 3) := by decide +kernel
theorem d_Mo_run_31 : decode c_Mo_run 31 = .ok (.aload_n 0, 1) := by decide +kernel
theorem d_Mo_run_32 : decode c_Mo_run 32 = .ok (.getfield 142, 3) := by decide +kernel
theorem d_Mo_run_35 : decode c_Mo_run 35 = .ok (.ifCond .eq 5, 3) := by decide +kernel
theorem d_Mo_run_38 : decode c_Mo_run 38 = .ok (.iconst 0, 1) := by decide +kernel
theorem d_Mo_run_39 : decode c_Mo_run 39 = .ok (.ireturn, 1) := by decide +kernel
theorem d_Mo_run_40 : decode c_Mo_run 40 = .ok (.aload_n 0, 1) := by decide +kernel
theorem d_Mo_run_41 : decode c_Mo_run 41 = .ok (.getfield 174, 3) := by decide +kernel
theorem d_Mo_run_44 : decode c_Mo_run 44 = .ok (.istore_n 2, 1) := by decide +kernel
theorem d_Mo_run_45 : decode c_Mo_run 45 = .ok (.iconst 1, 1) := by decide +kernel
theorem d_Mo_run_46 : decode c_Mo_run 46 = .ok (.istore_n 3, 1) := by decide +kernel
theorem d_Mo_run_47 : decode c_Mo_run 47 = .ok (.iload_n 3, 1) := by decide +kernel
theorem d_Mo_run_48 : decode c_Mo_run 48 = .ok (.ifCond .eq 56, 3) := by decide +kernel
theorem d_Mo_run_51 : decode c_Mo_run 51 = .ok (.aload_n 0, 1) := by decide +kernel
theorem d_Mo_run_52 : decode c_Mo_run 52 = .ok (.getfield 161, 3) := by decide +kernel
theorem d_Mo_run_55 : decode c_Mo_run 55 = .ok (.iconst 1, 1) := by decide +kernel
theorem d_Mo_run_56 : decode c_Mo_run 56 = .ok (.if_icmp .ne 48, 3) := by decide +kernel
theorem d_Mo_run_59 : decode c_Mo_run 59 = .ok (.aload_n 0, 1) := by decide +kernel
theorem d_Mo_run_60 : decode c_Mo_run 60 = .ok (.getfield 289, 3) := by decide +kernel
theorem d_Mo_run_63 : decode c_Mo_run 63 = .ok (.ifCond .ne 10, 3) := by decide +kernel
theorem d_Mo_run_66 : decode c_Mo_run 66 = .ok (.aload_n 0, 1) := by decide +kernel
theorem d_Mo_run_67 : decode c_Mo_run 67 = .ok (.invokevirtual 346, 3) := by decide +kernel
theorem d_Mo_run_70 : decode c_Mo_run 70 = .ok (.goto (-23), 3) := by decide +kernel
theorem d_Mo_run_73 : decode c_Mo_run 73 = .ok (.aload_n 0, 1) := by decide +kernel
theorem d_Mo_run_74 : decode c_Mo_run 74 = .ok (.getfield 283, 3) := by decide +kernel
theorem d_Mo_run_77 : decode c_Mo_run 77 = .ok (.ifCond .ne 11, 3) := by decide +kernel
theorem d_Mo_run_80 : decode c_Mo_run 80 = .ok (.aload_n 0, 1) := by decide +kernel
theorem d_Mo_run_81 : decode c_Mo_run 81 = .ok (.iconst 2, 1) := by decide +kernel
theorem d_Mo_run_82 : decode c_Mo_run 82 = .ok (.putfield 161, 3) := by decide +kernel
theorem d_Mo_run_85 : decode c_Mo_run 85 = .ok (.goto (-38), 3) := by decide +kernel
theorem d_Mo_run_88 : decode c_Mo_run 88 = .ok (.aload_n 0, 1) := by decide +kernel
theorem d_Mo_run_89 : decode c_Mo_run 89 = .ok (.iload_n 1, 1) := by decide +kernel
theorem d_Mo_run_90 : decode c_Mo_run 90 = .ok (.aload_n 0, 1) := by decide +kernel
theorem d_Mo_run_91 : decode c_Mo_run 91 = .ok (.getfield 174, 3) := by decide +kernel
theorem d_Mo_run_94 : decode c_Mo_run 94 = .ok (.iload_n 2, 1) := by decide +kernel
theorem d_Mo_run_95 : decode c_Mo_run 95 = .ok (.isub, 1) := by decide +kernel
theorem d_Mo_run_96 : decode c_Mo_run 96 = .ok (.isub, 1) := by decide +kernel
theorem d_Mo_run_97 : decode c_Mo_run 97 = .ok (.invokevirtual 349, 3) := by decide +kernel
theorem d_Mo_run_100 : decode c_Mo_run 100 = .ok (.istore_n 3, 1) := by decide +kernel
theorem d_Mo_run_101 : decode c_Mo_run 101 = .ok (.goto (-54), 3) := by decide +kernel
theorem d_Mo_run_104 : decode c_Mo_run 104 = .ok (.aload_n 0, 1) := by decide +kernel
theorem d_Mo_run_105 : decode c_Mo_run 105 = .ok (.getfield 174, 3) := by decide +kernel
theorem d_Mo_run_108 : decode c_Mo_run 108 = .ok (.iload_n 2, 1) := by decide +kernel
theorem d_Mo_run_109 : decode c_Mo_run 109 = .ok (.isub, 1) := by decide +kernel
theorem d_Mo_run_110 : decode c_Mo_run 110 = .ok (.ireturn, 1) := by decide +kernel
theorem d_Mo_state_0 : decode c_Mo_state 0 = .ok (.aload_n 0, 1) := by decide +kernel
theorem d_Mo_state_1 : decode c_Mo_state 1 = .ok (.iconst 0, 1) := by decide +kernel
theorem d_Mo_state_2 : decode c_Mo_state 2 = .ok (.putfield 142, 3) := by decide +kernel
theorem d_Mo_state_5 : decode c_Mo_state 5 = .ok (.iload_n 1, 1) := by decide +kernel
theorem d_Mo_state_6 : decode c_Mo_state 6 = .ok (.tableswitch 134 0 5 #[38, 43, 69, 85, 101, 117], 38) := by decide +kernel
theorem d_Mo_state_44 : decode c_Mo_state 44 = .ok (.aload_n 0, 1) := by decide +kernel
theorem d_Mo_state_45 : decode c_Mo_state 45 = .ok (.getfield 161, 3) := by decide +kernel
theorem d_Mo_state_48 : decode c_Mo_state 48 = .ok (.ireturn, 1) := by decide +kernel
theorem d_Mo_state_49 : decode c_Mo_state 49 = .ok (.aload_n 0, 1) := by decide +kernel
theorem d_Mo_state_50 : decode c_Mo_state 50 = .ok (.getfield 161, 3) := by decide +kernel
theorem d_Mo_state_53 : decode c_Mo_state 53 = .ok (.iconst 2, 1) := by decide +kernel
theorem d_Mo_state_54 : decode c_Mo_state 54 = .ok (.if_icmp .ne 11, 3) := by decide +kernel
theorem d_Mo_state_57 : decode c_Mo_state 57 = .ok (.aload_n 0, 1) := by decide +kernel
theorem d_Mo_state_58 : decode c_Mo_state 58 = .ok (.getfield 277, 3) := by decide +kernel
theorem d_Mo_state_61 : decode c_Mo_state 61 = .ok (.iconst 3, 1) := by decide +kernel
theorem d_Mo_state_62 : decode c_Mo_state 62 = .ok (.if_icmp .lt 7, 3) := by decide +kernel
theorem d_Mo_state_65 : decode c_Mo_state 65 = .ok (.iconst 0, 1) := by decide +kernel
theorem d_Mo_state_66 : decode c_Mo_state 66 = .ok (.goto 8, 3) := by decide +kernel
theorem d_Mo_state_69 : decode c_Mo_state 69 = .ok (.aload_n 0, 1) := by decide +kernel
theorem d_Mo_state_70 : decode c_Mo_state 70 = .ok (.getfield 186, 3) := by decide +kernel
theorem d_Mo_state_73 : decode c_Mo_state 73 = .ok (.l2i, 1) := by decide +kernel
theorem d_Mo_state_74 : decode c_Mo_state 74 = .ok (.ireturn, 1) := by decide +kernel
theorem d_Mo_state_75 : decode c_Mo_state 75 = .ok (.aload_n 0, 1) := by decide +kernel
theorem d_Mo_state_76 : decode c_Mo_state 76 = .ok (.getfield 161, 3) := by decide +kernel
theorem d_Mo_state_79 : decode c_Mo_state 79 = .ok (.ifCond .ne 7, 3) := by decide +kernel
theorem d_Mo_state_82 : decode c_Mo_state 82 = .ok (.iconst 0, 1) := by decide +kernel
theorem d_Mo_state_83 : decode c_Mo_state 83 = .ok (.goto 7, 3) := by decide +kernel
theorem d_Mo_state_86 : decode c_Mo_state 86 = .ok (.aload_n 0, 1) := by decide +kernel
theorem d_Mo_state_87 : decode c_Mo_state 87 = .ok (.getfield 174, 3) := by decide +kernel
theorem d_Mo_state_90 : decode c_Mo_state 90 = .ok (.ireturn, 1) := by decide +kernel
theorem d_Mo_state_91 : decode c_Mo_state 91 = .ok (.aload_n 0, 1) := by decide +kernel
theorem d_Mo_state_92 : decode c_Mo_state 92 = .ok (.getfield 161, 3) := by decide +kernel
theorem d_Mo_state_95 : decode c_Mo_state 95 = .ok (.ifCond .ne 7, 3) := by decide +kernel
theorem d_Mo_state_98 : decode c_Mo_state 98 = .ok (.iconst 0, 1) := by decide +kernel
theorem d_Mo_state_99 : decode c_Mo_state 99 = .ok (.goto 7, 3) := by decide +kernel
theorem d_Mo_state_102 : decode c_Mo_state 102 = .ok (.aload_n 0, 1) := by decide +kernel
theorem d_Mo_state_103 : decode c_Mo_state 103 = .ok (.getfield 177, 3) := by decide +kernel
theorem d_Mo_state_106 : decode c_Mo_state 106 = .ok (.ireturn, 1) := by decide +kernel
theorem d_Mo_state_107 : decode c_Mo_state 107 = .ok (.aload_n 0, 1) := by decide +kernel
theorem d_Mo_state_108 : decode c_Mo_state 108 = .ok (.getfield 161, 3) := by decide +kernel
theorem d_Mo_state_111 : decode c_Mo_state 111 = .ok (.ifCond .ne 7, 3) := by decide +kernel
theorem d_Mo_state_114 : decode c_Mo_state 114 = .ok (.iconst 0, 1) := by decide +kernel
theorem d_Mo_state_115 : decode c_Mo_state 115 = .ok (.goto 7, 3) := by decide +kernel
theorem d_Mo_state_118 : decode c_Mo_state 118 = .ok (.aload_n 0, 1) := by decide +kernel
theorem d_Mo_state_119 : decode c_Mo_state 119 = .ok (.getfield 180, 3) := by decide +kernel
theorem d_Mo_state_122 : decode c_Mo_state 122 = .ok (.ireturn, 1) := by decide +kernel
theorem d_Mo_state_123 : decode c_Mo_state 123 = .ok (.aload_n 0, 1) := by decide +kernel
theorem d_Mo_state_124 : decode c_Mo_state 124 = .ok (.getfield 161, 3) := by decide +kernel
theorem d_Mo_state_127 : decode c_Mo_state 127 = .ok (.iconst 4, 1) := by decide +kernel
theorem d_Mo_state_128 : decode c_Mo_state 128 = .ok (.if_icmp .ne 10, 3) := by decide +kernel
theorem d_Mo_state_131 : decode c_Mo_state 131 = .ok (.aload_n 0, 1) := by decide +kernel
theorem d_Mo_state_132 : decode c_Mo_state 132 = .ok (.getfield 183, 3) := by decide +kernel
theorem d_Mo_state_135 : decode c_Mo_state 135 = .ok (.goto 4, 3) := by decide +kernel
theorem d_Mo_state_138 : decode c_Mo_state 138 = .ok (.iconst (-1), 1) := by decide +kernel
theorem d_Mo_state_139 : decode c_Mo_state 139 = .ok (.ireturn, 1) := by decide +kernel
theorem d_Mo_state_140 : decode c_Mo_state 140 = .ok (.iconst (-1), 1) := by decide +kernel
theorem d_Mo_state_141 : decode c_Mo_state 141 = .ok (.ireturn, 1) := by decide +kernel
