theorem dX12_init_0 : decode cX12_init 0 = .ok (.aload_n 0, 1) := by decide +kernel
theorem dX12_init_1 : decode cX12_init 1 = .ok (.invokespecial 1, 3) := by decide +kernel
theorem dX12_init_4 : decode cX12_init 4 = .ok (.aload_n 0, 1) := by decide +kernel
theorem dX12_init_5 : decode cX12_init 5 = .ok (.bipush 12, 2) := by decide +kernel
theorem dX12_init_7 : decode cX12_init 7 = .ok (.newarray .int, 2) := by decide +kernel
theorem dX12_init_9 : decode cX12_init 9 = .ok (.putfield 7, 3) := by decide +kernel
theorem dX12_init_12 : decode cX12_init 12 = .ok (.aload_n 0, 1) := by decide +kernel
theorem dX12_init_13 : decode cX12_init 13 = .ok (.bipush 12, 2) := by decide +kernel
theorem dX12_init_15 : decode cX12_init 15 = .ok (.newarray .int, 2) := by decide +kernel
theorem dX12_init_17 : decode cX12_init 17 = .ok (.putfield 13, 3) := by decide +kernel
theorem dX12_init_20 : decode cX12_init 20 = .ok (.aload_n 0, 1) := by decide +kernel
theorem dX12_init_21 : decode cX12_init 21 = .ok (.bipush 40, 2) := by decide +kernel
theorem dX12_init_23 : decode cX12_init 23 = .ok (.newarray .int, 2) := by decide +kernel
theorem dX12_init_25 : decode cX12_init 25 = .ok (.putfield 16, 3) := by decide +kernel
theorem dX12_init_28 : decode cX12_init 28 = .ok (.aload_n 0, 1) := by decide +kernel
theorem dX12_init_29 : decode cX12_init 29 = .ok (.bipush 40, 2) := by decide +kernel
theorem dX12_init_31 : decode cX12_init 31 = .ok (.newarray .int, 2) := by decide +kernel
theorem dX12_init_33 : decode cX12_init 33 = .ok (.putfield 19, 3) := by decide +kernel
theorem dX12_init_36 : decode cX12_init 36 = .ok (.aload_n 0, 1) := by decide +kernel
theorem dX12_init_37 : decode cX12_init 37 = .ok (.bipush 40, 2) := by decide +kernel
theorem dX12_init_39 : decode cX12_init 39 = .ok (.newarray .int, 2) := by decide +kernel
theorem dX12_init_41 : decode cX12_init 41 = .ok (.putfield 22, 3) := by decide +kernel
theorem dX12_init_44 : decode cX12_init 44 = .ok (.aload_n 0, 1) := by decide +kernel
theorem dX12_init_45 : decode cX12_init 45 = .ok (.bipush 40, 2) := by decide +kernel
theorem dX12_init_47 : decode cX12_init 47 = .ok (.newarray .int, 2) := by decide +kernel
theorem dX12_init_49 : decode cX12_init 49 = .ok (.putfield 25, 3) := by decide +kernel
theorem dX12_init_52 : decode cX12_init 52 = .ok (.aload_n 0, 1) := by decide +kernel
theorem dX12_init_53 : decode cX12_init 53 = .ok (.bipush 40, 2) := by decide +kernel
theorem dX12_init_55 : decode cX12_init 55 = .ok (.newarray .int, 2) := by decide +kernel
theorem dX12_init_57 : decode cX12_init 57 = .ok (.putfield 28, 3) := by decide +kernel
theorem dX12_init_60 : decode cX12_init 60 = .ok (.aload_n 0, 1) := by decide +kernel
theorem dX12_init_61 : decode cX12_init 61 = .ok (.bipush 40, 2) := by decide +kernel
theorem dX12_init_63 : decode cX12_init 63 = .ok (.newarray .int, 2) := by decide +kernel
theorem dX12_init_65 : decode cX12_init 65 = .ok (.putfield 31, 3) := by decide +kernel
theorem dX12_init_68 : decode cX12_init 68 = .ok (.aload_n 0, 1) := by decide +kernel
theorem dX12_init_69 : decode cX12_init 69 = .ok (.bipush 40, 2) := by decide +kernel
theorem dX12_init_71 : decode cX12_init 71 = .ok (.newarray .int, 2) := by decide +kernel
theorem dX12_init_73 : decode cX12_init 73 = .ok (.putfield 34, 3) := by decide +kernel
theorem dX12_init_76 : decode cX12_init 76 = .ok (.aload_n 0, 1) := by decide +kernel
theorem dX12_init_77 : decode cX12_init 77 = .ok (.bipush 40, 2) := by decide +kernel
theorem dX12_init_79 : decode cX12_init 79 = .ok (.newarray .int, 2) := by decide +kernel
theorem dX12_init_81 : decode cX12_init 81 = .ok (.putfield 37, 3) := by decide +kernel
theorem dX12_init_84 : decode cX12_init 84 = .ok (.aload_n 0, 1) := by decide +kernel
theorem dX12_init_85 : decode cX12_init 85 = .ok (.bipush 40, 2) := by decide +kernel
theorem dX12_init_87 : decode cX12_init 87 = .ok (.newarray .int, 2) := by decide +kernel
theorem dX12_init_89 : decode cX12_init 89 = .ok (.putfield 40, 3) := by decide +kernel
theorem dX12_init_92 : decode cX12_init 92 = .ok (.aload_n 0, 1) := by decide +kernel
theorem dX12_init_93 : decode cX12_init 93 = .ok (.bipush 40, 2) := by decide +kernel
theorem dX12_init_95 : decode cX12_init 95 = .ok (.newarray .int, 2) := by decide +kernel
theorem dX12_init_97 : decode cX12_init 97 = .ok (.putfield 43, 3) := by decide +kernel
theorem dX12_init_100 : decode cX12_init 100 = .ok (.aload_n 0, 1) := by decide +kernel
theorem dX12_init_101 : decode cX12_init 101 = .ok (.bipush 40, 2) := by decide +kernel
theorem dX12_init_103 : decode cX12_init 103 = .ok (.newarray .int, 2) := by decide +kernel
theorem dX12_init_105 : decode cX12_init 105 = .ok (.putfield 46, 3) := by decide +kernel
theorem dX12_init_108 : decode cX12_init 108 = .ok (.aload_n 0, 1) := by decide +kernel
theorem dX12_init_109 : decode cX12_init 109 = .ok (.bipush 40, 2) := by decide +kernel
theorem dX12_init_111 : decode cX12_init 111 = .ok (.newarray .int, 2) := by decide +kernel
theorem dX12_init_113 : decode cX12_init 113 = .ok (.putfield 49, 3) := by decide +kernel
theorem dX12_init_116 : decode cX12_init 116 = .ok (.aload_n 0, 1) := by decide +kernel
theorem dX12_init_117 : decode cX12_init 117 = .ok (.bipush 40, 2) := by decide +kernel
theorem dX12_init_119 : decode cX12_init 119 = .ok (.newarray .int, 2) := by decide +kernel
theorem dX12_init_121 : decode cX12_init 121 = .ok (.putfield 52, 3) := by decide +kernel
theorem dX12_init_124 : decode cX12_init 124 = .ok (.aload_n 0, 1) := by decide +kernel
theorem dX12_init_125 : decode cX12_init 125 = .ok (.bipush 40, 2) := by decide +kernel
theorem dX12_init_127 : decode cX12_init 127 = .ok (.newarray .int, 2) := by decide +kernel
theorem dX12_init_129 : decode cX12_init 129 = .ok (.putfield 55, 3) := by decide +kernel
theorem dX12_init_132 : decode cX12_init 132 = .ok (.aload_n 0, 1) := by decide +kernel
theorem dX12_init_133 : decode cX12_init 133 = .ok (.iconst 1, 1) := by decide +kernel
theorem dX12_init_134 : decode cX12_init 134 = .ok (.putfield 58, 3) := by decide +kernel
theorem dX12_init_137 : decode cX12_init 137 = .ok (.aload_n 0, 1) := by decide +kernel
theorem dX12_init_138 : decode cX12_init 138 = .ok (.sipush 600, 3) := by decide +kernel
theorem dX12_init_141 : decode cX12_init 141 = .ok (.putfield 62, 3) := by decide +kernel
theorem dX12_init_144 : decode cX12_init 144 = .ok (.aload_n 0, 1) := by decide +kernel
theorem dX12_init_145 : decode cX12_init 145 = .ok (.iconst 4, 1) := by decide +kernel
theorem dX12_init_146 : decode cX12_init 146 = .ok (.newarray .int, 2) := by decide +kernel
theorem dX12_init_148 : decode cX12_init 148 = .ok (.dup, 1) := by decide +kernel
theorem dX12_init_149 : decode cX12_init 149 = .ok (.iconst 0, 1) := by decide +kernel
theorem dX12_init_150 : decode cX12_init 150 = .ok (.iconst 4, 1) := by decide +kernel
theorem dX12_init_151 : decode cX12_init 151 = .ok (.iastore, 1) := by decide +kernel
theorem dX12_init_152 : decode cX12_init 152 = .ok (.dup, 1) := by decide +kernel
theorem dX12_init_153 : decode cX12_init 153 = .ok (.iconst 1, 1) := by decide +kernel
theorem dX12_init_154 : decode cX12_init 154 = .ok (.iconst 3, 1) := by decide +kernel
theorem dX12_init_155 : decode cX12_init 155 = .ok (.iastore, 1) := by decide +kernel
theorem dX12_init_156 : decode cX12_init 156 = .ok (.dup, 1) := by decide +kernel
theorem dX12_init_157 : decode cX12_init 157 = .ok (.iconst 2, 1) := by decide +kernel
theorem dX12_init_158 : decode cX12_init 158 = .ok (.iconst 2, 1) := by decide +kernel
theorem dX12_init_159 : decode cX12_init 159 = .ok (.iastore, 1) := by decide +kernel
theorem dX12_init_160 : decode cX12_init 160 = .ok (.dup, 1) := by decide +kernel
theorem dX12_init_161 : decode cX12_init 161 = .ok (.iconst 3, 1) := by decide +kernel
theorem dX12_init_162 : decode cX12_init 162 = .ok (.iconst 1, 1) := by decide +kernel
theorem dX12_init_163 : decode cX12_init 163 = .ok (.iastore, 1) := by decide +kernel
theorem dX12_init_164 : decode cX12_init 164 = .ok (.putfield 65, 3) := by decide +kernel
theorem dX12_init_167 : decode cX12_init 167 = .ok (.aload_n 0, 1) := by decide +kernel
theorem dX12_init_168 : decode cX12_init 168 = .ok (.bipush 7, 2) := by decide +kernel
theorem dX12_init_170 : decode cX12_init 170 = .ok (.newarray .int, 2) := by decide +kernel
theorem dX12_init_172 : decode cX12_init 172 = .ok (.putfield 68, 3) := by decide +kernel
theorem dX12_init_175 : decode cX12_init 175 = .ok (.aload_n 0, 1) := by decide +kernel
theorem dX12_init_176 : decode cX12_init 176 = .ok (.bipush 120, 2) := by decide +kernel
theorem dX12_init_178 : decode cX12_init 178 = .ok (.newarray .int, 2) := by decide +kernel
theorem dX12_init_180 : decode cX12_init 180 = .ok (.putfield 71, 3) := by decide +kernel
theorem dX12_init_183 : decode cX12_init 183 = .ok (.aload_n 0, 1) := by decide +kernel
theorem dX12_init_184 : decode cX12_init 184 = .ok (.bipush 120, 2) := by decide +kernel
theorem dX12_init_186 : decode cX12_init 186 = .ok (.newarray .int, 2) := by decide +kernel
theorem dX12_init_188 : decode cX12_init 188 = .ok (.putfield 74, 3) := by decide +kernel
theorem dX12_init_191 : decode cX12_init 191 = .ok (.aload_n 0, 1) := by decide +kernel
theorem dX12_init_192 : decode cX12_init 192 = .ok (.bipush 120, 2) := by decide +kernel
theorem dX12_init_194 : decode cX12_init 194 = .ok (.newarray .int, 2) := by decide +kernel
theorem dX12_init_196 : decode cX12_init 196 = .ok (.putfield 77, 3) := by decide +kernel
theorem dX12_init_199 : decode cX12_init 199 = .ok (.aload_n 0, 1) := by decide +kernel
theorem dX12_init_200 : decode cX12_init 200 = .ok (.bipush 120, 2) := by decide +kernel
theorem dX12_init_202 : decode cX12_init 202 = .ok (.newarray .int, 2) := by decide +kernel
theorem dX12_init_204 : decode cX12_init 204 = .ok (.putfield 80, 3) := by decide +kernel
theorem dX12_init_207 : decode cX12_init 207 = .ok (.aload_n 0, 1) := by decide +kernel
theorem dX12_init_208 : decode cX12_init 208 = .ok (.bipush 61, 2) := by decide +kernel
theorem dX12_init_210 : decode cX12_init 210 = .ok (.newarray .int, 2) := by decide +kernel
theorem dX12_init_212 : decode cX12_init 212 = .ok (.putfield 83, 3) := by decide +kernel
theorem dX12_init_215 : decode cX12_init 215 = .ok (.aload_n 0, 1) := by decide +kernel
theorem dX12_init_216 : decode cX12_init 216 = .ok (.bipush 61, 2) := by decide +kernel
theorem dX12_init_218 : decode cX12_init 218 = .ok (.newarray .int, 2) := by decide +kernel
theorem dX12_init_220 : decode cX12_init 220 = .ok (.putfield 86, 3) := by decide +kernel
theorem dX12_init_223 : decode cX12_init 223 = .ok (.aload_n 0, 1) := by decide +kernel
theorem dX12_init_224 : decode cX12_init 224 = .ok (.bipush 61, 2) := by decide +kernel
theorem dX12_init_226 : decode cX12_init 226 = .ok (.newarray .int, 2) := by decide +kernel
theorem dX12_init_228 : decode cX12_init 228 = .ok (.putfield 89, 3) := by decide +kernel
theorem dX12_init_231 : decode cX12_init 231 = .ok (.aload_n 0, 1) := by decide +kernel
theorem dX12_init_232 : decode cX12_init 232 = .ok (.bipush 40, 2) := by decide +kernel
theorem dX12_init_234 : decode cX12_init 234 = .ok (.newarray .int, 2) := by decide +kernel
theorem dX12_init_236 : decode cX12_init 236 = .ok (.putfield 92, 3) := by decide +kernel
theorem dX12_init_239 : decode cX12_init 239 = .ok (.aload_n 0, 1) := by decide +kernel
theorem dX12_init_240 : decode cX12_init 240 = .ok (.bipush 40, 2) := by decide +kernel
theorem dX12_init_242 : decode cX12_init 242 = .ok (.newarray .int, 2) := by decide +kernel
theorem dX12_init_244 : decode cX12_init 244 = .ok (.putfield 95, 3) := by decide +kernel
theorem dX12_init_247 : decode cX12_init 247 = .ok (.aload_n 0, 1) := by decide +kernel
theorem dX12_init_248 : decode cX12_init 248 = .ok (.bipush 40, 2) := by decide +kernel
theorem dX12_init_250 : decode cX12_init 250 = .ok (.newarray .int, 2) := by decide +kernel
theorem dX12_init_252 : decode cX12_init 252 = .ok (.putfield 98, 3) := by decide +kernel
theorem dX12_init_255 : decode cX12_init 255 = .ok (.aload_n 0, 1) := by decide +kernel
theorem dX12_init_256 : decode cX12_init 256 = .ok (.bipush 40, 2) := by decide +kernel
theorem dX12_init_258 : decode cX12_init 258 = .ok (.newarray .int, 2) := by decide +kernel
theorem dX12_init_260 : decode cX12_init 260 = .ok (.putfield 101, 3) := by decide +kernel
theorem dX12_init_263 : decode cX12_init 263 = .ok (.aload_n 0, 1) := by decide +kernel
theorem dX12_init_264 : decode cX12_init 264 = .ok (.bipush 40, 2) := by decide +kernel
theorem dX12_init_266 : decode cX12_init 266 = .ok (.newarray .int, 2) := by decide +kernel
theorem dX12_init_268 : decode cX12_init 268 = .ok (.putfield 104, 3) := by decide +kernel
theorem dX12_init_271 : decode cX12_init 271 = .ok (.aload_n 0, 1) := by decide +kernel
theorem dX12_init_272 : decode cX12_init 272 = .ok (.bipush 12, 2) := by decide +kernel
theorem dX12_init_274 : decode cX12_init 274 = .ok (.newarray .int, 2) := by decide +kernel
theorem dX12_init_276 : decode cX12_init 276 = .ok (.putfield 107, 3) := by decide +kernel
theorem dX12_init_279 : decode cX12_init 279 = .ok (.aload_n 0, 1) := by decide +kernel
theorem dX12_init_280 : decode cX12_init 280 = .ok (.bipush 12, 2) := by decide +kernel
theorem dX12_init_282 : decode cX12_init 282 = .ok (.newarray .int, 2) := by decide +kernel
theorem dX12_init_284 : decode cX12_init 284 = .ok (.putfield 110, 3) := by decide +kernel
theorem dX12_init_287 : decode cX12_init 287 = .ok (.aload_n 0, 1) := by decide +kernel
theorem dX12_init_288 : decode cX12_init 288 = .ok (.bipush 41, 2) := by decide +kernel
theorem dX12_init_290 : decode cX12_init 290 = .ok (.newarray .int, 2) := by decide +kernel
theorem dX12_init_292 : decode cX12_init 292 = .ok (.putfield 113, 3) := by decide +kernel
theorem dX12_init_295 : decode cX12_init 295 = .ok (.aload_n 0, 1) := by decide +kernel
theorem dX12_init_296 : decode cX12_init 296 = .ok (.bipush 41, 2) := by decide +kernel
theorem dX12_init_298 : decode cX12_init 298 = .ok (.newarray .int, 2) := by decide +kernel
theorem dX12_init_300 : decode cX12_init 300 = .ok (.putfield 116, 3) := by decide +kernel
theorem dX12_init_303 : decode cX12_init 303 = .ok (.aload_n 0, 1) := by decide +kernel
theorem dX12_init_304 : decode cX12_init 304 = .ok (.bipush 41, 2) := by decide +kernel
theorem dX12_init_306 : decode cX12_init 306 = .ok (.newarray .int, 2) := by decide +kernel
theorem dX12_init_308 : decode cX12_init 308 = .ok (.putfield 119, 3) := by decide +kernel
theorem dX12_init_311 : decode cX12_init 311 = .ok (.aload_n 0, 1) := by decide +kernel
theorem dX12_init_312 : decode cX12_init 312 = .ok (.bipush 8, 2) := by decide +kernel
theorem dX12_init_314 : decode cX12_init 314 = .ok (.newarray .int, 2) := by decide +kernel
theorem dX12_init_316 : decode cX12_init 316 = .ok (.putfield 122, 3) := by decide +kernel
theorem dX12_init_319 : decode cX12_init 319 = .ok (.aload_n 0, 1) := by decide +kernel
theorem dX12_init_320 : decode cX12_init 320 = .ok (.bipush 8, 2) := by decide +kernel
theorem dX12_init_322 : decode cX12_init 322 = .ok (.newarray .int, 2) := by decide +kernel
theorem dX12_init_324 : decode cX12_init 324 = .ok (.putfield 125, 3) := by decide +kernel
theorem dX12_init_327 : decode cX12_init 327 = .ok (.aload_n 0, 1) := by decide +kernel
theorem dX12_init_328 : decode cX12_init 328 = .ok (.sipush 2304, 3) := by decide +kernel
theorem dX12_init_331 : decode cX12_init 331 = .ok (.newarray .int, 2) := by decide +kernel
theorem dX12_init_333 : decode cX12_init 333 = .ok (.putfield 128, 3) := by decide +kernel
theorem dX12_init_336 : decode cX12_init 336 = .ok (.aload_n 0, 1) := by decide +kernel
theorem dX12_init_337 : decode cX12_init 337 = .ok (.bipush 8, 2) := by decide +kernel
theorem dX12_init_339 : decode cX12_init 339 = .ok (.newarray .int, 2) := by decide +kernel
theorem dX12_init_341 : decode cX12_init 341 = .ok (.putfield 131, 3) := by decide +kernel
theorem dX12_init_344 : decode cX12_init 344 = .ok (.aload_n 0, 1) := by decide +kernel
theorem dX12_init_345 : decode cX12_init 345 = .ok (.bipush 60, 2) := by decide +kernel
theorem dX12_init_347 : decode cX12_init 347 = .ok (.newarray .int, 2) := by decide +kernel
theorem dX12_init_349 : decode cX12_init 349 = .ok (.putfield 134, 3) := by decide +kernel
theorem dX12_init_352 : decode cX12_init 352 = .ok (.aload_n 0, 1) := by decide +kernel
theorem dX12_init_353 : decode cX12_init 353 = .ok (.bipush 60, 2) := by decide +kernel
theorem dX12_init_355 : decode cX12_init 355 = .ok (.newarray .int, 2) := by decide +kernel
theorem dX12_init_357 : decode cX12_init 357 = .ok (.putfield 137, 3) := by decide +kernel
theorem dX12_init_360 : decode cX12_init 360 = .ok (.aload_n 0, 1) := by decide +kernel
theorem dX12_init_361 : decode cX12_init 361 = .ok (.bipush 60, 2) := by decide +kernel
theorem dX12_init_363 : decode cX12_init 363 = .ok (.newarray .int, 2) := by decide +kernel
theorem dX12_init_365 : decode cX12_init 365 = .ok (.putfield 140, 3) := by decide +kernel
theorem dX12_init_368 : decode cX12_init 368 = .ok (.aload_n 0, 1) := by decide +kernel
theorem dX12_init_369 : decode cX12_init 369 = .ok (.sipush 1407, 3) := by decide +kernel
theorem dX12_init_372 : decode cX12_init 372 = .ok (.newarray .int, 2) := by decide +kernel
theorem dX12_init_374 : decode cX12_init 374 = .ok (.putfield 143, 3) := by decide +kernel
theorem dX12_init_377 : decode cX12_init 377 = .ok (.aload_n 0, 1) := by decide +kernel
theorem dX12_init_378 : decode cX12_init 378 = .ok (.bipush 6, 2) := by decide +kernel
theorem dX12_init_380 : decode cX12_init 380 = .ok (.newarray .int, 2) := by decide +kernel
theorem dX12_init_382 : decode cX12_init 382 = .ok (.putfield 146, 3) := by decide +kernel
theorem dX12_init_385 : decode cX12_init 385 = .ok (.aload_n 0, 1) := by decide +kernel
theorem dX12_init_386 : decode cX12_init 386 = .ok (.bipush 40, 2) := by decide +kernel
theorem dX12_init_388 : decode cX12_init 388 = .ok (.newarray .boolean, 2) := by decide +kernel
theorem dX12_init_390 : decode cX12_init 390 = .ok (.putfield 149, 3) := by decide +kernel
theorem dX12_init_393 : decode cX12_init 393 = .ok (.return_, 1) := by decide +kernel
theorem dX12_in_0 : decode cX12_in 0 = .ok (.iload_n 0, 1) := by decide +kernel
theorem dX12_in_1 : decode cX12_in 1 = .ok (.iload_n 1, 1) := by decide +kernel
theorem dX12_in_2 : decode cX12_in 2 = .ok (.if_icmp .lt 12, 3) := by decide +kernel
theorem dX12_in_5 : decode cX12_in 5 = .ok (.iload_n 0, 1) := by decide +kernel
theorem dX12_in_6 : decode cX12_in 6 = .ok (.iload_n 2, 1) := by decide +kernel
theorem dX12_in_7 : decode cX12_in 7 = .ok (.if_icmp .gt 7, 3) := by decide +kernel
theorem dX12_in_10 : decode cX12_in 10 = .ok (.iconst 1, 1) := by decide +kernel
theorem dX12_in_11 : decode cX12_in 11 = .ok (.goto 4, 3) := by decide +kernel
theorem dX12_in_14 : decode cX12_in 14 = .ok (.iconst 0, 1) := by decide +kernel
theorem dX12_in_15 : decode cX12_in 15 = .ok (.ireturn, 1) := by decide +kernel
theorem dX12_refuse_0 : decode cX12_refuse 0 = .ok (.aload_n 0, 1) := by decide +kernel
theorem dX12_refuse_1 : decode cX12_refuse 1 = .ok (.getfield 68, 3) := by decide +kernel
theorem dX12_refuse_4 : decode cX12_refuse 4 = .ok (.iload_n 1, 1) := by decide +kernel
theorem dX12_refuse_5 : decode cX12_refuse 5 = .ok (.ineg, 1) := by decide +kernel
theorem dX12_refuse_6 : decode cX12_refuse 6 = .ok (.dup2, 1) := by decide +kernel
theorem dX12_refuse_7 : decode cX12_refuse 7 = .ok (.iaload, 1) := by decide +kernel
theorem dX12_refuse_8 : decode cX12_refuse 8 = .ok (.iconst 1, 1) := by decide +kernel
theorem dX12_refuse_9 : decode cX12_refuse 9 = .ok (.iadd, 1) := by decide +kernel
theorem dX12_refuse_10 : decode cX12_refuse 10 = .ok (.iastore, 1) := by decide +kernel
theorem dX12_refuse_11 : decode cX12_refuse 11 = .ok (.iload_n 1, 1) := by decide +kernel
theorem dX12_refuse_12 : decode cX12_refuse 12 = .ok (.ireturn, 1) := by decide +kernel
theorem dX12_refuseFar_0 : decode cX12_refuseFar 0 = .ok (.aload_n 0, 1) := by decide +kernel
theorem dX12_refuseFar_1 : decode cX12_refuseFar 1 = .ok (.getfield 68, 3) := by decide +kernel
theorem dX12_refuseFar_4 : decode cX12_refuseFar 4 = .ok (.iload_n 1, 1) := by decide +kernel
theorem dX12_refuseFar_5 : decode cX12_refuseFar 5 = .ok (.ineg, 1) := by decide +kernel
theorem dX12_refuseFar_6 : decode cX12_refuseFar 6 = .ok (.dup2, 1) := by decide +kernel
theorem dX12_refuseFar_7 : decode cX12_refuseFar 7 = .ok (.iaload, 1) := by decide +kernel
theorem dX12_refuseFar_8 : decode cX12_refuseFar 8 = .ok (.iconst 1, 1) := by decide +kernel
theorem dX12_refuseFar_9 : decode cX12_refuseFar 9 = .ok (.iadd, 1) := by decide +kernel
theorem dX12_refuseFar_10 : decode cX12_refuseFar 10 = .ok (.iastore, 1) := by decide +kernel
theorem dX12_refuseFar_11 : decode cX12_refuseFar 11 = .ok (.ldc 153, 2) := by decide +kernel
theorem dX12_refuseFar_13 : decode cX12_refuseFar 13 = .ok (.iload_n 1, 1) := by decide +kernel
theorem dX12_refuseFar_14 : decode cX12_refuseFar 14 = .ok (.isub, 1) := by decide +kernel
theorem dX12_refuseFar_15 : decode cX12_refuseFar 15 = .ok (.ireturn, 1) := by decide +kernel
theorem dX12_ones_0 : decode cX12_ones 0 = .ok (.iconst 0, 1) := by decide +kernel
theorem dX12_ones_1 : decode cX12_ones 1 = .ok (.istore_n 1, 1) := by decide +kernel
theorem dX12_ones_2 : decode cX12_ones 2 = .ok (.iload_n 0, 1) := by decide +kernel
theorem dX12_ones_3 : decode cX12_ones 3 = .ok (.istore_n 2, 1) := by decide +kernel
theorem dX12_ones_4 : decode cX12_ones 4 = .ok (.iload_n 2, 1) := by decide +kernel
theorem dX12_ones_5 : decode cX12_ones 5 = .ok (.ifCond .le 16, 3) := by decide +kernel
theorem dX12_ones_8 : decode cX12_ones 8 = .ok (.iload_n 1, 1) := by decide +kernel
theorem dX12_ones_9 : decode cX12_ones 9 = .ok (.iload_n 2, 1) := by decide +kernel
theorem dX12_ones_10 : decode cX12_ones 10 = .ok (.iconst 2, 1) := by decide +kernel
theorem dX12_ones_11 : decode cX12_ones 11 = .ok (.irem, 1) := by decide +kernel
theorem dX12_ones_12 : decode cX12_ones 12 = .ok (.iadd, 1) := by decide +kernel
theorem dX12_ones_13 : decode cX12_ones 13 = .ok (.istore_n 1, 1) := by decide +kernel
theorem dX12_ones_14 : decode cX12_ones 14 = .ok (.iload_n 2, 1) := by decide +kernel
theorem dX12_ones_15 : decode cX12_ones 15 = .ok (.iconst 2, 1) := by decide +kernel
theorem dX12_ones_16 : decode cX12_ones 16 = .ok (.idiv, 1) := by decide +kernel
theorem dX12_ones_17 : decode cX12_ones 17 = .ok (.istore_n 2, 1) := by decide +kernel
theorem dX12_ones_18 : decode cX12_ones 18 = .ok (.goto (-14), 3) := by decide +kernel
theorem dX12_ones_21 : decode cX12_ones 21 = .ok (.iload_n 1, 1) := by decide +kernel
theorem dX12_ones_22 : decode cX12_ones 22 = .ok (.ireturn, 1) := by decide +kernel
theorem dX12_isUnit_0 : decode cX12_isUnit 0 = .ok (.iload_n 1, 1) := by decide +kernel
theorem dX12_isUnit_1 : decode cX12_isUnit 1 = .ok (.iconst 0, 1) := by decide +kernel
theorem dX12_isUnit_2 : decode cX12_isUnit 2 = .ok (.aload_n 0, 1) := by decide +kernel
theorem dX12_isUnit_3 : decode cX12_isUnit 3 = .ok (.getfield 154, 3) := by decide +kernel
theorem dX12_isUnit_6 : decode cX12_isUnit 6 = .ok (.iconst 1, 1) := by decide +kernel
theorem dX12_isUnit_7 : decode cX12_isUnit 7 = .ok (.isub, 1) := by decide +kernel
theorem dX12_isUnit_8 : decode cX12_isUnit 8 = .ok (.invokestatic 157, 3) := by decide +kernel
theorem dX12_isUnit_11 : decode cX12_isUnit 11 = .ok (.ireturn, 1) := by decide +kernel
theorem dX12_isPost_0 : decode cX12_isPost 0 = .ok (.iload_n 1, 1) := by decide +kernel
theorem dX12_isPost_1 : decode cX12_isPost 1 = .ok (.iconst 0, 1) := by decide +kernel
theorem dX12_isPost_2 : decode cX12_isPost 2 = .ok (.aload_n 0, 1) := by decide +kernel
theorem dX12_isPost_3 : decode cX12_isPost 3 = .ok (.getfield 161, 3) := by decide +kernel
theorem dX12_isPost_6 : decode cX12_isPost 6 = .ok (.iconst 1, 1) := by decide +kernel
theorem dX12_isPost_7 : decode cX12_isPost 7 = .ok (.isub, 1) := by decide +kernel
theorem dX12_isPost_8 : decode cX12_isPost 8 = .ok (.invokestatic 157, 3) := by decide +kernel
theorem dX12_isPost_11 : decode cX12_isPost 11 = .ok (.ireturn, 1) := by decide +kernel
theorem dX12_isPerson_0 : decode cX12_isPerson 0 = .ok (.iload_n 1, 1) := by decide +kernel
theorem dX12_isPerson_1 : decode cX12_isPerson 1 = .ok (.iconst 0, 1) := by decide +kernel
theorem dX12_isPerson_2 : decode cX12_isPerson 2 = .ok (.aload_n 0, 1) := by decide +kernel
theorem dX12_isPerson_3 : decode cX12_isPerson 3 = .ok (.getfield 164, 3) := by decide +kernel
theorem dX12_isPerson_6 : decode cX12_isPerson 6 = .ok (.iconst 1, 1) := by decide +kernel
theorem dX12_isPerson_7 : decode cX12_isPerson 7 = .ok (.isub, 1) := by decide +kernel
theorem dX12_isPerson_8 : decode cX12_isPerson 8 = .ok (.invokestatic 157, 3) := by decide +kernel
theorem dX12_isPerson_11 : decode cX12_isPerson 11 = .ok (.ireturn, 1) := by decide +kernel
theorem dX12_isHere_0 : decode cX12_isHere 0 = .ok (.aload_n 0, 1) := by decide +kernel
theorem dX12_isHere_1 : decode cX12_isHere 1 = .ok (.getfield 49, 3) := by decide +kernel
theorem dX12_isHere_4 : decode cX12_isHere 4 = .ok (.iload_n 1, 1) := by decide +kernel
theorem dX12_isHere_5 : decode cX12_isHere 5 = .ok (.iaload, 1) := by decide +kernel
theorem dX12_isHere_6 : decode cX12_isHere 6 = .ok (.ifCond .ge 7, 3) := by decide +kernel
theorem dX12_isHere_9 : decode cX12_isHere 9 = .ok (.iconst 1, 1) := by decide +kernel
theorem dX12_isHere_10 : decode cX12_isHere 10 = .ok (.goto 4, 3) := by decide +kernel
theorem dX12_isHere_13 : decode cX12_isHere 13 = .ok (.iconst 0, 1) := by decide +kernel
theorem dX12_isHere_14 : decode cX12_isHere 14 = .ok (.ireturn, 1) := by decide +kernel
theorem dX12_isGuarded_0 : decode cX12_isGuarded 0 = .ok (.aload_n 0, 1) := by decide +kernel
theorem dX12_isGuarded_1 : decode cX12_isGuarded 1 = .ok (.getfield 52, 3) := by decide +kernel
theorem dX12_isGuarded_4 : decode cX12_isGuarded 4 = .ok (.iload_n 1, 1) := by decide +kernel
theorem dX12_isGuarded_5 : decode cX12_isGuarded 5 = .ok (.iaload, 1) := by decide +kernel
theorem dX12_isGuarded_6 : decode cX12_isGuarded 6 = .ok (.aload_n 0, 1) := by decide +kernel
theorem dX12_isGuarded_7 : decode cX12_isGuarded 7 = .ok (.getfield 167, 3) := by decide +kernel
theorem dX12_isGuarded_10 : decode cX12_isGuarded 10 = .ok (.if_icmp .lt 7, 3) := by decide +kernel
theorem dX12_isGuarded_13 : decode cX12_isGuarded 13 = .ok (.iconst 1, 1) := by decide +kernel
theorem dX12_isGuarded_14 : decode cX12_isGuarded 14 = .ok (.goto 4, 3) := by decide +kernel
theorem dX12_isGuarded_17 : decode cX12_isGuarded 17 = .ok (.iconst 0, 1) := by decide +kernel
theorem dX12_isGuarded_18 : decode cX12_isGuarded 18 = .ok (.ireturn, 1) := by decide +kernel
theorem dX12_holder_0 : decode cX12_holder 0 = .ok (.iconst 0, 1) := by decide +kernel
theorem dX12_holder_1 : decode cX12_holder 1 = .ok (.istore_n 2, 1) := by decide +kernel
theorem dX12_holder_2 : decode cX12_holder 2 = .ok (.iload_n 2, 1) := by decide +kernel
theorem dX12_holder_3 : decode cX12_holder 3 = .ok (.aload_n 0, 1) := by decide +kernel
theorem dX12_holder_4 : decode cX12_holder 4 = .ok (.getfield 164, 3) := by decide +kernel
theorem dX12_holder_7 : decode cX12_holder 7 = .ok (.if_icmp .ge 21, 3) := by decide +kernel
theorem dX12_holder_10 : decode cX12_holder 10 = .ok (.aload_n 0, 1) := by decide +kernel
theorem dX12_holder_11 : decode cX12_holder 11 = .ok (.getfield 43, 3) := by decide +kernel
theorem dX12_holder_14 : decode cX12_holder 14 = .ok (.iload_n 2, 1) := by decide +kernel
theorem dX12_holder_15 : decode cX12_holder 15 = .ok (.iaload, 1) := by decide +kernel
theorem dX12_holder_16 : decode cX12_holder 16 = .ok (.iload_n 1, 1) := by decide +kernel
theorem dX12_holder_17 : decode cX12_holder 17 = .ok (.if_icmp .ne 5, 3) := by decide +kernel
theorem dX12_holder_20 : decode cX12_holder 20 = .ok (.iload_n 2, 1) := by decide +kernel
theorem dX12_holder_21 : decode cX12_holder 21 = .ok (.ireturn, 1) := by decide +kernel
theorem dX12_holder_22 : decode cX12_holder 22 = .ok (.iinc 2 1, 3) := by decide +kernel
theorem dX12_holder_25 : decode cX12_holder 25 = .ok (.goto (-23), 3) := by decide +kernel
theorem dX12_holder_28 : decode cX12_holder 28 = .ok (.iconst (-1), 1) := by decide +kernel
theorem dX12_holder_29 : decode cX12_holder 29 = .ok (.ireturn, 1) := by decide +kernel
theorem dX12_isVacant_0 : decode cX12_isVacant 0 = .ok (.aload_n 0, 1) := by decide +kernel
theorem dX12_isVacant_1 : decode cX12_isVacant 1 = .ok (.getfield 31, 3) := by decide +kernel
theorem dX12_isVacant_4 : decode cX12_isVacant 4 = .ok (.iload_n 1, 1) := by decide +kernel
theorem dX12_isVacant_5 : decode cX12_isVacant 5 = .ok (.iaload, 1) := by decide +kernel
theorem dX12_isVacant_6 : decode cX12_isVacant 6 = .ok (.ifCond .ge 15, 3) := by decide +kernel
theorem dX12_isVacant_9 : decode cX12_isVacant 9 = .ok (.aload_n 0, 1) := by decide +kernel
theorem dX12_isVacant_10 : decode cX12_isVacant 10 = .ok (.iload_n 1, 1) := by decide +kernel
theorem dX12_isVacant_11 : decode cX12_isVacant 11 = .ok (.invokevirtual 170, 3) := by decide +kernel
theorem dX12_isVacant_14 : decode cX12_isVacant 14 = .ok (.ifCond .ge 7, 3) := by decide +kernel
theorem dX12_isVacant_17 : decode cX12_isVacant 17 = .ok (.iconst 1, 1) := by decide +kernel
theorem dX12_isVacant_18 : decode cX12_isVacant 18 = .ok (.goto 4, 3) := by decide +kernel
theorem dX12_isVacant_21 : decode cX12_isVacant 21 = .ok (.iconst 0, 1) := by decide +kernel
theorem dX12_isVacant_22 : decode cX12_isVacant 22 = .ok (.ireturn, 1) := by decide +kernel
theorem dX12_days_0 : decode cX12_days 0 = .ok (.iload_n 1, 1) := by decide +kernel
theorem dX12_days_1 : decode cX12_days 1 = .ok (.iconst 1, 1) := by decide +kernel
theorem dX12_days_2 : decode cX12_days 2 = .ok (.if_icmp .ge 10, 3) := by decide +kernel
theorem dX12_days_5 : decode cX12_days 5 = .ok (.aload_n 0, 1) := by decide +kernel
theorem dX12_days_6 : decode cX12_days 6 = .ok (.bipush (-4), 2) := by decide +kernel
theorem dX12_days_8 : decode cX12_days 8 = .ok (.invokevirtual 174, 3) := by decide +kernel
theorem dX12_days_11 : decode cX12_days 11 = .ok (.ireturn, 1) := by decide +kernel
theorem dX12_days_12 : decode cX12_days 12 = .ok (.iload_n 1, 1) := by decide +kernel
theorem dX12_days_13 : decode cX12_days 13 = .ok (.sipush 3000, 3) := by decide +kernel
theorem dX12_days_16 : decode cX12_days 16 = .ok (.aload_n 0, 1) := by decide +kernel
theorem dX12_days_17 : decode cX12_days 17 = .ok (.getfield 167, 3) := by decide +kernel
theorem dX12_days_20 : decode cX12_days 20 = .ok (.isub, 1) := by decide +kernel
theorem dX12_days_21 : decode cX12_days 21 = .ok (.if_icmp .le 10, 3) := by decide +kernel
theorem dX12_days_24 : decode cX12_days 24 = .ok (.aload_n 0, 1) := by decide +kernel
theorem dX12_days_25 : decode cX12_days 25 = .ok (.bipush (-6), 2) := by decide +kernel
theorem dX12_days_27 : decode cX12_days 27 = .ok (.invokevirtual 174, 3) := by decide +kernel
theorem dX12_days_30 : decode cX12_days 30 = .ok (.ireturn, 1) := by decide +kernel
theorem dX12_days_31 : decode cX12_days 31 = .ok (.aload_n 0, 1) := by decide +kernel
theorem dX12_days_32 : decode cX12_days 32 = .ok (.dup, 1) := by decide +kernel
theorem dX12_days_33 : decode cX12_days 33 = .ok (.getfield 167, 3) := by decide +kernel
theorem dX12_days_36 : decode cX12_days 36 = .ok (.iload_n 1, 1) := by decide +kernel
theorem dX12_days_37 : decode cX12_days 37 = .ok (.iadd, 1) := by decide +kernel
theorem dX12_days_38 : decode cX12_days 38 = .ok (.putfield 167, 3) := by decide +kernel
theorem dX12_days_41 : decode cX12_days 41 = .ok (.aload_n 0, 1) := by decide +kernel
theorem dX12_days_42 : decode cX12_days 42 = .ok (.getfield 167, 3) := by decide +kernel
theorem dX12_days_45 : decode cX12_days 45 = .ok (.ireturn, 1) := by decide +kernel
theorem dX12_unit_0 : decode cX12_unit 0 = .ok (.iload_n 2, 1) := by decide +kernel
theorem dX12_unit_1 : decode cX12_unit 1 = .ok (.iconst (-1), 1) := by decide +kernel
theorem dX12_unit_2 : decode cX12_unit 2 = .ok (.aload_n 0, 1) := by decide +kernel
theorem dX12_unit_3 : decode cX12_unit 3 = .ok (.getfield 154, 3) := by decide +kernel
theorem dX12_unit_6 : decode cX12_unit 6 = .ok (.iconst 1, 1) := by decide +kernel
theorem dX12_unit_7 : decode cX12_unit 7 = .ok (.isub, 1) := by decide +kernel
theorem dX12_unit_8 : decode cX12_unit 8 = .ok (.invokestatic 157, 3) := by decide +kernel
theorem dX12_unit_11 : decode cX12_unit 11 = .ok (.ifCond .ne 9, 3) := by decide +kernel
theorem dX12_unit_14 : decode cX12_unit 14 = .ok (.aload_n 0, 1) := by decide +kernel
theorem dX12_unit_15 : decode cX12_unit 15 = .ok (.iconst (-1), 1) := by decide +kernel
theorem dX12_unit_16 : decode cX12_unit 16 = .ok (.invokevirtual 174, 3) := by decide +kernel
theorem dX12_unit_19 : decode cX12_unit 19 = .ok (.ireturn, 1) := by decide +kernel
theorem dX12_unit_20 : decode cX12_unit 20 = .ok (.iload_n 1, 1) := by decide +kernel
theorem dX12_unit_21 : decode cX12_unit 21 = .ok (.ifCond .ge 10, 3) := by decide +kernel
theorem dX12_unit_24 : decode cX12_unit 24 = .ok (.aload_n 0, 1) := by decide +kernel
theorem dX12_unit_25 : decode cX12_unit 25 = .ok (.bipush (-4), 2) := by decide +kernel
theorem dX12_unit_27 : decode cX12_unit 27 = .ok (.invokevirtual 174, 3) := by decide +kernel
theorem dX12_unit_30 : decode cX12_unit 30 = .ok (.ireturn, 1) := by decide +kernel
theorem dX12_unit_31 : decode cX12_unit 31 = .ok (.iload_n 1, 1) := by decide +kernel
theorem dX12_unit_32 : decode cX12_unit 32 = .ok (.iconst 3, 1) := by decide +kernel
theorem dX12_unit_33 : decode cX12_unit 33 = .ok (.if_icmp .gt 12, 3) := by decide +kernel
theorem dX12_unit_36 : decode cX12_unit 36 = .ok (.aload_n 0, 1) := by decide +kernel
theorem dX12_unit_37 : decode cX12_unit 37 = .ok (.getfield 154, 3) := by decide +kernel
theorem dX12_unit_40 : decode cX12_unit 40 = .ok (.bipush 12, 2) := by decide +kernel
theorem dX12_unit_42 : decode cX12_unit 42 = .ok (.if_icmp .ne 10, 3) := by decide +kernel
theorem dX12_unit_45 : decode cX12_unit 45 = .ok (.aload_n 0, 1) := by decide +kernel
theorem dX12_unit_46 : decode cX12_unit 46 = .ok (.bipush (-6), 2) := by decide +kernel
theorem dX12_unit_48 : decode cX12_unit 48 = .ok (.invokevirtual 174, 3) := by decide +kernel
theorem dX12_unit_51 : decode cX12_unit 51 = .ok (.ireturn, 1) := by decide +kernel
theorem dX12_unit_52 : decode cX12_unit 52 = .ok (.aload_n 0, 1) := by decide +kernel
theorem dX12_unit_53 : decode cX12_unit 53 = .ok (.getfield 7, 3) := by decide +kernel
theorem dX12_unit_56 : decode cX12_unit 56 = .ok (.aload_n 0, 1) := by decide +kernel
theorem dX12_unit_57 : decode cX12_unit 57 = .ok (.getfield 154, 3) := by decide +kernel
theorem dX12_unit_60 : decode cX12_unit 60 = .ok (.iload_n 1, 1) := by decide +kernel
theorem dX12_unit_61 : decode cX12_unit 61 = .ok (.iastore, 1) := by decide +kernel
theorem dX12_unit_62 : decode cX12_unit 62 = .ok (.aload_n 0, 1) := by decide +kernel
theorem dX12_unit_63 : decode cX12_unit 63 = .ok (.getfield 13, 3) := by decide +kernel
theorem dX12_unit_66 : decode cX12_unit 66 = .ok (.aload_n 0, 1) := by decide +kernel
theorem dX12_unit_67 : decode cX12_unit 67 = .ok (.getfield 154, 3) := by decide +kernel
theorem dX12_unit_70 : decode cX12_unit 70 = .ok (.iload_n 2, 1) := by decide +kernel
theorem dX12_unit_71 : decode cX12_unit 71 = .ok (.iastore, 1) := by decide +kernel
theorem dX12_unit_72 : decode cX12_unit 72 = .ok (.aload_n 0, 1) := by decide +kernel
theorem dX12_unit_73 : decode cX12_unit 73 = .ok (.dup, 1) := by decide +kernel
theorem dX12_unit_74 : decode cX12_unit 74 = .ok (.getfield 154, 3) := by decide +kernel
theorem dX12_unit_77 : decode cX12_unit 77 = .ok (.iconst 1, 1) := by decide +kernel
theorem dX12_unit_78 : decode cX12_unit 78 = .ok (.iadd, 1) := by decide +kernel
theorem dX12_unit_79 : decode cX12_unit 79 = .ok (.putfield 154, 3) := by decide +kernel
theorem dX12_unit_82 : decode cX12_unit 82 = .ok (.aload_n 0, 1) := by decide +kernel
theorem dX12_unit_83 : decode cX12_unit 83 = .ok (.getfield 154, 3) := by decide +kernel
theorem dX12_unit_86 : decode cX12_unit 86 = .ok (.iconst 1, 1) := by decide +kernel
theorem dX12_unit_87 : decode cX12_unit 87 = .ok (.isub, 1) := by decide +kernel
theorem dX12_unit_88 : decode cX12_unit 88 = .ok (.ireturn, 1) := by decide +kernel
theorem dX12_post_0 : decode cX12_post 0 = .ok (.aload_n 0, 1) := by decide +kernel
theorem dX12_post_1 : decode cX12_post 1 = .ok (.iload_n 1, 1) := by decide +kernel
theorem dX12_post_2 : decode cX12_post 2 = .ok (.invokevirtual 177, 3) := by decide +kernel
theorem dX12_post_5 : decode cX12_post 5 = .ok (.ifCond .ne 9, 3) := by decide +kernel
theorem dX12_post_8 : decode cX12_post 8 = .ok (.aload_n 0, 1) := by decide +kernel
theorem dX12_post_9 : decode cX12_post 9 = .ok (.iconst (-1), 1) := by decide +kernel
theorem dX12_post_10 : decode cX12_post 10 = .ok (.invokevirtual 174, 3) := by decide +kernel
theorem dX12_post_13 : decode cX12_post 13 = .ok (.ireturn, 1) := by decide +kernel
theorem dX12_post_14 : decode cX12_post 14 = .ok (.iload_n 2, 1) := by decide +kernel
theorem dX12_post_15 : decode cX12_post 15 = .ok (.ifCond .lt 19, 3) := by decide +kernel
theorem dX12_post_18 : decode cX12_post 18 = .ok (.iload_n 3, 1) := by decide +kernel
theorem dX12_post_19 : decode cX12_post 19 = .ok (.iconst 1, 1) := by decide +kernel
theorem dX12_post_20 : decode cX12_post 20 = .ok (.if_icmp .lt 14, 3) := by decide +kernel
theorem dX12_post_23 : decode cX12_post 23 = .ok (.iload 4, 2) := by decide +kernel
theorem dX12_post_25 : decode cX12_post 25 = .ok (.iconst 1, 1) := by decide +kernel
theorem dX12_post_26 : decode cX12_post 26 = .ok (.if_icmp .lt 8, 3) := by decide +kernel
theorem dX12_post_29 : decode cX12_post 29 = .ok (.iload 5, 2) := by decide +kernel
theorem dX12_post_31 : decode cX12_post 31 = .ok (.ifCond .ge 10, 3) := by decide +kernel
theorem dX12_post_34 : decode cX12_post 34 = .ok (.aload_n 0, 1) := by decide +kernel
theorem dX12_post_35 : decode cX12_post 35 = .ok (.bipush (-4), 2) := by decide +kernel
theorem dX12_post_37 : decode cX12_post 37 = .ok (.invokevirtual 174, 3) := by decide +kernel
theorem dX12_post_40 : decode cX12_post 40 = .ok (.ireturn, 1) := by decide +kernel
theorem dX12_post_41 : decode cX12_post 41 = .ok (.iload_n 2, 1) := by decide +kernel
theorem dX12_post_42 : decode cX12_post 42 = .ok (.bipush 7, 2) := by decide +kernel
theorem dX12_post_44 : decode cX12_post 44 = .ok (.if_icmp .gt 33, 3) := by decide +kernel
theorem dX12_post_47 : decode cX12_post 47 = .ok (.iload_n 3, 1) := by decide +kernel
theorem dX12_post_48 : decode cX12_post 48 = .ok (.bipush 9, 2) := by decide +kernel
theorem dX12_post_50 : decode cX12_post 50 = .ok (.if_icmp .gt 27, 3) := by decide +kernel
theorem dX12_post_53 : decode cX12_post 53 = .ok (.iload 4, 2) := by decide +kernel
theorem dX12_post_55 : decode cX12_post 55 = .ok (.bipush 40, 2) := by decide +kernel
theorem dX12_post_57 : decode cX12_post 57 = .ok (.if_icmp .gt 20, 3) := by decide +kernel
theorem dX12_post_60 : decode cX12_post 60 = .ok (.iload 5, 2) := by decide +kernel
theorem dX12_post_62 : decode cX12_post 62 = .ok (.sipush 1023, 3) := by decide +kernel
theorem dX12_post_65 : decode cX12_post 65 = .ok (.if_icmp .gt 12, 3) := by decide +kernel
theorem dX12_post_68 : decode cX12_post 68 = .ok (.aload_n 0, 1) := by decide +kernel
theorem dX12_post_69 : decode cX12_post 69 = .ok (.getfield 161, 3) := by decide +kernel
theorem dX12_post_72 : decode cX12_post 72 = .ok (.bipush 40, 2) := by decide +kernel
theorem dX12_post_74 : decode cX12_post 74 = .ok (.if_icmp .ne 10, 3) := by decide +kernel
theorem dX12_post_77 : decode cX12_post 77 = .ok (.aload_n 0, 1) := by decide +kernel
theorem dX12_post_78 : decode cX12_post 78 = .ok (.bipush (-6), 2) := by decide +kernel
theorem dX12_post_80 : decode cX12_post 80 = .ok (.invokevirtual 174, 3) := by decide +kernel
theorem dX12_post_83 : decode cX12_post 83 = .ok (.ireturn, 1) := by decide +kernel
theorem dX12_post_84 : decode cX12_post 84 = .ok (.aload_n 0, 1) := by decide +kernel
theorem dX12_post_85 : decode cX12_post 85 = .ok (.getfield 16, 3) := by decide +kernel
theorem dX12_post_88 : decode cX12_post 88 = .ok (.aload_n 0, 1) := by decide +kernel
theorem dX12_post_89 : decode cX12_post 89 = .ok (.getfield 161, 3) := by decide +kernel
theorem dX12_post_92 : decode cX12_post 92 = .ok (.iload_n 1, 1) := by decide +kernel
theorem dX12_post_93 : decode cX12_post 93 = .ok (.iastore, 1) := by decide +kernel
theorem dX12_post_94 : decode cX12_post 94 = .ok (.aload_n 0, 1) := by decide +kernel
theorem dX12_post_95 : decode cX12_post 95 = .ok (.getfield 19, 3) := by decide +kernel
theorem dX12_post_98 : decode cX12_post 98 = .ok (.aload_n 0, 1) := by decide +kernel
theorem dX12_post_99 : decode cX12_post 99 = .ok (.getfield 161, 3) := by decide +kernel
theorem dX12_post_102 : decode cX12_post 102 = .ok (.iload_n 2, 1) := by decide +kernel
theorem dX12_post_103 : decode cX12_post 103 = .ok (.iastore, 1) := by decide +kernel
theorem dX12_post_104 : decode cX12_post 104 = .ok (.aload_n 0, 1) := by decide +kernel
theorem dX12_post_105 : decode cX12_post 105 = .ok (.getfield 22, 3) := by decide +kernel
theorem dX12_post_108 : decode cX12_post 108 = .ok (.aload_n 0, 1) := by decide +kernel
theorem dX12_post_109 : decode cX12_post 109 = .ok (.getfield 161, 3) := by decide +kernel
theorem dX12_post_112 : decode cX12_post 112 = .ok (.iload_n 3, 1) := by decide +kernel
theorem dX12_post_113 : decode cX12_post 113 = .ok (.iastore, 1) := by decide +kernel
theorem dX12_post_114 : decode cX12_post 114 = .ok (.aload_n 0, 1) := by decide +kernel
theorem dX12_post_115 : decode cX12_post 115 = .ok (.getfield 25, 3) := by decide +kernel
theorem dX12_post_118 : decode cX12_post 118 = .ok (.aload_n 0, 1) := by decide +kernel
theorem dX12_post_119 : decode cX12_post 119 = .ok (.getfield 161, 3) := by decide +kernel
theorem dX12_post_122 : decode cX12_post 122 = .ok (.iload 4, 2) := by decide +kernel
theorem dX12_post_124 : decode cX12_post 124 = .ok (.iastore, 1) := by decide +kernel
theorem dX12_post_125 : decode cX12_post 125 = .ok (.aload_n 0, 1) := by decide +kernel
theorem dX12_post_126 : decode cX12_post 126 = .ok (.getfield 28, 3) := by decide +kernel
theorem dX12_post_129 : decode cX12_post 129 = .ok (.aload_n 0, 1) := by decide +kernel
theorem dX12_post_130 : decode cX12_post 130 = .ok (.getfield 161, 3) := by decide +kernel
theorem dX12_post_133 : decode cX12_post 133 = .ok (.iload 5, 2) := by decide +kernel
theorem dX12_post_135 : decode cX12_post 135 = .ok (.iastore, 1) := by decide +kernel
theorem dX12_post_136 : decode cX12_post 136 = .ok (.aload_n 0, 1) := by decide +kernel
theorem dX12_post_137 : decode cX12_post 137 = .ok (.getfield 31, 3) := by decide +kernel
theorem dX12_post_140 : decode cX12_post 140 = .ok (.aload_n 0, 1) := by decide +kernel
theorem dX12_post_141 : decode cX12_post 141 = .ok (.getfield 161, 3) := by decide +kernel
theorem dX12_post_144 : decode cX12_post 144 = .ok (.iconst (-1), 1) := by decide +kernel
theorem dX12_post_145 : decode cX12_post 145 = .ok (.iastore, 1) := by decide +kernel
theorem dX12_post_146 : decode cX12_post 146 = .ok (.aload_n 0, 1) := by decide +kernel
theorem dX12_post_147 : decode cX12_post 147 = .ok (.dup, 1) := by decide +kernel
theorem dX12_post_148 : decode cX12_post 148 = .ok (.getfield 161, 3) := by decide +kernel
theorem dX12_post_151 : decode cX12_post 151 = .ok (.iconst 1, 1) := by decide +kernel
theorem dX12_post_152 : decode cX12_post 152 = .ok (.iadd, 1) := by decide +kernel
theorem dX12_post_153 : decode cX12_post 153 = .ok (.putfield 161, 3) := by decide +kernel
theorem dX12_post_156 : decode cX12_post 156 = .ok (.aload_n 0, 1) := by decide +kernel
theorem dX12_post_157 : decode cX12_post 157 = .ok (.getfield 161, 3) := by decide +kernel
theorem dX12_post_160 : decode cX12_post 160 = .ok (.iconst 1, 1) := by decide +kernel
theorem dX12_post_161 : decode cX12_post 161 = .ok (.isub, 1) := by decide +kernel
theorem dX12_post_162 : decode cX12_post 162 = .ok (.ireturn, 1) := by decide +kernel
theorem dX12_drop_0 : decode cX12_drop 0 = .ok (.aload_n 0, 1) := by decide +kernel
theorem dX12_drop_1 : decode cX12_drop 1 = .ok (.getfield 46, 3) := by decide +kernel
theorem dX12_drop_4 : decode cX12_drop 4 = .ok (.iload_n 1, 1) := by decide +kernel
theorem dX12_drop_5 : decode cX12_drop 5 = .ok (.aload_n 0, 1) := by decide +kernel
theorem dX12_drop_6 : decode cX12_drop 6 = .ok (.getfield 43, 3) := by decide +kernel
theorem dX12_drop_9 : decode cX12_drop 9 = .ok (.iload_n 1, 1) := by decide +kernel
theorem dX12_drop_10 : decode cX12_drop 10 = .ok (.iaload, 1) := by decide +kernel
theorem dX12_drop_11 : decode cX12_drop 11 = .ok (.ifCond .lt 12, 3) := by decide +kernel
theorem dX12_drop_14 : decode cX12_drop 14 = .ok (.aload_n 0, 1) := by decide +kernel
theorem dX12_drop_15 : decode cX12_drop 15 = .ok (.getfield 43, 3) := by decide +kernel
theorem dX12_drop_18 : decode cX12_drop 18 = .ok (.iload_n 1, 1) := by decide +kernel
theorem dX12_drop_19 : decode cX12_drop 19 = .ok (.iaload, 1) := by decide +kernel
theorem dX12_drop_20 : decode cX12_drop 20 = .ok (.goto 9, 3) := by decide +kernel
theorem dX12_drop_23 : decode cX12_drop 23 = .ok (.aload_n 0, 1) := by decide +kernel
theorem dX12_drop_24 : decode cX12_drop 24 = .ok (.getfield 46, 3) := by decide +kernel
theorem dX12_drop_27 : decode cX12_drop 27 = .ok (.iload_n 1, 1) := by decide +kernel
theorem dX12_drop_28 : decode cX12_drop 28 = .ok (.iaload, 1) := by decide +kernel
theorem dX12_drop_29 : decode cX12_drop 29 = .ok (.iastore, 1) := by decide +kernel
theorem dX12_drop_30 : decode cX12_drop 30 = .ok (.aload_n 0, 1) := by decide +kernel
theorem dX12_drop_31 : decode cX12_drop 31 = .ok (.getfield 43, 3) := by decide +kernel
theorem dX12_drop_34 : decode cX12_drop 34 = .ok (.iload_n 1, 1) := by decide +kernel
theorem dX12_drop_35 : decode cX12_drop 35 = .ok (.iconst (-1), 1) := by decide +kernel
theorem dX12_drop_36 : decode cX12_drop 36 = .ok (.iastore, 1) := by decide +kernel
theorem dX12_drop_37 : decode cX12_drop 37 = .ok (.return_, 1) := by decide +kernel
theorem dX12_end_0 : decode cX12_end 0 = .ok (.aload_n 0, 1) := by decide +kernel
theorem dX12_end_1 : decode cX12_end 1 = .ok (.iload_n 1, 1) := by decide +kernel
theorem dX12_end_2 : decode cX12_end 2 = .ok (.invokevirtual 181, 3) := by decide +kernel
theorem dX12_end_5 : decode cX12_end 5 = .ok (.ifCond .ne 9, 3) := by decide +kernel
theorem dX12_end_8 : decode cX12_end 8 = .ok (.aload_n 0, 1) := by decide +kernel
theorem dX12_end_9 : decode cX12_end 9 = .ok (.iconst (-1), 1) := by decide +kernel
theorem dX12_end_10 : decode cX12_end 10 = .ok (.invokevirtual 174, 3) := by decide +kernel
theorem dX12_end_13 : decode cX12_end 13 = .ok (.ireturn, 1) := by decide +kernel
theorem dX12_end_14 : decode cX12_end 14 = .ok (.aload_n 0, 1) := by decide +kernel
theorem dX12_end_15 : decode cX12_end 15 = .ok (.getfield 31, 3) := by decide +kernel
theorem dX12_end_18 : decode cX12_end 18 = .ok (.iload_n 1, 1) := by decide +kernel
theorem dX12_end_19 : decode cX12_end 19 = .ok (.iaload, 1) := by decide +kernel
theorem dX12_end_20 : decode cX12_end 20 = .ok (.ifCond .lt 10, 3) := by decide +kernel
theorem dX12_end_23 : decode cX12_end 23 = .ok (.aload_n 0, 1) := by decide +kernel
theorem dX12_end_24 : decode cX12_end 24 = .ok (.bipush (-3), 2) := by decide +kernel
theorem dX12_end_26 : decode cX12_end 26 = .ok (.invokevirtual 174, 3) := by decide +kernel
theorem dX12_end_29 : decode cX12_end 29 = .ok (.ireturn, 1) := by decide +kernel
theorem dX12_end_30 : decode cX12_end 30 = .ok (.aload_n 0, 1) := by decide +kernel
theorem dX12_end_31 : decode cX12_end 31 = .ok (.getfield 31, 3) := by decide +kernel
theorem dX12_end_34 : decode cX12_end 34 = .ok (.iload_n 1, 1) := by decide +kernel
theorem dX12_end_35 : decode cX12_end 35 = .ok (.aload_n 0, 1) := by decide +kernel
theorem dX12_end_36 : decode cX12_end 36 = .ok (.getfield 167, 3) := by decide +kernel
theorem dX12_end_39 : decode cX12_end 39 = .ok (.iastore, 1) := by decide +kernel
theorem dX12_end_40 : decode cX12_end 40 = .ok (.aload_n 0, 1) := by decide +kernel
theorem dX12_end_41 : decode cX12_end 41 = .ok (.iload_n 1, 1) := by decide +kernel
theorem dX12_end_42 : decode cX12_end 42 = .ok (.invokevirtual 170, 3) := by decide +kernel
theorem dX12_end_45 : decode cX12_end 45 = .ok (.istore_n 2, 1) := by decide +kernel
theorem dX12_end_46 : decode cX12_end 46 = .ok (.iload_n 2, 1) := by decide +kernel
theorem dX12_end_47 : decode cX12_end 47 = .ok (.ifCond .lt 8, 3) := by decide +kernel
theorem dX12_end_50 : decode cX12_end 50 = .ok (.aload_n 0, 1) := by decide +kernel
theorem dX12_end_51 : decode cX12_end 51 = .ok (.iload_n 2, 1) := by decide +kernel
theorem dX12_end_52 : decode cX12_end 52 = .ok (.invokevirtual 184, 3) := by decide +kernel
theorem dX12_end_55 : decode cX12_end 55 = .ok (.iconst 1, 1) := by decide +kernel
theorem dX12_end_56 : decode cX12_end 56 = .ok (.ireturn, 1) := by decide +kernel
theorem dX12_set_0 : decode cX12_set 0 = .ok (.iload_n 1, 1) := by decide +kernel
theorem dX12_set_1 : decode cX12_set 1 = .ok (.iconst 0, 1) := by decide +kernel
theorem dX12_set_2 : decode cX12_set 2 = .ok (.iconst 2, 1) := by decide +kernel
theorem dX12_set_3 : decode cX12_set 3 = .ok (.invokestatic 157, 3) := by decide +kernel
theorem dX12_set_6 : decode cX12_set 6 = .ok (.ifCond .ne 10, 3) := by decide +kernel
theorem dX12_set_9 : decode cX12_set 9 = .ok (.aload_n 0, 1) := by decide +kernel
theorem dX12_set_10 : decode cX12_set 10 = .ok (.bipush (-2), 2) := by decide +kernel
theorem dX12_set_12 : decode cX12_set 12 = .ok (.invokevirtual 174, 3) := by decide +kernel
theorem dX12_set_15 : decode cX12_set 15 = .ok (.ireturn, 1) := by decide +kernel
theorem dX12_set_16 : decode cX12_set 16 = .ok (.iload_n 2, 1) := by decide +kernel
theorem dX12_set_17 : decode cX12_set 17 = .ok (.iload_n 1, 1) := by decide +kernel
theorem dX12_set_18 : decode cX12_set 18 = .ok (.iconst 2, 1) := by decide +kernel
theorem dX12_set_19 : decode cX12_set 19 = .ok (.if_icmp .ne 8, 3) := by decide +kernel
theorem dX12_set_22 : decode cX12_set 22 = .ok (.bipush 100, 2) := by decide +kernel
theorem dX12_set_24 : decode cX12_set 24 = .ok (.goto 4, 3) := by decide +kernel
theorem dX12_set_27 : decode cX12_set 27 = .ok (.iconst 0, 1) := by decide +kernel
theorem dX12_set_28 : decode cX12_set 28 = .ok (.if_icmp .ge 10, 3) := by decide +kernel
theorem dX12_set_31 : decode cX12_set 31 = .ok (.aload_n 0, 1) := by decide +kernel
theorem dX12_set_32 : decode cX12_set 32 = .ok (.bipush (-4), 2) := by decide +kernel
theorem dX12_set_34 : decode cX12_set 34 = .ok (.invokevirtual 174, 3) := by decide +kernel
theorem dX12_set_37 : decode cX12_set 37 = .ok (.ireturn, 1) := by decide +kernel
theorem dX12_set_38 : decode cX12_set 38 = .ok (.iload_n 2, 1) := by decide +kernel
theorem dX12_set_39 : decode cX12_set 39 = .ok (.iload_n 1, 1) := by decide +kernel
theorem dX12_set_40 : decode cX12_set 40 = .ok (.ifCond .ne 8, 3) := by decide +kernel
theorem dX12_set_43 : decode cX12_set 43 = .ok (.bipush 10, 2) := by decide +kernel
theorem dX12_set_45 : decode cX12_set 45 = .ok (.goto 15, 3) := by decide +kernel
theorem dX12_set_48 : decode cX12_set 48 = .ok (.iload_n 1, 1) := by decide +kernel
theorem dX12_set_49 : decode cX12_set 49 = .ok (.iconst 1, 1) := by decide +kernel
theorem dX12_set_50 : decode cX12_set 50 = .ok (.if_icmp .ne 7, 3) := by decide +kernel
theorem dX12_set_53 : decode cX12_set 53 = .ok (.iconst 5, 1) := by decide +kernel
theorem dX12_set_54 : decode cX12_set 54 = .ok (.goto 6, 3) := by decide +kernel
theorem dX12_set_57 : decode cX12_set 57 = .ok (.sipush 9999, 3) := by decide +kernel
theorem dX12_set_60 : decode cX12_set 60 = .ok (.if_icmp .le 10, 3) := by decide +kernel
theorem dX12_set_63 : decode cX12_set 63 = .ok (.aload_n 0, 1) := by decide +kernel
theorem dX12_set_64 : decode cX12_set 64 = .ok (.bipush (-6), 2) := by decide +kernel
theorem dX12_set_66 : decode cX12_set 66 = .ok (.invokevirtual 174, 3) := by decide +kernel
theorem dX12_set_69 : decode cX12_set 69 = .ok (.ireturn, 1) := by decide +kernel
theorem dX12_set_70 : decode cX12_set 70 = .ok (.iload_n 1, 1) := by decide +kernel
theorem dX12_set_71 : decode cX12_set 71 = .ok (.ifCond .ne 10, 3) := by decide +kernel
theorem dX12_set_74 : decode cX12_set 74 = .ok (.aload_n 0, 1) := by decide +kernel
theorem dX12_set_75 : decode cX12_set 75 = .ok (.getfield 58, 3) := by decide +kernel
theorem dX12_set_78 : decode cX12_set 78 = .ok (.goto 19, 3) := by decide +kernel
theorem dX12_set_81 : decode cX12_set 81 = .ok (.iload_n 1, 1) := by decide +kernel
theorem dX12_set_82 : decode cX12_set 82 = .ok (.iconst 1, 1) := by decide +kernel
theorem dX12_set_83 : decode cX12_set 83 = .ok (.if_icmp .ne 10, 3) := by decide +kernel
theorem dX12_set_86 : decode cX12_set 86 = .ok (.aload_n 0, 1) := by decide +kernel
theorem dX12_set_87 : decode cX12_set 87 = .ok (.getfield 188, 3) := by decide +kernel
theorem dX12_set_90 : decode cX12_set 90 = .ok (.goto 7, 3) := by decide +kernel
theorem dX12_set_93 : decode cX12_set 93 = .ok (.aload_n 0, 1) := by decide +kernel
theorem dX12_set_94 : decode cX12_set 94 = .ok (.getfield 62, 3) := by decide +kernel
theorem dX12_set_97 : decode cX12_set 97 = .ok (.istore_n 3, 1) := by decide +kernel
theorem dX12_set_98 : decode cX12_set 98 = .ok (.aload_n 0, 1) := by decide +kernel
theorem dX12_set_99 : decode cX12_set 99 = .ok (.iload_n 1, 1) := by decide +kernel
theorem dX12_set_100 : decode cX12_set 100 = .ok (.ifCond .ne 7, 3) := by decide +kernel
theorem dX12_set_103 : decode cX12_set 103 = .ok (.iload_n 2, 1) := by decide +kernel
theorem dX12_set_104 : decode cX12_set 104 = .ok (.goto 7, 3) := by decide +kernel
theorem dX12_set_107 : decode cX12_set 107 = .ok (.aload_n 0, 1) := by decide +kernel
theorem dX12_set_108 : decode cX12_set 108 = .ok (.getfield 58, 3) := by decide +kernel
theorem dX12_set_111 : decode cX12_set 111 = .ok (.putfield 58, 3) := by decide +kernel
theorem dX12_set_114 : decode cX12_set 114 = .ok (.aload_n 0, 1) := by decide +kernel
theorem dX12_set_115 : decode cX12_set 115 = .ok (.iload_n 1, 1) := by decide +kernel
theorem dX12_set_116 : decode cX12_set 116 = .ok (.iconst 1, 1) := by decide +kernel
theorem dX12_set_117 : decode cX12_set 117 = .ok (.if_icmp .ne 7, 3) := by decide +kernel
theorem dX12_set_120 : decode cX12_set 120 = .ok (.iload_n 2, 1) := by decide +kernel
theorem dX12_set_121 : decode cX12_set 121 = .ok (.goto 7, 3) := by decide +kernel
theorem dX12_set_124 : decode cX12_set 124 = .ok (.aload_n 0, 1) := by decide +kernel
theorem dX12_set_125 : decode cX12_set 125 = .ok (.getfield 188, 3) := by decide +kernel
theorem dX12_set_128 : decode cX12_set 128 = .ok (.putfield 188, 3) := by decide +kernel
theorem dX12_set_131 : decode cX12_set 131 = .ok (.aload_n 0, 1) := by decide +kernel
theorem dX12_set_132 : decode cX12_set 132 = .ok (.iload_n 1, 1) := by decide +kernel
theorem dX12_set_133 : decode cX12_set 133 = .ok (.iconst 2, 1) := by decide +kernel
theorem dX12_set_134 : decode cX12_set 134 = .ok (.if_icmp .ne 7, 3) := by decide +kernel
theorem dX12_set_137 : decode cX12_set 137 = .ok (.iload_n 2, 1) := by decide +kernel
theorem dX12_set_138 : decode cX12_set 138 = .ok (.goto 7, 3) := by decide +kernel
theorem dX12_set_141 : decode cX12_set 141 = .ok (.aload_n 0, 1) := by decide +kernel
theorem dX12_set_142 : decode cX12_set 142 = .ok (.getfield 62, 3) := by decide +kernel
theorem dX12_set_145 : decode cX12_set 145 = .ok (.putfield 62, 3) := by decide +kernel
theorem dX12_set_148 : decode cX12_set 148 = .ok (.iload_n 3, 1) := by decide +kernel
theorem dX12_set_149 : decode cX12_set 149 = .ok (.ireturn, 1) := by decide +kernel
theorem dX12_person_0 : decode cX12_person 0 = .ok (.iload_n 1, 1) := by decide +kernel
theorem dX12_person_1 : decode cX12_person 1 = .ok (.iconst (-1), 1) := by decide +kernel
theorem dX12_person_2 : decode cX12_person 2 = .ok (.if_icmp .eq 17, 3) := by decide +kernel
theorem dX12_person_5 : decode cX12_person 5 = .ok (.aload_n 0, 1) := by decide +kernel
theorem dX12_person_6 : decode cX12_person 6 = .ok (.iload_n 1, 1) := by decide +kernel
theorem dX12_person_7 : decode cX12_person 7 = .ok (.invokevirtual 181, 3) := by decide +kernel
theorem dX12_person_10 : decode cX12_person 10 = .ok (.ifCond .ne 9, 3) := by decide +kernel
theorem dX12_person_13 : decode cX12_person 13 = .ok (.aload_n 0, 1) := by decide +kernel
theorem dX12_person_14 : decode cX12_person 14 = .ok (.iconst (-1), 1) := by decide +kernel
theorem dX12_person_15 : decode cX12_person 15 = .ok (.invokevirtual 174, 3) := by decide +kernel
theorem dX12_person_18 : decode cX12_person 18 = .ok (.ireturn, 1) := by decide +kernel
theorem dX12_person_19 : decode cX12_person 19 = .ok (.iload_n 1, 1) := by decide +kernel
theorem dX12_person_20 : decode cX12_person 20 = .ok (.ifCond .lt 18, 3) := by decide +kernel
theorem dX12_person_23 : decode cX12_person 23 = .ok (.aload_n 0, 1) := by decide +kernel
theorem dX12_person_24 : decode cX12_person 24 = .ok (.iload_n 1, 1) := by decide +kernel
theorem dX12_person_25 : decode cX12_person 25 = .ok (.invokevirtual 191, 3) := by decide +kernel
theorem dX12_person_28 : decode cX12_person 28 = .ok (.ifCond .ne 10, 3) := by decide +kernel
theorem dX12_person_31 : decode cX12_person 31 = .ok (.aload_n 0, 1) := by decide +kernel
theorem dX12_person_32 : decode cX12_person 32 = .ok (.bipush (-3), 2) := by decide +kernel
theorem dX12_person_34 : decode cX12_person 34 = .ok (.invokevirtual 174, 3) := by decide +kernel
theorem dX12_person_37 : decode cX12_person 37 = .ok (.ireturn, 1) := by decide +kernel
theorem dX12_person_38 : decode cX12_person 38 = .ok (.iload_n 2, 1) := by decide +kernel
theorem dX12_person_39 : decode cX12_person 39 = .ok (.ifCond .lt 17, 3) := by decide +kernel
theorem dX12_person_42 : decode cX12_person 42 = .ok (.iload_n 3, 1) := by decide +kernel
theorem dX12_person_43 : decode cX12_person 43 = .ok (.sipush (-20000), 3) := by decide +kernel
theorem dX12_person_46 : decode cX12_person 46 = .ok (.if_icmp .lt 10, 3) := by decide +kernel
theorem dX12_person_49 : decode cX12_person 49 = .ok (.iload 4, 2) := by decide +kernel
theorem dX12_person_51 : decode cX12_person 51 = .ok (.bipush 100, 2) := by decide +kernel
theorem dX12_person_53 : decode cX12_person 53 = .ok (.if_icmp .ge 10, 3) := by decide +kernel
theorem dX12_person_56 : decode cX12_person 56 = .ok (.aload_n 0, 1) := by decide +kernel
theorem dX12_person_57 : decode cX12_person 57 = .ok (.bipush (-4), 2) := by decide +kernel
theorem dX12_person_59 : decode cX12_person 59 = .ok (.invokevirtual 174, 3) := by decide +kernel
theorem dX12_person_62 : decode cX12_person 62 = .ok (.ireturn, 1) := by decide +kernel
theorem dX12_person_63 : decode cX12_person 63 = .ok (.iload_n 2, 1) := by decide +kernel
theorem dX12_person_64 : decode cX12_person 64 = .ok (.sipush 1023, 3) := by decide +kernel
theorem dX12_person_67 : decode cX12_person 67 = .ok (.if_icmp .gt 28, 3) := by decide +kernel
theorem dX12_person_70 : decode cX12_person 70 = .ok (.iload_n 3, 1) := by decide +kernel
theorem dX12_person_71 : decode cX12_person 71 = .ok (.aload_n 0, 1) := by decide +kernel
theorem dX12_person_72 : decode cX12_person 72 = .ok (.getfield 167, 3) := by decide +kernel
theorem dX12_person_75 : decode cX12_person 75 = .ok (.if_icmp .gt 20, 3) := by decide +kernel
theorem dX12_person_78 : decode cX12_person 78 = .ok (.iload 4, 2) := by decide +kernel
theorem dX12_person_80 : decode cX12_person 80 = .ok (.sipush 9999, 3) := by decide +kernel
theorem dX12_person_83 : decode cX12_person 83 = .ok (.if_icmp .gt 12, 3) := by decide +kernel
theorem dX12_person_86 : decode cX12_person 86 = .ok (.aload_n 0, 1) := by decide +kernel
theorem dX12_person_87 : decode cX12_person 87 = .ok (.getfield 164, 3) := by decide +kernel
theorem dX12_person_90 : decode cX12_person 90 = .ok (.bipush 40, 2) := by decide +kernel
theorem dX12_person_92 : decode cX12_person 92 = .ok (.if_icmp .ne 10, 3) := by decide +kernel
theorem dX12_person_95 : decode cX12_person 95 = .ok (.aload_n 0, 1) := by decide +kernel
theorem dX12_person_96 : decode cX12_person 96 = .ok (.bipush (-6), 2) := by decide +kernel
theorem dX12_person_98 : decode cX12_person 98 = .ok (.invokevirtual 174, 3) := by decide +kernel
theorem dX12_person_101 : decode cX12_person 101 = .ok (.ireturn, 1) := by decide +kernel
theorem dX12_person_102 : decode cX12_person 102 = .ok (.aload_n 0, 1) := by decide +kernel
theorem dX12_person_103 : decode cX12_person 103 = .ok (.getfield 43, 3) := by decide +kernel
theorem dX12_person_106 : decode cX12_person 106 = .ok (.aload_n 0, 1) := by decide +kernel
theorem dX12_person_107 : decode cX12_person 107 = .ok (.getfield 164, 3) := by decide +kernel
theorem dX12_person_110 : decode cX12_person 110 = .ok (.iload_n 1, 1) := by decide +kernel
theorem dX12_person_111 : decode cX12_person 111 = .ok (.iastore, 1) := by decide +kernel
theorem dX12_person_112 : decode cX12_person 112 = .ok (.aload_n 0, 1) := by decide +kernel
theorem dX12_person_113 : decode cX12_person 113 = .ok (.getfield 46, 3) := by decide +kernel
theorem dX12_person_116 : decode cX12_person 116 = .ok (.aload_n 0, 1) := by decide +kernel
theorem dX12_person_117 : decode cX12_person 117 = .ok (.getfield 164, 3) := by decide +kernel
theorem dX12_person_120 : decode cX12_person 120 = .ok (.iconst (-1), 1) := by decide +kernel
theorem dX12_person_121 : decode cX12_person 121 = .ok (.iastore, 1) := by decide +kernel
theorem dX12_person_122 : decode cX12_person 122 = .ok (.aload_n 0, 1) := by decide +kernel
theorem dX12_person_123 : decode cX12_person 123 = .ok (.getfield 34, 3) := by decide +kernel
theorem dX12_person_126 : decode cX12_person 126 = .ok (.aload_n 0, 1) := by decide +kernel
theorem dX12_person_127 : decode cX12_person 127 = .ok (.getfield 164, 3) := by decide +kernel
theorem dX12_person_130 : decode cX12_person 130 = .ok (.iload_n 2, 1) := by decide +kernel
theorem dX12_person_131 : decode cX12_person 131 = .ok (.iastore, 1) := by decide +kernel
theorem dX12_person_132 : decode cX12_person 132 = .ok (.aload_n 0, 1) := by decide +kernel
theorem dX12_person_133 : decode cX12_person 133 = .ok (.getfield 37, 3) := by decide +kernel
theorem dX12_person_136 : decode cX12_person 136 = .ok (.aload_n 0, 1) := by decide +kernel
theorem dX12_person_137 : decode cX12_person 137 = .ok (.getfield 164, 3) := by decide +kernel
theorem dX12_person_140 : decode cX12_person 140 = .ok (.iload_n 3, 1) := by decide +kernel
theorem dX12_person_141 : decode cX12_person 141 = .ok (.iastore, 1) := by decide +kernel
theorem dX12_person_142 : decode cX12_person 142 = .ok (.aload_n 0, 1) := by decide +kernel
theorem dX12_person_143 : decode cX12_person 143 = .ok (.getfield 40, 3) := by decide +kernel
theorem dX12_person_146 : decode cX12_person 146 = .ok (.aload_n 0, 1) := by decide +kernel
theorem dX12_person_147 : decode cX12_person 147 = .ok (.getfield 164, 3) := by decide +kernel
theorem dX12_person_150 : decode cX12_person 150 = .ok (.iload 4, 2) := by decide +kernel
theorem dX12_person_152 : decode cX12_person 152 = .ok (.iastore, 1) := by decide +kernel
theorem dX12_person_153 : decode cX12_person 153 = .ok (.aload_n 0, 1) := by decide +kernel
theorem dX12_person_154 : decode cX12_person 154 = .ok (.getfield 49, 3) := by decide +kernel
theorem dX12_person_157 : decode cX12_person 157 = .ok (.aload_n 0, 1) := by decide +kernel
theorem dX12_person_158 : decode cX12_person 158 = .ok (.getfield 164, 3) := by decide +kernel
theorem dX12_person_161 : decode cX12_person 161 = .ok (.iconst (-1), 1) := by decide +kernel
theorem dX12_person_162 : decode cX12_person 162 = .ok (.iastore, 1) := by decide +kernel
theorem dX12_person_163 : decode cX12_person 163 = .ok (.aload_n 0, 1) := by decide +kernel
theorem dX12_person_164 : decode cX12_person 164 = .ok (.getfield 52, 3) := by decide +kernel
theorem dX12_person_167 : decode cX12_person 167 = .ok (.aload_n 0, 1) := by decide +kernel
theorem dX12_person_168 : decode cX12_person 168 = .ok (.getfield 164, 3) := by decide +kernel
theorem dX12_person_171 : decode cX12_person 171 = .ok (.iconst (-1), 1) := by decide +kernel
theorem dX12_person_172 : decode cX12_person 172 = .ok (.iastore, 1) := by decide +kernel
theorem dX12_person_173 : decode cX12_person 173 = .ok (.aload_n 0, 1) := by decide +kernel
theorem dX12_person_174 : decode cX12_person 174 = .ok (.getfield 55, 3) := by decide +kernel
theorem dX12_person_177 : decode cX12_person 177 = .ok (.aload_n 0, 1) := by decide +kernel
theorem dX12_person_178 : decode cX12_person 178 = .ok (.getfield 164, 3) := by decide +kernel
theorem dX12_person_181 : decode cX12_person 181 = .ok (.iconst (-1), 1) := by decide +kernel
theorem dX12_person_182 : decode cX12_person 182 = .ok (.iastore, 1) := by decide +kernel
theorem dX12_person_183 : decode cX12_person 183 = .ok (.aload_n 0, 1) := by decide +kernel
theorem dX12_person_184 : decode cX12_person 184 = .ok (.dup, 1) := by decide +kernel
theorem dX12_person_185 : decode cX12_person 185 = .ok (.getfield 164, 3) := by decide +kernel
theorem dX12_person_188 : decode cX12_person 188 = .ok (.iconst 1, 1) := by decide +kernel
theorem dX12_person_189 : decode cX12_person 189 = .ok (.iadd, 1) := by decide +kernel
theorem dX12_person_190 : decode cX12_person 190 = .ok (.putfield 164, 3) := by decide +kernel
theorem dX12_person_193 : decode cX12_person 193 = .ok (.aload_n 0, 1) := by decide +kernel
theorem dX12_person_194 : decode cX12_person 194 = .ok (.getfield 164, 3) := by decide +kernel
theorem dX12_person_197 : decode cX12_person 197 = .ok (.iconst 1, 1) := by decide +kernel
theorem dX12_person_198 : decode cX12_person 198 = .ok (.isub, 1) := by decide +kernel
theorem dX12_person_199 : decode cX12_person 199 = .ok (.ireturn, 1) := by decide +kernel
theorem dX12_protect_0 : decode cX12_protect 0 = .ok (.aload_n 0, 1) := by decide +kernel
theorem dX12_protect_1 : decode cX12_protect 1 = .ok (.iload_n 1, 1) := by decide +kernel
theorem dX12_protect_2 : decode cX12_protect 2 = .ok (.invokevirtual 194, 3) := by decide +kernel
theorem dX12_protect_5 : decode cX12_protect 5 = .ok (.ifCond .ne 9, 3) := by decide +kernel
theorem dX12_protect_8 : decode cX12_protect 8 = .ok (.aload_n 0, 1) := by decide +kernel
theorem dX12_protect_9 : decode cX12_protect 9 = .ok (.iconst (-1), 1) := by decide +kernel
theorem dX12_protect_10 : decode cX12_protect 10 = .ok (.invokevirtual 197, 3) := by decide +kernel
theorem dX12_protect_13 : decode cX12_protect 13 = .ok (.ireturn, 1) := by decide +kernel
theorem dX12_protect_14 : decode cX12_protect 14 = .ok (.iload_n 2, 1) := by decide +kernel
theorem dX12_protect_15 : decode cX12_protect 15 = .ok (.iconst (-1), 1) := by decide +kernel
theorem dX12_protect_16 : decode cX12_protect 16 = .ok (.if_icmp .ge 10, 3) := by decide +kernel
theorem dX12_protect_19 : decode cX12_protect 19 = .ok (.aload_n 0, 1) := by decide +kernel
theorem dX12_protect_20 : decode cX12_protect 20 = .ok (.bipush (-4), 2) := by decide +kernel
theorem dX12_protect_22 : decode cX12_protect 22 = .ok (.invokevirtual 197, 3) := by decide +kernel
theorem dX12_protect_25 : decode cX12_protect 25 = .ok (.ireturn, 1) := by decide +kernel
theorem dX12_protect_26 : decode cX12_protect 26 = .ok (.iload_n 2, 1) := by decide +kernel
theorem dX12_protect_27 : decode cX12_protect 27 = .ok (.sipush 9000, 3) := by decide +kernel
theorem dX12_protect_30 : decode cX12_protect 30 = .ok (.if_icmp .le 10, 3) := by decide +kernel
theorem dX12_protect_33 : decode cX12_protect 33 = .ok (.aload_n 0, 1) := by decide +kernel
theorem dX12_protect_34 : decode cX12_protect 34 = .ok (.bipush (-6), 2) := by decide +kernel
theorem dX12_protect_36 : decode cX12_protect 36 = .ok (.invokevirtual 197, 3) := by decide +kernel
theorem dX12_protect_39 : decode cX12_protect 39 = .ok (.ireturn, 1) := by decide +kernel
theorem dX12_protect_40 : decode cX12_protect 40 = .ok (.aload_n 0, 1) := by decide +kernel
theorem dX12_protect_41 : decode cX12_protect 41 = .ok (.getfield 52, 3) := by decide +kernel
theorem dX12_protect_44 : decode cX12_protect 44 = .ok (.iload_n 1, 1) := by decide +kernel
theorem dX12_protect_45 : decode cX12_protect 45 = .ok (.iaload, 1) := by decide +kernel
theorem dX12_protect_46 : decode cX12_protect 46 = .ok (.istore_n 3, 1) := by decide +kernel
theorem dX12_protect_47 : decode cX12_protect 47 = .ok (.aload_n 0, 1) := by decide +kernel
theorem dX12_protect_48 : decode cX12_protect 48 = .ok (.getfield 52, 3) := by decide +kernel
theorem dX12_protect_51 : decode cX12_protect 51 = .ok (.iload_n 1, 1) := by decide +kernel
theorem dX12_protect_52 : decode cX12_protect 52 = .ok (.iload_n 2, 1) := by decide +kernel
theorem dX12_protect_53 : decode cX12_protect 53 = .ok (.iastore, 1) := by decide +kernel
theorem dX12_protect_54 : decode cX12_protect 54 = .ok (.iload_n 3, 1) := by decide +kernel
theorem dX12_protect_55 : decode cX12_protect 55 = .ok (.ireturn, 1) := by decide +kernel
theorem dX12_move_0 : decode cX12_move 0 = .ok (.aload_n 0, 1) := by decide +kernel
theorem dX12_move_1 : decode cX12_move 1 = .ok (.iload_n 1, 1) := by decide +kernel
theorem dX12_move_2 : decode cX12_move 2 = .ok (.invokevirtual 194, 3) := by decide +kernel
theorem dX12_move_5 : decode cX12_move 5 = .ok (.ifCond .eq 16, 3) := by decide +kernel
theorem dX12_move_8 : decode cX12_move 8 = .ok (.iload_n 2, 1) := by decide +kernel
theorem dX12_move_9 : decode cX12_move 9 = .ok (.iconst (-1), 1) := by decide +kernel
theorem dX12_move_10 : decode cX12_move 10 = .ok (.if_icmp .eq 17, 3) := by decide +kernel
theorem dX12_move_13 : decode cX12_move 13 = .ok (.aload_n 0, 1) := by decide +kernel
theorem dX12_move_14 : decode cX12_move 14 = .ok (.iload_n 2, 1) := by decide +kernel
theorem dX12_move_15 : decode cX12_move 15 = .ok (.invokevirtual 181, 3) := by decide +kernel
theorem dX12_move_18 : decode cX12_move 18 = .ok (.ifCond .ne 9, 3) := by decide +kernel
theorem dX12_move_21 : decode cX12_move 21 = .ok (.aload_n 0, 1) := by decide +kernel
theorem dX12_move_22 : decode cX12_move 22 = .ok (.iconst (-1), 1) := by decide +kernel
theorem dX12_move_23 : decode cX12_move 23 = .ok (.invokevirtual 197, 3) := by decide +kernel
theorem dX12_move_26 : decode cX12_move 26 = .ok (.ireturn, 1) := by decide +kernel
theorem dX12_move_27 : decode cX12_move 27 = .ok (.aload_n 0, 1) := by decide +kernel
theorem dX12_move_28 : decode cX12_move 28 = .ok (.iload_n 1, 1) := by decide +kernel
theorem dX12_move_29 : decode cX12_move 29 = .ok (.invokevirtual 200, 3) := by decide +kernel
theorem dX12_move_32 : decode cX12_move 32 = .ok (.ifCond .eq 25, 3) := by decide +kernel
theorem dX12_move_35 : decode cX12_move 35 = .ok (.iload_n 2, 1) := by decide +kernel
theorem dX12_move_36 : decode cX12_move 36 = .ok (.ifCond .lt 28, 3) := by decide +kernel
theorem dX12_move_39 : decode cX12_move 39 = .ok (.aload_n 0, 1) := by decide +kernel
theorem dX12_move_40 : decode cX12_move 40 = .ok (.getfield 43, 3) := by decide +kernel
theorem dX12_move_43 : decode cX12_move 43 = .ok (.iload_n 1, 1) := by decide +kernel
theorem dX12_move_44 : decode cX12_move 44 = .ok (.iaload, 1) := by decide +kernel
theorem dX12_move_45 : decode cX12_move 45 = .ok (.iload_n 2, 1) := by decide +kernel
theorem dX12_move_46 : decode cX12_move 46 = .ok (.if_icmp .eq 18, 3) := by decide +kernel
theorem dX12_move_49 : decode cX12_move 49 = .ok (.aload_n 0, 1) := by decide +kernel
theorem dX12_move_50 : decode cX12_move 50 = .ok (.iload_n 2, 1) := by decide +kernel
theorem dX12_move_51 : decode cX12_move 51 = .ok (.invokevirtual 191, 3) := by decide +kernel
theorem dX12_move_54 : decode cX12_move 54 = .ok (.ifCond .ne 10, 3) := by decide +kernel
theorem dX12_move_57 : decode cX12_move 57 = .ok (.aload_n 0, 1) := by decide +kernel
theorem dX12_move_58 : decode cX12_move 58 = .ok (.bipush (-3), 2) := by decide +kernel
theorem dX12_move_60 : decode cX12_move 60 = .ok (.invokevirtual 197, 3) := by decide +kernel
theorem dX12_move_63 : decode cX12_move 63 = .ok (.ireturn, 1) := by decide +kernel
theorem dX12_move_64 : decode cX12_move 64 = .ok (.aload_n 0, 1) := by decide +kernel
theorem dX12_move_65 : decode cX12_move 65 = .ok (.getfield 43, 3) := by decide +kernel
theorem dX12_move_68 : decode cX12_move 68 = .ok (.iload_n 1, 1) := by decide +kernel
theorem dX12_move_69 : decode cX12_move 69 = .ok (.iaload, 1) := by decide +kernel
theorem dX12_move_70 : decode cX12_move 70 = .ok (.istore_n 3, 1) := by decide +kernel
theorem dX12_move_71 : decode cX12_move 71 = .ok (.aload_n 0, 1) := by decide +kernel
theorem dX12_move_72 : decode cX12_move 72 = .ok (.iload_n 1, 1) := by decide +kernel
theorem dX12_move_73 : decode cX12_move 73 = .ok (.invokevirtual 184, 3) := by decide +kernel
theorem dX12_move_76 : decode cX12_move 76 = .ok (.aload_n 0, 1) := by decide +kernel
theorem dX12_move_77 : decode cX12_move 77 = .ok (.getfield 43, 3) := by decide +kernel
theorem dX12_move_80 : decode cX12_move 80 = .ok (.iload_n 1, 1) := by decide +kernel
theorem dX12_move_81 : decode cX12_move 81 = .ok (.iload_n 2, 1) := by decide +kernel
theorem dX12_move_82 : decode cX12_move 82 = .ok (.iastore, 1) := by decide +kernel
theorem dX12_move_83 : decode cX12_move 83 = .ok (.iload_n 3, 1) := by decide +kernel
theorem dX12_move_84 : decode cX12_move 84 = .ok (.ireturn, 1) := by decide +kernel
theorem dX12_leave_0 : decode cX12_leave 0 = .ok (.aload_n 0, 1) := by decide +kernel
theorem dX12_leave_1 : decode cX12_leave 1 = .ok (.iload_n 1, 1) := by decide +kernel
theorem dX12_leave_2 : decode cX12_leave 2 = .ok (.invokevirtual 194, 3) := by decide +kernel
theorem dX12_leave_5 : decode cX12_leave 5 = .ok (.ifCond .ne 9, 3) := by decide +kernel
theorem dX12_leave_8 : decode cX12_leave 8 = .ok (.aload_n 0, 1) := by decide +kernel
theorem dX12_leave_9 : decode cX12_leave 9 = .ok (.iconst (-1), 1) := by decide +kernel
theorem dX12_leave_10 : decode cX12_leave 10 = .ok (.invokevirtual 174, 3) := by decide +kernel
theorem dX12_leave_13 : decode cX12_leave 13 = .ok (.ireturn, 1) := by decide +kernel
theorem dX12_leave_14 : decode cX12_leave 14 = .ok (.aload_n 0, 1) := by decide +kernel
theorem dX12_leave_15 : decode cX12_leave 15 = .ok (.iload_n 1, 1) := by decide +kernel
theorem dX12_leave_16 : decode cX12_leave 16 = .ok (.invokevirtual 200, 3) := by decide +kernel
theorem dX12_leave_19 : decode cX12_leave 19 = .ok (.ifCond .ne 10, 3) := by decide +kernel
theorem dX12_leave_22 : decode cX12_leave 22 = .ok (.aload_n 0, 1) := by decide +kernel
theorem dX12_leave_23 : decode cX12_leave 23 = .ok (.bipush (-3), 2) := by decide +kernel
theorem dX12_leave_25 : decode cX12_leave 25 = .ok (.invokevirtual 174, 3) := by decide +kernel
theorem dX12_leave_28 : decode cX12_leave 28 = .ok (.ireturn, 1) := by decide +kernel
theorem dX12_leave_29 : decode cX12_leave 29 = .ok (.aload_n 0, 1) := by decide +kernel
theorem dX12_leave_30 : decode cX12_leave 30 = .ok (.iload_n 1, 1) := by decide +kernel
theorem dX12_leave_31 : decode cX12_leave 31 = .ok (.invokevirtual 184, 3) := by decide +kernel
theorem dX12_leave_34 : decode cX12_leave 34 = .ok (.aload_n 0, 1) := by decide +kernel
theorem dX12_leave_35 : decode cX12_leave 35 = .ok (.getfield 49, 3) := by decide +kernel
theorem dX12_leave_38 : decode cX12_leave 38 = .ok (.iload_n 1, 1) := by decide +kernel
theorem dX12_leave_39 : decode cX12_leave 39 = .ok (.aload_n 0, 1) := by decide +kernel
theorem dX12_leave_40 : decode cX12_leave 40 = .ok (.getfield 167, 3) := by decide +kernel
theorem dX12_leave_43 : decode cX12_leave 43 = .ok (.iastore, 1) := by decide +kernel
theorem dX12_leave_44 : decode cX12_leave 44 = .ok (.iconst 1, 1) := by decide +kernel
theorem dX12_leave_45 : decode cX12_leave 45 = .ok (.ireturn, 1) := by decide +kernel
theorem dX12_weight_0 : decode cX12_weight 0 = .ok (.iload_n 1, 1) := by decide +kernel
theorem dX12_weight_1 : decode cX12_weight 1 = .ok (.iconst 0, 1) := by decide +kernel
theorem dX12_weight_2 : decode cX12_weight 2 = .ok (.iconst 3, 1) := by decide +kernel
theorem dX12_weight_3 : decode cX12_weight 3 = .ok (.invokestatic 157, 3) := by decide +kernel
theorem dX12_weight_6 : decode cX12_weight 6 = .ok (.ifCond .ne 10, 3) := by decide +kernel
theorem dX12_weight_9 : decode cX12_weight 9 = .ok (.aload_n 0, 1) := by decide +kernel
theorem dX12_weight_10 : decode cX12_weight 10 = .ok (.bipush (-2), 2) := by decide +kernel
theorem dX12_weight_12 : decode cX12_weight 12 = .ok (.invokevirtual 174, 3) := by decide +kernel
theorem dX12_weight_15 : decode cX12_weight 15 = .ok (.ireturn, 1) := by decide +kernel
theorem dX12_weight_16 : decode cX12_weight 16 = .ok (.iload_n 2, 1) := by decide +kernel
theorem dX12_weight_17 : decode cX12_weight 17 = .ok (.ifCond .ge 10, 3) := by decide +kernel
theorem dX12_weight_20 : decode cX12_weight 20 = .ok (.aload_n 0, 1) := by decide +kernel
theorem dX12_weight_21 : decode cX12_weight 21 = .ok (.bipush (-4), 2) := by decide +kernel
theorem dX12_weight_23 : decode cX12_weight 23 = .ok (.invokevirtual 174, 3) := by decide +kernel
theorem dX12_weight_26 : decode cX12_weight 26 = .ok (.ireturn, 1) := by decide +kernel
theorem dX12_weight_27 : decode cX12_weight 27 = .ok (.iload_n 2, 1) := by decide +kernel
theorem dX12_weight_28 : decode cX12_weight 28 = .ok (.bipush 20, 2) := by decide +kernel
theorem dX12_weight_30 : decode cX12_weight 30 = .ok (.if_icmp .le 10, 3) := by decide +kernel
theorem dX12_weight_33 : decode cX12_weight 33 = .ok (.aload_n 0, 1) := by decide +kernel
theorem dX12_weight_34 : decode cX12_weight 34 = .ok (.bipush (-6), 2) := by decide +kernel
theorem dX12_weight_36 : decode cX12_weight 36 = .ok (.invokevirtual 174, 3) := by decide +kernel
theorem dX12_weight_39 : decode cX12_weight 39 = .ok (.ireturn, 1) := by decide +kernel
theorem dX12_weight_40 : decode cX12_weight 40 = .ok (.aload_n 0, 1) := by decide +kernel
theorem dX12_weight_41 : decode cX12_weight 41 = .ok (.getfield 65, 3) := by decide +kernel
theorem dX12_weight_44 : decode cX12_weight 44 = .ok (.iload_n 1, 1) := by decide +kernel
theorem dX12_weight_45 : decode cX12_weight 45 = .ok (.iaload, 1) := by decide +kernel
theorem dX12_weight_46 : decode cX12_weight 46 = .ok (.istore_n 3, 1) := by decide +kernel
theorem dX12_weight_47 : decode cX12_weight 47 = .ok (.aload_n 0, 1) := by decide +kernel
theorem dX12_weight_48 : decode cX12_weight 48 = .ok (.getfield 65, 3) := by decide +kernel
theorem dX12_weight_51 : decode cX12_weight 51 = .ok (.iload_n 1, 1) := by decide +kernel
theorem dX12_weight_52 : decode cX12_weight 52 = .ok (.iload_n 2, 1) := by decide +kernel
theorem dX12_weight_53 : decode cX12_weight 53 = .ok (.iastore, 1) := by decide +kernel
theorem dX12_weight_54 : decode cX12_weight 54 = .ok (.iload_n 3, 1) := by decide +kernel
theorem dX12_weight_55 : decode cX12_weight 55 = .ok (.ireturn, 1) := by decide +kernel
theorem dX12_tell_0 : decode cX12_tell 0 = .ok (.aload_n 0, 1) := by decide +kernel
theorem dX12_tell_1 : decode cX12_tell 1 = .ok (.iload_n 1, 1) := by decide +kernel
theorem dX12_tell_2 : decode cX12_tell 2 = .ok (.invokevirtual 194, 3) := by decide +kernel
theorem dX12_tell_5 : decode cX12_tell 5 = .ok (.ifCond .ne 9, 3) := by decide +kernel
theorem dX12_tell_8 : decode cX12_tell 8 = .ok (.aload_n 0, 1) := by decide +kernel
theorem dX12_tell_9 : decode cX12_tell 9 = .ok (.iconst (-1), 1) := by decide +kernel
theorem dX12_tell_10 : decode cX12_tell 10 = .ok (.invokevirtual 174, 3) := by decide +kernel
theorem dX12_tell_13 : decode cX12_tell 13 = .ok (.ireturn, 1) := by decide +kernel
theorem dX12_tell_14 : decode cX12_tell 14 = .ok (.iload_n 2, 1) := by decide +kernel
theorem dX12_tell_15 : decode cX12_tell 15 = .ok (.iconst 0, 1) := by decide +kernel
theorem dX12_tell_16 : decode cX12_tell 16 = .ok (.iconst 1, 1) := by decide +kernel
theorem dX12_tell_17 : decode cX12_tell 17 = .ok (.invokestatic 157, 3) := by decide +kernel
theorem dX12_tell_20 : decode cX12_tell 20 = .ok (.ifCond .ne 10, 3) := by decide +kernel
theorem dX12_tell_23 : decode cX12_tell 23 = .ok (.aload_n 0, 1) := by decide +kernel
theorem dX12_tell_24 : decode cX12_tell 24 = .ok (.bipush (-2), 2) := by decide +kernel
theorem dX12_tell_26 : decode cX12_tell 26 = .ok (.invokevirtual 174, 3) := by decide +kernel
theorem dX12_tell_29 : decode cX12_tell 29 = .ok (.ireturn, 1) := by decide +kernel
theorem dX12_tell_30 : decode cX12_tell 30 = .ok (.iload_n 3, 1) := by decide +kernel
theorem dX12_tell_31 : decode cX12_tell 31 = .ok (.ifCond .ge 10, 3) := by decide +kernel
theorem dX12_tell_34 : decode cX12_tell 34 = .ok (.aload_n 0, 1) := by decide +kernel
theorem dX12_tell_35 : decode cX12_tell 35 = .ok (.bipush (-4), 2) := by decide +kernel
theorem dX12_tell_37 : decode cX12_tell 37 = .ok (.invokevirtual 174, 3) := by decide +kernel
theorem dX12_tell_40 : decode cX12_tell 40 = .ok (.ireturn, 1) := by decide +kernel
theorem dX12_tell_41 : decode cX12_tell 41 = .ok (.iload_n 3, 1) := by decide +kernel
theorem dX12_tell_42 : decode cX12_tell 42 = .ok (.iload_n 2, 1) := by decide +kernel
theorem dX12_tell_43 : decode cX12_tell 43 = .ok (.ifCond .ne 8, 3) := by decide +kernel
theorem dX12_tell_46 : decode cX12_tell 46 = .ok (.bipush 100, 2) := by decide +kernel
theorem dX12_tell_48 : decode cX12_tell 48 = .ok (.goto 5, 3) := by decide +kernel
theorem dX12_tell_51 : decode cX12_tell 51 = .ok (.bipush 9, 2) := by decide +kernel
theorem dX12_tell_53 : decode cX12_tell 53 = .ok (.if_icmp .gt 12, 3) := by decide +kernel
theorem dX12_tell_56 : decode cX12_tell 56 = .ok (.aload_n 0, 1) := by decide +kernel
theorem dX12_tell_57 : decode cX12_tell 57 = .ok (.getfield 203, 3) := by decide +kernel
theorem dX12_tell_60 : decode cX12_tell 60 = .ok (.bipush 120, 2) := by decide +kernel
theorem dX12_tell_62 : decode cX12_tell 62 = .ok (.if_icmp .ne 10, 3) := by decide +kernel
theorem dX12_tell_65 : decode cX12_tell 65 = .ok (.aload_n 0, 1) := by decide +kernel
theorem dX12_tell_66 : decode cX12_tell 66 = .ok (.bipush (-6), 2) := by decide +kernel
theorem dX12_tell_68 : decode cX12_tell 68 = .ok (.invokevirtual 174, 3) := by decide +kernel
theorem dX12_tell_71 : decode cX12_tell 71 = .ok (.ireturn, 1) := by decide +kernel
theorem dX12_tell_72 : decode cX12_tell 72 = .ok (.aload_n 0, 1) := by decide +kernel
theorem dX12_tell_73 : decode cX12_tell 73 = .ok (.getfield 71, 3) := by decide +kernel
theorem dX12_tell_76 : decode cX12_tell 76 = .ok (.aload_n 0, 1) := by decide +kernel
theorem dX12_tell_77 : decode cX12_tell 77 = .ok (.getfield 203, 3) := by decide +kernel
theorem dX12_tell_80 : decode cX12_tell 80 = .ok (.iload_n 1, 1) := by decide +kernel
theorem dX12_tell_81 : decode cX12_tell 81 = .ok (.iastore, 1) := by decide +kernel
theorem dX12_tell_82 : decode cX12_tell 82 = .ok (.aload_n 0, 1) := by decide +kernel
theorem dX12_tell_83 : decode cX12_tell 83 = .ok (.getfield 74, 3) := by decide +kernel
theorem dX12_tell_86 : decode cX12_tell 86 = .ok (.aload_n 0, 1) := by decide +kernel
theorem dX12_tell_87 : decode cX12_tell 87 = .ok (.getfield 203, 3) := by decide +kernel
theorem dX12_tell_90 : decode cX12_tell 90 = .ok (.iload_n 2, 1) := by decide +kernel
theorem dX12_tell_91 : decode cX12_tell 91 = .ok (.iastore, 1) := by decide +kernel
theorem dX12_tell_92 : decode cX12_tell 92 = .ok (.aload_n 0, 1) := by decide +kernel
theorem dX12_tell_93 : decode cX12_tell 93 = .ok (.getfield 77, 3) := by decide +kernel
theorem dX12_tell_96 : decode cX12_tell 96 = .ok (.aload_n 0, 1) := by decide +kernel
theorem dX12_tell_97 : decode cX12_tell 97 = .ok (.getfield 203, 3) := by decide +kernel
theorem dX12_tell_100 : decode cX12_tell 100 = .ok (.iload_n 3, 1) := by decide +kernel
theorem dX12_tell_101 : decode cX12_tell 101 = .ok (.iastore, 1) := by decide +kernel
theorem dX12_tell_102 : decode cX12_tell 102 = .ok (.aload_n 0, 1) := by decide +kernel
theorem dX12_tell_103 : decode cX12_tell 103 = .ok (.getfield 80, 3) := by decide +kernel
theorem dX12_tell_106 : decode cX12_tell 106 = .ok (.aload_n 0, 1) := by decide +kernel
theorem dX12_tell_107 : decode cX12_tell 107 = .ok (.getfield 203, 3) := by decide +kernel
theorem dX12_tell_110 : decode cX12_tell 110 = .ok (.aload_n 0, 1) := by decide +kernel
theorem dX12_tell_111 : decode cX12_tell 111 = .ok (.getfield 167, 3) := by decide +kernel
theorem dX12_tell_114 : decode cX12_tell 114 = .ok (.iastore, 1) := by decide +kernel
theorem dX12_tell_115 : decode cX12_tell 115 = .ok (.aload_n 0, 1) := by decide +kernel
theorem dX12_tell_116 : decode cX12_tell 116 = .ok (.dup, 1) := by decide +kernel
theorem dX12_tell_117 : decode cX12_tell 117 = .ok (.getfield 203, 3) := by decide +kernel
theorem dX12_tell_120 : decode cX12_tell 120 = .ok (.iconst 1, 1) := by decide +kernel
theorem dX12_tell_121 : decode cX12_tell 121 = .ok (.iadd, 1) := by decide +kernel
theorem dX12_tell_122 : decode cX12_tell 122 = .ok (.putfield 203, 3) := by decide +kernel
theorem dX12_tell_125 : decode cX12_tell 125 = .ok (.aload_n 0, 1) := by decide +kernel
theorem dX12_tell_126 : decode cX12_tell 126 = .ok (.getfield 203, 3) := by decide +kernel
theorem dX12_tell_129 : decode cX12_tell 129 = .ok (.iconst 1, 1) := by decide +kernel
theorem dX12_tell_130 : decode cX12_tell 130 = .ok (.isub, 1) := by decide +kernel
theorem dX12_tell_131 : decode cX12_tell 131 = .ok (.ireturn, 1) := by decide +kernel
theorem dX12_isTelling_0 : decode cX12_isTelling 0 = .ok (.iload_n 1, 1) := by decide +kernel
theorem dX12_isTelling_1 : decode cX12_isTelling 1 = .ok (.iconst 0, 1) := by decide +kernel
theorem dX12_isTelling_2 : decode cX12_isTelling 2 = .ok (.aload_n 0, 1) := by decide +kernel
theorem dX12_isTelling_3 : decode cX12_isTelling 3 = .ok (.getfield 203, 3) := by decide +kernel
theorem dX12_isTelling_6 : decode cX12_isTelling 6 = .ok (.iconst 1, 1) := by decide +kernel
theorem dX12_isTelling_7 : decode cX12_isTelling 7 = .ok (.isub, 1) := by decide +kernel
theorem dX12_isTelling_8 : decode cX12_isTelling 8 = .ok (.invokestatic 157, 3) := by decide +kernel
theorem dX12_isTelling_11 : decode cX12_isTelling 11 = .ok (.ireturn, 1) := by decide +kernel
theorem dX12_putRight_0 : decode cX12_putRight 0 = .ok (.aload_n 0, 1) := by decide +kernel
theorem dX12_putRight_1 : decode cX12_putRight 1 = .ok (.getfield 83, 3) := by decide +kernel
theorem dX12_putRight_4 : decode cX12_putRight 4 = .ok (.aload_n 0, 1) := by decide +kernel
theorem dX12_putRight_5 : decode cX12_putRight 5 = .ok (.getfield 206, 3) := by decide +kernel
theorem dX12_putRight_8 : decode cX12_putRight 8 = .ok (.iload_n 1, 1) := by decide +kernel
theorem dX12_putRight_9 : decode cX12_putRight 9 = .ok (.iastore, 1) := by decide +kernel
theorem dX12_putRight_10 : decode cX12_putRight 10 = .ok (.aload_n 0, 1) := by decide +kernel
theorem dX12_putRight_11 : decode cX12_putRight 11 = .ok (.getfield 86, 3) := by decide +kernel
theorem dX12_putRight_14 : decode cX12_putRight 14 = .ok (.aload_n 0, 1) := by decide +kernel
theorem dX12_putRight_15 : decode cX12_putRight 15 = .ok (.getfield 206, 3) := by decide +kernel
theorem dX12_putRight_18 : decode cX12_putRight 18 = .ok (.iload_n 2, 1) := by decide +kernel
theorem dX12_putRight_19 : decode cX12_putRight 19 = .ok (.iastore, 1) := by decide +kernel
theorem dX12_putRight_20 : decode cX12_putRight 20 = .ok (.aload_n 0, 1) := by decide +kernel
theorem dX12_putRight_21 : decode cX12_putRight 21 = .ok (.getfield 89, 3) := by decide +kernel
theorem dX12_putRight_24 : decode cX12_putRight 24 = .ok (.aload_n 0, 1) := by decide +kernel
theorem dX12_putRight_25 : decode cX12_putRight 25 = .ok (.getfield 206, 3) := by decide +kernel
theorem dX12_putRight_28 : decode cX12_putRight 28 = .ok (.aload_n 0, 1) := by decide +kernel
theorem dX12_putRight_29 : decode cX12_putRight 29 = .ok (.getfield 167, 3) := by decide +kernel
theorem dX12_putRight_32 : decode cX12_putRight 32 = .ok (.iastore, 1) := by decide +kernel
theorem dX12_putRight_33 : decode cX12_putRight 33 = .ok (.aload_n 0, 1) := by decide +kernel
theorem dX12_putRight_34 : decode cX12_putRight 34 = .ok (.dup, 1) := by decide +kernel
theorem dX12_putRight_35 : decode cX12_putRight 35 = .ok (.getfield 206, 3) := by decide +kernel
theorem dX12_putRight_38 : decode cX12_putRight 38 = .ok (.iconst 1, 1) := by decide +kernel
theorem dX12_putRight_39 : decode cX12_putRight 39 = .ok (.iadd, 1) := by decide +kernel
theorem dX12_putRight_40 : decode cX12_putRight 40 = .ok (.putfield 206, 3) := by decide +kernel
theorem dX12_putRight_43 : decode cX12_putRight 43 = .ok (.return_, 1) := by decide +kernel
theorem dX12_right_0 : decode cX12_right 0 = .ok (.aload_n 0, 1) := by decide +kernel
theorem dX12_right_1 : decode cX12_right 1 = .ok (.iload_n 1, 1) := by decide +kernel
theorem dX12_right_2 : decode cX12_right 2 = .ok (.invokevirtual 209, 3) := by decide +kernel
theorem dX12_right_5 : decode cX12_right 5 = .ok (.ifCond .ne 9, 3) := by decide +kernel
theorem dX12_right_8 : decode cX12_right 8 = .ok (.aload_n 0, 1) := by decide +kernel
theorem dX12_right_9 : decode cX12_right 9 = .ok (.iconst (-1), 1) := by decide +kernel
theorem dX12_right_10 : decode cX12_right 10 = .ok (.invokevirtual 174, 3) := by decide +kernel
theorem dX12_right_13 : decode cX12_right 13 = .ok (.ireturn, 1) := by decide +kernel
theorem dX12_right_14 : decode cX12_right 14 = .ok (.iload_n 2, 1) := by decide +kernel
theorem dX12_right_15 : decode cX12_right 15 = .ok (.ifCond .ge 10, 3) := by decide +kernel
theorem dX12_right_18 : decode cX12_right 18 = .ok (.aload_n 0, 1) := by decide +kernel
theorem dX12_right_19 : decode cX12_right 19 = .ok (.bipush (-4), 2) := by decide +kernel
theorem dX12_right_21 : decode cX12_right 21 = .ok (.invokevirtual 174, 3) := by decide +kernel
theorem dX12_right_24 : decode cX12_right 24 = .ok (.ireturn, 1) := by decide +kernel
theorem dX12_right_25 : decode cX12_right 25 = .ok (.iload_n 2, 1) := by decide +kernel
theorem dX12_right_26 : decode cX12_right 26 = .ok (.aload_n 0, 1) := by decide +kernel
theorem dX12_right_27 : decode cX12_right 27 = .ok (.getfield 74, 3) := by decide +kernel
theorem dX12_right_30 : decode cX12_right 30 = .ok (.iload_n 1, 1) := by decide +kernel
theorem dX12_right_31 : decode cX12_right 31 = .ok (.iaload, 1) := by decide +kernel
theorem dX12_right_32 : decode cX12_right 32 = .ok (.ifCond .ne 8, 3) := by decide +kernel
theorem dX12_right_35 : decode cX12_right 35 = .ok (.bipush 100, 2) := by decide +kernel
theorem dX12_right_37 : decode cX12_right 37 = .ok (.goto 5, 3) := by decide +kernel
theorem dX12_right_40 : decode cX12_right 40 = .ok (.bipush 9, 2) := by decide +kernel
theorem dX12_right_42 : decode cX12_right 42 = .ok (.if_icmp .gt 12, 3) := by decide +kernel
theorem dX12_right_45 : decode cX12_right 45 = .ok (.aload_n 0, 1) := by decide +kernel
theorem dX12_right_46 : decode cX12_right 46 = .ok (.getfield 206, 3) := by decide +kernel
theorem dX12_right_49 : decode cX12_right 49 = .ok (.bipush 60, 2) := by decide +kernel
theorem dX12_right_51 : decode cX12_right 51 = .ok (.if_icmp .ne 10, 3) := by decide +kernel
theorem dX12_right_54 : decode cX12_right 54 = .ok (.aload_n 0, 1) := by decide +kernel
theorem dX12_right_55 : decode cX12_right 55 = .ok (.bipush (-6), 2) := by decide +kernel
theorem dX12_right_57 : decode cX12_right 57 = .ok (.invokevirtual 174, 3) := by decide +kernel
theorem dX12_right_60 : decode cX12_right 60 = .ok (.ireturn, 1) := by decide +kernel
theorem dX12_right_61 : decode cX12_right 61 = .ok (.aload_n 0, 1) := by decide +kernel
theorem dX12_right_62 : decode cX12_right 62 = .ok (.iload_n 1, 1) := by decide +kernel
theorem dX12_right_63 : decode cX12_right 63 = .ok (.iload_n 2, 1) := by decide +kernel
theorem dX12_right_64 : decode cX12_right 64 = .ok (.invokevirtual 212, 3) := by decide +kernel
theorem dX12_right_67 : decode cX12_right 67 = .ok (.iconst 0, 1) := by decide +kernel
theorem dX12_right_68 : decode cX12_right 68 = .ok (.istore_n 3, 1) := by decide +kernel
theorem dX12_right_69 : decode cX12_right 69 = .ok (.iconst 0, 1) := by decide +kernel
theorem dX12_right_70 : decode cX12_right 70 = .ok (.istore 4, 2) := by decide +kernel
theorem dX12_right_72 : decode cX12_right 72 = .ok (.iload 4, 2) := by decide +kernel
theorem dX12_right_74 : decode cX12_right 74 = .ok (.aload_n 0, 1) := by decide +kernel
theorem dX12_right_75 : decode cX12_right 75 = .ok (.getfield 206, 3) := by decide +kernel
theorem dX12_right_78 : decode cX12_right 78 = .ok (.if_icmp .ge 28, 3) := by decide +kernel
theorem dX12_right_81 : decode cX12_right 81 = .ok (.iload_n 3, 1) := by decide +kernel
theorem dX12_right_82 : decode cX12_right 82 = .ok (.aload_n 0, 1) := by decide +kernel
theorem dX12_right_83 : decode cX12_right 83 = .ok (.getfield 83, 3) := by decide +kernel
theorem dX12_right_86 : decode cX12_right 86 = .ok (.iload 4, 2) := by decide +kernel
theorem dX12_right_88 : decode cX12_right 88 = .ok (.iaload, 1) := by decide +kernel
theorem dX12_right_89 : decode cX12_right 89 = .ok (.iload_n 1, 1) := by decide +kernel
theorem dX12_right_90 : decode cX12_right 90 = .ok (.if_icmp .ne 7, 3) := by decide +kernel
theorem dX12_right_93 : decode cX12_right 93 = .ok (.iconst 1, 1) := by decide +kernel
theorem dX12_right_94 : decode cX12_right 94 = .ok (.goto 4, 3) := by decide +kernel
theorem dX12_right_97 : decode cX12_right 97 = .ok (.iconst 0, 1) := by decide +kernel
theorem dX12_right_98 : decode cX12_right 98 = .ok (.iadd, 1) := by decide +kernel
theorem dX12_right_99 : decode cX12_right 99 = .ok (.istore_n 3, 1) := by decide +kernel
theorem dX12_right_100 : decode cX12_right 100 = .ok (.iinc 4 1, 3) := by decide +kernel
theorem dX12_right_103 : decode cX12_right 103 = .ok (.goto (-31), 3) := by decide +kernel
theorem dX12_right_106 : decode cX12_right 106 = .ok (.iload_n 3, 1) := by decide +kernel
theorem dX12_right_107 : decode cX12_right 107 = .ok (.ireturn, 1) := by decide +kernel
theorem dX12_knownOf_0 : decode cX12_knownOf 0 = .ok (.iconst (-1), 1) := by decide +kernel
theorem dX12_knownOf_1 : decode cX12_knownOf 1 = .ok (.istore 4, 2) := by decide +kernel
theorem dX12_knownOf_3 : decode cX12_knownOf 3 = .ok (.iconst 0, 1) := by decide +kernel
theorem dX12_knownOf_4 : decode cX12_knownOf 4 = .ok (.istore 5, 2) := by decide +kernel
theorem dX12_knownOf_6 : decode cX12_knownOf 6 = .ok (.iload 5, 2) := by decide +kernel
theorem dX12_knownOf_8 : decode cX12_knownOf 8 = .ok (.aload_n 0, 1) := by decide +kernel
theorem dX12_knownOf_9 : decode cX12_knownOf 9 = .ok (.getfield 203, 3) := by decide +kernel
theorem dX12_knownOf_12 : decode cX12_knownOf 12 = .ok (.if_icmp .ge 51, 3) := by decide +kernel
theorem dX12_knownOf_15 : decode cX12_knownOf 15 = .ok (.aload_n 0, 1) := by decide +kernel
theorem dX12_knownOf_16 : decode cX12_knownOf 16 = .ok (.getfield 71, 3) := by decide +kernel
theorem dX12_knownOf_19 : decode cX12_knownOf 19 = .ok (.iload 5, 2) := by decide +kernel
theorem dX12_knownOf_21 : decode cX12_knownOf 21 = .ok (.iaload, 1) := by decide +kernel
theorem dX12_knownOf_22 : decode cX12_knownOf 22 = .ok (.iload_n 1, 1) := by decide +kernel
theorem dX12_knownOf_23 : decode cX12_knownOf 23 = .ok (.if_icmp .ne 30, 3) := by decide +kernel
theorem dX12_knownOf_26 : decode cX12_knownOf 26 = .ok (.aload_n 0, 1) := by decide +kernel
theorem dX12_knownOf_27 : decode cX12_knownOf 27 = .ok (.getfield 74, 3) := by decide +kernel
theorem dX12_knownOf_30 : decode cX12_knownOf 30 = .ok (.iload 5, 2) := by decide +kernel
theorem dX12_knownOf_32 : decode cX12_knownOf 32 = .ok (.iaload, 1) := by decide +kernel
theorem dX12_knownOf_33 : decode cX12_knownOf 33 = .ok (.iload_n 2, 1) := by decide +kernel
theorem dX12_knownOf_34 : decode cX12_knownOf 34 = .ok (.if_icmp .ne 19, 3) := by decide +kernel
theorem dX12_knownOf_37 : decode cX12_knownOf 37 = .ok (.aload_n 0, 1) := by decide +kernel
theorem dX12_knownOf_38 : decode cX12_knownOf 38 = .ok (.getfield 80, 3) := by decide +kernel
theorem dX12_knownOf_41 : decode cX12_knownOf 41 = .ok (.iload 5, 2) := by decide +kernel
theorem dX12_knownOf_43 : decode cX12_knownOf 43 = .ok (.iaload, 1) := by decide +kernel
theorem dX12_knownOf_44 : decode cX12_knownOf 44 = .ok (.iload_n 3, 1) := by decide +kernel
theorem dX12_knownOf_45 : decode cX12_knownOf 45 = .ok (.if_icmp .gt 8, 3) := by decide +kernel
theorem dX12_knownOf_48 : decode cX12_knownOf 48 = .ok (.iload 5, 2) := by decide +kernel
theorem dX12_knownOf_50 : decode cX12_knownOf 50 = .ok (.goto 5, 3) := by decide +kernel
theorem dX12_knownOf_53 : decode cX12_knownOf 53 = .ok (.iload 4, 2) := by decide +kernel
theorem dX12_knownOf_55 : decode cX12_knownOf 55 = .ok (.istore 4, 2) := by decide +kernel
theorem dX12_knownOf_57 : decode cX12_knownOf 57 = .ok (.iinc 5 1, 3) := by decide +kernel
theorem dX12_knownOf_60 : decode cX12_knownOf 60 = .ok (.goto (-54), 3) := by decide +kernel
theorem dX12_knownOf_63 : decode cX12_knownOf 63 = .ok (.iload 4, 2) := by decide +kernel
theorem dX12_knownOf_65 : decode cX12_knownOf 65 = .ok (.ifCond .lt 13, 3) := by decide +kernel
theorem dX12_knownOf_68 : decode cX12_knownOf 68 = .ok (.aload_n 0, 1) := by decide +kernel
theorem dX12_knownOf_69 : decode cX12_knownOf 69 = .ok (.getfield 77, 3) := by decide +kernel
theorem dX12_knownOf_72 : decode cX12_knownOf 72 = .ok (.iload 4, 2) := by decide +kernel
theorem dX12_knownOf_74 : decode cX12_knownOf 74 = .ok (.iaload, 1) := by decide +kernel
theorem dX12_knownOf_75 : decode cX12_knownOf 75 = .ok (.goto 13, 3) := by decide +kernel
theorem dX12_knownOf_78 : decode cX12_knownOf 78 = .ok (.iload_n 2, 1) := by decide +kernel
theorem dX12_knownOf_79 : decode cX12_knownOf 79 = .ok (.ifCond .ne 8, 3) := by decide +kernel
theorem dX12_knownOf_82 : decode cX12_knownOf 82 = .ok (.bipush 50, 2) := by decide +kernel
theorem dX12_knownOf_84 : decode cX12_knownOf 84 = .ok (.goto 4, 3) := by decide +kernel
theorem dX12_knownOf_87 : decode cX12_knownOf 87 = .ok (.iconst 0, 1) := by decide +kernel
theorem dX12_knownOf_88 : decode cX12_knownOf 88 = .ok (.istore 5, 2) := by decide +kernel
theorem dX12_knownOf_90 : decode cX12_knownOf 90 = .ok (.iconst 0, 1) := by decide +kernel
theorem dX12_knownOf_91 : decode cX12_knownOf 91 = .ok (.istore 6, 2) := by decide +kernel
theorem dX12_knownOf_93 : decode cX12_knownOf 93 = .ok (.iload 6, 2) := by decide +kernel
theorem dX12_knownOf_95 : decode cX12_knownOf 95 = .ok (.aload_n 0, 1) := by decide +kernel
theorem dX12_knownOf_96 : decode cX12_knownOf 96 = .ok (.getfield 206, 3) := by decide +kernel
theorem dX12_knownOf_99 : decode cX12_knownOf 99 = .ok (.if_icmp .ge 51, 3) := by decide +kernel
theorem dX12_knownOf_102 : decode cX12_knownOf 102 = .ok (.iload 4, 2) := by decide +kernel
theorem dX12_knownOf_104 : decode cX12_knownOf 104 = .ok (.ifCond .lt 46, 3) := by decide +kernel
theorem dX12_knownOf_107 : decode cX12_knownOf 107 = .ok (.aload_n 0, 1) := by decide +kernel
theorem dX12_knownOf_108 : decode cX12_knownOf 108 = .ok (.getfield 83, 3) := by decide +kernel
theorem dX12_knownOf_111 : decode cX12_knownOf 111 = .ok (.iload 6, 2) := by decide +kernel
theorem dX12_knownOf_113 : decode cX12_knownOf 113 = .ok (.iaload, 1) := by decide +kernel
theorem dX12_knownOf_114 : decode cX12_knownOf 114 = .ok (.iload 4, 2) := by decide +kernel
theorem dX12_knownOf_116 : decode cX12_knownOf 116 = .ok (.if_icmp .ne 24, 3) := by decide +kernel
theorem dX12_knownOf_119 : decode cX12_knownOf 119 = .ok (.aload_n 0, 1) := by decide +kernel
theorem dX12_knownOf_120 : decode cX12_knownOf 120 = .ok (.getfield 89, 3) := by decide +kernel
theorem dX12_knownOf_123 : decode cX12_knownOf 123 = .ok (.iload 6, 2) := by decide +kernel
theorem dX12_knownOf_125 : decode cX12_knownOf 125 = .ok (.iaload, 1) := by decide +kernel
theorem dX12_knownOf_126 : decode cX12_knownOf 126 = .ok (.iload_n 3, 1) := by decide +kernel
theorem dX12_knownOf_127 : decode cX12_knownOf 127 = .ok (.if_icmp .gt 13, 3) := by decide +kernel
theorem dX12_knownOf_130 : decode cX12_knownOf 130 = .ok (.aload_n 0, 1) := by decide +kernel
theorem dX12_knownOf_131 : decode cX12_knownOf 131 = .ok (.getfield 86, 3) := by decide +kernel
theorem dX12_knownOf_134 : decode cX12_knownOf 134 = .ok (.iload 6, 2) := by decide +kernel
theorem dX12_knownOf_136 : decode cX12_knownOf 136 = .ok (.iaload, 1) := by decide +kernel
theorem dX12_knownOf_137 : decode cX12_knownOf 137 = .ok (.goto 5, 3) := by decide +kernel
theorem dX12_knownOf_140 : decode cX12_knownOf 140 = .ok (.iload 5, 2) := by decide +kernel
theorem dX12_knownOf_142 : decode cX12_knownOf 142 = .ok (.istore 5, 2) := by decide +kernel
theorem dX12_knownOf_144 : decode cX12_knownOf 144 = .ok (.iinc 6 1, 3) := by decide +kernel
theorem dX12_knownOf_147 : decode cX12_knownOf 147 = .ok (.goto (-54), 3) := by decide +kernel
theorem dX12_knownOf_150 : decode cX12_knownOf 150 = .ok (.iload 5, 2) := by decide +kernel
theorem dX12_knownOf_152 : decode cX12_knownOf 152 = .ok (.ireturn, 1) := by decide +kernel
theorem dX12_skillFor_0 : decode cX12_skillFor 0 = .ok (.iload_n 2, 1) := by decide +kernel
theorem dX12_skillFor_1 : decode cX12_skillFor 1 = .ok (.ifCond .ge 7, 3) := by decide +kernel
theorem dX12_skillFor_4 : decode cX12_skillFor 4 = .ok (.iconst 0, 1) := by decide +kernel
theorem dX12_skillFor_5 : decode cX12_skillFor 5 = .ok (.goto 46, 3) := by decide +kernel
theorem dX12_skillFor_8 : decode cX12_skillFor 8 = .ok (.aload_n 0, 1) := by decide +kernel
theorem dX12_skillFor_9 : decode cX12_skillFor 9 = .ok (.getfield 28, 3) := by decide +kernel
theorem dX12_skillFor_12 : decode cX12_skillFor 12 = .ok (.iload_n 2, 1) := by decide +kernel
theorem dX12_skillFor_13 : decode cX12_skillFor 13 = .ok (.iaload, 1) := by decide +kernel
theorem dX12_skillFor_14 : decode cX12_skillFor 14 = .ok (.ifCond .ne 8, 3) := by decide +kernel
theorem dX12_skillFor_17 : decode cX12_skillFor 17 = .ok (.bipush 100, 2) := by decide +kernel
theorem dX12_skillFor_19 : decode cX12_skillFor 19 = .ok (.goto 32, 3) := by decide +kernel
theorem dX12_skillFor_22 : decode cX12_skillFor 22 = .ok (.bipush 100, 2) := by decide +kernel
theorem dX12_skillFor_24 : decode cX12_skillFor 24 = .ok (.aload_n 0, 1) := by decide +kernel
theorem dX12_skillFor_25 : decode cX12_skillFor 25 = .ok (.getfield 34, 3) := by decide +kernel
theorem dX12_skillFor_28 : decode cX12_skillFor 28 = .ok (.iload_n 1, 1) := by decide +kernel
theorem dX12_skillFor_29 : decode cX12_skillFor 29 = .ok (.iaload, 1) := by decide +kernel
theorem dX12_skillFor_30 : decode cX12_skillFor 30 = .ok (.aload_n 0, 1) := by decide +kernel
theorem dX12_skillFor_31 : decode cX12_skillFor 31 = .ok (.getfield 28, 3) := by decide +kernel
theorem dX12_skillFor_34 : decode cX12_skillFor 34 = .ok (.iload_n 2, 1) := by decide +kernel
theorem dX12_skillFor_35 : decode cX12_skillFor 35 = .ok (.iaload, 1) := by decide +kernel
theorem dX12_skillFor_36 : decode cX12_skillFor 36 = .ok (.iand, 1) := by decide +kernel
theorem dX12_skillFor_37 : decode cX12_skillFor 37 = .ok (.invokestatic 216, 3) := by decide +kernel
theorem dX12_skillFor_40 : decode cX12_skillFor 40 = .ok (.imul, 1) := by decide +kernel
theorem dX12_skillFor_41 : decode cX12_skillFor 41 = .ok (.aload_n 0, 1) := by decide +kernel
theorem dX12_skillFor_42 : decode cX12_skillFor 42 = .ok (.getfield 28, 3) := by decide +kernel
theorem dX12_skillFor_45 : decode cX12_skillFor 45 = .ok (.iload_n 2, 1) := by decide +kernel
theorem dX12_skillFor_46 : decode cX12_skillFor 46 = .ok (.iaload, 1) := by decide +kernel
theorem dX12_skillFor_47 : decode cX12_skillFor 47 = .ok (.invokestatic 216, 3) := by decide +kernel
theorem dX12_skillFor_50 : decode cX12_skillFor 50 = .ok (.idiv, 1) := by decide +kernel
theorem dX12_skillFor_51 : decode cX12_skillFor 51 = .ok (.ireturn, 1) := by decide +kernel
theorem dX12_wholeYears_0 : decode cX12_wholeYears 0 = .ok (.aload_n 0, 1) := by decide +kernel
theorem dX12_wholeYears_1 : decode cX12_wholeYears 1 = .ok (.getfield 167, 3) := by decide +kernel
theorem dX12_wholeYears_4 : decode cX12_wholeYears 4 = .ok (.aload_n 0, 1) := by decide +kernel
theorem dX12_wholeYears_5 : decode cX12_wholeYears 5 = .ok (.getfield 37, 3) := by decide +kernel
theorem dX12_wholeYears_8 : decode cX12_wholeYears 8 = .ok (.iload_n 1, 1) := by decide +kernel
theorem dX12_wholeYears_9 : decode cX12_wholeYears 9 = .ok (.iaload, 1) := by decide +kernel
theorem dX12_wholeYears_10 : decode cX12_wholeYears 10 = .ok (.isub, 1) := by decide +kernel
theorem dX12_wholeYears_11 : decode cX12_wholeYears 11 = .ok (.sipush 365, 3) := by decide +kernel
theorem dX12_wholeYears_14 : decode cX12_wholeYears 14 = .ok (.idiv, 1) := by decide +kernel
theorem dX12_wholeYears_15 : decode cX12_wholeYears 15 = .ok (.ireturn, 1) := by decide +kernel
theorem dX12_partOf_0 : decode cX12_partOf 0 = .ok (.iload_n 2, 1) := by decide +kernel
theorem dX12_partOf_1 : decode cX12_partOf 1 = .ok (.ifCond .ne 11, 3) := by decide +kernel
theorem dX12_partOf_4 : decode cX12_partOf 4 = .ok (.aload_n 0, 1) := by decide +kernel
theorem dX12_partOf_5 : decode cX12_partOf 5 = .ok (.iload_n 1, 1) := by decide +kernel
theorem dX12_partOf_6 : decode cX12_partOf 6 = .ok (.iconst 0, 1) := by decide +kernel
theorem dX12_partOf_7 : decode cX12_partOf 7 = .ok (.iload_n 3, 1) := by decide +kernel
theorem dX12_partOf_8 : decode cX12_partOf 8 = .ok (.invokevirtual 219, 3) := by decide +kernel
theorem dX12_partOf_11 : decode cX12_partOf 11 = .ok (.ireturn, 1) := by decide +kernel
theorem dX12_partOf_12 : decode cX12_partOf 12 = .ok (.iload_n 2, 1) := by decide +kernel
theorem dX12_partOf_13 : decode cX12_partOf 13 = .ok (.iconst 1, 1) := by decide +kernel
theorem dX12_partOf_14 : decode cX12_partOf 14 = .ok (.if_icmp .ne 15, 3) := by decide +kernel
theorem dX12_partOf_17 : decode cX12_partOf 17 = .ok (.aload_n 0, 1) := by decide +kernel
theorem dX12_partOf_18 : decode cX12_partOf 18 = .ok (.iload_n 1, 1) := by decide +kernel
theorem dX12_partOf_19 : decode cX12_partOf 19 = .ok (.aload_n 0, 1) := by decide +kernel
theorem dX12_partOf_20 : decode cX12_partOf 20 = .ok (.getfield 43, 3) := by decide +kernel
theorem dX12_partOf_23 : decode cX12_partOf 23 = .ok (.iload_n 1, 1) := by decide +kernel
theorem dX12_partOf_24 : decode cX12_partOf 24 = .ok (.iaload, 1) := by decide +kernel
theorem dX12_partOf_25 : decode cX12_partOf 25 = .ok (.invokevirtual 223, 3) := by decide +kernel
theorem dX12_partOf_28 : decode cX12_partOf 28 = .ok (.ireturn, 1) := by decide +kernel
theorem dX12_partOf_29 : decode cX12_partOf 29 = .ok (.iload_n 2, 1) := by decide +kernel
theorem dX12_partOf_30 : decode cX12_partOf 30 = .ok (.iconst 2, 1) := by decide +kernel
theorem dX12_partOf_31 : decode cX12_partOf 31 = .ok (.if_icmp .ne 30, 3) := by decide +kernel
theorem dX12_partOf_34 : decode cX12_partOf 34 = .ok (.bipush 100, 2) := by decide +kernel
theorem dX12_partOf_36 : decode cX12_partOf 36 = .ok (.bipush 20, 2) := by decide +kernel
theorem dX12_partOf_38 : decode cX12_partOf 38 = .ok (.aload_n 0, 1) := by decide +kernel
theorem dX12_partOf_39 : decode cX12_partOf 39 = .ok (.iload_n 1, 1) := by decide +kernel
theorem dX12_partOf_40 : decode cX12_partOf 40 = .ok (.iconst 1, 1) := by decide +kernel
theorem dX12_partOf_41 : decode cX12_partOf 41 = .ok (.iload_n 3, 1) := by decide +kernel
theorem dX12_partOf_42 : decode cX12_partOf 42 = .ok (.invokevirtual 219, 3) := by decide +kernel
theorem dX12_partOf_45 : decode cX12_partOf 45 = .ok (.imul, 1) := by decide +kernel
theorem dX12_partOf_46 : decode cX12_partOf 46 = .ok (.isub, 1) := by decide +kernel
theorem dX12_partOf_47 : decode cX12_partOf 47 = .ok (.istore 4, 2) := by decide +kernel
theorem dX12_partOf_49 : decode cX12_partOf 49 = .ok (.iload 4, 2) := by decide +kernel
theorem dX12_partOf_51 : decode cX12_partOf 51 = .ok (.ifCond .ge 7, 3) := by decide +kernel
theorem dX12_partOf_54 : decode cX12_partOf 54 = .ok (.iconst 0, 1) := by decide +kernel
theorem dX12_partOf_55 : decode cX12_partOf 55 = .ok (.goto 5, 3) := by decide +kernel
theorem dX12_partOf_58 : decode cX12_partOf 58 = .ok (.iload 4, 2) := by decide +kernel
theorem dX12_partOf_60 : decode cX12_partOf 60 = .ok (.ireturn, 1) := by decide +kernel
theorem dX12_partOf_61 : decode cX12_partOf 61 = .ok (.aload_n 0, 1) := by decide +kernel
theorem dX12_partOf_62 : decode cX12_partOf 62 = .ok (.iload_n 1, 1) := by decide +kernel
theorem dX12_partOf_63 : decode cX12_partOf 63 = .ok (.invokevirtual 227, 3) := by decide +kernel
theorem dX12_partOf_66 : decode cX12_partOf 66 = .ok (.bipush 20, 2) := by decide +kernel
theorem dX12_partOf_68 : decode cX12_partOf 68 = .ok (.if_icmp .le 8, 3) := by decide +kernel
theorem dX12_partOf_71 : decode cX12_partOf 71 = .ok (.bipush 100, 2) := by decide +kernel
theorem dX12_partOf_73 : decode cX12_partOf 73 = .ok (.goto 10, 3) := by decide +kernel
theorem dX12_partOf_76 : decode cX12_partOf 76 = .ok (.iconst 5, 1) := by decide +kernel
theorem dX12_partOf_77 : decode cX12_partOf 77 = .ok (.aload_n 0, 1) := by decide +kernel
theorem dX12_partOf_78 : decode cX12_partOf 78 = .ok (.iload_n 1, 1) := by decide +kernel
theorem dX12_partOf_79 : decode cX12_partOf 79 = .ok (.invokevirtual 227, 3) := by decide +kernel
theorem dX12_partOf_82 : decode cX12_partOf 82 = .ok (.imul, 1) := by decide +kernel
theorem dX12_partOf_83 : decode cX12_partOf 83 = .ok (.ireturn, 1) := by decide +kernel
theorem dX12_markOf_0 : decode cX12_markOf 0 = .ok (.iconst 0, 1) := by decide +kernel
theorem dX12_markOf_1 : decode cX12_markOf 1 = .ok (.istore_n 3, 1) := by decide +kernel
theorem dX12_markOf_2 : decode cX12_markOf 2 = .ok (.iconst 0, 1) := by decide +kernel
theorem dX12_markOf_3 : decode cX12_markOf 3 = .ok (.istore 4, 2) := by decide +kernel
theorem dX12_markOf_5 : decode cX12_markOf 5 = .ok (.iload 4, 2) := by decide +kernel
theorem dX12_markOf_7 : decode cX12_markOf 7 = .ok (.iconst 4, 1) := by decide +kernel
theorem dX12_markOf_8 : decode cX12_markOf 8 = .ok (.if_icmp .ge 28, 3) := by decide +kernel
theorem dX12_markOf_11 : decode cX12_markOf 11 = .ok (.iload_n 3, 1) := by decide +kernel
theorem dX12_markOf_12 : decode cX12_markOf 12 = .ok (.aload_n 0, 1) := by decide +kernel
theorem dX12_markOf_13 : decode cX12_markOf 13 = .ok (.getfield 65, 3) := by decide +kernel
theorem dX12_markOf_16 : decode cX12_markOf 16 = .ok (.iload 4, 2) := by decide +kernel
theorem dX12_markOf_18 : decode cX12_markOf 18 = .ok (.iaload, 1) := by decide +kernel
theorem dX12_markOf_19 : decode cX12_markOf 19 = .ok (.aload_n 0, 1) := by decide +kernel
theorem dX12_markOf_20 : decode cX12_markOf 20 = .ok (.iload_n 1, 1) := by decide +kernel
theorem dX12_markOf_21 : decode cX12_markOf 21 = .ok (.iload 4, 2) := by decide +kernel
theorem dX12_markOf_23 : decode cX12_markOf 23 = .ok (.iload_n 2, 1) := by decide +kernel
theorem dX12_markOf_24 : decode cX12_markOf 24 = .ok (.invokevirtual 230, 3) := by decide +kernel
theorem dX12_markOf_27 : decode cX12_markOf 27 = .ok (.imul, 1) := by decide +kernel
theorem dX12_markOf_28 : decode cX12_markOf 28 = .ok (.iadd, 1) := by decide +kernel
theorem dX12_markOf_29 : decode cX12_markOf 29 = .ok (.istore_n 3, 1) := by decide +kernel
theorem dX12_markOf_30 : decode cX12_markOf 30 = .ok (.iinc 4 1, 3) := by decide +kernel
theorem dX12_markOf_33 : decode cX12_markOf 33 = .ok (.goto (-28), 3) := by decide +kernel
theorem dX12_markOf_36 : decode cX12_markOf 36 = .ok (.iload_n 3, 1) := by decide +kernel
theorem dX12_markOf_37 : decode cX12_markOf 37 = .ok (.ireturn, 1) := by decide +kernel
theorem dX12_mark_0 : decode cX12_mark 0 = .ok (.aload_n 0, 1) := by decide +kernel
theorem dX12_mark_1 : decode cX12_mark 1 = .ok (.iload_n 1, 1) := by decide +kernel
theorem dX12_mark_2 : decode cX12_mark 2 = .ok (.invokevirtual 194, 3) := by decide +kernel
theorem dX12_mark_5 : decode cX12_mark 5 = .ok (.ifCond .ne 9, 3) := by decide +kernel
theorem dX12_mark_8 : decode cX12_mark 8 = .ok (.aload_n 0, 1) := by decide +kernel
theorem dX12_mark_9 : decode cX12_mark 9 = .ok (.iconst (-1), 1) := by decide +kernel
theorem dX12_mark_10 : decode cX12_mark 10 = .ok (.invokevirtual 174, 3) := by decide +kernel
theorem dX12_mark_13 : decode cX12_mark 13 = .ok (.ireturn, 1) := by decide +kernel
theorem dX12_mark_14 : decode cX12_mark 14 = .ok (.iload_n 3, 1) := by decide +kernel
theorem dX12_mark_15 : decode cX12_mark 15 = .ok (.iconst 0, 1) := by decide +kernel
theorem dX12_mark_16 : decode cX12_mark 16 = .ok (.iconst 4, 1) := by decide +kernel
theorem dX12_mark_17 : decode cX12_mark 17 = .ok (.invokestatic 157, 3) := by decide +kernel
theorem dX12_mark_20 : decode cX12_mark 20 = .ok (.ifCond .ne 10, 3) := by decide +kernel
theorem dX12_mark_23 : decode cX12_mark 23 = .ok (.aload_n 0, 1) := by decide +kernel
theorem dX12_mark_24 : decode cX12_mark 24 = .ok (.bipush (-2), 2) := by decide +kernel
theorem dX12_mark_26 : decode cX12_mark 26 = .ok (.invokevirtual 174, 3) := by decide +kernel
theorem dX12_mark_29 : decode cX12_mark 29 = .ok (.ireturn, 1) := by decide +kernel
theorem dX12_mark_30 : decode cX12_mark 30 = .ok (.iload_n 2, 1) := by decide +kernel
theorem dX12_mark_31 : decode cX12_mark 31 = .ok (.ifCond .ge 10, 3) := by decide +kernel
theorem dX12_mark_34 : decode cX12_mark 34 = .ok (.aload_n 0, 1) := by decide +kernel
theorem dX12_mark_35 : decode cX12_mark 35 = .ok (.bipush (-4), 2) := by decide +kernel
theorem dX12_mark_37 : decode cX12_mark 37 = .ok (.invokevirtual 174, 3) := by decide +kernel
theorem dX12_mark_40 : decode cX12_mark 40 = .ok (.ireturn, 1) := by decide +kernel
theorem dX12_mark_41 : decode cX12_mark 41 = .ok (.iload_n 2, 1) := by decide +kernel
theorem dX12_mark_42 : decode cX12_mark 42 = .ok (.sipush 3000, 3) := by decide +kernel
theorem dX12_mark_45 : decode cX12_mark 45 = .ok (.if_icmp .le 10, 3) := by decide +kernel
theorem dX12_mark_48 : decode cX12_mark 48 = .ok (.aload_n 0, 1) := by decide +kernel
theorem dX12_mark_49 : decode cX12_mark 49 = .ok (.bipush (-6), 2) := by decide +kernel
theorem dX12_mark_51 : decode cX12_mark 51 = .ok (.invokevirtual 174, 3) := by decide +kernel
theorem dX12_mark_54 : decode cX12_mark 54 = .ok (.ireturn, 1) := by decide +kernel
theorem dX12_mark_55 : decode cX12_mark 55 = .ok (.iload_n 3, 1) := by decide +kernel
theorem dX12_mark_56 : decode cX12_mark 56 = .ok (.iconst 4, 1) := by decide +kernel
theorem dX12_mark_57 : decode cX12_mark 57 = .ok (.if_icmp .ne 12, 3) := by decide +kernel
theorem dX12_mark_60 : decode cX12_mark 60 = .ok (.aload_n 0, 1) := by decide +kernel
theorem dX12_mark_61 : decode cX12_mark 61 = .ok (.iload_n 1, 1) := by decide +kernel
theorem dX12_mark_62 : decode cX12_mark 62 = .ok (.iload_n 2, 1) := by decide +kernel
theorem dX12_mark_63 : decode cX12_mark 63 = .ok (.invokevirtual 233, 3) := by decide +kernel
theorem dX12_mark_66 : decode cX12_mark 66 = .ok (.goto 10, 3) := by decide +kernel
theorem dX12_mark_69 : decode cX12_mark 69 = .ok (.aload_n 0, 1) := by decide +kernel
theorem dX12_mark_70 : decode cX12_mark 70 = .ok (.iload_n 1, 1) := by decide +kernel
theorem dX12_mark_71 : decode cX12_mark 71 = .ok (.iload_n 3, 1) := by decide +kernel
theorem dX12_mark_72 : decode cX12_mark 72 = .ok (.iload_n 2, 1) := by decide +kernel
theorem dX12_mark_73 : decode cX12_mark 73 = .ok (.invokevirtual 230, 3) := by decide +kernel
theorem dX12_mark_76 : decode cX12_mark 76 = .ok (.ireturn, 1) := by decide +kernel
theorem dX12_areLike_0 : decode cX12_areLike 0 = .ok (.aload_n 0, 1) := by decide +kernel
theorem dX12_areLike_1 : decode cX12_areLike 1 = .ok (.getfield 22, 3) := by decide +kernel
theorem dX12_areLike_4 : decode cX12_areLike 4 = .ok (.iload_n 1, 1) := by decide +kernel
theorem dX12_areLike_5 : decode cX12_areLike 5 = .ok (.iaload, 1) := by decide +kernel
theorem dX12_areLike_6 : decode cX12_areLike 6 = .ok (.aload_n 0, 1) := by decide +kernel
theorem dX12_areLike_7 : decode cX12_areLike 7 = .ok (.getfield 22, 3) := by decide +kernel
theorem dX12_areLike_10 : decode cX12_areLike 10 = .ok (.iload_n 2, 1) := by decide +kernel
theorem dX12_areLike_11 : decode cX12_areLike 11 = .ok (.iaload, 1) := by decide +kernel
theorem dX12_areLike_12 : decode cX12_areLike 12 = .ok (.isub, 1) := by decide +kernel
theorem dX12_areLike_13 : decode cX12_areLike 13 = .ok (.istore_n 3, 1) := by decide +kernel
theorem dX12_areLike_14 : decode cX12_areLike 14 = .ok (.aload_n 0, 1) := by decide +kernel
theorem dX12_areLike_15 : decode cX12_areLike 15 = .ok (.getfield 28, 3) := by decide +kernel
theorem dX12_areLike_18 : decode cX12_areLike 18 = .ok (.iload_n 1, 1) := by decide +kernel
theorem dX12_areLike_19 : decode cX12_areLike 19 = .ok (.iaload, 1) := by decide +kernel
theorem dX12_areLike_20 : decode cX12_areLike 20 = .ok (.aload_n 0, 1) := by decide +kernel
theorem dX12_areLike_21 : decode cX12_areLike 21 = .ok (.getfield 28, 3) := by decide +kernel
theorem dX12_areLike_24 : decode cX12_areLike 24 = .ok (.iload_n 2, 1) := by decide +kernel
theorem dX12_areLike_25 : decode cX12_areLike 25 = .ok (.iaload, 1) := by decide +kernel
theorem dX12_areLike_26 : decode cX12_areLike 26 = .ok (.iand, 1) := by decide +kernel
theorem dX12_areLike_27 : decode cX12_areLike 27 = .ok (.invokestatic 216, 3) := by decide +kernel
theorem dX12_areLike_30 : decode cX12_areLike 30 = .ok (.aload_n 0, 1) := by decide +kernel
theorem dX12_areLike_31 : decode cX12_areLike 31 = .ok (.getfield 58, 3) := by decide +kernel
theorem dX12_areLike_34 : decode cX12_areLike 34 = .ok (.if_icmp .ge 21, 3) := by decide +kernel
theorem dX12_areLike_37 : decode cX12_areLike 37 = .ok (.aload_n 0, 1) := by decide +kernel
theorem dX12_areLike_38 : decode cX12_areLike 38 = .ok (.getfield 28, 3) := by decide +kernel
theorem dX12_areLike_41 : decode cX12_areLike 41 = .ok (.iload_n 1, 1) := by decide +kernel
theorem dX12_areLike_42 : decode cX12_areLike 42 = .ok (.iaload, 1) := by decide +kernel
theorem dX12_areLike_43 : decode cX12_areLike 43 = .ok (.ifCond .ne 16, 3) := by decide +kernel
theorem dX12_areLike_46 : decode cX12_areLike 46 = .ok (.aload_n 0, 1) := by decide +kernel
theorem dX12_areLike_47 : decode cX12_areLike 47 = .ok (.getfield 28, 3) := by decide +kernel
theorem dX12_areLike_50 : decode cX12_areLike 50 = .ok (.iload_n 2, 1) := by decide +kernel
theorem dX12_areLike_51 : decode cX12_areLike 51 = .ok (.iaload, 1) := by decide +kernel
theorem dX12_areLike_52 : decode cX12_areLike 52 = .ok (.ifCond .ne 7, 3) := by decide +kernel
theorem dX12_areLike_55 : decode cX12_areLike 55 = .ok (.iconst 1, 1) := by decide +kernel
theorem dX12_areLike_56 : decode cX12_areLike 56 = .ok (.goto 4, 3) := by decide +kernel
theorem dX12_areLike_59 : decode cX12_areLike 59 = .ok (.iconst 0, 1) := by decide +kernel
theorem dX12_areLike_60 : decode cX12_areLike 60 = .ok (.istore 4, 2) := by decide +kernel
theorem dX12_areLike_62 : decode cX12_areLike 62 = .ok (.aload_n 0, 1) := by decide +kernel
theorem dX12_areLike_63 : decode cX12_areLike 63 = .ok (.getfield 19, 3) := by decide +kernel
theorem dX12_areLike_66 : decode cX12_areLike 66 = .ok (.iload_n 1, 1) := by decide +kernel
theorem dX12_areLike_67 : decode cX12_areLike 67 = .ok (.iaload, 1) := by decide +kernel
theorem dX12_areLike_68 : decode cX12_areLike 68 = .ok (.aload_n 0, 1) := by decide +kernel
theorem dX12_areLike_69 : decode cX12_areLike 69 = .ok (.getfield 19, 3) := by decide +kernel
theorem dX12_areLike_72 : decode cX12_areLike 72 = .ok (.iload_n 2, 1) := by decide +kernel
theorem dX12_areLike_73 : decode cX12_areLike 73 = .ok (.iaload, 1) := by decide +kernel
theorem dX12_areLike_74 : decode cX12_areLike 74 = .ok (.if_icmp .ne 21, 3) := by decide +kernel
theorem dX12_areLike_77 : decode cX12_areLike 77 = .ok (.iload_n 3, 1) := by decide +kernel
theorem dX12_areLike_78 : decode cX12_areLike 78 = .ok (.iconst (-1), 1) := by decide +kernel
theorem dX12_areLike_79 : decode cX12_areLike 79 = .ok (.iconst 1, 1) := by decide +kernel
theorem dX12_areLike_80 : decode cX12_areLike 80 = .ok (.invokestatic 157, 3) := by decide +kernel
theorem dX12_areLike_83 : decode cX12_areLike 83 = .ok (.ifCond .eq 12, 3) := by decide +kernel
theorem dX12_areLike_86 : decode cX12_areLike 86 = .ok (.iload 4, 2) := by decide +kernel
theorem dX12_areLike_88 : decode cX12_areLike 88 = .ok (.ifCond .eq 7, 3) := by decide +kernel
theorem dX12_areLike_91 : decode cX12_areLike 91 = .ok (.iconst 1, 1) := by decide +kernel
theorem dX12_areLike_92 : decode cX12_areLike 92 = .ok (.goto 4, 3) := by decide +kernel
theorem dX12_areLike_95 : decode cX12_areLike 95 = .ok (.iconst 0, 1) := by decide +kernel
theorem dX12_areLike_96 : decode cX12_areLike 96 = .ok (.ireturn, 1) := by decide +kernel
theorem dX12_isBelow_0 : decode cX12_isBelow 0 = .ok (.iload_n 1, 1) := by decide +kernel
theorem dX12_isBelow_1 : decode cX12_isBelow 1 = .ok (.istore_n 3, 1) := by decide +kernel
theorem dX12_isBelow_2 : decode cX12_isBelow 2 = .ok (.iload_n 3, 1) := by decide +kernel
theorem dX12_isBelow_3 : decode cX12_isBelow 3 = .ok (.ifCond .lt 18, 3) := by decide +kernel
theorem dX12_isBelow_6 : decode cX12_isBelow 6 = .ok (.iload_n 3, 1) := by decide +kernel
theorem dX12_isBelow_7 : decode cX12_isBelow 7 = .ok (.iload_n 2, 1) := by decide +kernel
theorem dX12_isBelow_8 : decode cX12_isBelow 8 = .ok (.if_icmp .eq 13, 3) := by decide +kernel
theorem dX12_isBelow_11 : decode cX12_isBelow 11 = .ok (.aload_n 0, 1) := by decide +kernel
theorem dX12_isBelow_12 : decode cX12_isBelow 12 = .ok (.getfield 13, 3) := by decide +kernel
theorem dX12_isBelow_15 : decode cX12_isBelow 15 = .ok (.iload_n 3, 1) := by decide +kernel
theorem dX12_isBelow_16 : decode cX12_isBelow 16 = .ok (.iaload, 1) := by decide +kernel
theorem dX12_isBelow_17 : decode cX12_isBelow 17 = .ok (.istore_n 3, 1) := by decide +kernel
theorem dX12_isBelow_18 : decode cX12_isBelow 18 = .ok (.goto (-16), 3) := by decide +kernel
theorem dX12_isBelow_21 : decode cX12_isBelow 21 = .ok (.iload_n 3, 1) := by decide +kernel
theorem dX12_isBelow_22 : decode cX12_isBelow 22 = .ok (.iload_n 2, 1) := by decide +kernel
theorem dX12_isBelow_23 : decode cX12_isBelow 23 = .ok (.if_icmp .ne 7, 3) := by decide +kernel
theorem dX12_isBelow_26 : decode cX12_isBelow 26 = .ok (.iconst 1, 1) := by decide +kernel
theorem dX12_isBelow_27 : decode cX12_isBelow 27 = .ok (.goto 4, 3) := by decide +kernel
theorem dX12_isBelow_30 : decode cX12_isBelow 30 = .ok (.iconst 0, 1) := by decide +kernel
theorem dX12_isBelow_31 : decode cX12_isBelow 31 = .ok (.ireturn, 1) := by decide +kernel
theorem dX12_findPools_0 : decode cX12_findPools 0 = .ok (.iconst 0, 1) := by decide +kernel
theorem dX12_findPools_1 : decode cX12_findPools 1 = .ok (.istore_n 2, 1) := by decide +kernel
theorem dX12_findPools_2 : decode cX12_findPools 2 = .ok (.iload_n 2, 1) := by decide +kernel
theorem dX12_findPools_3 : decode cX12_findPools 3 = .ok (.aload_n 0, 1) := by decide +kernel
theorem dX12_findPools_4 : decode cX12_findPools 4 = .ok (.getfield 161, 3) := by decide +kernel
theorem dX12_findPools_7 : decode cX12_findPools 7 = .ok (.if_icmp .ge 43, 3) := by decide +kernel
theorem dX12_findPools_10 : decode cX12_findPools 10 = .ok (.aload_n 0, 1) := by decide +kernel
theorem dX12_findPools_11 : decode cX12_findPools 11 = .ok (.getfield 92, 3) := by decide +kernel
theorem dX12_findPools_14 : decode cX12_findPools 14 = .ok (.iload_n 2, 1) := by decide +kernel
theorem dX12_findPools_15 : decode cX12_findPools 15 = .ok (.aload_n 0, 1) := by decide +kernel
theorem dX12_findPools_16 : decode cX12_findPools 16 = .ok (.getfield 31, 3) := by decide +kernel
theorem dX12_findPools_19 : decode cX12_findPools 19 = .ok (.iload_n 2, 1) := by decide +kernel
theorem dX12_findPools_20 : decode cX12_findPools 20 = .ok (.iaload, 1) := by decide +kernel
theorem dX12_findPools_21 : decode cX12_findPools 21 = .ok (.ifCond .ge 21, 3) := by decide +kernel
theorem dX12_findPools_24 : decode cX12_findPools 24 = .ok (.aload_n 0, 1) := by decide +kernel
theorem dX12_findPools_25 : decode cX12_findPools 25 = .ok (.aload_n 0, 1) := by decide +kernel
theorem dX12_findPools_26 : decode cX12_findPools 26 = .ok (.getfield 16, 3) := by decide +kernel
theorem dX12_findPools_29 : decode cX12_findPools 29 = .ok (.iload_n 2, 1) := by decide +kernel
theorem dX12_findPools_30 : decode cX12_findPools 30 = .ok (.iaload, 1) := by decide +kernel
theorem dX12_findPools_31 : decode cX12_findPools 31 = .ok (.iload_n 1, 1) := by decide +kernel
theorem dX12_findPools_32 : decode cX12_findPools 32 = .ok (.invokevirtual 236, 3) := by decide +kernel
theorem dX12_findPools_35 : decode cX12_findPools 35 = .ok (.ifCond .eq 7, 3) := by decide +kernel
theorem dX12_findPools_38 : decode cX12_findPools 38 = .ok (.iload_n 2, 1) := by decide +kernel
theorem dX12_findPools_39 : decode cX12_findPools 39 = .ok (.goto 4, 3) := by decide +kernel
theorem dX12_findPools_42 : decode cX12_findPools 42 = .ok (.iconst (-1), 1) := by decide +kernel
theorem dX12_findPools_43 : decode cX12_findPools 43 = .ok (.iastore, 1) := by decide +kernel
theorem dX12_findPools_44 : decode cX12_findPools 44 = .ok (.iinc 2 1, 3) := by decide +kernel
theorem dX12_findPools_47 : decode cX12_findPools 47 = .ok (.goto (-45), 3) := by decide +kernel
theorem dX12_findPools_50 : decode cX12_findPools 50 = .ok (.iconst 1, 1) := by decide +kernel
theorem dX12_findPools_51 : decode cX12_findPools 51 = .ok (.istore_n 2, 1) := by decide +kernel
theorem dX12_findPools_52 : decode cX12_findPools 52 = .ok (.iload_n 2, 1) := by decide +kernel
theorem dX12_findPools_53 : decode cX12_findPools 53 = .ok (.ifCond .eq 92, 3) := by decide +kernel
theorem dX12_findPools_56 : decode cX12_findPools 56 = .ok (.iconst 0, 1) := by decide +kernel
theorem dX12_findPools_57 : decode cX12_findPools 57 = .ok (.istore_n 2, 1) := by decide +kernel
theorem dX12_findPools_58 : decode cX12_findPools 58 = .ok (.iconst 0, 1) := by decide +kernel
theorem dX12_findPools_59 : decode cX12_findPools 59 = .ok (.istore_n 3, 1) := by decide +kernel
theorem dX12_findPools_60 : decode cX12_findPools 60 = .ok (.iload_n 3, 1) := by decide +kernel
theorem dX12_findPools_61 : decode cX12_findPools 61 = .ok (.aload_n 0, 1) := by decide +kernel
theorem dX12_findPools_62 : decode cX12_findPools 62 = .ok (.getfield 161, 3) := by decide +kernel
theorem dX12_findPools_65 : decode cX12_findPools 65 = .ok (.if_icmp .ge 77, 3) := by decide +kernel
theorem dX12_findPools_68 : decode cX12_findPools 68 = .ok (.iconst 0, 1) := by decide +kernel
theorem dX12_findPools_69 : decode cX12_findPools 69 = .ok (.istore 4, 2) := by decide +kernel
theorem dX12_findPools_71 : decode cX12_findPools 71 = .ok (.iload 4, 2) := by decide +kernel
theorem dX12_findPools_73 : decode cX12_findPools 73 = .ok (.aload_n 0, 1) := by decide +kernel
theorem dX12_findPools_74 : decode cX12_findPools 74 = .ok (.getfield 161, 3) := by decide +kernel
theorem dX12_findPools_77 : decode cX12_findPools 77 = .ok (.if_icmp .ge 59, 3) := by decide +kernel
theorem dX12_findPools_80 : decode cX12_findPools 80 = .ok (.aload_n 0, 1) := by decide +kernel
theorem dX12_findPools_81 : decode cX12_findPools 81 = .ok (.getfield 92, 3) := by decide +kernel
theorem dX12_findPools_84 : decode cX12_findPools 84 = .ok (.iload_n 3, 1) := by decide +kernel
theorem dX12_findPools_85 : decode cX12_findPools 85 = .ok (.iaload, 1) := by decide +kernel
theorem dX12_findPools_86 : decode cX12_findPools 86 = .ok (.ifCond .lt 44, 3) := by decide +kernel
theorem dX12_findPools_89 : decode cX12_findPools 89 = .ok (.aload_n 0, 1) := by decide +kernel
theorem dX12_findPools_90 : decode cX12_findPools 90 = .ok (.getfield 92, 3) := by decide +kernel
theorem dX12_findPools_93 : decode cX12_findPools 93 = .ok (.iload_n 3, 1) := by decide +kernel
theorem dX12_findPools_94 : decode cX12_findPools 94 = .ok (.iaload, 1) := by decide +kernel
theorem dX12_findPools_95 : decode cX12_findPools 95 = .ok (.aload_n 0, 1) := by decide +kernel
theorem dX12_findPools_96 : decode cX12_findPools 96 = .ok (.getfield 92, 3) := by decide +kernel
theorem dX12_findPools_99 : decode cX12_findPools 99 = .ok (.iload 4, 2) := by decide +kernel
theorem dX12_findPools_101 : decode cX12_findPools 101 = .ok (.iaload, 1) := by decide +kernel
theorem dX12_findPools_102 : decode cX12_findPools 102 = .ok (.if_icmp .ge 28, 3) := by decide +kernel
theorem dX12_findPools_105 : decode cX12_findPools 105 = .ok (.aload_n 0, 1) := by decide +kernel
theorem dX12_findPools_106 : decode cX12_findPools 106 = .ok (.iload_n 3, 1) := by decide +kernel
theorem dX12_findPools_107 : decode cX12_findPools 107 = .ok (.iload 4, 2) := by decide +kernel
theorem dX12_findPools_109 : decode cX12_findPools 109 = .ok (.invokevirtual 240, 3) := by decide +kernel
theorem dX12_findPools_112 : decode cX12_findPools 112 = .ok (.ifCond .eq 18, 3) := by decide +kernel
theorem dX12_findPools_115 : decode cX12_findPools 115 = .ok (.aload_n 0, 1) := by decide +kernel
theorem dX12_findPools_116 : decode cX12_findPools 116 = .ok (.getfield 92, 3) := by decide +kernel
theorem dX12_findPools_119 : decode cX12_findPools 119 = .ok (.iload 4, 2) := by decide +kernel
theorem dX12_findPools_121 : decode cX12_findPools 121 = .ok (.aload_n 0, 1) := by decide +kernel
theorem dX12_findPools_122 : decode cX12_findPools 122 = .ok (.getfield 92, 3) := by decide +kernel
theorem dX12_findPools_125 : decode cX12_findPools 125 = .ok (.iload_n 3, 1) := by decide +kernel
theorem dX12_findPools_126 : decode cX12_findPools 126 = .ok (.iaload, 1) := by decide +kernel
theorem dX12_findPools_127 : decode cX12_findPools 127 = .ok (.iastore, 1) := by decide +kernel
theorem dX12_findPools_128 : decode cX12_findPools 128 = .ok (.iconst 1, 1) := by decide +kernel
theorem dX12_findPools_129 : decode cX12_findPools 129 = .ok (.istore_n 2, 1) := by decide +kernel
theorem dX12_findPools_130 : decode cX12_findPools 130 = .ok (.iinc 4 1, 3) := by decide +kernel
theorem dX12_findPools_133 : decode cX12_findPools 133 = .ok (.goto (-62), 3) := by decide +kernel
theorem dX12_findPools_136 : decode cX12_findPools 136 = .ok (.iinc 3 1, 3) := by decide +kernel
theorem dX12_findPools_139 : decode cX12_findPools 139 = .ok (.goto (-79), 3) := by decide +kernel
theorem dX12_findPools_142 : decode cX12_findPools 142 = .ok (.goto (-90), 3) := by decide +kernel
theorem dX12_findPools_145 : decode cX12_findPools 145 = .ok (.iconst 0, 1) := by decide +kernel
theorem dX12_findPools_146 : decode cX12_findPools 146 = .ok (.istore_n 3, 1) := by decide +kernel
theorem dX12_findPools_147 : decode cX12_findPools 147 = .ok (.iconst 0, 1) := by decide +kernel
theorem dX12_findPools_148 : decode cX12_findPools 148 = .ok (.istore 4, 2) := by decide +kernel
theorem dX12_findPools_150 : decode cX12_findPools 150 = .ok (.iload 4, 2) := by decide +kernel
theorem dX12_findPools_152 : decode cX12_findPools 152 = .ok (.aload_n 0, 1) := by decide +kernel
theorem dX12_findPools_153 : decode cX12_findPools 153 = .ok (.getfield 161, 3) := by decide +kernel
theorem dX12_findPools_156 : decode cX12_findPools 156 = .ok (.if_icmp .ge 78, 3) := by decide +kernel
theorem dX12_findPools_159 : decode cX12_findPools 159 = .ok (.aload_n 0, 1) := by decide +kernel
theorem dX12_findPools_160 : decode cX12_findPools 160 = .ok (.getfield 95, 3) := by decide +kernel
theorem dX12_findPools_163 : decode cX12_findPools 163 = .ok (.iload 4, 2) := by decide +kernel
theorem dX12_findPools_165 : decode cX12_findPools 165 = .ok (.aload_n 0, 1) := by decide +kernel
theorem dX12_findPools_166 : decode cX12_findPools 166 = .ok (.getfield 92, 3) := by decide +kernel
theorem dX12_findPools_169 : decode cX12_findPools 169 = .ok (.iload 4, 2) := by decide +kernel
theorem dX12_findPools_171 : decode cX12_findPools 171 = .ok (.iaload, 1) := by decide +kernel
theorem dX12_findPools_172 : decode cX12_findPools 172 = .ok (.ifCond .ge 7, 3) := by decide +kernel
theorem dX12_findPools_175 : decode cX12_findPools 175 = .ok (.iconst (-1), 1) := by decide +kernel
theorem dX12_findPools_176 : decode cX12_findPools 176 = .ok (.goto 31, 3) := by decide +kernel
theorem dX12_findPools_179 : decode cX12_findPools 179 = .ok (.aload_n 0, 1) := by decide +kernel
theorem dX12_findPools_180 : decode cX12_findPools 180 = .ok (.getfield 92, 3) := by decide +kernel
theorem dX12_findPools_183 : decode cX12_findPools 183 = .ok (.iload 4, 2) := by decide +kernel
theorem dX12_findPools_185 : decode cX12_findPools 185 = .ok (.iaload, 1) := by decide +kernel
theorem dX12_findPools_186 : decode cX12_findPools 186 = .ok (.iload 4, 2) := by decide +kernel
theorem dX12_findPools_188 : decode cX12_findPools 188 = .ok (.if_icmp .ne 7, 3) := by decide +kernel
theorem dX12_findPools_191 : decode cX12_findPools 191 = .ok (.iload_n 3, 1) := by decide +kernel
theorem dX12_findPools_192 : decode cX12_findPools 192 = .ok (.goto 15, 3) := by decide +kernel
theorem dX12_findPools_195 : decode cX12_findPools 195 = .ok (.aload_n 0, 1) := by decide +kernel
theorem dX12_findPools_196 : decode cX12_findPools 196 = .ok (.getfield 95, 3) := by decide +kernel
theorem dX12_findPools_199 : decode cX12_findPools 199 = .ok (.aload_n 0, 1) := by decide +kernel
theorem dX12_findPools_200 : decode cX12_findPools 200 = .ok (.getfield 92, 3) := by decide +kernel
theorem dX12_findPools_203 : decode cX12_findPools 203 = .ok (.iload 4, 2) := by decide +kernel
theorem dX12_findPools_205 : decode cX12_findPools 205 = .ok (.iaload, 1) := by decide +kernel
theorem dX12_findPools_206 : decode cX12_findPools 206 = .ok (.iaload, 1) := by decide +kernel
theorem dX12_findPools_207 : decode cX12_findPools 207 = .ok (.iastore, 1) := by decide +kernel
theorem dX12_findPools_208 : decode cX12_findPools 208 = .ok (.iload_n 3, 1) := by decide +kernel
theorem dX12_findPools_209 : decode cX12_findPools 209 = .ok (.aload_n 0, 1) := by decide +kernel
theorem dX12_findPools_210 : decode cX12_findPools 210 = .ok (.getfield 92, 3) := by decide +kernel
theorem dX12_findPools_213 : decode cX12_findPools 213 = .ok (.iload 4, 2) := by decide +kernel
theorem dX12_findPools_215 : decode cX12_findPools 215 = .ok (.iaload, 1) := by decide +kernel
theorem dX12_findPools_216 : decode cX12_findPools 216 = .ok (.iload 4, 2) := by decide +kernel
theorem dX12_findPools_218 : decode cX12_findPools 218 = .ok (.if_icmp .ne 7, 3) := by decide +kernel
theorem dX12_findPools_221 : decode cX12_findPools 221 = .ok (.iconst 1, 1) := by decide +kernel
theorem dX12_findPools_222 : decode cX12_findPools 222 = .ok (.goto 4, 3) := by decide +kernel
theorem dX12_findPools_225 : decode cX12_findPools 225 = .ok (.iconst 0, 1) := by decide +kernel
theorem dX12_findPools_226 : decode cX12_findPools 226 = .ok (.iadd, 1) := by decide +kernel
theorem dX12_findPools_227 : decode cX12_findPools 227 = .ok (.istore_n 3, 1) := by decide +kernel
theorem dX12_findPools_228 : decode cX12_findPools 228 = .ok (.iinc 4 1, 3) := by decide +kernel
theorem dX12_findPools_231 : decode cX12_findPools 231 = .ok (.goto (-81), 3) := by decide +kernel
theorem dX12_findPools_234 : decode cX12_findPools 234 = .ok (.iload_n 3, 1) := by decide +kernel
theorem dX12_findPools_235 : decode cX12_findPools 235 = .ok (.ireturn, 1) := by decide +kernel
theorem dX12_pools_0 : decode cX12_pools 0 = .ok (.aload_n 0, 1) := by decide +kernel
theorem dX12_pools_1 : decode cX12_pools 1 = .ok (.iload_n 1, 1) := by decide +kernel
theorem dX12_pools_2 : decode cX12_pools 2 = .ok (.invokevirtual 177, 3) := by decide +kernel
theorem dX12_pools_5 : decode cX12_pools 5 = .ok (.ifCond .eq 11, 3) := by decide +kernel
theorem dX12_pools_8 : decode cX12_pools 8 = .ok (.aload_n 0, 1) := by decide +kernel
theorem dX12_pools_9 : decode cX12_pools 9 = .ok (.iload_n 1, 1) := by decide +kernel
theorem dX12_pools_10 : decode cX12_pools 10 = .ok (.invokevirtual 243, 3) := by decide +kernel
theorem dX12_pools_13 : decode cX12_pools 13 = .ok (.goto 8, 3) := by decide +kernel
theorem dX12_pools_16 : decode cX12_pools 16 = .ok (.aload_n 0, 1) := by decide +kernel
theorem dX12_pools_17 : decode cX12_pools 17 = .ok (.iconst (-1), 1) := by decide +kernel
theorem dX12_pools_18 : decode cX12_pools 18 = .ok (.invokevirtual 174, 3) := by decide +kernel
theorem dX12_pools_21 : decode cX12_pools 21 = .ok (.ireturn, 1) := by decide +kernel
theorem dX12_poolOf_0 : decode cX12_poolOf 0 = .ok (.aload_n 0, 1) := by decide +kernel
theorem dX12_poolOf_1 : decode cX12_poolOf 1 = .ok (.iload_n 1, 1) := by decide +kernel
theorem dX12_poolOf_2 : decode cX12_poolOf 2 = .ok (.invokevirtual 177, 3) := by decide +kernel
theorem dX12_poolOf_5 : decode cX12_poolOf 5 = .ok (.ifCond .eq 11, 3) := by decide +kernel
theorem dX12_poolOf_8 : decode cX12_poolOf 8 = .ok (.aload_n 0, 1) := by decide +kernel
theorem dX12_poolOf_9 : decode cX12_poolOf 9 = .ok (.iload_n 2, 1) := by decide +kernel
theorem dX12_poolOf_10 : decode cX12_poolOf 10 = .ok (.invokevirtual 181, 3) := by decide +kernel
theorem dX12_poolOf_13 : decode cX12_poolOf 13 = .ok (.ifCond .ne 9, 3) := by decide +kernel
theorem dX12_poolOf_16 : decode cX12_poolOf 16 = .ok (.aload_n 0, 1) := by decide +kernel
theorem dX12_poolOf_17 : decode cX12_poolOf 17 = .ok (.iconst (-1), 1) := by decide +kernel
theorem dX12_poolOf_18 : decode cX12_poolOf 18 = .ok (.invokevirtual 174, 3) := by decide +kernel
theorem dX12_poolOf_21 : decode cX12_poolOf 21 = .ok (.ireturn, 1) := by decide +kernel
theorem dX12_poolOf_22 : decode cX12_poolOf 22 = .ok (.aload_n 0, 1) := by decide +kernel
theorem dX12_poolOf_23 : decode cX12_poolOf 23 = .ok (.iload_n 1, 1) := by decide +kernel
theorem dX12_poolOf_24 : decode cX12_poolOf 24 = .ok (.invokevirtual 243, 3) := by decide +kernel
theorem dX12_poolOf_27 : decode cX12_poolOf 27 = .ok (.istore_n 3, 1) := by decide +kernel
theorem dX12_poolOf_28 : decode cX12_poolOf 28 = .ok (.aload_n 0, 1) := by decide +kernel
theorem dX12_poolOf_29 : decode cX12_poolOf 29 = .ok (.getfield 95, 3) := by decide +kernel
theorem dX12_poolOf_32 : decode cX12_poolOf 32 = .ok (.iload_n 2, 1) := by decide +kernel
theorem dX12_poolOf_33 : decode cX12_poolOf 33 = .ok (.iaload, 1) := by decide +kernel
theorem dX12_poolOf_34 : decode cX12_poolOf 34 = .ok (.ifCond .ge 8, 3) := by decide +kernel
theorem dX12_poolOf_37 : decode cX12_poolOf 37 = .ok (.bipush (-9), 2) := by decide +kernel
theorem dX12_poolOf_39 : decode cX12_poolOf 39 = .ok (.goto 9, 3) := by decide +kernel
theorem dX12_poolOf_42 : decode cX12_poolOf 42 = .ok (.aload_n 0, 1) := by decide +kernel
theorem dX12_poolOf_43 : decode cX12_poolOf 43 = .ok (.getfield 95, 3) := by decide +kernel
theorem dX12_poolOf_46 : decode cX12_poolOf 46 = .ok (.iload_n 2, 1) := by decide +kernel
theorem dX12_poolOf_47 : decode cX12_poolOf 47 = .ok (.iaload, 1) := by decide +kernel
theorem dX12_poolOf_48 : decode cX12_poolOf 48 = .ok (.ireturn, 1) := by decide +kernel
theorem dX12_isPool_0 : decode cX12_isPool 0 = .ok (.aload_n 0, 1) := by decide +kernel
theorem dX12_isPool_1 : decode cX12_isPool 1 = .ok (.iload_n 1, 1) := by decide +kernel
theorem dX12_isPool_2 : decode cX12_isPool 2 = .ok (.invokevirtual 177, 3) := by decide +kernel
theorem dX12_isPool_5 : decode cX12_isPool 5 = .ok (.ifCond .eq 22, 3) := by decide +kernel
theorem dX12_isPool_8 : decode cX12_isPool 8 = .ok (.iload_n 2, 1) := by decide +kernel
theorem dX12_isPool_9 : decode cX12_isPool 9 = .ok (.iconst 0, 1) := by decide +kernel
theorem dX12_isPool_10 : decode cX12_isPool 10 = .ok (.aload_n 0, 1) := by decide +kernel
theorem dX12_isPool_11 : decode cX12_isPool 11 = .ok (.iload_n 1, 1) := by decide +kernel
theorem dX12_isPool_12 : decode cX12_isPool 12 = .ok (.invokevirtual 243, 3) := by decide +kernel
theorem dX12_isPool_15 : decode cX12_isPool 15 = .ok (.iconst 1, 1) := by decide +kernel
theorem dX12_isPool_16 : decode cX12_isPool 16 = .ok (.isub, 1) := by decide +kernel
theorem dX12_isPool_17 : decode cX12_isPool 17 = .ok (.invokestatic 157, 3) := by decide +kernel
theorem dX12_isPool_20 : decode cX12_isPool 20 = .ok (.ifCond .eq 7, 3) := by decide +kernel
theorem dX12_isPool_23 : decode cX12_isPool 23 = .ok (.iconst 1, 1) := by decide +kernel
theorem dX12_isPool_24 : decode cX12_isPool 24 = .ok (.goto 4, 3) := by decide +kernel
theorem dX12_isPool_27 : decode cX12_isPool 27 = .ok (.iconst 0, 1) := by decide +kernel
theorem dX12_isPool_28 : decode cX12_isPool 28 = .ok (.ireturn, 1) := by decide +kernel
theorem dX12_isOf_0 : decode cX12_isOf 0 = .ok (.aload_n 0, 1) := by decide +kernel
theorem dX12_isOf_1 : decode cX12_isOf 1 = .ok (.iload_n 1, 1) := by decide +kernel
theorem dX12_isOf_2 : decode cX12_isOf 2 = .ok (.invokevirtual 200, 3) := by decide +kernel
theorem dX12_isOf_5 : decode cX12_isOf 5 = .ok (.ifCond .eq 31, 3) := by decide +kernel
theorem dX12_isOf_8 : decode cX12_isOf 8 = .ok (.aload_n 0, 1) := by decide +kernel
theorem dX12_isOf_9 : decode cX12_isOf 9 = .ok (.getfield 43, 3) := by decide +kernel
theorem dX12_isOf_12 : decode cX12_isOf 12 = .ok (.iload_n 1, 1) := by decide +kernel
theorem dX12_isOf_13 : decode cX12_isOf 13 = .ok (.iaload, 1) := by decide +kernel
theorem dX12_isOf_14 : decode cX12_isOf 14 = .ok (.ifCond .lt 22, 3) := by decide +kernel
theorem dX12_isOf_17 : decode cX12_isOf 17 = .ok (.aload_n 0, 1) := by decide +kernel
theorem dX12_isOf_18 : decode cX12_isOf 18 = .ok (.getfield 95, 3) := by decide +kernel
theorem dX12_isOf_21 : decode cX12_isOf 21 = .ok (.aload_n 0, 1) := by decide +kernel
theorem dX12_isOf_22 : decode cX12_isOf 22 = .ok (.getfield 43, 3) := by decide +kernel
theorem dX12_isOf_25 : decode cX12_isOf 25 = .ok (.iload_n 1, 1) := by decide +kernel
theorem dX12_isOf_26 : decode cX12_isOf 26 = .ok (.iaload, 1) := by decide +kernel
theorem dX12_isOf_27 : decode cX12_isOf 27 = .ok (.iaload, 1) := by decide +kernel
theorem dX12_isOf_28 : decode cX12_isOf 28 = .ok (.iload_n 2, 1) := by decide +kernel
theorem dX12_isOf_29 : decode cX12_isOf 29 = .ok (.if_icmp .ne 7, 3) := by decide +kernel
theorem dX12_isOf_32 : decode cX12_isOf 32 = .ok (.iconst 1, 1) := by decide +kernel
theorem dX12_isOf_33 : decode cX12_isOf 33 = .ok (.goto 4, 3) := by decide +kernel
theorem dX12_isOf_36 : decode cX12_isOf 36 = .ok (.iconst 0, 1) := by decide +kernel
theorem dX12_isOf_37 : decode cX12_isOf 37 = .ok (.ireturn, 1) := by decide +kernel
theorem dX12_isAhead_0 : decode cX12_isAhead 0 = .ok (.aload_n 0, 1) := by decide +kernel
theorem dX12_isAhead_1 : decode cX12_isAhead 1 = .ok (.getfield 98, 3) := by decide +kernel
theorem dX12_isAhead_4 : decode cX12_isAhead 4 = .ok (.iload_n 3, 1) := by decide +kernel
theorem dX12_isAhead_5 : decode cX12_isAhead 5 = .ok (.iaload, 1) := by decide +kernel
theorem dX12_isAhead_6 : decode cX12_isAhead 6 = .ok (.istore 4, 2) := by decide +kernel
theorem dX12_isAhead_8 : decode cX12_isAhead 8 = .ok (.iload_n 2, 1) := by decide +kernel
theorem dX12_isAhead_9 : decode cX12_isAhead 9 = .ok (.aload_n 0, 1) := by decide +kernel
theorem dX12_isAhead_10 : decode cX12_isAhead 10 = .ok (.getfield 101, 3) := by decide +kernel
theorem dX12_isAhead_13 : decode cX12_isAhead 13 = .ok (.iload_n 3, 1) := by decide +kernel
theorem dX12_isAhead_14 : decode cX12_isAhead 14 = .ok (.iaload, 1) := by decide +kernel
theorem dX12_isAhead_15 : decode cX12_isAhead 15 = .ok (.if_icmp .eq 21, 3) := by decide +kernel
theorem dX12_isAhead_18 : decode cX12_isAhead 18 = .ok (.iload_n 2, 1) := by decide +kernel
theorem dX12_isAhead_19 : decode cX12_isAhead 19 = .ok (.aload_n 0, 1) := by decide +kernel
theorem dX12_isAhead_20 : decode cX12_isAhead 20 = .ok (.getfield 101, 3) := by decide +kernel
theorem dX12_isAhead_23 : decode cX12_isAhead 23 = .ok (.iload_n 3, 1) := by decide +kernel
theorem dX12_isAhead_24 : decode cX12_isAhead 24 = .ok (.iaload, 1) := by decide +kernel
theorem dX12_isAhead_25 : decode cX12_isAhead 25 = .ok (.if_icmp .ge 7, 3) := by decide +kernel
theorem dX12_isAhead_28 : decode cX12_isAhead 28 = .ok (.iconst 1, 1) := by decide +kernel
theorem dX12_isAhead_29 : decode cX12_isAhead 29 = .ok (.goto 58, 3) := by decide +kernel
theorem dX12_isAhead_32 : decode cX12_isAhead 32 = .ok (.iconst 0, 1) := by decide +kernel
theorem dX12_isAhead_33 : decode cX12_isAhead 33 = .ok (.goto 54, 3) := by decide +kernel
theorem dX12_isAhead_36 : decode cX12_isAhead 36 = .ok (.aload_n 0, 1) := by decide +kernel
theorem dX12_isAhead_37 : decode cX12_isAhead 37 = .ok (.getfield 37, 3) := by decide +kernel
theorem dX12_isAhead_40 : decode cX12_isAhead 40 = .ok (.iload_n 1, 1) := by decide +kernel
theorem dX12_isAhead_41 : decode cX12_isAhead 41 = .ok (.iaload, 1) := by decide +kernel
theorem dX12_isAhead_42 : decode cX12_isAhead 42 = .ok (.aload_n 0, 1) := by decide +kernel
theorem dX12_isAhead_43 : decode cX12_isAhead 43 = .ok (.getfield 37, 3) := by decide +kernel
theorem dX12_isAhead_46 : decode cX12_isAhead 46 = .ok (.iload 4, 2) := by decide +kernel
theorem dX12_isAhead_48 : decode cX12_isAhead 48 = .ok (.iaload, 1) := by decide +kernel
theorem dX12_isAhead_49 : decode cX12_isAhead 49 = .ok (.if_icmp .eq 27, 3) := by decide +kernel
theorem dX12_isAhead_52 : decode cX12_isAhead 52 = .ok (.aload_n 0, 1) := by decide +kernel
theorem dX12_isAhead_53 : decode cX12_isAhead 53 = .ok (.getfield 37, 3) := by decide +kernel
theorem dX12_isAhead_56 : decode cX12_isAhead 56 = .ok (.iload_n 1, 1) := by decide +kernel
theorem dX12_isAhead_57 : decode cX12_isAhead 57 = .ok (.iaload, 1) := by decide +kernel
theorem dX12_isAhead_58 : decode cX12_isAhead 58 = .ok (.aload_n 0, 1) := by decide +kernel
theorem dX12_isAhead_59 : decode cX12_isAhead 59 = .ok (.getfield 37, 3) := by decide +kernel
theorem dX12_isAhead_62 : decode cX12_isAhead 62 = .ok (.iload 4, 2) := by decide +kernel
theorem dX12_isAhead_64 : decode cX12_isAhead 64 = .ok (.iaload, 1) := by decide +kernel
theorem dX12_isAhead_65 : decode cX12_isAhead 65 = .ok (.if_icmp .le 7, 3) := by decide +kernel
theorem dX12_isAhead_68 : decode cX12_isAhead 68 = .ok (.iconst 1, 1) := by decide +kernel
theorem dX12_isAhead_69 : decode cX12_isAhead 69 = .ok (.goto 18, 3) := by decide +kernel
theorem dX12_isAhead_72 : decode cX12_isAhead 72 = .ok (.iconst 0, 1) := by decide +kernel
theorem dX12_isAhead_73 : decode cX12_isAhead 73 = .ok (.goto 14, 3) := by decide +kernel
theorem dX12_isAhead_76 : decode cX12_isAhead 76 = .ok (.iload_n 1, 1) := by decide +kernel
theorem dX12_isAhead_77 : decode cX12_isAhead 77 = .ok (.iload 4, 2) := by decide +kernel
theorem dX12_isAhead_79 : decode cX12_isAhead 79 = .ok (.if_icmp .le 7, 3) := by decide +kernel
theorem dX12_isAhead_82 : decode cX12_isAhead 82 = .ok (.iconst 1, 1) := by decide +kernel
theorem dX12_isAhead_83 : decode cX12_isAhead 83 = .ok (.goto 4, 3) := by decide +kernel
theorem dX12_isAhead_86 : decode cX12_isAhead 86 = .ok (.iconst 0, 1) := by decide +kernel
theorem dX12_isAhead_87 : decode cX12_isAhead 87 = .ok (.ireturn, 1) := by decide +kernel
theorem dX12_findCut_0 : decode cX12_findCut 0 = .ok (.aload_n 0, 1) := by decide +kernel
theorem dX12_findCut_1 : decode cX12_findCut 1 = .ok (.iconst 0, 1) := by decide +kernel
theorem dX12_findCut_2 : decode cX12_findCut 2 = .ok (.putfield 246, 3) := by decide +kernel
theorem dX12_findCut_5 : decode cX12_findCut 5 = .ok (.iconst 0, 1) := by decide +kernel
theorem dX12_findCut_6 : decode cX12_findCut 6 = .ok (.istore_n 3, 1) := by decide +kernel
theorem dX12_findCut_7 : decode cX12_findCut 7 = .ok (.iload_n 3, 1) := by decide +kernel
theorem dX12_findCut_8 : decode cX12_findCut 8 = .ok (.aload_n 0, 1) := by decide +kernel
theorem dX12_findCut_9 : decode cX12_findCut 9 = .ok (.getfield 164, 3) := by decide +kernel
theorem dX12_findCut_12 : decode cX12_findCut 12 = .ok (.if_icmp .ge 127, 3) := by decide +kernel
theorem dX12_findCut_15 : decode cX12_findCut 15 = .ok (.aload_n 0, 1) := by decide +kernel
theorem dX12_findCut_16 : decode cX12_findCut 16 = .ok (.iload_n 3, 1) := by decide +kernel
theorem dX12_findCut_17 : decode cX12_findCut 17 = .ok (.iload_n 1, 1) := by decide +kernel
theorem dX12_findCut_18 : decode cX12_findCut 18 = .ok (.invokevirtual 249, 3) := by decide +kernel
theorem dX12_findCut_21 : decode cX12_findCut 21 = .ok (.ifCond .eq 112, 3) := by decide +kernel
theorem dX12_findCut_24 : decode cX12_findCut 24 = .ok (.aload_n 0, 1) := by decide +kernel
theorem dX12_findCut_25 : decode cX12_findCut 25 = .ok (.iload_n 3, 1) := by decide +kernel
theorem dX12_findCut_26 : decode cX12_findCut 26 = .ok (.invokevirtual 252, 3) := by decide +kernel
theorem dX12_findCut_29 : decode cX12_findCut 29 = .ok (.ifCond .ne 104, 3) := by decide +kernel
theorem dX12_findCut_32 : decode cX12_findCut 32 = .ok (.aload_n 0, 1) := by decide +kernel
theorem dX12_findCut_33 : decode cX12_findCut 33 = .ok (.iload_n 3, 1) := by decide +kernel
theorem dX12_findCut_34 : decode cX12_findCut 34 = .ok (.aload_n 0, 1) := by decide +kernel
theorem dX12_findCut_35 : decode cX12_findCut 35 = .ok (.getfield 167, 3) := by decide +kernel
theorem dX12_findCut_38 : decode cX12_findCut 38 = .ok (.invokevirtual 233, 3) := by decide +kernel
theorem dX12_findCut_41 : decode cX12_findCut 41 = .ok (.istore 4, 2) := by decide +kernel
theorem dX12_findCut_43 : decode cX12_findCut 43 = .ok (.aload_n 0, 1) := by decide +kernel
theorem dX12_findCut_44 : decode cX12_findCut 44 = .ok (.getfield 246, 3) := by decide +kernel
theorem dX12_findCut_47 : decode cX12_findCut 47 = .ok (.istore 5, 2) := by decide +kernel
theorem dX12_findCut_49 : decode cX12_findCut 49 = .ok (.iload 5, 2) := by decide +kernel
theorem dX12_findCut_51 : decode cX12_findCut 51 = .ok (.ifCond .le 55, 3) := by decide +kernel
theorem dX12_findCut_54 : decode cX12_findCut 54 = .ok (.aload_n 0, 1) := by decide +kernel
theorem dX12_findCut_55 : decode cX12_findCut 55 = .ok (.iload_n 3, 1) := by decide +kernel
theorem dX12_findCut_56 : decode cX12_findCut 56 = .ok (.iload 4, 2) := by decide +kernel
theorem dX12_findCut_58 : decode cX12_findCut 58 = .ok (.iload 5, 2) := by decide +kernel
theorem dX12_findCut_60 : decode cX12_findCut 60 = .ok (.iconst 1, 1) := by decide +kernel
theorem dX12_findCut_61 : decode cX12_findCut 61 = .ok (.isub, 1) := by decide +kernel
theorem dX12_findCut_62 : decode cX12_findCut 62 = .ok (.invokevirtual 255, 3) := by decide +kernel
theorem dX12_findCut_65 : decode cX12_findCut 65 = .ok (.ifCond .eq 41, 3) := by decide +kernel
theorem dX12_findCut_68 : decode cX12_findCut 68 = .ok (.aload_n 0, 1) := by decide +kernel
theorem dX12_findCut_69 : decode cX12_findCut 69 = .ok (.getfield 98, 3) := by decide +kernel
theorem dX12_findCut_72 : decode cX12_findCut 72 = .ok (.iload 5, 2) := by decide +kernel
theorem dX12_findCut_74 : decode cX12_findCut 74 = .ok (.aload_n 0, 1) := by decide +kernel
theorem dX12_findCut_75 : decode cX12_findCut 75 = .ok (.getfield 98, 3) := by decide +kernel
theorem dX12_findCut_78 : decode cX12_findCut 78 = .ok (.iload 5, 2) := by decide +kernel
theorem dX12_findCut_80 : decode cX12_findCut 80 = .ok (.iconst 1, 1) := by decide +kernel
theorem dX12_findCut_81 : decode cX12_findCut 81 = .ok (.isub, 1) := by decide +kernel
theorem dX12_findCut_82 : decode cX12_findCut 82 = .ok (.iaload, 1) := by decide +kernel
theorem dX12_findCut_83 : decode cX12_findCut 83 = .ok (.iastore, 1) := by decide +kernel
theorem dX12_findCut_84 : decode cX12_findCut 84 = .ok (.aload_n 0, 1) := by decide +kernel
theorem dX12_findCut_85 : decode cX12_findCut 85 = .ok (.getfield 101, 3) := by decide +kernel
theorem dX12_findCut_88 : decode cX12_findCut 88 = .ok (.iload 5, 2) := by decide +kernel
theorem dX12_findCut_90 : decode cX12_findCut 90 = .ok (.aload_n 0, 1) := by decide +kernel
theorem dX12_findCut_91 : decode cX12_findCut 91 = .ok (.getfield 101, 3) := by decide +kernel
theorem dX12_findCut_94 : decode cX12_findCut 94 = .ok (.iload 5, 2) := by decide +kernel
theorem dX12_findCut_96 : decode cX12_findCut 96 = .ok (.iconst 1, 1) := by decide +kernel
theorem dX12_findCut_97 : decode cX12_findCut 97 = .ok (.isub, 1) := by decide +kernel
theorem dX12_findCut_98 : decode cX12_findCut 98 = .ok (.iaload, 1) := by decide +kernel
theorem dX12_findCut_99 : decode cX12_findCut 99 = .ok (.iastore, 1) := by decide +kernel
theorem dX12_findCut_100 : decode cX12_findCut 100 = .ok (.iinc 5 (-1), 3) := by decide +kernel
theorem dX12_findCut_103 : decode cX12_findCut 103 = .ok (.goto (-54), 3) := by decide +kernel
theorem dX12_findCut_106 : decode cX12_findCut 106 = .ok (.aload_n 0, 1) := by decide +kernel
theorem dX12_findCut_107 : decode cX12_findCut 107 = .ok (.getfield 98, 3) := by decide +kernel
theorem dX12_findCut_110 : decode cX12_findCut 110 = .ok (.iload 5, 2) := by decide +kernel
theorem dX12_findCut_112 : decode cX12_findCut 112 = .ok (.iload_n 3, 1) := by decide +kernel
theorem dX12_findCut_113 : decode cX12_findCut 113 = .ok (.iastore, 1) := by decide +kernel
theorem dX12_findCut_114 : decode cX12_findCut 114 = .ok (.aload_n 0, 1) := by decide +kernel
theorem dX12_findCut_115 : decode cX12_findCut 115 = .ok (.getfield 101, 3) := by decide +kernel
theorem dX12_findCut_118 : decode cX12_findCut 118 = .ok (.iload 5, 2) := by decide +kernel
theorem dX12_findCut_120 : decode cX12_findCut 120 = .ok (.iload 4, 2) := by decide +kernel
theorem dX12_findCut_122 : decode cX12_findCut 122 = .ok (.iastore, 1) := by decide +kernel
theorem dX12_findCut_123 : decode cX12_findCut 123 = .ok (.aload_n 0, 1) := by decide +kernel
theorem dX12_findCut_124 : decode cX12_findCut 124 = .ok (.dup, 1) := by decide +kernel
theorem dX12_findCut_125 : decode cX12_findCut 125 = .ok (.getfield 246, 3) := by decide +kernel
theorem dX12_findCut_128 : decode cX12_findCut 128 = .ok (.iconst 1, 1) := by decide +kernel
theorem dX12_findCut_129 : decode cX12_findCut 129 = .ok (.iadd, 1) := by decide +kernel
theorem dX12_findCut_130 : decode cX12_findCut 130 = .ok (.putfield 246, 3) := by decide +kernel
theorem dX12_findCut_133 : decode cX12_findCut 133 = .ok (.iinc 3 1, 3) := by decide +kernel
theorem dX12_findCut_136 : decode cX12_findCut 136 = .ok (.goto (-129), 3) := by decide +kernel
theorem dX12_findCut_139 : decode cX12_findCut 139 = .ok (.iload_n 2, 1) := by decide +kernel
theorem dX12_findCut_140 : decode cX12_findCut 140 = .ok (.aload_n 0, 1) := by decide +kernel
theorem dX12_findCut_141 : decode cX12_findCut 141 = .ok (.getfield 246, 3) := by decide +kernel
theorem dX12_findCut_144 : decode cX12_findCut 144 = .ok (.if_icmp .ge 7, 3) := by decide +kernel
theorem dX12_findCut_147 : decode cX12_findCut 147 = .ok (.iload_n 2, 1) := by decide +kernel
theorem dX12_findCut_148 : decode cX12_findCut 148 = .ok (.goto 7, 3) := by decide +kernel
theorem dX12_findCut_151 : decode cX12_findCut 151 = .ok (.aload_n 0, 1) := by decide +kernel
theorem dX12_findCut_152 : decode cX12_findCut 152 = .ok (.getfield 246, 3) := by decide +kernel
theorem dX12_findCut_155 : decode cX12_findCut 155 = .ok (.ireturn, 1) := by decide +kernel
theorem dX12_wrongMany_0 : decode cX12_wrongMany 0 = .ok (.iload_n 0, 1) := by decide +kernel
theorem dX12_wrongMany_1 : decode cX12_wrongMany 1 = .ok (.ifCond .ge 8, 3) := by decide +kernel
theorem dX12_wrongMany_4 : decode cX12_wrongMany 4 = .ok (.bipush (-4), 2) := by decide +kernel
theorem dX12_wrongMany_6 : decode cX12_wrongMany 6 = .ok (.goto 15, 3) := by decide +kernel
theorem dX12_wrongMany_9 : decode cX12_wrongMany 9 = .ok (.iload_n 0, 1) := by decide +kernel
theorem dX12_wrongMany_10 : decode cX12_wrongMany 10 = .ok (.bipush 40, 2) := by decide +kernel
theorem dX12_wrongMany_12 : decode cX12_wrongMany 12 = .ok (.if_icmp .le 8, 3) := by decide +kernel
theorem dX12_wrongMany_15 : decode cX12_wrongMany 15 = .ok (.bipush (-6), 2) := by decide +kernel
theorem dX12_wrongMany_17 : decode cX12_wrongMany 17 = .ok (.goto 4, 3) := by decide +kernel
theorem dX12_wrongMany_20 : decode cX12_wrongMany 20 = .ok (.iconst 0, 1) := by decide +kernel
theorem dX12_wrongMany_21 : decode cX12_wrongMany 21 = .ok (.ireturn, 1) := by decide +kernel
theorem dX12_cut_0 : decode cX12_cut 0 = .ok (.aload_n 0, 1) := by decide +kernel
theorem dX12_cut_1 : decode cX12_cut 1 = .ok (.iload_n 1, 1) := by decide +kernel
theorem dX12_cut_2 : decode cX12_cut 2 = .ok (.iload_n 2, 1) := by decide +kernel
theorem dX12_cut_3 : decode cX12_cut 3 = .ok (.invokevirtual 258, 3) := by decide +kernel
theorem dX12_cut_6 : decode cX12_cut 6 = .ok (.ifCond .ne 9, 3) := by decide +kernel
theorem dX12_cut_9 : decode cX12_cut 9 = .ok (.aload_n 0, 1) := by decide +kernel
theorem dX12_cut_10 : decode cX12_cut 10 = .ok (.iconst (-1), 1) := by decide +kernel
theorem dX12_cut_11 : decode cX12_cut 11 = .ok (.invokevirtual 174, 3) := by decide +kernel
theorem dX12_cut_14 : decode cX12_cut 14 = .ok (.ireturn, 1) := by decide +kernel
theorem dX12_cut_15 : decode cX12_cut 15 = .ok (.iload_n 3, 1) := by decide +kernel
theorem dX12_cut_16 : decode cX12_cut 16 = .ok (.invokestatic 261, 3) := by decide +kernel
theorem dX12_cut_19 : decode cX12_cut 19 = .ok (.ifCond .ge 12, 3) := by decide +kernel
theorem dX12_cut_22 : decode cX12_cut 22 = .ok (.aload_n 0, 1) := by decide +kernel
theorem dX12_cut_23 : decode cX12_cut 23 = .ok (.iload_n 3, 1) := by decide +kernel
theorem dX12_cut_24 : decode cX12_cut 24 = .ok (.invokestatic 261, 3) := by decide +kernel
theorem dX12_cut_27 : decode cX12_cut 27 = .ok (.invokevirtual 174, 3) := by decide +kernel
theorem dX12_cut_30 : decode cX12_cut 30 = .ok (.ireturn, 1) := by decide +kernel
theorem dX12_cut_31 : decode cX12_cut 31 = .ok (.aload_n 0, 1) := by decide +kernel
theorem dX12_cut_32 : decode cX12_cut 32 = .ok (.iload_n 2, 1) := by decide +kernel
theorem dX12_cut_33 : decode cX12_cut 33 = .ok (.iload_n 3, 1) := by decide +kernel
theorem dX12_cut_34 : decode cX12_cut 34 = .ok (.invokevirtual 264, 3) := by decide +kernel
theorem dX12_cut_37 : decode cX12_cut 37 = .ok (.istore 5, 2) := by decide +kernel
theorem dX12_cut_39 : decode cX12_cut 39 = .ok (.iload 4, 2) := by decide +kernel
theorem dX12_cut_41 : decode cX12_cut 41 = .ok (.iconst 0, 1) := by decide +kernel
theorem dX12_cut_42 : decode cX12_cut 42 = .ok (.iload 5, 2) := by decide +kernel
theorem dX12_cut_44 : decode cX12_cut 44 = .ok (.iconst 1, 1) := by decide +kernel
theorem dX12_cut_45 : decode cX12_cut 45 = .ok (.isub, 1) := by decide +kernel
theorem dX12_cut_46 : decode cX12_cut 46 = .ok (.invokestatic 157, 3) := by decide +kernel
theorem dX12_cut_49 : decode cX12_cut 49 = .ok (.ifCond .eq 13, 3) := by decide +kernel
theorem dX12_cut_52 : decode cX12_cut 52 = .ok (.aload_n 0, 1) := by decide +kernel
theorem dX12_cut_53 : decode cX12_cut 53 = .ok (.getfield 98, 3) := by decide +kernel
theorem dX12_cut_56 : decode cX12_cut 56 = .ok (.iload 4, 2) := by decide +kernel
theorem dX12_cut_58 : decode cX12_cut 58 = .ok (.iaload, 1) := by decide +kernel
theorem dX12_cut_59 : decode cX12_cut 59 = .ok (.goto 5, 3) := by decide +kernel
theorem dX12_cut_62 : decode cX12_cut 62 = .ok (.bipush (-9), 2) := by decide +kernel
theorem dX12_cut_64 : decode cX12_cut 64 = .ok (.ireturn, 1) := by decide +kernel
theorem dX12_isCut_0 : decode cX12_isCut 0 = .ok (.aload_n 0, 1) := by decide +kernel
theorem dX12_isCut_1 : decode cX12_isCut 1 = .ok (.iload_n 2, 1) := by decide +kernel
theorem dX12_isCut_2 : decode cX12_isCut 2 = .ok (.iload_n 3, 1) := by decide +kernel
theorem dX12_isCut_3 : decode cX12_isCut 3 = .ok (.invokevirtual 264, 3) := by decide +kernel
theorem dX12_isCut_6 : decode cX12_isCut 6 = .ok (.istore 4, 2) := by decide +kernel
theorem dX12_isCut_8 : decode cX12_isCut 8 = .ok (.iconst 0, 1) := by decide +kernel
theorem dX12_isCut_9 : decode cX12_isCut 9 = .ok (.istore 5, 2) := by decide +kernel
theorem dX12_isCut_11 : decode cX12_isCut 11 = .ok (.iconst 0, 1) := by decide +kernel
theorem dX12_isCut_12 : decode cX12_isCut 12 = .ok (.istore 6, 2) := by decide +kernel
theorem dX12_isCut_14 : decode cX12_isCut 14 = .ok (.iload 6, 2) := by decide +kernel
theorem dX12_isCut_16 : decode cX12_isCut 16 = .ok (.iload 4, 2) := by decide +kernel
theorem dX12_isCut_18 : decode cX12_isCut 18 = .ok (.if_icmp .ge 32, 3) := by decide +kernel
theorem dX12_isCut_21 : decode cX12_isCut 21 = .ok (.iload 5, 2) := by decide +kernel
theorem dX12_isCut_23 : decode cX12_isCut 23 = .ok (.ifCond .ne 14, 3) := by decide +kernel
theorem dX12_isCut_26 : decode cX12_isCut 26 = .ok (.aload_n 0, 1) := by decide +kernel
theorem dX12_isCut_27 : decode cX12_isCut 27 = .ok (.getfield 98, 3) := by decide +kernel
theorem dX12_isCut_30 : decode cX12_isCut 30 = .ok (.iload 6, 2) := by decide +kernel
theorem dX12_isCut_32 : decode cX12_isCut 32 = .ok (.iaload, 1) := by decide +kernel
theorem dX12_isCut_33 : decode cX12_isCut 33 = .ok (.iload_n 1, 1) := by decide +kernel
theorem dX12_isCut_34 : decode cX12_isCut 34 = .ok (.if_icmp .ne 7, 3) := by decide +kernel
theorem dX12_isCut_37 : decode cX12_isCut 37 = .ok (.iconst 1, 1) := by decide +kernel
theorem dX12_isCut_38 : decode cX12_isCut 38 = .ok (.goto 4, 3) := by decide +kernel
theorem dX12_isCut_41 : decode cX12_isCut 41 = .ok (.iconst 0, 1) := by decide +kernel
theorem dX12_isCut_42 : decode cX12_isCut 42 = .ok (.istore 5, 2) := by decide +kernel
theorem dX12_isCut_44 : decode cX12_isCut 44 = .ok (.iinc 6 1, 3) := by decide +kernel
theorem dX12_isCut_47 : decode cX12_isCut 47 = .ok (.goto (-33), 3) := by decide +kernel
theorem dX12_isCut_50 : decode cX12_isCut 50 = .ok (.iload 5, 2) := by decide +kernel
theorem dX12_isCut_52 : decode cX12_isCut 52 = .ok (.ireturn, 1) := by decide +kernel
theorem dX12_volunteer_0 : decode cX12_volunteer 0 = .ok (.aload_n 0, 1) := by decide +kernel
theorem dX12_volunteer_1 : decode cX12_volunteer 1 = .ok (.iload_n 1, 1) := by decide +kernel
theorem dX12_volunteer_2 : decode cX12_volunteer 2 = .ok (.invokevirtual 194, 3) := by decide +kernel
theorem dX12_volunteer_5 : decode cX12_volunteer 5 = .ok (.ifCond .ne 9, 3) := by decide +kernel
theorem dX12_volunteer_8 : decode cX12_volunteer 8 = .ok (.aload_n 0, 1) := by decide +kernel
theorem dX12_volunteer_9 : decode cX12_volunteer 9 = .ok (.iconst (-1), 1) := by decide +kernel
theorem dX12_volunteer_10 : decode cX12_volunteer 10 = .ok (.invokevirtual 197, 3) := by decide +kernel
theorem dX12_volunteer_13 : decode cX12_volunteer 13 = .ok (.ireturn, 1) := by decide +kernel
theorem dX12_volunteer_14 : decode cX12_volunteer 14 = .ok (.aload_n 0, 1) := by decide +kernel
theorem dX12_volunteer_15 : decode cX12_volunteer 15 = .ok (.iload_n 1, 1) := by decide +kernel
theorem dX12_volunteer_16 : decode cX12_volunteer 16 = .ok (.invokevirtual 200, 3) := by decide +kernel
theorem dX12_volunteer_19 : decode cX12_volunteer 19 = .ok (.ifCond .ne 10, 3) := by decide +kernel
theorem dX12_volunteer_22 : decode cX12_volunteer 22 = .ok (.aload_n 0, 1) := by decide +kernel
theorem dX12_volunteer_23 : decode cX12_volunteer 23 = .ok (.bipush (-3), 2) := by decide +kernel
theorem dX12_volunteer_25 : decode cX12_volunteer 25 = .ok (.invokevirtual 197, 3) := by decide +kernel
theorem dX12_volunteer_28 : decode cX12_volunteer 28 = .ok (.ireturn, 1) := by decide +kernel
theorem dX12_volunteer_29 : decode cX12_volunteer 29 = .ok (.iload_n 2, 1) := by decide +kernel
theorem dX12_volunteer_30 : decode cX12_volunteer 30 = .ok (.iconst (-1), 1) := by decide +kernel
theorem dX12_volunteer_31 : decode cX12_volunteer 31 = .ok (.if_icmp .ge 10, 3) := by decide +kernel
theorem dX12_volunteer_34 : decode cX12_volunteer 34 = .ok (.aload_n 0, 1) := by decide +kernel
theorem dX12_volunteer_35 : decode cX12_volunteer 35 = .ok (.bipush (-4), 2) := by decide +kernel
theorem dX12_volunteer_37 : decode cX12_volunteer 37 = .ok (.invokevirtual 197, 3) := by decide +kernel
theorem dX12_volunteer_40 : decode cX12_volunteer 40 = .ok (.ireturn, 1) := by decide +kernel
theorem dX12_volunteer_41 : decode cX12_volunteer 41 = .ok (.iload_n 2, 1) := by decide +kernel
theorem dX12_volunteer_42 : decode cX12_volunteer 42 = .ok (.ldc_w 267, 3) := by decide +kernel
theorem dX12_volunteer_45 : decode cX12_volunteer 45 = .ok (.if_icmp .le 10, 3) := by decide +kernel
theorem dX12_volunteer_48 : decode cX12_volunteer 48 = .ok (.aload_n 0, 1) := by decide +kernel
theorem dX12_volunteer_49 : decode cX12_volunteer 49 = .ok (.bipush (-6), 2) := by decide +kernel
theorem dX12_volunteer_51 : decode cX12_volunteer 51 = .ok (.invokevirtual 197, 3) := by decide +kernel
theorem dX12_volunteer_54 : decode cX12_volunteer 54 = .ok (.ireturn, 1) := by decide +kernel
theorem dX12_volunteer_55 : decode cX12_volunteer 55 = .ok (.aload_n 0, 1) := by decide +kernel
theorem dX12_volunteer_56 : decode cX12_volunteer 56 = .ok (.getfield 55, 3) := by decide +kernel
theorem dX12_volunteer_59 : decode cX12_volunteer 59 = .ok (.iload_n 1, 1) := by decide +kernel
theorem dX12_volunteer_60 : decode cX12_volunteer 60 = .ok (.iaload, 1) := by decide +kernel
theorem dX12_volunteer_61 : decode cX12_volunteer 61 = .ok (.istore_n 3, 1) := by decide +kernel
theorem dX12_volunteer_62 : decode cX12_volunteer 62 = .ok (.aload_n 0, 1) := by decide +kernel
theorem dX12_volunteer_63 : decode cX12_volunteer 63 = .ok (.getfield 55, 3) := by decide +kernel
theorem dX12_volunteer_66 : decode cX12_volunteer 66 = .ok (.iload_n 1, 1) := by decide +kernel
theorem dX12_volunteer_67 : decode cX12_volunteer 67 = .ok (.iload_n 2, 1) := by decide +kernel
theorem dX12_volunteer_68 : decode cX12_volunteer 68 = .ok (.iastore, 1) := by decide +kernel
theorem dX12_volunteer_69 : decode cX12_volunteer 69 = .ok (.iload_n 3, 1) := by decide +kernel
theorem dX12_volunteer_70 : decode cX12_volunteer 70 = .ok (.ireturn, 1) := by decide +kernel
theorem dX12_severanceOf_0 : decode cX12_severanceOf 0 = .ok (.aload_n 0, 1) := by decide +kernel
theorem dX12_severanceOf_1 : decode cX12_severanceOf 1 = .ok (.iload_n 1, 1) := by decide +kernel
theorem dX12_severanceOf_2 : decode cX12_severanceOf 2 = .ok (.invokevirtual 227, 3) := by decide +kernel
theorem dX12_severanceOf_5 : decode cX12_severanceOf 5 = .ok (.bipush 30, 2) := by decide +kernel
theorem dX12_severanceOf_7 : decode cX12_severanceOf 7 = .ok (.if_icmp .le 8, 3) := by decide +kernel
theorem dX12_severanceOf_10 : decode cX12_severanceOf 10 = .ok (.bipush 30, 2) := by decide +kernel
theorem dX12_severanceOf_12 : decode cX12_severanceOf 12 = .ok (.goto 8, 3) := by decide +kernel
theorem dX12_severanceOf_15 : decode cX12_severanceOf 15 = .ok (.aload_n 0, 1) := by decide +kernel
theorem dX12_severanceOf_16 : decode cX12_severanceOf 16 = .ok (.iload_n 1, 1) := by decide +kernel
theorem dX12_severanceOf_17 : decode cX12_severanceOf 17 = .ok (.invokevirtual 227, 3) := by decide +kernel
theorem dX12_severanceOf_20 : decode cX12_severanceOf 20 = .ok (.istore_n 2, 1) := by decide +kernel
theorem dX12_severanceOf_21 : decode cX12_severanceOf 21 = .ok (.iload_n 2, 1) := by decide +kernel
theorem dX12_severanceOf_22 : decode cX12_severanceOf 22 = .ok (.aload_n 0, 1) := by decide +kernel
theorem dX12_severanceOf_23 : decode cX12_severanceOf 23 = .ok (.getfield 40, 3) := by decide +kernel
theorem dX12_severanceOf_26 : decode cX12_severanceOf 26 = .ok (.iload_n 1, 1) := by decide +kernel
theorem dX12_severanceOf_27 : decode cX12_severanceOf 27 = .ok (.iaload, 1) := by decide +kernel
theorem dX12_severanceOf_28 : decode cX12_severanceOf 28 = .ok (.aload_n 0, 1) := by decide +kernel
theorem dX12_severanceOf_29 : decode cX12_severanceOf 29 = .ok (.getfield 62, 3) := by decide +kernel
theorem dX12_severanceOf_32 : decode cX12_severanceOf 32 = .ok (.if_icmp .ge 12, 3) := by decide +kernel
theorem dX12_severanceOf_35 : decode cX12_severanceOf 35 = .ok (.aload_n 0, 1) := by decide +kernel
theorem dX12_severanceOf_36 : decode cX12_severanceOf 36 = .ok (.getfield 40, 3) := by decide +kernel
theorem dX12_severanceOf_39 : decode cX12_severanceOf 39 = .ok (.iload_n 1, 1) := by decide +kernel
theorem dX12_severanceOf_40 : decode cX12_severanceOf 40 = .ok (.iaload, 1) := by decide +kernel
theorem dX12_severanceOf_41 : decode cX12_severanceOf 41 = .ok (.goto 7, 3) := by decide +kernel
theorem dX12_severanceOf_44 : decode cX12_severanceOf 44 = .ok (.aload_n 0, 1) := by decide +kernel
theorem dX12_severanceOf_45 : decode cX12_severanceOf 45 = .ok (.getfield 62, 3) := by decide +kernel
theorem dX12_severanceOf_48 : decode cX12_severanceOf 48 = .ok (.imul, 1) := by decide +kernel
theorem dX12_severanceOf_49 : decode cX12_severanceOf 49 = .ok (.ireturn, 1) := by decide +kernel
theorem dX12_severance_0 : decode cX12_severance 0 = .ok (.aload_n 0, 1) := by decide +kernel
theorem dX12_severance_1 : decode cX12_severance 1 = .ok (.iload_n 1, 1) := by decide +kernel
theorem dX12_severance_2 : decode cX12_severance 2 = .ok (.invokevirtual 194, 3) := by decide +kernel
theorem dX12_severance_5 : decode cX12_severance 5 = .ok (.ifCond .eq 11, 3) := by decide +kernel
theorem dX12_severance_8 : decode cX12_severance 8 = .ok (.aload_n 0, 1) := by decide +kernel
theorem dX12_severance_9 : decode cX12_severance 9 = .ok (.iload_n 1, 1) := by decide +kernel
theorem dX12_severance_10 : decode cX12_severance 10 = .ok (.invokevirtual 268, 3) := by decide +kernel
theorem dX12_severance_13 : decode cX12_severance 13 = .ok (.goto 8, 3) := by decide +kernel
theorem dX12_severance_16 : decode cX12_severance 16 = .ok (.aload_n 0, 1) := by decide +kernel
theorem dX12_severance_17 : decode cX12_severance 17 = .ok (.iconst (-1), 1) := by decide +kernel
theorem dX12_severance_18 : decode cX12_severance 18 = .ok (.invokevirtual 174, 3) := by decide +kernel
theorem dX12_severance_21 : decode cX12_severance 21 = .ok (.ireturn, 1) := by decide +kernel
theorem dX12_findPeople_0 : decode cX12_findPeople 0 = .ok (.aload_n 0, 1) := by decide +kernel
theorem dX12_findPeople_1 : decode cX12_findPeople 1 = .ok (.iconst 0, 1) := by decide +kernel
theorem dX12_findPeople_2 : decode cX12_findPeople 2 = .ok (.putfield 271, 3) := by decide +kernel
theorem dX12_findPeople_5 : decode cX12_findPeople 5 = .ok (.aload_n 0, 1) := by decide +kernel
theorem dX12_findPeople_6 : decode cX12_findPeople 6 = .ok (.iconst 0, 1) := by decide +kernel
theorem dX12_findPeople_7 : decode cX12_findPeople 7 = .ok (.putfield 274, 3) := by decide +kernel
theorem dX12_findPeople_10 : decode cX12_findPeople 10 = .ok (.iconst 0, 1) := by decide +kernel
theorem dX12_findPeople_11 : decode cX12_findPeople 11 = .ok (.istore_n 2, 1) := by decide +kernel
theorem dX12_findPeople_12 : decode cX12_findPeople 12 = .ok (.iload_n 2, 1) := by decide +kernel
theorem dX12_findPeople_13 : decode cX12_findPeople 13 = .ok (.aload_n 0, 1) := by decide +kernel
theorem dX12_findPeople_14 : decode cX12_findPeople 14 = .ok (.getfield 164, 3) := by decide +kernel
theorem dX12_findPeople_17 : decode cX12_findPeople 17 = .ok (.if_icmp .ge 38, 3) := by decide +kernel
theorem dX12_findPeople_20 : decode cX12_findPeople 20 = .ok (.aload_n 0, 1) := by decide +kernel
theorem dX12_findPeople_21 : decode cX12_findPeople 21 = .ok (.iload_n 2, 1) := by decide +kernel
theorem dX12_findPeople_22 : decode cX12_findPeople 22 = .ok (.iload_n 1, 1) := by decide +kernel
theorem dX12_findPeople_23 : decode cX12_findPeople 23 = .ok (.invokevirtual 249, 3) := by decide +kernel
theorem dX12_findPeople_26 : decode cX12_findPeople 26 = .ok (.ifCond .eq 23, 3) := by decide +kernel
theorem dX12_findPeople_29 : decode cX12_findPeople 29 = .ok (.aload_n 0, 1) := by decide +kernel
theorem dX12_findPeople_30 : decode cX12_findPeople 30 = .ok (.getfield 104, 3) := by decide +kernel
theorem dX12_findPeople_33 : decode cX12_findPeople 33 = .ok (.aload_n 0, 1) := by decide +kernel
theorem dX12_findPeople_34 : decode cX12_findPeople 34 = .ok (.getfield 271, 3) := by decide +kernel
theorem dX12_findPeople_37 : decode cX12_findPeople 37 = .ok (.iload_n 2, 1) := by decide +kernel
theorem dX12_findPeople_38 : decode cX12_findPeople 38 = .ok (.iastore, 1) := by decide +kernel
theorem dX12_findPeople_39 : decode cX12_findPeople 39 = .ok (.aload_n 0, 1) := by decide +kernel
theorem dX12_findPeople_40 : decode cX12_findPeople 40 = .ok (.dup, 1) := by decide +kernel
theorem dX12_findPeople_41 : decode cX12_findPeople 41 = .ok (.getfield 271, 3) := by decide +kernel
theorem dX12_findPeople_44 : decode cX12_findPeople 44 = .ok (.iconst 1, 1) := by decide +kernel
theorem dX12_findPeople_45 : decode cX12_findPeople 45 = .ok (.iadd, 1) := by decide +kernel
theorem dX12_findPeople_46 : decode cX12_findPeople 46 = .ok (.putfield 271, 3) := by decide +kernel
theorem dX12_findPeople_49 : decode cX12_findPeople 49 = .ok (.iinc 2 1, 3) := by decide +kernel
theorem dX12_findPeople_52 : decode cX12_findPeople 52 = .ok (.goto (-40), 3) := by decide +kernel
theorem dX12_findPeople_55 : decode cX12_findPeople 55 = .ok (.iconst 0, 1) := by decide +kernel
theorem dX12_findPeople_56 : decode cX12_findPeople 56 = .ok (.istore_n 2, 1) := by decide +kernel
theorem dX12_findPeople_57 : decode cX12_findPeople 57 = .ok (.iload_n 2, 1) := by decide +kernel
theorem dX12_findPeople_58 : decode cX12_findPeople 58 = .ok (.aload_n 0, 1) := by decide +kernel
theorem dX12_findPeople_59 : decode cX12_findPeople 59 = .ok (.getfield 161, 3) := by decide +kernel
theorem dX12_findPeople_62 : decode cX12_findPeople 62 = .ok (.if_icmp .ge 38, 3) := by decide +kernel
theorem dX12_findPeople_65 : decode cX12_findPeople 65 = .ok (.aload_n 0, 1) := by decide +kernel
theorem dX12_findPeople_66 : decode cX12_findPeople 66 = .ok (.dup, 1) := by decide +kernel
theorem dX12_findPeople_67 : decode cX12_findPeople 67 = .ok (.getfield 274, 3) := by decide +kernel
theorem dX12_findPeople_70 : decode cX12_findPeople 70 = .ok (.aload_n 0, 1) := by decide +kernel
theorem dX12_findPeople_71 : decode cX12_findPeople 71 = .ok (.getfield 95, 3) := by decide +kernel
theorem dX12_findPeople_74 : decode cX12_findPeople 74 = .ok (.iload_n 2, 1) := by decide +kernel
theorem dX12_findPeople_75 : decode cX12_findPeople 75 = .ok (.iaload, 1) := by decide +kernel
theorem dX12_findPeople_76 : decode cX12_findPeople 76 = .ok (.iload_n 1, 1) := by decide +kernel
theorem dX12_findPeople_77 : decode cX12_findPeople 77 = .ok (.if_icmp .ne 12, 3) := by decide +kernel
theorem dX12_findPeople_80 : decode cX12_findPeople 80 = .ok (.aload_n 0, 1) := by decide +kernel
theorem dX12_findPeople_81 : decode cX12_findPeople 81 = .ok (.getfield 28, 3) := by decide +kernel
theorem dX12_findPeople_84 : decode cX12_findPeople 84 = .ok (.iload_n 2, 1) := by decide +kernel
theorem dX12_findPeople_85 : decode cX12_findPeople 85 = .ok (.iaload, 1) := by decide +kernel
theorem dX12_findPeople_86 : decode cX12_findPeople 86 = .ok (.goto 4, 3) := by decide +kernel
theorem dX12_findPeople_89 : decode cX12_findPeople 89 = .ok (.iconst 0, 1) := by decide +kernel
theorem dX12_findPeople_90 : decode cX12_findPeople 90 = .ok (.ior, 1) := by decide +kernel
theorem dX12_findPeople_91 : decode cX12_findPeople 91 = .ok (.putfield 274, 3) := by decide +kernel
theorem dX12_findPeople_94 : decode cX12_findPeople 94 = .ok (.iinc 2 1, 3) := by decide +kernel
theorem dX12_findPeople_97 : decode cX12_findPeople 97 = .ok (.goto (-40), 3) := by decide +kernel
theorem dX12_findPeople_100 : decode cX12_findPeople 100 = .ok (.return_, 1) := by decide +kernel
theorem dX12_mayGo_0 : decode cX12_mayGo 0 = .ok (.iconst 0, 1) := by decide +kernel
theorem dX12_mayGo_1 : decode cX12_mayGo 1 = .ok (.istore_n 2, 1) := by decide +kernel
theorem dX12_mayGo_2 : decode cX12_mayGo 2 = .ok (.iload_n 2, 1) := by decide +kernel
theorem dX12_mayGo_3 : decode cX12_mayGo 3 = .ok (.aload_n 0, 1) := by decide +kernel
theorem dX12_mayGo_4 : decode cX12_mayGo 4 = .ok (.getfield 271, 3) := by decide +kernel
theorem dX12_mayGo_7 : decode cX12_mayGo 7 = .ok (.if_icmp .ge 44, 3) := by decide +kernel
theorem dX12_mayGo_10 : decode cX12_mayGo 10 = .ok (.aload_n 0, 1) := by decide +kernel
theorem dX12_mayGo_11 : decode cX12_mayGo 11 = .ok (.getfield 104, 3) := by decide +kernel
theorem dX12_mayGo_14 : decode cX12_mayGo 14 = .ok (.iload_n 2, 1) := by decide +kernel
theorem dX12_mayGo_15 : decode cX12_mayGo 15 = .ok (.iaload, 1) := by decide +kernel
theorem dX12_mayGo_16 : decode cX12_mayGo 16 = .ok (.istore_n 3, 1) := by decide +kernel
theorem dX12_mayGo_17 : decode cX12_mayGo 17 = .ok (.iload_n 1, 1) := by decide +kernel
theorem dX12_mayGo_18 : decode cX12_mayGo 18 = .ok (.iload_n 2, 1) := by decide +kernel
theorem dX12_mayGo_19 : decode cX12_mayGo 19 = .ok (.ishr, 1) := by decide +kernel
theorem dX12_mayGo_20 : decode cX12_mayGo 20 = .ok (.iconst 1, 1) := by decide +kernel
theorem dX12_mayGo_21 : decode cX12_mayGo 21 = .ok (.iand, 1) := by decide +kernel
theorem dX12_mayGo_22 : decode cX12_mayGo 22 = .ok (.iconst 1, 1) := by decide +kernel
theorem dX12_mayGo_23 : decode cX12_mayGo 23 = .ok (.if_icmp .ne 22, 3) := by decide +kernel
theorem dX12_mayGo_26 : decode cX12_mayGo 26 = .ok (.aload_n 0, 1) := by decide +kernel
theorem dX12_mayGo_27 : decode cX12_mayGo 27 = .ok (.iload_n 3, 1) := by decide +kernel
theorem dX12_mayGo_28 : decode cX12_mayGo 28 = .ok (.invokevirtual 252, 3) := by decide +kernel
theorem dX12_mayGo_31 : decode cX12_mayGo 31 = .ok (.ifCond .eq 14, 3) := by decide +kernel
theorem dX12_mayGo_34 : decode cX12_mayGo 34 = .ok (.aload_n 0, 1) := by decide +kernel
theorem dX12_mayGo_35 : decode cX12_mayGo 35 = .ok (.getfield 55, 3) := by decide +kernel
theorem dX12_mayGo_38 : decode cX12_mayGo 38 = .ok (.iload_n 3, 1) := by decide +kernel
theorem dX12_mayGo_39 : decode cX12_mayGo 39 = .ok (.iaload, 1) := by decide +kernel
theorem dX12_mayGo_40 : decode cX12_mayGo 40 = .ok (.ifCond .ge 5, 3) := by decide +kernel
theorem dX12_mayGo_43 : decode cX12_mayGo 43 = .ok (.iconst 0, 1) := by decide +kernel
theorem dX12_mayGo_44 : decode cX12_mayGo 44 = .ok (.ireturn, 1) := by decide +kernel
theorem dX12_mayGo_45 : decode cX12_mayGo 45 = .ok (.iinc 2 1, 3) := by decide +kernel
theorem dX12_mayGo_48 : decode cX12_mayGo 48 = .ok (.goto (-46), 3) := by decide +kernel
theorem dX12_mayGo_51 : decode cX12_mayGo 51 = .ok (.iconst 0, 1) := by decide +kernel
theorem dX12_mayGo_52 : decode cX12_mayGo 52 = .ok (.istore_n 2, 1) := by decide +kernel
theorem dX12_mayGo_53 : decode cX12_mayGo 53 = .ok (.iload_n 2, 1) := by decide +kernel
theorem dX12_mayGo_54 : decode cX12_mayGo 54 = .ok (.bipush 10, 2) := by decide +kernel
theorem dX12_mayGo_56 : decode cX12_mayGo 56 = .ok (.if_icmp .ge 104, 3) := by decide +kernel
theorem dX12_mayGo_59 : decode cX12_mayGo 59 = .ok (.iconst 0, 1) := by decide +kernel
theorem dX12_mayGo_60 : decode cX12_mayGo 60 = .ok (.istore_n 3, 1) := by decide +kernel
theorem dX12_mayGo_61 : decode cX12_mayGo 61 = .ok (.iconst 0, 1) := by decide +kernel
theorem dX12_mayGo_62 : decode cX12_mayGo 62 = .ok (.istore 4, 2) := by decide +kernel
theorem dX12_mayGo_64 : decode cX12_mayGo 64 = .ok (.iconst 0, 1) := by decide +kernel
theorem dX12_mayGo_65 : decode cX12_mayGo 65 = .ok (.istore 5, 2) := by decide +kernel
theorem dX12_mayGo_67 : decode cX12_mayGo 67 = .ok (.iload 5, 2) := by decide +kernel
theorem dX12_mayGo_69 : decode cX12_mayGo 69 = .ok (.aload_n 0, 1) := by decide +kernel
theorem dX12_mayGo_70 : decode cX12_mayGo 70 = .ok (.getfield 271, 3) := by decide +kernel
theorem dX12_mayGo_73 : decode cX12_mayGo 73 = .ok (.if_icmp .ge 52, 3) := by decide +kernel
theorem dX12_mayGo_76 : decode cX12_mayGo 76 = .ok (.aload_n 0, 1) := by decide +kernel
theorem dX12_mayGo_77 : decode cX12_mayGo 77 = .ok (.getfield 34, 3) := by decide +kernel
theorem dX12_mayGo_80 : decode cX12_mayGo 80 = .ok (.aload_n 0, 1) := by decide +kernel
theorem dX12_mayGo_81 : decode cX12_mayGo 81 = .ok (.getfield 104, 3) := by decide +kernel
theorem dX12_mayGo_84 : decode cX12_mayGo 84 = .ok (.iload 5, 2) := by decide +kernel
theorem dX12_mayGo_86 : decode cX12_mayGo 86 = .ok (.iaload, 1) := by decide +kernel
theorem dX12_mayGo_87 : decode cX12_mayGo 87 = .ok (.iaload, 1) := by decide +kernel
theorem dX12_mayGo_88 : decode cX12_mayGo 88 = .ok (.iload_n 2, 1) := by decide +kernel
theorem dX12_mayGo_89 : decode cX12_mayGo 89 = .ok (.ishr, 1) := by decide +kernel
theorem dX12_mayGo_90 : decode cX12_mayGo 90 = .ok (.iconst 1, 1) := by decide +kernel
theorem dX12_mayGo_91 : decode cX12_mayGo 91 = .ok (.iand, 1) := by decide +kernel
theorem dX12_mayGo_92 : decode cX12_mayGo 92 = .ok (.istore 6, 2) := by decide +kernel
theorem dX12_mayGo_94 : decode cX12_mayGo 94 = .ok (.iload_n 3, 1) := by decide +kernel
theorem dX12_mayGo_95 : decode cX12_mayGo 95 = .ok (.iload 6, 2) := by decide +kernel
theorem dX12_mayGo_97 : decode cX12_mayGo 97 = .ok (.iadd, 1) := by decide +kernel
theorem dX12_mayGo_98 : decode cX12_mayGo 98 = .ok (.istore_n 3, 1) := by decide +kernel
theorem dX12_mayGo_99 : decode cX12_mayGo 99 = .ok (.iload 4, 2) := by decide +kernel
theorem dX12_mayGo_101 : decode cX12_mayGo 101 = .ok (.iload_n 1, 1) := by decide +kernel
theorem dX12_mayGo_102 : decode cX12_mayGo 102 = .ok (.iload 5, 2) := by decide +kernel
theorem dX12_mayGo_104 : decode cX12_mayGo 104 = .ok (.ishr, 1) := by decide +kernel
theorem dX12_mayGo_105 : decode cX12_mayGo 105 = .ok (.iconst 1, 1) := by decide +kernel
theorem dX12_mayGo_106 : decode cX12_mayGo 106 = .ok (.iand, 1) := by decide +kernel
theorem dX12_mayGo_107 : decode cX12_mayGo 107 = .ok (.ifCond .ne 8, 3) := by decide +kernel
theorem dX12_mayGo_110 : decode cX12_mayGo 110 = .ok (.iload 6, 2) := by decide +kernel
theorem dX12_mayGo_112 : decode cX12_mayGo 112 = .ok (.goto 4, 3) := by decide +kernel
theorem dX12_mayGo_115 : decode cX12_mayGo 115 = .ok (.iconst 0, 1) := by decide +kernel
theorem dX12_mayGo_116 : decode cX12_mayGo 116 = .ok (.iadd, 1) := by decide +kernel
theorem dX12_mayGo_117 : decode cX12_mayGo 117 = .ok (.istore 4, 2) := by decide +kernel
theorem dX12_mayGo_119 : decode cX12_mayGo 119 = .ok (.iinc 5 1, 3) := by decide +kernel
theorem dX12_mayGo_122 : decode cX12_mayGo 122 = .ok (.goto (-55), 3) := by decide +kernel
theorem dX12_mayGo_125 : decode cX12_mayGo 125 = .ok (.aload_n 0, 1) := by decide +kernel
theorem dX12_mayGo_126 : decode cX12_mayGo 126 = .ok (.getfield 274, 3) := by decide +kernel
theorem dX12_mayGo_129 : decode cX12_mayGo 129 = .ok (.iload_n 2, 1) := by decide +kernel
theorem dX12_mayGo_130 : decode cX12_mayGo 130 = .ok (.ishr, 1) := by decide +kernel
theorem dX12_mayGo_131 : decode cX12_mayGo 131 = .ok (.iconst 1, 1) := by decide +kernel
theorem dX12_mayGo_132 : decode cX12_mayGo 132 = .ok (.iand, 1) := by decide +kernel
theorem dX12_mayGo_133 : decode cX12_mayGo 133 = .ok (.iconst 1, 1) := by decide +kernel
theorem dX12_mayGo_134 : decode cX12_mayGo 134 = .ok (.if_icmp .ne 20, 3) := by decide +kernel
theorem dX12_mayGo_137 : decode cX12_mayGo 137 = .ok (.iload 4, 2) := by decide +kernel
theorem dX12_mayGo_139 : decode cX12_mayGo 139 = .ok (.aload_n 0, 1) := by decide +kernel
theorem dX12_mayGo_140 : decode cX12_mayGo 140 = .ok (.getfield 188, 3) := by decide +kernel
theorem dX12_mayGo_143 : decode cX12_mayGo 143 = .ok (.if_icmp .ge 11, 3) := by decide +kernel
theorem dX12_mayGo_146 : decode cX12_mayGo 146 = .ok (.iload 4, 2) := by decide +kernel
theorem dX12_mayGo_148 : decode cX12_mayGo 148 = .ok (.iload_n 3, 1) := by decide +kernel
theorem dX12_mayGo_149 : decode cX12_mayGo 149 = .ok (.if_icmp .ge 5, 3) := by decide +kernel
theorem dX12_mayGo_152 : decode cX12_mayGo 152 = .ok (.iconst 0, 1) := by decide +kernel
theorem dX12_mayGo_153 : decode cX12_mayGo 153 = .ok (.ireturn, 1) := by decide +kernel
theorem dX12_mayGo_154 : decode cX12_mayGo 154 = .ok (.iinc 2 1, 3) := by decide +kernel
theorem dX12_mayGo_157 : decode cX12_mayGo 157 = .ok (.goto (-104), 3) := by decide +kernel
theorem dX12_mayGo_160 : decode cX12_mayGo 160 = .ok (.iconst 1, 1) := by decide +kernel
theorem dX12_mayGo_161 : decode cX12_mayGo 161 = .ok (.ireturn, 1) := by decide +kernel
theorem dX12_findChoice_0 : decode cX12_findChoice 0 = .ok (.aload_n 0, 1) := by decide +kernel
theorem dX12_findChoice_1 : decode cX12_findChoice 1 = .ok (.iconst (-1), 1) := by decide +kernel
theorem dX12_findChoice_2 : decode cX12_findChoice 2 = .ok (.putfield 277, 3) := by decide +kernel
theorem dX12_findChoice_5 : decode cX12_findChoice 5 = .ok (.iconst 0, 1) := by decide +kernel
theorem dX12_findChoice_6 : decode cX12_findChoice 6 = .ok (.istore_n 2, 1) := by decide +kernel
theorem dX12_findChoice_7 : decode cX12_findChoice 7 = .ok (.iload_n 2, 1) := by decide +kernel
theorem dX12_findChoice_8 : decode cX12_findChoice 8 = .ok (.aload_n 0, 1) := by decide +kernel
theorem dX12_findChoice_9 : decode cX12_findChoice 9 = .ok (.getfield 271, 3) := by decide +kernel
theorem dX12_findChoice_12 : decode cX12_findChoice 12 = .ok (.if_icmp .ge 62, 3) := by decide +kernel
theorem dX12_findChoice_15 : decode cX12_findChoice 15 = .ok (.aload_n 0, 1) := by decide +kernel
theorem dX12_findChoice_16 : decode cX12_findChoice 16 = .ok (.getfield 104, 3) := by decide +kernel
theorem dX12_findChoice_19 : decode cX12_findChoice 19 = .ok (.iload_n 2, 1) := by decide +kernel
theorem dX12_findChoice_20 : decode cX12_findChoice 20 = .ok (.iaload, 1) := by decide +kernel
theorem dX12_findChoice_21 : decode cX12_findChoice 21 = .ok (.istore_n 3, 1) := by decide +kernel
theorem dX12_findChoice_22 : decode cX12_findChoice 22 = .ok (.aload_n 0, 1) := by decide +kernel
theorem dX12_findChoice_23 : decode cX12_findChoice 23 = .ok (.getfield 107, 3) := by decide +kernel
theorem dX12_findChoice_26 : decode cX12_findChoice 26 = .ok (.iload_n 2, 1) := by decide +kernel
theorem dX12_findChoice_27 : decode cX12_findChoice 27 = .ok (.aload_n 0, 1) := by decide +kernel
theorem dX12_findChoice_28 : decode cX12_findChoice 28 = .ok (.iload_n 3, 1) := by decide +kernel
theorem dX12_findChoice_29 : decode cX12_findChoice 29 = .ok (.invokevirtual 268, 3) := by decide +kernel
theorem dX12_findChoice_32 : decode cX12_findChoice 32 = .ok (.aload_n 0, 1) := by decide +kernel
theorem dX12_findChoice_33 : decode cX12_findChoice 33 = .ok (.getfield 55, 3) := by decide +kernel
theorem dX12_findChoice_36 : decode cX12_findChoice 36 = .ok (.iload_n 3, 1) := by decide +kernel
theorem dX12_findChoice_37 : decode cX12_findChoice 37 = .ok (.iaload, 1) := by decide +kernel
theorem dX12_findChoice_38 : decode cX12_findChoice 38 = .ok (.ifCond .ge 7, 3) := by decide +kernel
theorem dX12_findChoice_41 : decode cX12_findChoice 41 = .ok (.iconst 0, 1) := by decide +kernel
theorem dX12_findChoice_42 : decode cX12_findChoice 42 = .ok (.goto 9, 3) := by decide +kernel
theorem dX12_findChoice_45 : decode cX12_findChoice 45 = .ok (.aload_n 0, 1) := by decide +kernel
theorem dX12_findChoice_46 : decode cX12_findChoice 46 = .ok (.getfield 55, 3) := by decide +kernel
theorem dX12_findChoice_49 : decode cX12_findChoice 49 = .ok (.iload_n 3, 1) := by decide +kernel
theorem dX12_findChoice_50 : decode cX12_findChoice 50 = .ok (.iaload, 1) := by decide +kernel
theorem dX12_findChoice_51 : decode cX12_findChoice 51 = .ok (.iadd, 1) := by decide +kernel
theorem dX12_findChoice_52 : decode cX12_findChoice 52 = .ok (.iastore, 1) := by decide +kernel
theorem dX12_findChoice_53 : decode cX12_findChoice 53 = .ok (.aload_n 0, 1) := by decide +kernel
theorem dX12_findChoice_54 : decode cX12_findChoice 54 = .ok (.getfield 110, 3) := by decide +kernel
theorem dX12_findChoice_57 : decode cX12_findChoice 57 = .ok (.iload_n 2, 1) := by decide +kernel
theorem dX12_findChoice_58 : decode cX12_findChoice 58 = .ok (.aload_n 0, 1) := by decide +kernel
theorem dX12_findChoice_59 : decode cX12_findChoice 59 = .ok (.iload_n 3, 1) := by decide +kernel
theorem dX12_findChoice_60 : decode cX12_findChoice 60 = .ok (.aload_n 0, 1) := by decide +kernel
theorem dX12_findChoice_61 : decode cX12_findChoice 61 = .ok (.getfield 167, 3) := by decide +kernel
theorem dX12_findChoice_64 : decode cX12_findChoice 64 = .ok (.invokevirtual 233, 3) := by decide +kernel
theorem dX12_findChoice_67 : decode cX12_findChoice 67 = .ok (.iastore, 1) := by decide +kernel
theorem dX12_findChoice_68 : decode cX12_findChoice 68 = .ok (.iinc 2 1, 3) := by decide +kernel
theorem dX12_findChoice_71 : decode cX12_findChoice 71 = .ok (.goto (-64), 3) := by decide +kernel
theorem dX12_findChoice_74 : decode cX12_findChoice 74 = .ok (.iconst 0, 1) := by decide +kernel
theorem dX12_findChoice_75 : decode cX12_findChoice 75 = .ok (.istore_n 2, 1) := by decide +kernel
theorem dX12_findChoice_76 : decode cX12_findChoice 76 = .ok (.iload_n 2, 1) := by decide +kernel
theorem dX12_findChoice_77 : decode cX12_findChoice 77 = .ok (.iconst 1, 1) := by decide +kernel
theorem dX12_findChoice_78 : decode cX12_findChoice 78 = .ok (.aload_n 0, 1) := by decide +kernel
theorem dX12_findChoice_79 : decode cX12_findChoice 79 = .ok (.getfield 271, 3) := by decide +kernel
theorem dX12_findChoice_82 : decode cX12_findChoice 82 = .ok (.ishl, 1) := by decide +kernel
theorem dX12_findChoice_83 : decode cX12_findChoice 83 = .ok (.if_icmp .ge 195, 3) := by decide +kernel
theorem dX12_findChoice_86 : decode cX12_findChoice 86 = .ok (.iload_n 2, 1) := by decide +kernel
theorem dX12_findChoice_87 : decode cX12_findChoice 87 = .ok (.invokestatic 216, 3) := by decide +kernel
theorem dX12_findChoice_90 : decode cX12_findChoice 90 = .ok (.iload_n 1, 1) := by decide +kernel
theorem dX12_findChoice_91 : decode cX12_findChoice 91 = .ok (.if_icmp .ne 181, 3) := by decide +kernel
theorem dX12_findChoice_94 : decode cX12_findChoice 94 = .ok (.aload_n 0, 1) := by decide +kernel
theorem dX12_findChoice_95 : decode cX12_findChoice 95 = .ok (.iload_n 2, 1) := by decide +kernel
theorem dX12_findChoice_96 : decode cX12_findChoice 96 = .ok (.invokevirtual 280, 3) := by decide +kernel
theorem dX12_findChoice_99 : decode cX12_findChoice 99 = .ok (.ifCond .ne 6, 3) := by decide +kernel
theorem dX12_findChoice_102 : decode cX12_findChoice 102 = .ok (.goto 170, 3) := by decide +kernel
theorem dX12_findChoice_105 : decode cX12_findChoice 105 = .ok (.iconst 0, 1) := by decide +kernel
theorem dX12_findChoice_106 : decode cX12_findChoice 106 = .ok (.istore_n 3, 1) := by decide +kernel
theorem dX12_findChoice_107 : decode cX12_findChoice 107 = .ok (.iconst 0, 1) := by decide +kernel
theorem dX12_findChoice_108 : decode cX12_findChoice 108 = .ok (.istore 4, 2) := by decide +kernel
theorem dX12_findChoice_110 : decode cX12_findChoice 110 = .ok (.iconst 0, 1) := by decide +kernel
theorem dX12_findChoice_111 : decode cX12_findChoice 111 = .ok (.istore 5, 2) := by decide +kernel
theorem dX12_findChoice_113 : decode cX12_findChoice 113 = .ok (.iconst 0, 1) := by decide +kernel
theorem dX12_findChoice_114 : decode cX12_findChoice 114 = .ok (.istore 6, 2) := by decide +kernel
theorem dX12_findChoice_116 : decode cX12_findChoice 116 = .ok (.iload 6, 2) := by decide +kernel
theorem dX12_findChoice_118 : decode cX12_findChoice 118 = .ok (.aload_n 0, 1) := by decide +kernel
theorem dX12_findChoice_119 : decode cX12_findChoice 119 = .ok (.getfield 271, 3) := by decide +kernel
theorem dX12_findChoice_122 : decode cX12_findChoice 122 = .ok (.if_icmp .ge 66, 3) := by decide +kernel
theorem dX12_findChoice_125 : decode cX12_findChoice 125 = .ok (.iload_n 2, 1) := by decide +kernel
theorem dX12_findChoice_126 : decode cX12_findChoice 126 = .ok (.iload 6, 2) := by decide +kernel
theorem dX12_findChoice_128 : decode cX12_findChoice 128 = .ok (.ishr, 1) := by decide +kernel
theorem dX12_findChoice_129 : decode cX12_findChoice 129 = .ok (.iconst 1, 1) := by decide +kernel
theorem dX12_findChoice_130 : decode cX12_findChoice 130 = .ok (.iand, 1) := by decide +kernel
theorem dX12_findChoice_131 : decode cX12_findChoice 131 = .ok (.iconst 1, 1) := by decide +kernel
theorem dX12_findChoice_132 : decode cX12_findChoice 132 = .ok (.if_icmp .ne 50, 3) := by decide +kernel
theorem dX12_findChoice_135 : decode cX12_findChoice 135 = .ok (.iload_n 3, 1) := by decide +kernel
theorem dX12_findChoice_136 : decode cX12_findChoice 136 = .ok (.aload_n 0, 1) := by decide +kernel
theorem dX12_findChoice_137 : decode cX12_findChoice 137 = .ok (.getfield 55, 3) := by decide +kernel
theorem dX12_findChoice_140 : decode cX12_findChoice 140 = .ok (.aload_n 0, 1) := by decide +kernel
theorem dX12_findChoice_141 : decode cX12_findChoice 141 = .ok (.getfield 104, 3) := by decide +kernel
theorem dX12_findChoice_144 : decode cX12_findChoice 144 = .ok (.iload 6, 2) := by decide +kernel
theorem dX12_findChoice_146 : decode cX12_findChoice 146 = .ok (.iaload, 1) := by decide +kernel
theorem dX12_findChoice_147 : decode cX12_findChoice 147 = .ok (.iaload, 1) := by decide +kernel
theorem dX12_findChoice_148 : decode cX12_findChoice 148 = .ok (.ifCond .ge 7, 3) := by decide +kernel
theorem dX12_findChoice_151 : decode cX12_findChoice 151 = .ok (.iconst 1, 1) := by decide +kernel
theorem dX12_findChoice_152 : decode cX12_findChoice 152 = .ok (.goto 4, 3) := by decide +kernel
theorem dX12_findChoice_155 : decode cX12_findChoice 155 = .ok (.iconst 0, 1) := by decide +kernel
theorem dX12_findChoice_156 : decode cX12_findChoice 156 = .ok (.iadd, 1) := by decide +kernel
theorem dX12_findChoice_157 : decode cX12_findChoice 157 = .ok (.istore_n 3, 1) := by decide +kernel
theorem dX12_findChoice_158 : decode cX12_findChoice 158 = .ok (.iload 4, 2) := by decide +kernel
theorem dX12_findChoice_160 : decode cX12_findChoice 160 = .ok (.aload_n 0, 1) := by decide +kernel
theorem dX12_findChoice_161 : decode cX12_findChoice 161 = .ok (.getfield 107, 3) := by decide +kernel
theorem dX12_findChoice_164 : decode cX12_findChoice 164 = .ok (.iload 6, 2) := by decide +kernel
theorem dX12_findChoice_166 : decode cX12_findChoice 166 = .ok (.iaload, 1) := by decide +kernel
theorem dX12_findChoice_167 : decode cX12_findChoice 167 = .ok (.iadd, 1) := by decide +kernel
theorem dX12_findChoice_168 : decode cX12_findChoice 168 = .ok (.istore 4, 2) := by decide +kernel
theorem dX12_findChoice_170 : decode cX12_findChoice 170 = .ok (.iload 5, 2) := by decide +kernel
theorem dX12_findChoice_172 : decode cX12_findChoice 172 = .ok (.aload_n 0, 1) := by decide +kernel
theorem dX12_findChoice_173 : decode cX12_findChoice 173 = .ok (.getfield 110, 3) := by decide +kernel
theorem dX12_findChoice_176 : decode cX12_findChoice 176 = .ok (.iload 6, 2) := by decide +kernel
theorem dX12_findChoice_178 : decode cX12_findChoice 178 = .ok (.iaload, 1) := by decide +kernel
theorem dX12_findChoice_179 : decode cX12_findChoice 179 = .ok (.iadd, 1) := by decide +kernel
theorem dX12_findChoice_180 : decode cX12_findChoice 180 = .ok (.istore 5, 2) := by decide +kernel
theorem dX12_findChoice_182 : decode cX12_findChoice 182 = .ok (.iinc 6 1, 3) := by decide +kernel
theorem dX12_findChoice_185 : decode cX12_findChoice 185 = .ok (.goto (-69), 3) := by decide +kernel
theorem dX12_findChoice_188 : decode cX12_findChoice 188 = .ok (.aload_n 0, 1) := by decide +kernel
theorem dX12_findChoice_189 : decode cX12_findChoice 189 = .ok (.getfield 277, 3) := by decide +kernel
theorem dX12_findChoice_192 : decode cX12_findChoice 192 = .ok (.ifCond .lt 46, 3) := by decide +kernel
theorem dX12_findChoice_195 : decode cX12_findChoice 195 = .ok (.iload_n 3, 1) := by decide +kernel
theorem dX12_findChoice_196 : decode cX12_findChoice 196 = .ok (.aload_n 0, 1) := by decide +kernel
theorem dX12_findChoice_197 : decode cX12_findChoice 197 = .ok (.getfield 283, 3) := by decide +kernel
theorem dX12_findChoice_200 : decode cX12_findChoice 200 = .ok (.if_icmp .lt 38, 3) := by decide +kernel
theorem dX12_findChoice_203 : decode cX12_findChoice 203 = .ok (.iload_n 3, 1) := by decide +kernel
theorem dX12_findChoice_204 : decode cX12_findChoice 204 = .ok (.aload_n 0, 1) := by decide +kernel
theorem dX12_findChoice_205 : decode cX12_findChoice 205 = .ok (.getfield 283, 3) := by decide +kernel
theorem dX12_findChoice_208 : decode cX12_findChoice 208 = .ok (.if_icmp .ne 34, 3) := by decide +kernel
theorem dX12_findChoice_211 : decode cX12_findChoice 211 = .ok (.iload 4, 2) := by decide +kernel
theorem dX12_findChoice_213 : decode cX12_findChoice 213 = .ok (.aload_n 0, 1) := by decide +kernel
theorem dX12_findChoice_214 : decode cX12_findChoice 214 = .ok (.getfield 286, 3) := by decide +kernel
theorem dX12_findChoice_217 : decode cX12_findChoice 217 = .ok (.if_icmp .lt 21, 3) := by decide +kernel
theorem dX12_findChoice_220 : decode cX12_findChoice 220 = .ok (.iload 4, 2) := by decide +kernel
theorem dX12_findChoice_222 : decode cX12_findChoice 222 = .ok (.aload_n 0, 1) := by decide +kernel
theorem dX12_findChoice_223 : decode cX12_findChoice 223 = .ok (.getfield 286, 3) := by decide +kernel
theorem dX12_findChoice_226 : decode cX12_findChoice 226 = .ok (.if_icmp .ne 16, 3) := by decide +kernel
theorem dX12_findChoice_229 : decode cX12_findChoice 229 = .ok (.iload 5, 2) := by decide +kernel
theorem dX12_findChoice_231 : decode cX12_findChoice 231 = .ok (.aload_n 0, 1) := by decide +kernel
theorem dX12_findChoice_232 : decode cX12_findChoice 232 = .ok (.getfield 289, 3) := by decide +kernel
theorem dX12_findChoice_235 : decode cX12_findChoice 235 = .ok (.if_icmp .ge 7, 3) := by decide +kernel
theorem dX12_findChoice_238 : decode cX12_findChoice 238 = .ok (.iconst 1, 1) := by decide +kernel
theorem dX12_findChoice_239 : decode cX12_findChoice 239 = .ok (.goto 4, 3) := by decide +kernel
theorem dX12_findChoice_242 : decode cX12_findChoice 242 = .ok (.iconst 0, 1) := by decide +kernel
theorem dX12_findChoice_243 : decode cX12_findChoice 243 = .ok (.istore 6, 2) := by decide +kernel
theorem dX12_findChoice_245 : decode cX12_findChoice 245 = .ok (.iload 6, 2) := by decide +kernel
theorem dX12_findChoice_247 : decode cX12_findChoice 247 = .ok (.ifCond .eq 25, 3) := by decide +kernel
theorem dX12_findChoice_250 : decode cX12_findChoice 250 = .ok (.aload_n 0, 1) := by decide +kernel
theorem dX12_findChoice_251 : decode cX12_findChoice 251 = .ok (.iload_n 2, 1) := by decide +kernel
theorem dX12_findChoice_252 : decode cX12_findChoice 252 = .ok (.putfield 277, 3) := by decide +kernel
theorem dX12_findChoice_255 : decode cX12_findChoice 255 = .ok (.aload_n 0, 1) := by decide +kernel
theorem dX12_findChoice_256 : decode cX12_findChoice 256 = .ok (.iload_n 3, 1) := by decide +kernel
theorem dX12_findChoice_257 : decode cX12_findChoice 257 = .ok (.putfield 283, 3) := by decide +kernel
theorem dX12_findChoice_260 : decode cX12_findChoice 260 = .ok (.aload_n 0, 1) := by decide +kernel
theorem dX12_findChoice_261 : decode cX12_findChoice 261 = .ok (.iload 4, 2) := by decide +kernel
theorem dX12_findChoice_263 : decode cX12_findChoice 263 = .ok (.putfield 286, 3) := by decide +kernel
theorem dX12_findChoice_266 : decode cX12_findChoice 266 = .ok (.aload_n 0, 1) := by decide +kernel
theorem dX12_findChoice_267 : decode cX12_findChoice 267 = .ok (.iload 5, 2) := by decide +kernel
theorem dX12_findChoice_269 : decode cX12_findChoice 269 = .ok (.putfield 289, 3) := by decide +kernel
theorem dX12_findChoice_272 : decode cX12_findChoice 272 = .ok (.iinc 2 1, 3) := by decide +kernel
theorem dX12_findChoice_275 : decode cX12_findChoice 275 = .ok (.goto (-199), 3) := by decide +kernel
theorem dX12_findChoice_278 : decode cX12_findChoice 278 = .ok (.return_, 1) := by decide +kernel
theorem dX12_wrongChoice_0 : decode cX12_wrongChoice 0 = .ok (.aload_n 0, 1) := by decide +kernel
theorem dX12_wrongChoice_1 : decode cX12_wrongChoice 1 = .ok (.iload_n 1, 1) := by decide +kernel
theorem dX12_wrongChoice_2 : decode cX12_wrongChoice 2 = .ok (.invokevirtual 292, 3) := by decide +kernel
theorem dX12_wrongChoice_5 : decode cX12_wrongChoice 5 = .ok (.iload_n 2, 1) := by decide +kernel
theorem dX12_wrongChoice_6 : decode cX12_wrongChoice 6 = .ok (.ifCond .ge 8, 3) := by decide +kernel
theorem dX12_wrongChoice_9 : decode cX12_wrongChoice 9 = .ok (.bipush (-4), 2) := by decide +kernel
theorem dX12_wrongChoice_11 : decode cX12_wrongChoice 11 = .ok (.goto 26, 3) := by decide +kernel
theorem dX12_wrongChoice_14 : decode cX12_wrongChoice 14 = .ok (.aload_n 0, 1) := by decide +kernel
theorem dX12_wrongChoice_15 : decode cX12_wrongChoice 15 = .ok (.getfield 271, 3) := by decide +kernel
theorem dX12_wrongChoice_18 : decode cX12_wrongChoice 18 = .ok (.bipush 12, 2) := by decide +kernel
theorem dX12_wrongChoice_20 : decode cX12_wrongChoice 20 = .ok (.if_icmp .gt 11, 3) := by decide +kernel
theorem dX12_wrongChoice_23 : decode cX12_wrongChoice 23 = .ok (.iload_n 2, 1) := by decide +kernel
theorem dX12_wrongChoice_24 : decode cX12_wrongChoice 24 = .ok (.aload_n 0, 1) := by decide +kernel
theorem dX12_wrongChoice_25 : decode cX12_wrongChoice 25 = .ok (.getfield 271, 3) := by decide +kernel
theorem dX12_wrongChoice_28 : decode cX12_wrongChoice 28 = .ok (.if_icmp .le 8, 3) := by decide +kernel
theorem dX12_wrongChoice_31 : decode cX12_wrongChoice 31 = .ok (.bipush (-6), 2) := by decide +kernel
theorem dX12_wrongChoice_33 : decode cX12_wrongChoice 33 = .ok (.goto 4, 3) := by decide +kernel
theorem dX12_wrongChoice_36 : decode cX12_wrongChoice 36 = .ok (.iconst 0, 1) := by decide +kernel
theorem dX12_wrongChoice_37 : decode cX12_wrongChoice 37 = .ok (.ireturn, 1) := by decide +kernel
theorem dX12_choice_0 : decode cX12_choice 0 = .ok (.aload_n 0, 1) := by decide +kernel
theorem dX12_choice_1 : decode cX12_choice 1 = .ok (.iload_n 1, 1) := by decide +kernel
theorem dX12_choice_2 : decode cX12_choice 2 = .ok (.iload_n 2, 1) := by decide +kernel
theorem dX12_choice_3 : decode cX12_choice 3 = .ok (.invokevirtual 258, 3) := by decide +kernel
theorem dX12_choice_6 : decode cX12_choice 6 = .ok (.ifCond .ne 9, 3) := by decide +kernel
theorem dX12_choice_9 : decode cX12_choice 9 = .ok (.aload_n 0, 1) := by decide +kernel
theorem dX12_choice_10 : decode cX12_choice 10 = .ok (.iconst (-1), 1) := by decide +kernel
theorem dX12_choice_11 : decode cX12_choice 11 = .ok (.invokevirtual 174, 3) := by decide +kernel
theorem dX12_choice_14 : decode cX12_choice 14 = .ok (.ireturn, 1) := by decide +kernel
theorem dX12_choice_15 : decode cX12_choice 15 = .ok (.iload 4, 2) := by decide +kernel
theorem dX12_choice_17 : decode cX12_choice 17 = .ok (.iconst 0, 1) := by decide +kernel
theorem dX12_choice_18 : decode cX12_choice 18 = .ok (.iconst 1, 1) := by decide +kernel
theorem dX12_choice_19 : decode cX12_choice 19 = .ok (.invokestatic 157, 3) := by decide +kernel
theorem dX12_choice_22 : decode cX12_choice 22 = .ok (.ifCond .ne 10, 3) := by decide +kernel
theorem dX12_choice_25 : decode cX12_choice 25 = .ok (.aload_n 0, 1) := by decide +kernel
theorem dX12_choice_26 : decode cX12_choice 26 = .ok (.bipush (-2), 2) := by decide +kernel
theorem dX12_choice_28 : decode cX12_choice 28 = .ok (.invokevirtual 174, 3) := by decide +kernel
theorem dX12_choice_31 : decode cX12_choice 31 = .ok (.ireturn, 1) := by decide +kernel
theorem dX12_choice_32 : decode cX12_choice 32 = .ok (.aload_n 0, 1) := by decide +kernel
theorem dX12_choice_33 : decode cX12_choice 33 = .ok (.iload_n 2, 1) := by decide +kernel
theorem dX12_choice_34 : decode cX12_choice 34 = .ok (.iload_n 3, 1) := by decide +kernel
theorem dX12_choice_35 : decode cX12_choice 35 = .ok (.invokevirtual 295, 3) := by decide +kernel
theorem dX12_choice_38 : decode cX12_choice 38 = .ok (.istore 5, 2) := by decide +kernel
theorem dX12_choice_40 : decode cX12_choice 40 = .ok (.iload 5, 2) := by decide +kernel
theorem dX12_choice_42 : decode cX12_choice 42 = .ok (.ifCond .ge 10, 3) := by decide +kernel
theorem dX12_choice_45 : decode cX12_choice 45 = .ok (.aload_n 0, 1) := by decide +kernel
theorem dX12_choice_46 : decode cX12_choice 46 = .ok (.iload 5, 2) := by decide +kernel
theorem dX12_choice_48 : decode cX12_choice 48 = .ok (.invokevirtual 174, 3) := by decide +kernel
theorem dX12_choice_51 : decode cX12_choice 51 = .ok (.ireturn, 1) := by decide +kernel
theorem dX12_choice_52 : decode cX12_choice 52 = .ok (.aload_n 0, 1) := by decide +kernel
theorem dX12_choice_53 : decode cX12_choice 53 = .ok (.iload_n 3, 1) := by decide +kernel
theorem dX12_choice_54 : decode cX12_choice 54 = .ok (.invokevirtual 298, 3) := by decide +kernel
theorem dX12_choice_57 : decode cX12_choice 57 = .ok (.aload_n 0, 1) := by decide +kernel
theorem dX12_choice_58 : decode cX12_choice 58 = .ok (.getfield 277, 3) := by decide +kernel
theorem dX12_choice_61 : decode cX12_choice 61 = .ok (.ifCond .ge 8, 3) := by decide +kernel
theorem dX12_choice_64 : decode cX12_choice 64 = .ok (.bipush (-9), 2) := by decide +kernel
theorem dX12_choice_66 : decode cX12_choice 66 = .ok (.goto 19, 3) := by decide +kernel
theorem dX12_choice_69 : decode cX12_choice 69 = .ok (.iload 4, 2) := by decide +kernel
theorem dX12_choice_71 : decode cX12_choice 71 = .ok (.ifCond .ne 10, 3) := by decide +kernel
theorem dX12_choice_74 : decode cX12_choice 74 = .ok (.aload_n 0, 1) := by decide +kernel
theorem dX12_choice_75 : decode cX12_choice 75 = .ok (.getfield 283, 3) := by decide +kernel
theorem dX12_choice_78 : decode cX12_choice 78 = .ok (.goto 7, 3) := by decide +kernel
theorem dX12_choice_81 : decode cX12_choice 81 = .ok (.aload_n 0, 1) := by decide +kernel
theorem dX12_choice_82 : decode cX12_choice 82 = .ok (.getfield 286, 3) := by decide +kernel
theorem dX12_choice_85 : decode cX12_choice 85 = .ok (.ireturn, 1) := by decide +kernel
theorem dX12_chosen_0 : decode cX12_chosen 0 = .ok (.aload_n 0, 1) := by decide +kernel
theorem dX12_chosen_1 : decode cX12_chosen 1 = .ok (.iload_n 1, 1) := by decide +kernel
theorem dX12_chosen_2 : decode cX12_chosen 2 = .ok (.iload_n 2, 1) := by decide +kernel
theorem dX12_chosen_3 : decode cX12_chosen 3 = .ok (.invokevirtual 258, 3) := by decide +kernel
theorem dX12_chosen_6 : decode cX12_chosen 6 = .ok (.ifCond .eq 12, 3) := by decide +kernel
theorem dX12_chosen_9 : decode cX12_chosen 9 = .ok (.aload_n 0, 1) := by decide +kernel
theorem dX12_chosen_10 : decode cX12_chosen 10 = .ok (.iload 4, 2) := by decide +kernel
theorem dX12_chosen_12 : decode cX12_chosen 12 = .ok (.invokevirtual 194, 3) := by decide +kernel
theorem dX12_chosen_15 : decode cX12_chosen 15 = .ok (.ifCond .ne 9, 3) := by decide +kernel
theorem dX12_chosen_18 : decode cX12_chosen 18 = .ok (.aload_n 0, 1) := by decide +kernel
theorem dX12_chosen_19 : decode cX12_chosen 19 = .ok (.iconst (-1), 1) := by decide +kernel
theorem dX12_chosen_20 : decode cX12_chosen 20 = .ok (.invokevirtual 174, 3) := by decide +kernel
theorem dX12_chosen_23 : decode cX12_chosen 23 = .ok (.ireturn, 1) := by decide +kernel
theorem dX12_chosen_24 : decode cX12_chosen 24 = .ok (.aload_n 0, 1) := by decide +kernel
theorem dX12_chosen_25 : decode cX12_chosen 25 = .ok (.iload_n 2, 1) := by decide +kernel
theorem dX12_chosen_26 : decode cX12_chosen 26 = .ok (.iload_n 3, 1) := by decide +kernel
theorem dX12_chosen_27 : decode cX12_chosen 27 = .ok (.invokevirtual 295, 3) := by decide +kernel
theorem dX12_chosen_30 : decode cX12_chosen 30 = .ok (.istore 5, 2) := by decide +kernel
theorem dX12_chosen_32 : decode cX12_chosen 32 = .ok (.iload 5, 2) := by decide +kernel
theorem dX12_chosen_34 : decode cX12_chosen 34 = .ok (.ifCond .ge 10, 3) := by decide +kernel
theorem dX12_chosen_37 : decode cX12_chosen 37 = .ok (.aload_n 0, 1) := by decide +kernel
theorem dX12_chosen_38 : decode cX12_chosen 38 = .ok (.iload 5, 2) := by decide +kernel
theorem dX12_chosen_40 : decode cX12_chosen 40 = .ok (.invokevirtual 174, 3) := by decide +kernel
theorem dX12_chosen_43 : decode cX12_chosen 43 = .ok (.ireturn, 1) := by decide +kernel
theorem dX12_chosen_44 : decode cX12_chosen 44 = .ok (.aload_n 0, 1) := by decide +kernel
theorem dX12_chosen_45 : decode cX12_chosen 45 = .ok (.iload_n 3, 1) := by decide +kernel
theorem dX12_chosen_46 : decode cX12_chosen 46 = .ok (.invokevirtual 298, 3) := by decide +kernel
theorem dX12_chosen_49 : decode cX12_chosen 49 = .ok (.iconst 0, 1) := by decide +kernel
theorem dX12_chosen_50 : decode cX12_chosen 50 = .ok (.istore 6, 2) := by decide +kernel
theorem dX12_chosen_52 : decode cX12_chosen 52 = .ok (.iconst 0, 1) := by decide +kernel
theorem dX12_chosen_53 : decode cX12_chosen 53 = .ok (.istore 7, 2) := by decide +kernel
theorem dX12_chosen_55 : decode cX12_chosen 55 = .ok (.iload 7, 2) := by decide +kernel
theorem dX12_chosen_57 : decode cX12_chosen 57 = .ok (.aload_n 0, 1) := by decide +kernel
theorem dX12_chosen_58 : decode cX12_chosen 58 = .ok (.getfield 271, 3) := by decide +kernel
theorem dX12_chosen_61 : decode cX12_chosen 61 = .ok (.if_icmp .ge 44, 3) := by decide +kernel
theorem dX12_chosen_64 : decode cX12_chosen 64 = .ok (.aload_n 0, 1) := by decide +kernel
theorem dX12_chosen_65 : decode cX12_chosen 65 = .ok (.getfield 277, 3) := by decide +kernel
theorem dX12_chosen_68 : decode cX12_chosen 68 = .ok (.ifCond .lt 37, 3) := by decide +kernel
theorem dX12_chosen_71 : decode cX12_chosen 71 = .ok (.aload_n 0, 1) := by decide +kernel
theorem dX12_chosen_72 : decode cX12_chosen 72 = .ok (.getfield 104, 3) := by decide +kernel
theorem dX12_chosen_75 : decode cX12_chosen 75 = .ok (.iload 7, 2) := by decide +kernel
theorem dX12_chosen_77 : decode cX12_chosen 77 = .ok (.iaload, 1) := by decide +kernel
theorem dX12_chosen_78 : decode cX12_chosen 78 = .ok (.iload 4, 2) := by decide +kernel
theorem dX12_chosen_80 : decode cX12_chosen 80 = .ok (.if_icmp .ne 15, 3) := by decide +kernel
theorem dX12_chosen_83 : decode cX12_chosen 83 = .ok (.aload_n 0, 1) := by decide +kernel
theorem dX12_chosen_84 : decode cX12_chosen 84 = .ok (.getfield 277, 3) := by decide +kernel
theorem dX12_chosen_87 : decode cX12_chosen 87 = .ok (.iload 7, 2) := by decide +kernel
theorem dX12_chosen_89 : decode cX12_chosen 89 = .ok (.ishr, 1) := by decide +kernel
theorem dX12_chosen_90 : decode cX12_chosen 90 = .ok (.iconst 1, 1) := by decide +kernel
theorem dX12_chosen_91 : decode cX12_chosen 91 = .ok (.iand, 1) := by decide +kernel
theorem dX12_chosen_92 : decode cX12_chosen 92 = .ok (.goto 5, 3) := by decide +kernel
theorem dX12_chosen_95 : decode cX12_chosen 95 = .ok (.iload 6, 2) := by decide +kernel
theorem dX12_chosen_97 : decode cX12_chosen 97 = .ok (.istore 6, 2) := by decide +kernel
theorem dX12_chosen_99 : decode cX12_chosen 99 = .ok (.iinc 7 1, 3) := by decide +kernel
theorem dX12_chosen_102 : decode cX12_chosen 102 = .ok (.goto (-47), 3) := by decide +kernel
theorem dX12_chosen_105 : decode cX12_chosen 105 = .ok (.iload 6, 2) := by decide +kernel
theorem dX12_chosen_107 : decode cX12_chosen 107 = .ok (.ireturn, 1) := by decide +kernel
theorem dX12_takes_0 : decode cX12_takes 0 = .ok (.iconst (-1), 1) := by decide +kernel
theorem dX12_takes_1 : decode cX12_takes 1 = .ok (.istore_n 3, 1) := by decide +kernel
theorem dX12_takes_2 : decode cX12_takes 2 = .ok (.aload_n 0, 1) := by decide +kernel
theorem dX12_takes_3 : decode cX12_takes 3 = .ok (.getfield 22, 3) := by decide +kernel
theorem dX12_takes_6 : decode cX12_takes 6 = .ok (.aload_n 0, 1) := by decide +kernel
theorem dX12_takes_7 : decode cX12_takes 7 = .ok (.getfield 43, 3) := by decide +kernel
theorem dX12_takes_10 : decode cX12_takes 10 = .ok (.iload_n 1, 1) := by decide +kernel
theorem dX12_takes_11 : decode cX12_takes 11 = .ok (.iaload, 1) := by decide +kernel
theorem dX12_takes_12 : decode cX12_takes 12 = .ok (.iaload, 1) := by decide +kernel
theorem dX12_takes_13 : decode cX12_takes 13 = .ok (.istore 4, 2) := by decide +kernel
theorem dX12_takes_15 : decode cX12_takes 15 = .ok (.iconst 0, 1) := by decide +kernel
theorem dX12_takes_16 : decode cX12_takes 16 = .ok (.istore 5, 2) := by decide +kernel
theorem dX12_takes_18 : decode cX12_takes 18 = .ok (.iload 5, 2) := by decide +kernel
theorem dX12_takes_20 : decode cX12_takes 20 = .ok (.aload_n 0, 1) := by decide +kernel
theorem dX12_takes_21 : decode cX12_takes 21 = .ok (.getfield 164, 3) := by decide +kernel
theorem dX12_takes_24 : decode cX12_takes 24 = .ok (.if_icmp .ge 262, 3) := by decide +kernel
theorem dX12_takes_27 : decode cX12_takes 27 = .ok (.iload 5, 2) := by decide +kernel
theorem dX12_takes_29 : decode cX12_takes 29 = .ok (.iload_n 1, 1) := by decide +kernel
theorem dX12_takes_30 : decode cX12_takes 30 = .ok (.if_icmp .eq 50, 3) := by decide +kernel
theorem dX12_takes_33 : decode cX12_takes 33 = .ok (.iload 5, 2) := by decide +kernel
theorem dX12_takes_35 : decode cX12_takes 35 = .ok (.iload_n 2, 1) := by decide +kernel
theorem dX12_takes_36 : decode cX12_takes 36 = .ok (.if_icmp .eq 44, 3) := by decide +kernel
theorem dX12_takes_39 : decode cX12_takes 39 = .ok (.aload_n 0, 1) := by decide +kernel
theorem dX12_takes_40 : decode cX12_takes 40 = .ok (.iload 5, 2) := by decide +kernel
theorem dX12_takes_42 : decode cX12_takes 42 = .ok (.invokevirtual 200, 3) := by decide +kernel
theorem dX12_takes_45 : decode cX12_takes 45 = .ok (.ifCond .eq 35, 3) := by decide +kernel
theorem dX12_takes_48 : decode cX12_takes 48 = .ok (.aload_n 0, 1) := by decide +kernel
theorem dX12_takes_49 : decode cX12_takes 49 = .ok (.getfield 43, 3) := by decide +kernel
theorem dX12_takes_52 : decode cX12_takes 52 = .ok (.iload 5, 2) := by decide +kernel
theorem dX12_takes_54 : decode cX12_takes 54 = .ok (.iaload, 1) := by decide +kernel
theorem dX12_takes_55 : decode cX12_takes 55 = .ok (.ifCond .lt 25, 3) := by decide +kernel
theorem dX12_takes_58 : decode cX12_takes 58 = .ok (.aload_n 0, 1) := by decide +kernel
theorem dX12_takes_59 : decode cX12_takes 59 = .ok (.iload 5, 2) := by decide +kernel
theorem dX12_takes_61 : decode cX12_takes 61 = .ok (.invokevirtual 252, 3) := by decide +kernel
theorem dX12_takes_64 : decode cX12_takes 64 = .ok (.ifCond .ne 16, 3) := by decide +kernel
theorem dX12_takes_67 : decode cX12_takes 67 = .ok (.aload_n 0, 1) := by decide +kernel
theorem dX12_takes_68 : decode cX12_takes 68 = .ok (.iload 5, 2) := by decide +kernel
theorem dX12_takes_70 : decode cX12_takes 70 = .ok (.invokevirtual 301, 3) := by decide +kernel
theorem dX12_takes_73 : decode cX12_takes 73 = .ok (.ifCond .ne 7, 3) := by decide +kernel
theorem dX12_takes_76 : decode cX12_takes 76 = .ok (.iconst 1, 1) := by decide +kernel
theorem dX12_takes_77 : decode cX12_takes 77 = .ok (.goto 4, 3) := by decide +kernel
theorem dX12_takes_80 : decode cX12_takes 80 = .ok (.iconst 0, 1) := by decide +kernel
theorem dX12_takes_81 : decode cX12_takes 81 = .ok (.istore 6, 2) := by decide +kernel
theorem dX12_takes_83 : decode cX12_takes 83 = .ok (.iload 6, 2) := by decide +kernel
theorem dX12_takes_85 : decode cX12_takes 85 = .ok (.ifCond .ne 6, 3) := by decide +kernel
theorem dX12_takes_88 : decode cX12_takes 88 = .ok (.goto 192, 3) := by decide +kernel
theorem dX12_takes_91 : decode cX12_takes 91 = .ok (.aload_n 0, 1) := by decide +kernel
theorem dX12_takes_92 : decode cX12_takes 92 = .ok (.getfield 43, 3) := by decide +kernel
theorem dX12_takes_95 : decode cX12_takes 95 = .ok (.iload 5, 2) := by decide +kernel
theorem dX12_takes_97 : decode cX12_takes 97 = .ok (.iaload, 1) := by decide +kernel
theorem dX12_takes_98 : decode cX12_takes 98 = .ok (.istore 7, 2) := by decide +kernel
theorem dX12_takes_100 : decode cX12_takes 100 = .ok (.aload_n 0, 1) := by decide +kernel
theorem dX12_takes_101 : decode cX12_takes 101 = .ok (.getfield 19, 3) := by decide +kernel
theorem dX12_takes_104 : decode cX12_takes 104 = .ok (.iload 7, 2) := by decide +kernel
theorem dX12_takes_106 : decode cX12_takes 106 = .ok (.iaload, 1) := by decide +kernel
theorem dX12_takes_107 : decode cX12_takes 107 = .ok (.aload_n 0, 1) := by decide +kernel
theorem dX12_takes_108 : decode cX12_takes 108 = .ok (.getfield 19, 3) := by decide +kernel
theorem dX12_takes_111 : decode cX12_takes 111 = .ok (.aload_n 0, 1) := by decide +kernel
theorem dX12_takes_112 : decode cX12_takes 112 = .ok (.getfield 43, 3) := by decide +kernel
theorem dX12_takes_115 : decode cX12_takes 115 = .ok (.iload_n 1, 1) := by decide +kernel
theorem dX12_takes_116 : decode cX12_takes 116 = .ok (.iaload, 1) := by decide +kernel
theorem dX12_takes_117 : decode cX12_takes 117 = .ok (.iaload, 1) := by decide +kernel
theorem dX12_takes_118 : decode cX12_takes 118 = .ok (.if_icmp .ne 59, 3) := by decide +kernel
theorem dX12_takes_121 : decode cX12_takes 121 = .ok (.iload 4, 2) := by decide +kernel
theorem dX12_takes_123 : decode cX12_takes 123 = .ok (.aload_n 0, 1) := by decide +kernel
theorem dX12_takes_124 : decode cX12_takes 124 = .ok (.getfield 22, 3) := by decide +kernel
theorem dX12_takes_127 : decode cX12_takes 127 = .ok (.iload 7, 2) := by decide +kernel
theorem dX12_takes_129 : decode cX12_takes 129 = .ok (.iaload, 1) := by decide +kernel
theorem dX12_takes_130 : decode cX12_takes 130 = .ok (.isub, 1) := by decide +kernel
theorem dX12_takes_131 : decode cX12_takes 131 = .ok (.iconst 0, 1) := by decide +kernel
theorem dX12_takes_132 : decode cX12_takes 132 = .ok (.iconst 2, 1) := by decide +kernel
theorem dX12_takes_133 : decode cX12_takes 133 = .ok (.invokestatic 157, 3) := by decide +kernel
theorem dX12_takes_136 : decode cX12_takes 136 = .ok (.ifCond .eq 41, 3) := by decide +kernel
theorem dX12_takes_139 : decode cX12_takes 139 = .ok (.aload_n 0, 1) := by decide +kernel
theorem dX12_takes_140 : decode cX12_takes 140 = .ok (.iload 5, 2) := by decide +kernel
theorem dX12_takes_142 : decode cX12_takes 142 = .ok (.aload_n 0, 1) := by decide +kernel
theorem dX12_takes_143 : decode cX12_takes 143 = .ok (.getfield 167, 3) := by decide +kernel
theorem dX12_takes_146 : decode cX12_takes 146 = .ok (.invokevirtual 233, 3) := by decide +kernel
theorem dX12_takes_149 : decode cX12_takes 149 = .ok (.aload_n 0, 1) := by decide +kernel
theorem dX12_takes_150 : decode cX12_takes 150 = .ok (.iload_n 1, 1) := by decide +kernel
theorem dX12_takes_151 : decode cX12_takes 151 = .ok (.aload_n 0, 1) := by decide +kernel
theorem dX12_takes_152 : decode cX12_takes 152 = .ok (.getfield 167, 3) := by decide +kernel
theorem dX12_takes_155 : decode cX12_takes 155 = .ok (.invokevirtual 233, 3) := by decide +kernel
theorem dX12_takes_158 : decode cX12_takes 158 = .ok (.if_icmp .ge 19, 3) := by decide +kernel
theorem dX12_takes_161 : decode cX12_takes 161 = .ok (.aload_n 0, 1) := by decide +kernel
theorem dX12_takes_162 : decode cX12_takes 162 = .ok (.iload_n 1, 1) := by decide +kernel
theorem dX12_takes_163 : decode cX12_takes 163 = .ok (.iload 7, 2) := by decide +kernel
theorem dX12_takes_165 : decode cX12_takes 165 = .ok (.invokevirtual 223, 3) := by decide +kernel
theorem dX12_takes_168 : decode cX12_takes 168 = .ok (.bipush 50, 2) := by decide +kernel
theorem dX12_takes_170 : decode cX12_takes 170 = .ok (.if_icmp .lt 7, 3) := by decide +kernel
theorem dX12_takes_173 : decode cX12_takes 173 = .ok (.iconst 1, 1) := by decide +kernel
theorem dX12_takes_174 : decode cX12_takes 174 = .ok (.goto 4, 3) := by decide +kernel
theorem dX12_takes_177 : decode cX12_takes 177 = .ok (.iconst 0, 1) := by decide +kernel
theorem dX12_takes_178 : decode cX12_takes 178 = .ok (.istore 8, 2) := by decide +kernel
theorem dX12_takes_180 : decode cX12_takes 180 = .ok (.iload 8, 2) := by decide +kernel
theorem dX12_takes_182 : decode cX12_takes 182 = .ok (.ifCond .eq 98, 3) := by decide +kernel
theorem dX12_takes_185 : decode cX12_takes 185 = .ok (.iload_n 3, 1) := by decide +kernel
theorem dX12_takes_186 : decode cX12_takes 186 = .ok (.ifCond .ge 7, 3) := by decide +kernel
theorem dX12_takes_189 : decode cX12_takes 189 = .ok (.iconst (-1), 1) := by decide +kernel
theorem dX12_takes_190 : decode cX12_takes 190 = .ok (.goto 9, 3) := by decide +kernel
theorem dX12_takes_193 : decode cX12_takes 193 = .ok (.aload_n 0, 1) := by decide +kernel
theorem dX12_takes_194 : decode cX12_takes 194 = .ok (.getfield 43, 3) := by decide +kernel
theorem dX12_takes_197 : decode cX12_takes 197 = .ok (.iload_n 3, 1) := by decide +kernel
theorem dX12_takes_198 : decode cX12_takes 198 = .ok (.iaload, 1) := by decide +kernel
theorem dX12_takes_199 : decode cX12_takes 199 = .ok (.istore 9, 2) := by decide +kernel
theorem dX12_takes_201 : decode cX12_takes 201 = .ok (.iload_n 3, 1) := by decide +kernel
theorem dX12_takes_202 : decode cX12_takes 202 = .ok (.ifCond .lt 59, 3) := by decide +kernel
theorem dX12_takes_205 : decode cX12_takes 205 = .ok (.aload_n 0, 1) := by decide +kernel
theorem dX12_takes_206 : decode cX12_takes 206 = .ok (.getfield 22, 3) := by decide +kernel
theorem dX12_takes_209 : decode cX12_takes 209 = .ok (.iload 7, 2) := by decide +kernel
theorem dX12_takes_211 : decode cX12_takes 211 = .ok (.iaload, 1) := by decide +kernel
theorem dX12_takes_212 : decode cX12_takes 212 = .ok (.aload_n 0, 1) := by decide +kernel
theorem dX12_takes_213 : decode cX12_takes 213 = .ok (.getfield 22, 3) := by decide +kernel
theorem dX12_takes_216 : decode cX12_takes 216 = .ok (.iload 9, 2) := by decide +kernel
theorem dX12_takes_218 : decode cX12_takes 218 = .ok (.iaload, 1) := by decide +kernel
theorem dX12_takes_219 : decode cX12_takes 219 = .ok (.if_icmp .gt 42, 3) := by decide +kernel
theorem dX12_takes_222 : decode cX12_takes 222 = .ok (.aload_n 0, 1) := by decide +kernel
theorem dX12_takes_223 : decode cX12_takes 223 = .ok (.getfield 22, 3) := by decide +kernel
theorem dX12_takes_226 : decode cX12_takes 226 = .ok (.iload 7, 2) := by decide +kernel
theorem dX12_takes_228 : decode cX12_takes 228 = .ok (.iaload, 1) := by decide +kernel
theorem dX12_takes_229 : decode cX12_takes 229 = .ok (.aload_n 0, 1) := by decide +kernel
theorem dX12_takes_230 : decode cX12_takes 230 = .ok (.getfield 22, 3) := by decide +kernel
theorem dX12_takes_233 : decode cX12_takes 233 = .ok (.iload 9, 2) := by decide +kernel
theorem dX12_takes_235 : decode cX12_takes 235 = .ok (.iaload, 1) := by decide +kernel
theorem dX12_takes_236 : decode cX12_takes 236 = .ok (.if_icmp .ne 29, 3) := by decide +kernel
theorem dX12_takes_239 : decode cX12_takes 239 = .ok (.aload_n 0, 1) := by decide +kernel
theorem dX12_takes_240 : decode cX12_takes 240 = .ok (.iload 5, 2) := by decide +kernel
theorem dX12_takes_242 : decode cX12_takes 242 = .ok (.aload_n 0, 1) := by decide +kernel
theorem dX12_takes_243 : decode cX12_takes 243 = .ok (.getfield 167, 3) := by decide +kernel
theorem dX12_takes_246 : decode cX12_takes 246 = .ok (.invokevirtual 233, 3) := by decide +kernel
theorem dX12_takes_249 : decode cX12_takes 249 = .ok (.aload_n 0, 1) := by decide +kernel
theorem dX12_takes_250 : decode cX12_takes 250 = .ok (.iload_n 3, 1) := by decide +kernel
theorem dX12_takes_251 : decode cX12_takes 251 = .ok (.aload_n 0, 1) := by decide +kernel
theorem dX12_takes_252 : decode cX12_takes 252 = .ok (.getfield 167, 3) := by decide +kernel
theorem dX12_takes_255 : decode cX12_takes 255 = .ok (.invokevirtual 233, 3) := by decide +kernel
theorem dX12_takes_258 : decode cX12_takes 258 = .ok (.if_icmp .ge 7, 3) := by decide +kernel
theorem dX12_takes_261 : decode cX12_takes 261 = .ok (.iconst 1, 1) := by decide +kernel
theorem dX12_takes_262 : decode cX12_takes 262 = .ok (.goto 4, 3) := by decide +kernel
theorem dX12_takes_265 : decode cX12_takes 265 = .ok (.iconst 0, 1) := by decide +kernel
theorem dX12_takes_266 : decode cX12_takes 266 = .ok (.istore 10, 2) := by decide +kernel
theorem dX12_takes_268 : decode cX12_takes 268 = .ok (.iload 10, 2) := by decide +kernel
theorem dX12_takes_270 : decode cX12_takes 270 = .ok (.ifCond .eq 8, 3) := by decide +kernel
theorem dX12_takes_273 : decode cX12_takes 273 = .ok (.iload 5, 2) := by decide +kernel
theorem dX12_takes_275 : decode cX12_takes 275 = .ok (.goto 4, 3) := by decide +kernel
theorem dX12_takes_278 : decode cX12_takes 278 = .ok (.iload_n 3, 1) := by decide +kernel
theorem dX12_takes_279 : decode cX12_takes 279 = .ok (.istore_n 3, 1) := by decide +kernel
theorem dX12_takes_280 : decode cX12_takes 280 = .ok (.iinc 5 1, 3) := by decide +kernel
theorem dX12_takes_283 : decode cX12_takes 283 = .ok (.goto (-265), 3) := by decide +kernel
theorem dX12_takes_286 : decode cX12_takes 286 = .ok (.iload_n 3, 1) := by decide +kernel
theorem dX12_takes_287 : decode cX12_takes 287 = .ok (.ireturn, 1) := by decide +kernel
theorem dX12_isMoved_0 : decode cX12_isMoved 0 = .ok (.iconst 0, 1) := by decide +kernel
theorem dX12_isMoved_1 : decode cX12_isMoved 1 = .ok (.istore_n 2, 1) := by decide +kernel
theorem dX12_isMoved_2 : decode cX12_isMoved 2 = .ok (.iload_n 2, 1) := by decide +kernel
theorem dX12_isMoved_3 : decode cX12_isMoved 3 = .ok (.aload_n 0, 1) := by decide +kernel
theorem dX12_isMoved_4 : decode cX12_isMoved 4 = .ok (.getfield 304, 3) := by decide +kernel
theorem dX12_isMoved_7 : decode cX12_isMoved 7 = .ok (.if_icmp .ge 31, 3) := by decide +kernel
theorem dX12_isMoved_10 : decode cX12_isMoved 10 = .ok (.aload_n 0, 1) := by decide +kernel
theorem dX12_isMoved_11 : decode cX12_isMoved 11 = .ok (.getfield 113, 3) := by decide +kernel
theorem dX12_isMoved_14 : decode cX12_isMoved 14 = .ok (.iload_n 2, 1) := by decide +kernel
theorem dX12_isMoved_15 : decode cX12_isMoved 15 = .ok (.iaload, 1) := by decide +kernel
theorem dX12_isMoved_16 : decode cX12_isMoved 16 = .ok (.iload_n 1, 1) := by decide +kernel
theorem dX12_isMoved_17 : decode cX12_isMoved 17 = .ok (.if_icmp .eq 13, 3) := by decide +kernel
theorem dX12_isMoved_20 : decode cX12_isMoved 20 = .ok (.aload_n 0, 1) := by decide +kernel
theorem dX12_isMoved_21 : decode cX12_isMoved 21 = .ok (.getfield 119, 3) := by decide +kernel
theorem dX12_isMoved_24 : decode cX12_isMoved 24 = .ok (.iload_n 2, 1) := by decide +kernel
theorem dX12_isMoved_25 : decode cX12_isMoved 25 = .ok (.iaload, 1) := by decide +kernel
theorem dX12_isMoved_26 : decode cX12_isMoved 26 = .ok (.iload_n 1, 1) := by decide +kernel
theorem dX12_isMoved_27 : decode cX12_isMoved 27 = .ok (.if_icmp .ne 5, 3) := by decide +kernel
theorem dX12_isMoved_30 : decode cX12_isMoved 30 = .ok (.iconst 1, 1) := by decide +kernel
theorem dX12_isMoved_31 : decode cX12_isMoved 31 = .ok (.ireturn, 1) := by decide +kernel
theorem dX12_isMoved_32 : decode cX12_isMoved 32 = .ok (.iinc 2 1, 3) := by decide +kernel
theorem dX12_isMoved_35 : decode cX12_isMoved 35 = .ok (.goto (-33), 3) := by decide +kernel
theorem dX12_isMoved_38 : decode cX12_isMoved 38 = .ok (.iconst 0, 1) := by decide +kernel
theorem dX12_isMoved_39 : decode cX12_isMoved 39 = .ok (.ireturn, 1) := by decide +kernel
theorem dX12_findChain_0 : decode cX12_findChain 0 = .ok (.aload_n 0, 1) := by decide +kernel
theorem dX12_findChain_1 : decode cX12_findChain 1 = .ok (.iconst 0, 1) := by decide +kernel
theorem dX12_findChain_2 : decode cX12_findChain 2 = .ok (.putfield 304, 3) := by decide +kernel
theorem dX12_findChain_5 : decode cX12_findChain 5 = .ok (.aload_n 0, 1) := by decide +kernel
theorem dX12_findChain_6 : decode cX12_findChain 6 = .ok (.iload_n 1, 1) := by decide +kernel
theorem dX12_findChain_7 : decode cX12_findChain 7 = .ok (.putfield 307, 3) := by decide +kernel
theorem dX12_findChain_10 : decode cX12_findChain 10 = .ok (.aload_n 0, 1) := by decide +kernel
theorem dX12_findChain_11 : decode cX12_findChain 11 = .ok (.iload_n 1, 1) := by decide +kernel
theorem dX12_findChain_12 : decode cX12_findChain 12 = .ok (.iload_n 1, 1) := by decide +kernel
theorem dX12_findChain_13 : decode cX12_findChain 13 = .ok (.invokevirtual 310, 3) := by decide +kernel
theorem dX12_findChain_16 : decode cX12_findChain 16 = .ok (.istore_n 2, 1) := by decide +kernel
theorem dX12_findChain_17 : decode cX12_findChain 17 = .ok (.iload_n 2, 1) := by decide +kernel
theorem dX12_findChain_18 : decode cX12_findChain 18 = .ok (.ifCond .lt 69, 3) := by decide +kernel
theorem dX12_findChain_21 : decode cX12_findChain 21 = .ok (.aload_n 0, 1) := by decide +kernel
theorem dX12_findChain_22 : decode cX12_findChain 22 = .ok (.getfield 113, 3) := by decide +kernel
theorem dX12_findChain_25 : decode cX12_findChain 25 = .ok (.aload_n 0, 1) := by decide +kernel
theorem dX12_findChain_26 : decode cX12_findChain 26 = .ok (.getfield 304, 3) := by decide +kernel
theorem dX12_findChain_29 : decode cX12_findChain 29 = .ok (.aload_n 0, 1) := by decide +kernel
theorem dX12_findChain_30 : decode cX12_findChain 30 = .ok (.getfield 307, 3) := by decide +kernel
theorem dX12_findChain_33 : decode cX12_findChain 33 = .ok (.iastore, 1) := by decide +kernel
theorem dX12_findChain_34 : decode cX12_findChain 34 = .ok (.aload_n 0, 1) := by decide +kernel
theorem dX12_findChain_35 : decode cX12_findChain 35 = .ok (.getfield 116, 3) := by decide +kernel
theorem dX12_findChain_38 : decode cX12_findChain 38 = .ok (.aload_n 0, 1) := by decide +kernel
theorem dX12_findChain_39 : decode cX12_findChain 39 = .ok (.getfield 304, 3) := by decide +kernel
theorem dX12_findChain_42 : decode cX12_findChain 42 = .ok (.aload_n 0, 1) := by decide +kernel
theorem dX12_findChain_43 : decode cX12_findChain 43 = .ok (.getfield 43, 3) := by decide +kernel
theorem dX12_findChain_46 : decode cX12_findChain 46 = .ok (.iload_n 2, 1) := by decide +kernel
theorem dX12_findChain_47 : decode cX12_findChain 47 = .ok (.iaload, 1) := by decide +kernel
theorem dX12_findChain_48 : decode cX12_findChain 48 = .ok (.iastore, 1) := by decide +kernel
theorem dX12_findChain_49 : decode cX12_findChain 49 = .ok (.aload_n 0, 1) := by decide +kernel
theorem dX12_findChain_50 : decode cX12_findChain 50 = .ok (.getfield 119, 3) := by decide +kernel
theorem dX12_findChain_53 : decode cX12_findChain 53 = .ok (.aload_n 0, 1) := by decide +kernel
theorem dX12_findChain_54 : decode cX12_findChain 54 = .ok (.getfield 304, 3) := by decide +kernel
theorem dX12_findChain_57 : decode cX12_findChain 57 = .ok (.iload_n 2, 1) := by decide +kernel
theorem dX12_findChain_58 : decode cX12_findChain 58 = .ok (.iastore, 1) := by decide +kernel
theorem dX12_findChain_59 : decode cX12_findChain 59 = .ok (.aload_n 0, 1) := by decide +kernel
theorem dX12_findChain_60 : decode cX12_findChain 60 = .ok (.dup, 1) := by decide +kernel
theorem dX12_findChain_61 : decode cX12_findChain 61 = .ok (.getfield 304, 3) := by decide +kernel
theorem dX12_findChain_64 : decode cX12_findChain 64 = .ok (.iconst 1, 1) := by decide +kernel
theorem dX12_findChain_65 : decode cX12_findChain 65 = .ok (.iadd, 1) := by decide +kernel
theorem dX12_findChain_66 : decode cX12_findChain 66 = .ok (.putfield 304, 3) := by decide +kernel
theorem dX12_findChain_69 : decode cX12_findChain 69 = .ok (.aload_n 0, 1) := by decide +kernel
theorem dX12_findChain_70 : decode cX12_findChain 70 = .ok (.iload_n 2, 1) := by decide +kernel
theorem dX12_findChain_71 : decode cX12_findChain 71 = .ok (.putfield 307, 3) := by decide +kernel
theorem dX12_findChain_74 : decode cX12_findChain 74 = .ok (.aload_n 0, 1) := by decide +kernel
theorem dX12_findChain_75 : decode cX12_findChain 75 = .ok (.aload_n 0, 1) := by decide +kernel
theorem dX12_findChain_76 : decode cX12_findChain 76 = .ok (.getfield 307, 3) := by decide +kernel
theorem dX12_findChain_79 : decode cX12_findChain 79 = .ok (.iload_n 1, 1) := by decide +kernel
theorem dX12_findChain_80 : decode cX12_findChain 80 = .ok (.invokevirtual 310, 3) := by decide +kernel
theorem dX12_findChain_83 : decode cX12_findChain 83 = .ok (.istore_n 2, 1) := by decide +kernel
theorem dX12_findChain_84 : decode cX12_findChain 84 = .ok (.goto (-67), 3) := by decide +kernel
theorem dX12_findChain_87 : decode cX12_findChain 87 = .ok (.return_, 1) := by decide +kernel
theorem dX12_chain_0 : decode cX12_chain 0 = .ok (.aload_n 0, 1) := by decide +kernel
theorem dX12_chain_1 : decode cX12_chain 1 = .ok (.iload_n 1, 1) := by decide +kernel
theorem dX12_chain_2 : decode cX12_chain 2 = .ok (.invokevirtual 194, 3) := by decide +kernel
theorem dX12_chain_5 : decode cX12_chain 5 = .ok (.ifCond .ne 9, 3) := by decide +kernel
theorem dX12_chain_8 : decode cX12_chain 8 = .ok (.aload_n 0, 1) := by decide +kernel
theorem dX12_chain_9 : decode cX12_chain 9 = .ok (.iconst (-1), 1) := by decide +kernel
theorem dX12_chain_10 : decode cX12_chain 10 = .ok (.invokevirtual 174, 3) := by decide +kernel
theorem dX12_chain_13 : decode cX12_chain 13 = .ok (.ireturn, 1) := by decide +kernel
theorem dX12_chain_14 : decode cX12_chain 14 = .ok (.aload_n 0, 1) := by decide +kernel
theorem dX12_chain_15 : decode cX12_chain 15 = .ok (.iload_n 1, 1) := by decide +kernel
theorem dX12_chain_16 : decode cX12_chain 16 = .ok (.invokevirtual 200, 3) := by decide +kernel
theorem dX12_chain_19 : decode cX12_chain 19 = .ok (.ifCond .eq 12, 3) := by decide +kernel
theorem dX12_chain_22 : decode cX12_chain 22 = .ok (.aload_n 0, 1) := by decide +kernel
theorem dX12_chain_23 : decode cX12_chain 23 = .ok (.getfield 43, 3) := by decide +kernel
theorem dX12_chain_26 : decode cX12_chain 26 = .ok (.iload_n 1, 1) := by decide +kernel
theorem dX12_chain_27 : decode cX12_chain 27 = .ok (.iaload, 1) := by decide +kernel
theorem dX12_chain_28 : decode cX12_chain 28 = .ok (.ifCond .ge 10, 3) := by decide +kernel
theorem dX12_chain_31 : decode cX12_chain 31 = .ok (.aload_n 0, 1) := by decide +kernel
theorem dX12_chain_32 : decode cX12_chain 32 = .ok (.bipush (-3), 2) := by decide +kernel
theorem dX12_chain_34 : decode cX12_chain 34 = .ok (.invokevirtual 174, 3) := by decide +kernel
theorem dX12_chain_37 : decode cX12_chain 37 = .ok (.ireturn, 1) := by decide +kernel
theorem dX12_chain_38 : decode cX12_chain 38 = .ok (.aload_n 0, 1) := by decide +kernel
theorem dX12_chain_39 : decode cX12_chain 39 = .ok (.iload_n 1, 1) := by decide +kernel
theorem dX12_chain_40 : decode cX12_chain 40 = .ok (.invokevirtual 313, 3) := by decide +kernel
theorem dX12_chain_43 : decode cX12_chain 43 = .ok (.aload_n 0, 1) := by decide +kernel
theorem dX12_chain_44 : decode cX12_chain 44 = .ok (.getfield 304, 3) := by decide +kernel
theorem dX12_chain_47 : decode cX12_chain 47 = .ok (.ireturn, 1) := by decide +kernel
theorem dX12_chainOf_0 : decode cX12_chainOf 0 = .ok (.aload_n 0, 1) := by decide +kernel
theorem dX12_chainOf_1 : decode cX12_chainOf 1 = .ok (.iload_n 1, 1) := by decide +kernel
theorem dX12_chainOf_2 : decode cX12_chainOf 2 = .ok (.invokevirtual 194, 3) := by decide +kernel
theorem dX12_chainOf_5 : decode cX12_chainOf 5 = .ok (.ifCond .ne 9, 3) := by decide +kernel
theorem dX12_chainOf_8 : decode cX12_chainOf 8 = .ok (.aload_n 0, 1) := by decide +kernel
theorem dX12_chainOf_9 : decode cX12_chainOf 9 = .ok (.iconst (-1), 1) := by decide +kernel
theorem dX12_chainOf_10 : decode cX12_chainOf 10 = .ok (.invokevirtual 174, 3) := by decide +kernel
theorem dX12_chainOf_13 : decode cX12_chainOf 13 = .ok (.ireturn, 1) := by decide +kernel
theorem dX12_chainOf_14 : decode cX12_chainOf 14 = .ok (.iload_n 3, 1) := by decide +kernel
theorem dX12_chainOf_15 : decode cX12_chainOf 15 = .ok (.iconst 0, 1) := by decide +kernel
theorem dX12_chainOf_16 : decode cX12_chainOf 16 = .ok (.iconst 3, 1) := by decide +kernel
theorem dX12_chainOf_17 : decode cX12_chainOf 17 = .ok (.invokestatic 157, 3) := by decide +kernel
theorem dX12_chainOf_20 : decode cX12_chainOf 20 = .ok (.ifCond .ne 10, 3) := by decide +kernel
theorem dX12_chainOf_23 : decode cX12_chainOf 23 = .ok (.aload_n 0, 1) := by decide +kernel
theorem dX12_chainOf_24 : decode cX12_chainOf 24 = .ok (.bipush (-2), 2) := by decide +kernel
theorem dX12_chainOf_26 : decode cX12_chainOf 26 = .ok (.invokevirtual 174, 3) := by decide +kernel
theorem dX12_chainOf_29 : decode cX12_chainOf 29 = .ok (.ireturn, 1) := by decide +kernel
theorem dX12_chainOf_30 : decode cX12_chainOf 30 = .ok (.aload_n 0, 1) := by decide +kernel
theorem dX12_chainOf_31 : decode cX12_chainOf 31 = .ok (.iload_n 1, 1) := by decide +kernel
theorem dX12_chainOf_32 : decode cX12_chainOf 32 = .ok (.invokevirtual 200, 3) := by decide +kernel
theorem dX12_chainOf_35 : decode cX12_chainOf 35 = .ok (.ifCond .eq 12, 3) := by decide +kernel
theorem dX12_chainOf_38 : decode cX12_chainOf 38 = .ok (.aload_n 0, 1) := by decide +kernel
theorem dX12_chainOf_39 : decode cX12_chainOf 39 = .ok (.getfield 43, 3) := by decide +kernel
theorem dX12_chainOf_42 : decode cX12_chainOf 42 = .ok (.iload_n 1, 1) := by decide +kernel
theorem dX12_chainOf_43 : decode cX12_chainOf 43 = .ok (.iaload, 1) := by decide +kernel
theorem dX12_chainOf_44 : decode cX12_chainOf 44 = .ok (.ifCond .ge 10, 3) := by decide +kernel
theorem dX12_chainOf_47 : decode cX12_chainOf 47 = .ok (.aload_n 0, 1) := by decide +kernel
theorem dX12_chainOf_48 : decode cX12_chainOf 48 = .ok (.bipush (-3), 2) := by decide +kernel
theorem dX12_chainOf_50 : decode cX12_chainOf 50 = .ok (.invokevirtual 174, 3) := by decide +kernel
theorem dX12_chainOf_53 : decode cX12_chainOf 53 = .ok (.ireturn, 1) := by decide +kernel
theorem dX12_chainOf_54 : decode cX12_chainOf 54 = .ok (.aload_n 0, 1) := by decide +kernel
theorem dX12_chainOf_55 : decode cX12_chainOf 55 = .ok (.iload_n 1, 1) := by decide +kernel
theorem dX12_chainOf_56 : decode cX12_chainOf 56 = .ok (.invokevirtual 313, 3) := by decide +kernel
theorem dX12_chainOf_59 : decode cX12_chainOf 59 = .ok (.iload_n 3, 1) := by decide +kernel
theorem dX12_chainOf_60 : decode cX12_chainOf 60 = .ok (.iconst 3, 1) := by decide +kernel
theorem dX12_chainOf_61 : decode cX12_chainOf 61 = .ok (.if_icmp .ne 8, 3) := by decide +kernel
theorem dX12_chainOf_64 : decode cX12_chainOf 64 = .ok (.aload_n 0, 1) := by decide +kernel
theorem dX12_chainOf_65 : decode cX12_chainOf 65 = .ok (.getfield 307, 3) := by decide +kernel
theorem dX12_chainOf_68 : decode cX12_chainOf 68 = .ok (.ireturn, 1) := by decide +kernel
theorem dX12_chainOf_69 : decode cX12_chainOf 69 = .ok (.iload_n 2, 1) := by decide +kernel
theorem dX12_chainOf_70 : decode cX12_chainOf 70 = .ok (.iconst 0, 1) := by decide +kernel
theorem dX12_chainOf_71 : decode cX12_chainOf 71 = .ok (.aload_n 0, 1) := by decide +kernel
theorem dX12_chainOf_72 : decode cX12_chainOf 72 = .ok (.getfield 304, 3) := by decide +kernel
theorem dX12_chainOf_75 : decode cX12_chainOf 75 = .ok (.iconst 1, 1) := by decide +kernel
theorem dX12_chainOf_76 : decode cX12_chainOf 76 = .ok (.isub, 1) := by decide +kernel
theorem dX12_chainOf_77 : decode cX12_chainOf 77 = .ok (.invokestatic 157, 3) := by decide +kernel
theorem dX12_chainOf_80 : decode cX12_chainOf 80 = .ok (.ifCond .ne 9, 3) := by decide +kernel
theorem dX12_chainOf_83 : decode cX12_chainOf 83 = .ok (.aload_n 0, 1) := by decide +kernel
theorem dX12_chainOf_84 : decode cX12_chainOf 84 = .ok (.iconst (-1), 1) := by decide +kernel
theorem dX12_chainOf_85 : decode cX12_chainOf 85 = .ok (.invokevirtual 174, 3) := by decide +kernel
theorem dX12_chainOf_88 : decode cX12_chainOf 88 = .ok (.ireturn, 1) := by decide +kernel
theorem dX12_chainOf_89 : decode cX12_chainOf 89 = .ok (.iload_n 3, 1) := by decide +kernel
theorem dX12_chainOf_90 : decode cX12_chainOf 90 = .ok (.ifCond .ne 12, 3) := by decide +kernel
theorem dX12_chainOf_93 : decode cX12_chainOf 93 = .ok (.aload_n 0, 1) := by decide +kernel
theorem dX12_chainOf_94 : decode cX12_chainOf 94 = .ok (.getfield 113, 3) := by decide +kernel
theorem dX12_chainOf_97 : decode cX12_chainOf 97 = .ok (.iload_n 2, 1) := by decide +kernel
theorem dX12_chainOf_98 : decode cX12_chainOf 98 = .ok (.iaload, 1) := by decide +kernel
theorem dX12_chainOf_99 : decode cX12_chainOf 99 = .ok (.goto 23, 3) := by decide +kernel
theorem dX12_chainOf_102 : decode cX12_chainOf 102 = .ok (.iload_n 3, 1) := by decide +kernel
theorem dX12_chainOf_103 : decode cX12_chainOf 103 = .ok (.iconst 1, 1) := by decide +kernel
theorem dX12_chainOf_104 : decode cX12_chainOf 104 = .ok (.if_icmp .ne 12, 3) := by decide +kernel
theorem dX12_chainOf_107 : decode cX12_chainOf 107 = .ok (.aload_n 0, 1) := by decide +kernel
theorem dX12_chainOf_108 : decode cX12_chainOf 108 = .ok (.getfield 116, 3) := by decide +kernel
theorem dX12_chainOf_111 : decode cX12_chainOf 111 = .ok (.iload_n 2, 1) := by decide +kernel
theorem dX12_chainOf_112 : decode cX12_chainOf 112 = .ok (.iaload, 1) := by decide +kernel
theorem dX12_chainOf_113 : decode cX12_chainOf 113 = .ok (.goto 9, 3) := by decide +kernel
theorem dX12_chainOf_116 : decode cX12_chainOf 116 = .ok (.aload_n 0, 1) := by decide +kernel
theorem dX12_chainOf_117 : decode cX12_chainOf 117 = .ok (.getfield 119, 3) := by decide +kernel
theorem dX12_chainOf_120 : decode cX12_chainOf 120 = .ok (.iload_n 2, 1) := by decide +kernel
theorem dX12_chainOf_121 : decode cX12_chainOf 121 = .ok (.iaload, 1) := by decide +kernel
theorem dX12_chainOf_122 : decode cX12_chainOf 122 = .ok (.ireturn, 1) := by decide +kernel
theorem dX12_leaver_0 : decode cX12_leaver 0 = .ok (.aload_n 0, 1) := by decide +kernel
theorem dX12_leaver_1 : decode cX12_leaver 1 = .ok (.iload_n 1, 1) := by decide +kernel
theorem dX12_leaver_2 : decode cX12_leaver 2 = .ok (.invokevirtual 194, 3) := by decide +kernel
theorem dX12_leaver_5 : decode cX12_leaver 5 = .ok (.ifCond .ne 9, 3) := by decide +kernel
theorem dX12_leaver_8 : decode cX12_leaver 8 = .ok (.aload_n 0, 1) := by decide +kernel
theorem dX12_leaver_9 : decode cX12_leaver 9 = .ok (.iconst (-1), 1) := by decide +kernel
theorem dX12_leaver_10 : decode cX12_leaver 10 = .ok (.invokevirtual 174, 3) := by decide +kernel
theorem dX12_leaver_13 : decode cX12_leaver 13 = .ok (.ireturn, 1) := by decide +kernel
theorem dX12_leaver_14 : decode cX12_leaver 14 = .ok (.iconst 0, 1) := by decide +kernel
theorem dX12_leaver_15 : decode cX12_leaver 15 = .ok (.istore_n 2, 1) := by decide +kernel
theorem dX12_leaver_16 : decode cX12_leaver 16 = .ok (.iconst 0, 1) := by decide +kernel
theorem dX12_leaver_17 : decode cX12_leaver 17 = .ok (.istore_n 3, 1) := by decide +kernel
theorem dX12_leaver_18 : decode cX12_leaver 18 = .ok (.iload_n 3, 1) := by decide +kernel
theorem dX12_leaver_19 : decode cX12_leaver 19 = .ok (.aload_n 0, 1) := by decide +kernel
theorem dX12_leaver_20 : decode cX12_leaver 20 = .ok (.getfield 316, 3) := by decide +kernel
theorem dX12_leaver_23 : decode cX12_leaver 23 = .ok (.if_icmp .ge 29, 3) := by decide +kernel
theorem dX12_leaver_26 : decode cX12_leaver 26 = .ok (.iload_n 2, 1) := by decide +kernel
theorem dX12_leaver_27 : decode cX12_leaver 27 = .ok (.ifCond .ne 13, 3) := by decide +kernel
theorem dX12_leaver_30 : decode cX12_leaver 30 = .ok (.aload_n 0, 1) := by decide +kernel
theorem dX12_leaver_31 : decode cX12_leaver 31 = .ok (.getfield 122, 3) := by decide +kernel
theorem dX12_leaver_34 : decode cX12_leaver 34 = .ok (.iload_n 3, 1) := by decide +kernel
theorem dX12_leaver_35 : decode cX12_leaver 35 = .ok (.iaload, 1) := by decide +kernel
theorem dX12_leaver_36 : decode cX12_leaver 36 = .ok (.iload_n 1, 1) := by decide +kernel
theorem dX12_leaver_37 : decode cX12_leaver 37 = .ok (.if_icmp .ne 7, 3) := by decide +kernel
theorem dX12_leaver_40 : decode cX12_leaver 40 = .ok (.iconst 1, 1) := by decide +kernel
theorem dX12_leaver_41 : decode cX12_leaver 41 = .ok (.goto 4, 3) := by decide +kernel
theorem dX12_leaver_44 : decode cX12_leaver 44 = .ok (.iconst 0, 1) := by decide +kernel
theorem dX12_leaver_45 : decode cX12_leaver 45 = .ok (.istore_n 2, 1) := by decide +kernel
theorem dX12_leaver_46 : decode cX12_leaver 46 = .ok (.iinc 3 1, 3) := by decide +kernel
theorem dX12_leaver_49 : decode cX12_leaver 49 = .ok (.goto (-31), 3) := by decide +kernel
theorem dX12_leaver_52 : decode cX12_leaver 52 = .ok (.aload_n 0, 1) := by decide +kernel
theorem dX12_leaver_53 : decode cX12_leaver 53 = .ok (.iload_n 1, 1) := by decide +kernel
theorem dX12_leaver_54 : decode cX12_leaver 54 = .ok (.invokevirtual 200, 3) := by decide +kernel
theorem dX12_leaver_57 : decode cX12_leaver 57 = .ok (.ifCond .eq 7, 3) := by decide +kernel
theorem dX12_leaver_60 : decode cX12_leaver 60 = .ok (.iload_n 2, 1) := by decide +kernel
theorem dX12_leaver_61 : decode cX12_leaver 61 = .ok (.ifCond .eq 10, 3) := by decide +kernel
theorem dX12_leaver_64 : decode cX12_leaver 64 = .ok (.aload_n 0, 1) := by decide +kernel
theorem dX12_leaver_65 : decode cX12_leaver 65 = .ok (.bipush (-3), 2) := by decide +kernel
theorem dX12_leaver_67 : decode cX12_leaver 67 = .ok (.invokevirtual 174, 3) := by decide +kernel
theorem dX12_leaver_70 : decode cX12_leaver 70 = .ok (.ireturn, 1) := by decide +kernel
theorem dX12_leaver_71 : decode cX12_leaver 71 = .ok (.aload_n 0, 1) := by decide +kernel
theorem dX12_leaver_72 : decode cX12_leaver 72 = .ok (.getfield 316, 3) := by decide +kernel
theorem dX12_leaver_75 : decode cX12_leaver 75 = .ok (.bipush 8, 2) := by decide +kernel
theorem dX12_leaver_77 : decode cX12_leaver 77 = .ok (.if_icmp .ne 10, 3) := by decide +kernel
theorem dX12_leaver_80 : decode cX12_leaver 80 = .ok (.aload_n 0, 1) := by decide +kernel
theorem dX12_leaver_81 : decode cX12_leaver 81 = .ok (.bipush (-6), 2) := by decide +kernel
theorem dX12_leaver_83 : decode cX12_leaver 83 = .ok (.invokevirtual 174, 3) := by decide +kernel
theorem dX12_leaver_86 : decode cX12_leaver 86 = .ok (.ireturn, 1) := by decide +kernel
theorem dX12_leaver_87 : decode cX12_leaver 87 = .ok (.aload_n 0, 1) := by decide +kernel
theorem dX12_leaver_88 : decode cX12_leaver 88 = .ok (.getfield 122, 3) := by decide +kernel
theorem dX12_leaver_91 : decode cX12_leaver 91 = .ok (.aload_n 0, 1) := by decide +kernel
theorem dX12_leaver_92 : decode cX12_leaver 92 = .ok (.getfield 316, 3) := by decide +kernel
theorem dX12_leaver_95 : decode cX12_leaver 95 = .ok (.iload_n 1, 1) := by decide +kernel
theorem dX12_leaver_96 : decode cX12_leaver 96 = .ok (.iastore, 1) := by decide +kernel
theorem dX12_leaver_97 : decode cX12_leaver 97 = .ok (.aload_n 0, 1) := by decide +kernel
theorem dX12_leaver_98 : decode cX12_leaver 98 = .ok (.dup, 1) := by decide +kernel
theorem dX12_leaver_99 : decode cX12_leaver 99 = .ok (.getfield 316, 3) := by decide +kernel
theorem dX12_leaver_102 : decode cX12_leaver 102 = .ok (.iconst 1, 1) := by decide +kernel
theorem dX12_leaver_103 : decode cX12_leaver 103 = .ok (.iadd, 1) := by decide +kernel
theorem dX12_leaver_104 : decode cX12_leaver 104 = .ok (.putfield 316, 3) := by decide +kernel
theorem dX12_leaver_107 : decode cX12_leaver 107 = .ok (.aload_n 0, 1) := by decide +kernel
theorem dX12_leaver_108 : decode cX12_leaver 108 = .ok (.getfield 316, 3) := by decide +kernel
theorem dX12_leaver_111 : decode cX12_leaver 111 = .ok (.ireturn, 1) := by decide +kernel
theorem dX12_clear_0 : decode cX12_clear 0 = .ok (.aload_n 0, 1) := by decide +kernel
theorem dX12_clear_1 : decode cX12_clear 1 = .ok (.getfield 316, 3) := by decide +kernel
theorem dX12_clear_4 : decode cX12_clear 4 = .ok (.istore_n 1, 1) := by decide +kernel
theorem dX12_clear_5 : decode cX12_clear 5 = .ok (.aload_n 0, 1) := by decide +kernel
theorem dX12_clear_6 : decode cX12_clear 6 = .ok (.iconst 0, 1) := by decide +kernel
theorem dX12_clear_7 : decode cX12_clear 7 = .ok (.putfield 316, 3) := by decide +kernel
theorem dX12_clear_10 : decode cX12_clear 10 = .ok (.iload_n 1, 1) := by decide +kernel
theorem dX12_clear_11 : decode cX12_clear 11 = .ok (.ireturn, 1) := by decide +kernel
theorem dX12_amount_0 : decode cX12_amount 0 = .ok (.iload_n 0, 1) := by decide +kernel
theorem dX12_amount_1 : decode cX12_amount 1 = .ok (.ifCond .ge 8, 3) := by decide +kernel
theorem dX12_amount_4 : decode cX12_amount 4 = .ok (.iload_n 0, 1) := by decide +kernel
theorem dX12_amount_5 : decode cX12_amount 5 = .ok (.ineg, 1) := by decide +kernel
theorem dX12_amount_6 : decode cX12_amount 6 = .ok (.goto 4, 3) := by decide +kernel
theorem dX12_amount_9 : decode cX12_amount 9 = .ok (.iload_n 0, 1) := by decide +kernel
theorem dX12_amount_10 : decode cX12_amount 10 = .ok (.ireturn, 1) := by decide +kernel
theorem dX12_fitOf_0 : decode cX12_fitOf 0 = .ok (.aload_n 0, 1) := by decide +kernel
theorem dX12_fitOf_1 : decode cX12_fitOf 1 = .ok (.getfield 43, 3) := by decide +kernel
theorem dX12_fitOf_4 : decode cX12_fitOf 4 = .ok (.iload_n 1, 1) := by decide +kernel
theorem dX12_fitOf_5 : decode cX12_fitOf 5 = .ok (.iaload, 1) := by decide +kernel
theorem dX12_fitOf_6 : decode cX12_fitOf 6 = .ok (.ifCond .ge 7, 3) := by decide +kernel
theorem dX12_fitOf_9 : decode cX12_fitOf 9 = .ok (.iconst 1, 1) := by decide +kernel
theorem dX12_fitOf_10 : decode cX12_fitOf 10 = .ok (.goto 14, 3) := by decide +kernel
theorem dX12_fitOf_13 : decode cX12_fitOf 13 = .ok (.aload_n 0, 1) := by decide +kernel
theorem dX12_fitOf_14 : decode cX12_fitOf 14 = .ok (.getfield 22, 3) := by decide +kernel
theorem dX12_fitOf_17 : decode cX12_fitOf 17 = .ok (.aload_n 0, 1) := by decide +kernel
theorem dX12_fitOf_18 : decode cX12_fitOf 18 = .ok (.getfield 43, 3) := by decide +kernel
theorem dX12_fitOf_21 : decode cX12_fitOf 21 = .ok (.iload_n 1, 1) := by decide +kernel
theorem dX12_fitOf_22 : decode cX12_fitOf 22 = .ok (.iaload, 1) := by decide +kernel
theorem dX12_fitOf_23 : decode cX12_fitOf 23 = .ok (.iaload, 1) := by decide +kernel
theorem dX12_fitOf_24 : decode cX12_fitOf 24 = .ok (.istore_n 3, 1) := by decide +kernel
theorem dX12_fitOf_25 : decode cX12_fitOf 25 = .ok (.aload_n 0, 1) := by decide +kernel
theorem dX12_fitOf_26 : decode cX12_fitOf 26 = .ok (.getfield 43, 3) := by decide +kernel
theorem dX12_fitOf_29 : decode cX12_fitOf 29 = .ok (.iload_n 1, 1) := by decide +kernel
theorem dX12_fitOf_30 : decode cX12_fitOf 30 = .ok (.iaload, 1) := by decide +kernel
theorem dX12_fitOf_31 : decode cX12_fitOf 31 = .ok (.ifCond .ge 7, 3) := by decide +kernel
theorem dX12_fitOf_34 : decode cX12_fitOf 34 = .ok (.iconst 0, 1) := by decide +kernel
theorem dX12_fitOf_35 : decode cX12_fitOf 35 = .ok (.goto 24, 3) := by decide +kernel
theorem dX12_fitOf_38 : decode cX12_fitOf 38 = .ok (.aload_n 0, 1) := by decide +kernel
theorem dX12_fitOf_39 : decode cX12_fitOf 39 = .ok (.getfield 25, 3) := by decide +kernel
theorem dX12_fitOf_42 : decode cX12_fitOf 42 = .ok (.aload_n 0, 1) := by decide +kernel
theorem dX12_fitOf_43 : decode cX12_fitOf 43 = .ok (.getfield 43, 3) := by decide +kernel
theorem dX12_fitOf_46 : decode cX12_fitOf 46 = .ok (.iload_n 1, 1) := by decide +kernel
theorem dX12_fitOf_47 : decode cX12_fitOf 47 = .ok (.iaload, 1) := by decide +kernel
theorem dX12_fitOf_48 : decode cX12_fitOf 48 = .ok (.iaload, 1) := by decide +kernel
theorem dX12_fitOf_49 : decode cX12_fitOf 49 = .ok (.aload_n 0, 1) := by decide +kernel
theorem dX12_fitOf_50 : decode cX12_fitOf 50 = .ok (.getfield 25, 3) := by decide +kernel
theorem dX12_fitOf_53 : decode cX12_fitOf 53 = .ok (.iload_n 2, 1) := by decide +kernel
theorem dX12_fitOf_54 : decode cX12_fitOf 54 = .ok (.iaload, 1) := by decide +kernel
theorem dX12_fitOf_55 : decode cX12_fitOf 55 = .ok (.isub, 1) := by decide +kernel
theorem dX12_fitOf_56 : decode cX12_fitOf 56 = .ok (.invokestatic 319, 3) := by decide +kernel
theorem dX12_fitOf_59 : decode cX12_fitOf 59 = .ok (.istore 4, 2) := by decide +kernel
theorem dX12_fitOf_61 : decode cX12_fitOf 61 = .ok (.aload_n 0, 1) := by decide +kernel
theorem dX12_fitOf_62 : decode cX12_fitOf 62 = .ok (.iload_n 1, 1) := by decide +kernel
theorem dX12_fitOf_63 : decode cX12_fitOf 63 = .ok (.iload_n 2, 1) := by decide +kernel
theorem dX12_fitOf_64 : decode cX12_fitOf 64 = .ok (.invokevirtual 223, 3) := by decide +kernel
theorem dX12_fitOf_67 : decode cX12_fitOf 67 = .ok (.bipush 10, 2) := by decide +kernel
theorem dX12_fitOf_69 : decode cX12_fitOf 69 = .ok (.iload_n 3, 1) := by decide +kernel
theorem dX12_fitOf_70 : decode cX12_fitOf 70 = .ok (.aload_n 0, 1) := by decide +kernel
theorem dX12_fitOf_71 : decode cX12_fitOf 71 = .ok (.getfield 22, 3) := by decide +kernel
theorem dX12_fitOf_74 : decode cX12_fitOf 74 = .ok (.iload_n 2, 1) := by decide +kernel
theorem dX12_fitOf_75 : decode cX12_fitOf 75 = .ok (.iaload, 1) := by decide +kernel
theorem dX12_fitOf_76 : decode cX12_fitOf 76 = .ok (.isub, 1) := by decide +kernel
theorem dX12_fitOf_77 : decode cX12_fitOf 77 = .ok (.invokestatic 319, 3) := by decide +kernel
theorem dX12_fitOf_80 : decode cX12_fitOf 80 = .ok (.imul, 1) := by decide +kernel
theorem dX12_fitOf_81 : decode cX12_fitOf 81 = .ok (.isub, 1) := by decide +kernel
theorem dX12_fitOf_82 : decode cX12_fitOf 82 = .ok (.iconst 2, 1) := by decide +kernel
theorem dX12_fitOf_83 : decode cX12_fitOf 83 = .ok (.iload 4, 2) := by decide +kernel
theorem dX12_fitOf_85 : decode cX12_fitOf 85 = .ok (.imul, 1) := by decide +kernel
theorem dX12_fitOf_86 : decode cX12_fitOf 86 = .ok (.isub, 1) := by decide +kernel
theorem dX12_fitOf_87 : decode cX12_fitOf 87 = .ok (.ireturn, 1) := by decide +kernel
theorem dX12_fit_0 : decode cX12_fit 0 = .ok (.aload_n 0, 1) := by decide +kernel
theorem dX12_fit_1 : decode cX12_fit 1 = .ok (.iload_n 1, 1) := by decide +kernel
theorem dX12_fit_2 : decode cX12_fit 2 = .ok (.invokevirtual 194, 3) := by decide +kernel
theorem dX12_fit_5 : decode cX12_fit 5 = .ok (.ifCond .eq 20, 3) := by decide +kernel
theorem dX12_fit_8 : decode cX12_fit 8 = .ok (.aload_n 0, 1) := by decide +kernel
theorem dX12_fit_9 : decode cX12_fit 9 = .ok (.iload_n 2, 1) := by decide +kernel
theorem dX12_fit_10 : decode cX12_fit 10 = .ok (.invokevirtual 181, 3) := by decide +kernel
theorem dX12_fit_13 : decode cX12_fit 13 = .ok (.ifCond .eq 12, 3) := by decide +kernel
theorem dX12_fit_16 : decode cX12_fit 16 = .ok (.aload_n 0, 1) := by decide +kernel
theorem dX12_fit_17 : decode cX12_fit 17 = .ok (.iload_n 1, 1) := by decide +kernel
theorem dX12_fit_18 : decode cX12_fit 18 = .ok (.iload_n 2, 1) := by decide +kernel
theorem dX12_fit_19 : decode cX12_fit 19 = .ok (.invokevirtual 322, 3) := by decide +kernel
theorem dX12_fit_22 : decode cX12_fit 22 = .ok (.goto 8, 3) := by decide +kernel
theorem dX12_fit_25 : decode cX12_fit 25 = .ok (.aload_n 0, 1) := by decide +kernel
theorem dX12_fit_26 : decode cX12_fit 26 = .ok (.iconst (-1), 1) := by decide +kernel
theorem dX12_fit_27 : decode cX12_fit 27 = .ok (.invokevirtual 197, 3) := by decide +kernel
theorem dX12_fit_30 : decode cX12_fit 30 = .ok (.ireturn, 1) := by decide +kernel
theorem dX12_worth_0 : decode cX12_worth 0 = .ok (.aload_n 0, 1) := by decide +kernel
theorem dX12_worth_1 : decode cX12_worth 1 = .ok (.getfield 122, 3) := by decide +kernel
theorem dX12_worth_4 : decode cX12_worth 4 = .ok (.iload_n 1, 1) := by decide +kernel
theorem dX12_worth_5 : decode cX12_worth 5 = .ok (.iaload, 1) := by decide +kernel
theorem dX12_worth_6 : decode cX12_worth 6 = .ok (.istore 4, 2) := by decide +kernel
theorem dX12_worth_8 : decode cX12_worth 8 = .ok (.iload_n 3, 1) := by decide +kernel
theorem dX12_worth_9 : decode cX12_worth 9 = .ok (.iload_n 2, 1) := by decide +kernel
theorem dX12_worth_10 : decode cX12_worth 10 = .ok (.ishr, 1) := by decide +kernel
theorem dX12_worth_11 : decode cX12_worth 11 = .ok (.iconst 1, 1) := by decide +kernel
theorem dX12_worth_12 : decode cX12_worth 12 = .ok (.iand, 1) := by decide +kernel
theorem dX12_worth_13 : decode cX12_worth 13 = .ok (.iconst 1, 1) := by decide +kernel
theorem dX12_worth_14 : decode cX12_worth 14 = .ok (.if_icmp .eq 29, 3) := by decide +kernel
theorem dX12_worth_17 : decode cX12_worth 17 = .ok (.aload_n 0, 1) := by decide +kernel
theorem dX12_worth_18 : decode cX12_worth 18 = .ok (.iload 4, 2) := by decide +kernel
theorem dX12_worth_20 : decode cX12_worth 20 = .ok (.invokevirtual 200, 3) := by decide +kernel
theorem dX12_worth_23 : decode cX12_worth 23 = .ok (.ifCond .eq 20, 3) := by decide +kernel
theorem dX12_worth_26 : decode cX12_worth 26 = .ok (.aload_n 0, 1) := by decide +kernel
theorem dX12_worth_27 : decode cX12_worth 27 = .ok (.iload 4, 2) := by decide +kernel
theorem dX12_worth_29 : decode cX12_worth 29 = .ok (.aload_n 0, 1) := by decide +kernel
theorem dX12_worth_30 : decode cX12_worth 30 = .ok (.getfield 125, 3) := by decide +kernel
theorem dX12_worth_33 : decode cX12_worth 33 = .ok (.iload_n 2, 1) := by decide +kernel
theorem dX12_worth_34 : decode cX12_worth 34 = .ok (.iaload, 1) := by decide +kernel
theorem dX12_worth_35 : decode cX12_worth 35 = .ok (.invokevirtual 322, 3) := by decide +kernel
theorem dX12_worth_38 : decode cX12_worth 38 = .ok (.bipush 30, 2) := by decide +kernel
theorem dX12_worth_40 : decode cX12_worth 40 = .ok (.if_icmp .ge 5, 3) := by decide +kernel
theorem dX12_worth_43 : decode cX12_worth 43 = .ok (.iconst (-1), 1) := by decide +kernel
theorem dX12_worth_44 : decode cX12_worth 44 = .ok (.ireturn, 1) := by decide +kernel
theorem dX12_worth_45 : decode cX12_worth 45 = .ok (.aload_n 0, 1) := by decide +kernel
theorem dX12_worth_46 : decode cX12_worth 46 = .ok (.iload 4, 2) := by decide +kernel
theorem dX12_worth_48 : decode cX12_worth 48 = .ok (.invokevirtual 252, 3) := by decide +kernel
theorem dX12_worth_51 : decode cX12_worth 51 = .ok (.ifCond .eq 9, 3) := by decide +kernel
theorem dX12_worth_54 : decode cX12_worth 54 = .ok (.ldc_w 325, 3) := by decide +kernel
theorem dX12_worth_57 : decode cX12_worth 57 = .ok (.goto 4, 3) := by decide +kernel
theorem dX12_worth_60 : decode cX12_worth 60 = .ok (.iconst 0, 1) := by decide +kernel
theorem dX12_worth_61 : decode cX12_worth 61 = .ok (.sipush 10000, 3) := by decide +kernel
theorem dX12_worth_64 : decode cX12_worth 64 = .ok (.iadd, 1) := by decide +kernel
theorem dX12_worth_65 : decode cX12_worth 65 = .ok (.aload_n 0, 1) := by decide +kernel
theorem dX12_worth_66 : decode cX12_worth 66 = .ok (.iload 4, 2) := by decide +kernel
theorem dX12_worth_68 : decode cX12_worth 68 = .ok (.aload_n 0, 1) := by decide +kernel
theorem dX12_worth_69 : decode cX12_worth 69 = .ok (.getfield 125, 3) := by decide +kernel
theorem dX12_worth_72 : decode cX12_worth 72 = .ok (.iload_n 2, 1) := by decide +kernel
theorem dX12_worth_73 : decode cX12_worth 73 = .ok (.iaload, 1) := by decide +kernel
theorem dX12_worth_74 : decode cX12_worth 74 = .ok (.invokevirtual 322, 3) := by decide +kernel
theorem dX12_worth_77 : decode cX12_worth 77 = .ok (.iadd, 1) := by decide +kernel
theorem dX12_worth_78 : decode cX12_worth 78 = .ok (.aload_n 0, 1) := by decide +kernel
theorem dX12_worth_79 : decode cX12_worth 79 = .ok (.getfield 128, 3) := by decide +kernel
theorem dX12_worth_82 : decode cX12_worth 82 = .ok (.sipush 256, 3) := by decide +kernel
theorem dX12_worth_85 : decode cX12_worth 85 = .ok (.iload_n 1, 1) := by decide +kernel
theorem dX12_worth_86 : decode cX12_worth 86 = .ok (.iconst 1, 1) := by decide +kernel
theorem dX12_worth_87 : decode cX12_worth 87 = .ok (.iadd, 1) := by decide +kernel
theorem dX12_worth_88 : decode cX12_worth 88 = .ok (.imul, 1) := by decide +kernel
theorem dX12_worth_89 : decode cX12_worth 89 = .ok (.iload_n 3, 1) := by decide +kernel
theorem dX12_worth_90 : decode cX12_worth 90 = .ok (.iconst 1, 1) := by decide +kernel
theorem dX12_worth_91 : decode cX12_worth 91 = .ok (.iload_n 2, 1) := by decide +kernel
theorem dX12_worth_92 : decode cX12_worth 92 = .ok (.ishl, 1) := by decide +kernel
theorem dX12_worth_93 : decode cX12_worth 93 = .ok (.ior, 1) := by decide +kernel
theorem dX12_worth_94 : decode cX12_worth 94 = .ok (.iadd, 1) := by decide +kernel
theorem dX12_worth_95 : decode cX12_worth 95 = .ok (.iaload, 1) := by decide +kernel
theorem dX12_worth_96 : decode cX12_worth 96 = .ok (.iadd, 1) := by decide +kernel
theorem dX12_worth_97 : decode cX12_worth 97 = .ok (.ireturn, 1) := by decide +kernel
theorem dX12_findOffers_0 : decode cX12_findOffers 0 = .ok (.aload_n 0, 1) := by decide +kernel
theorem dX12_findOffers_1 : decode cX12_findOffers 1 = .ok (.iconst 0, 1) := by decide +kernel
theorem dX12_findOffers_2 : decode cX12_findOffers 2 = .ok (.putfield 326, 3) := by decide +kernel
theorem dX12_findOffers_5 : decode cX12_findOffers 5 = .ok (.iconst 0, 1) := by decide +kernel
theorem dX12_findOffers_6 : decode cX12_findOffers 6 = .ok (.istore_n 1, 1) := by decide +kernel
theorem dX12_findOffers_7 : decode cX12_findOffers 7 = .ok (.iload_n 1, 1) := by decide +kernel
theorem dX12_findOffers_8 : decode cX12_findOffers 8 = .ok (.aload_n 0, 1) := by decide +kernel
theorem dX12_findOffers_9 : decode cX12_findOffers 9 = .ok (.getfield 161, 3) := by decide +kernel
theorem dX12_findOffers_12 : decode cX12_findOffers 12 = .ok (.if_icmp .ge 46, 3) := by decide +kernel
theorem dX12_findOffers_15 : decode cX12_findOffers 15 = .ok (.aload_n 0, 1) := by decide +kernel
theorem dX12_findOffers_16 : decode cX12_findOffers 16 = .ok (.getfield 326, 3) := by decide +kernel
theorem dX12_findOffers_19 : decode cX12_findOffers 19 = .ok (.bipush 8, 2) := by decide +kernel
theorem dX12_findOffers_21 : decode cX12_findOffers 21 = .ok (.if_icmp .ge 37, 3) := by decide +kernel
theorem dX12_findOffers_24 : decode cX12_findOffers 24 = .ok (.aload_n 0, 1) := by decide +kernel
theorem dX12_findOffers_25 : decode cX12_findOffers 25 = .ok (.iload_n 1, 1) := by decide +kernel
theorem dX12_findOffers_26 : decode cX12_findOffers 26 = .ok (.invokevirtual 191, 3) := by decide +kernel
theorem dX12_findOffers_29 : decode cX12_findOffers 29 = .ok (.ifCond .eq 23, 3) := by decide +kernel
theorem dX12_findOffers_32 : decode cX12_findOffers 32 = .ok (.aload_n 0, 1) := by decide +kernel
theorem dX12_findOffers_33 : decode cX12_findOffers 33 = .ok (.getfield 125, 3) := by decide +kernel
theorem dX12_findOffers_36 : decode cX12_findOffers 36 = .ok (.aload_n 0, 1) := by decide +kernel
theorem dX12_findOffers_37 : decode cX12_findOffers 37 = .ok (.getfield 326, 3) := by decide +kernel
theorem dX12_findOffers_40 : decode cX12_findOffers 40 = .ok (.iload_n 1, 1) := by decide +kernel
theorem dX12_findOffers_41 : decode cX12_findOffers 41 = .ok (.iastore, 1) := by decide +kernel
theorem dX12_findOffers_42 : decode cX12_findOffers 42 = .ok (.aload_n 0, 1) := by decide +kernel
theorem dX12_findOffers_43 : decode cX12_findOffers 43 = .ok (.dup, 1) := by decide +kernel
theorem dX12_findOffers_44 : decode cX12_findOffers 44 = .ok (.getfield 326, 3) := by decide +kernel
theorem dX12_findOffers_47 : decode cX12_findOffers 47 = .ok (.iconst 1, 1) := by decide +kernel
theorem dX12_findOffers_48 : decode cX12_findOffers 48 = .ok (.iadd, 1) := by decide +kernel
theorem dX12_findOffers_49 : decode cX12_findOffers 49 = .ok (.putfield 326, 3) := by decide +kernel
theorem dX12_findOffers_52 : decode cX12_findOffers 52 = .ok (.iinc 1 1, 3) := by decide +kernel
theorem dX12_findOffers_55 : decode cX12_findOffers 55 = .ok (.goto (-48), 3) := by decide +kernel
theorem dX12_findOffers_58 : decode cX12_findOffers 58 = .ok (.iconst 0, 1) := by decide +kernel
theorem dX12_findOffers_59 : decode cX12_findOffers 59 = .ok (.istore_n 1, 1) := by decide +kernel
theorem dX12_findOffers_60 : decode cX12_findOffers 60 = .ok (.iload_n 1, 1) := by decide +kernel
theorem dX12_findOffers_61 : decode cX12_findOffers 61 = .ok (.sipush 256, 3) := by decide +kernel
theorem dX12_findOffers_64 : decode cX12_findOffers 64 = .ok (.if_icmp .ge 25, 3) := by decide +kernel
theorem dX12_findOffers_67 : decode cX12_findOffers 67 = .ok (.aload_n 0, 1) := by decide +kernel
theorem dX12_findOffers_68 : decode cX12_findOffers 68 = .ok (.getfield 128, 3) := by decide +kernel
theorem dX12_findOffers_71 : decode cX12_findOffers 71 = .ok (.sipush 256, 3) := by decide +kernel
theorem dX12_findOffers_74 : decode cX12_findOffers 74 = .ok (.aload_n 0, 1) := by decide +kernel
theorem dX12_findOffers_75 : decode cX12_findOffers 75 = .ok (.getfield 316, 3) := by decide +kernel
theorem dX12_findOffers_78 : decode cX12_findOffers 78 = .ok (.imul, 1) := by decide +kernel
theorem dX12_findOffers_79 : decode cX12_findOffers 79 = .ok (.iload_n 1, 1) := by decide +kernel
theorem dX12_findOffers_80 : decode cX12_findOffers 80 = .ok (.iadd, 1) := by decide +kernel
theorem dX12_findOffers_81 : decode cX12_findOffers 81 = .ok (.iconst 0, 1) := by decide +kernel
theorem dX12_findOffers_82 : decode cX12_findOffers 82 = .ok (.iastore, 1) := by decide +kernel
theorem dX12_findOffers_83 : decode cX12_findOffers 83 = .ok (.iinc 1 1, 3) := by decide +kernel
theorem dX12_findOffers_86 : decode cX12_findOffers 86 = .ok (.goto (-26), 3) := by decide +kernel
theorem dX12_findOffers_89 : decode cX12_findOffers 89 = .ok (.aload_n 0, 1) := by decide +kernel
theorem dX12_findOffers_90 : decode cX12_findOffers 90 = .ok (.getfield 316, 3) := by decide +kernel
theorem dX12_findOffers_93 : decode cX12_findOffers 93 = .ok (.iconst 1, 1) := by decide +kernel
theorem dX12_findOffers_94 : decode cX12_findOffers 94 = .ok (.isub, 1) := by decide +kernel
theorem dX12_findOffers_95 : decode cX12_findOffers 95 = .ok (.istore_n 1, 1) := by decide +kernel
theorem dX12_findOffers_96 : decode cX12_findOffers 96 = .ok (.iload_n 1, 1) := by decide +kernel
theorem dX12_findOffers_97 : decode cX12_findOffers 97 = .ok (.ifCond .lt 98, 3) := by decide +kernel
theorem dX12_findOffers_100 : decode cX12_findOffers 100 = .ok (.iconst 0, 1) := by decide +kernel
theorem dX12_findOffers_101 : decode cX12_findOffers 101 = .ok (.istore_n 2, 1) := by decide +kernel
theorem dX12_findOffers_102 : decode cX12_findOffers 102 = .ok (.iload_n 2, 1) := by decide +kernel
theorem dX12_findOffers_103 : decode cX12_findOffers 103 = .ok (.iconst 1, 1) := by decide +kernel
theorem dX12_findOffers_104 : decode cX12_findOffers 104 = .ok (.aload_n 0, 1) := by decide +kernel
theorem dX12_findOffers_105 : decode cX12_findOffers 105 = .ok (.getfield 326, 3) := by decide +kernel
theorem dX12_findOffers_108 : decode cX12_findOffers 108 = .ok (.ishl, 1) := by decide +kernel
theorem dX12_findOffers_109 : decode cX12_findOffers 109 = .ok (.if_icmp .ge 80, 3) := by decide +kernel
theorem dX12_findOffers_112 : decode cX12_findOffers 112 = .ok (.aload_n 0, 1) := by decide +kernel
theorem dX12_findOffers_113 : decode cX12_findOffers 113 = .ok (.getfield 128, 3) := by decide +kernel
theorem dX12_findOffers_116 : decode cX12_findOffers 116 = .ok (.sipush 256, 3) := by decide +kernel
theorem dX12_findOffers_119 : decode cX12_findOffers 119 = .ok (.iload_n 1, 1) := by decide +kernel
theorem dX12_findOffers_120 : decode cX12_findOffers 120 = .ok (.iconst 1, 1) := by decide +kernel
theorem dX12_findOffers_121 : decode cX12_findOffers 121 = .ok (.iadd, 1) := by decide +kernel
theorem dX12_findOffers_122 : decode cX12_findOffers 122 = .ok (.imul, 1) := by decide +kernel
theorem dX12_findOffers_123 : decode cX12_findOffers 123 = .ok (.iload_n 2, 1) := by decide +kernel
theorem dX12_findOffers_124 : decode cX12_findOffers 124 = .ok (.iadd, 1) := by decide +kernel
theorem dX12_findOffers_125 : decode cX12_findOffers 125 = .ok (.iaload, 1) := by decide +kernel
theorem dX12_findOffers_126 : decode cX12_findOffers 126 = .ok (.istore_n 3, 1) := by decide +kernel
theorem dX12_findOffers_127 : decode cX12_findOffers 127 = .ok (.iconst 0, 1) := by decide +kernel
theorem dX12_findOffers_128 : decode cX12_findOffers 128 = .ok (.istore 4, 2) := by decide +kernel
theorem dX12_findOffers_130 : decode cX12_findOffers 130 = .ok (.iload 4, 2) := by decide +kernel
theorem dX12_findOffers_132 : decode cX12_findOffers 132 = .ok (.aload_n 0, 1) := by decide +kernel
theorem dX12_findOffers_133 : decode cX12_findOffers 133 = .ok (.getfield 326, 3) := by decide +kernel
theorem dX12_findOffers_136 : decode cX12_findOffers 136 = .ok (.if_icmp .ge 34, 3) := by decide +kernel
theorem dX12_findOffers_139 : decode cX12_findOffers 139 = .ok (.aload_n 0, 1) := by decide +kernel
theorem dX12_findOffers_140 : decode cX12_findOffers 140 = .ok (.iload_n 1, 1) := by decide +kernel
theorem dX12_findOffers_141 : decode cX12_findOffers 141 = .ok (.iload 4, 2) := by decide +kernel
theorem dX12_findOffers_143 : decode cX12_findOffers 143 = .ok (.iload_n 2, 1) := by decide +kernel
theorem dX12_findOffers_144 : decode cX12_findOffers 144 = .ok (.invokevirtual 329, 3) := by decide +kernel
theorem dX12_findOffers_147 : decode cX12_findOffers 147 = .ok (.iload_n 3, 1) := by decide +kernel
theorem dX12_findOffers_148 : decode cX12_findOffers 148 = .ok (.if_icmp .le 14, 3) := by decide +kernel
theorem dX12_findOffers_151 : decode cX12_findOffers 151 = .ok (.aload_n 0, 1) := by decide +kernel
theorem dX12_findOffers_152 : decode cX12_findOffers 152 = .ok (.iload_n 1, 1) := by decide +kernel
theorem dX12_findOffers_153 : decode cX12_findOffers 153 = .ok (.iload 4, 2) := by decide +kernel
theorem dX12_findOffers_155 : decode cX12_findOffers 155 = .ok (.iload_n 2, 1) := by decide +kernel
theorem dX12_findOffers_156 : decode cX12_findOffers 156 = .ok (.invokevirtual 329, 3) := by decide +kernel
theorem dX12_findOffers_159 : decode cX12_findOffers 159 = .ok (.goto 4, 3) := by decide +kernel
theorem dX12_findOffers_162 : decode cX12_findOffers 162 = .ok (.iload_n 3, 1) := by decide +kernel
theorem dX12_findOffers_163 : decode cX12_findOffers 163 = .ok (.istore_n 3, 1) := by decide +kernel
theorem dX12_findOffers_164 : decode cX12_findOffers 164 = .ok (.iinc 4 1, 3) := by decide +kernel
theorem dX12_findOffers_167 : decode cX12_findOffers 167 = .ok (.goto (-37), 3) := by decide +kernel
theorem dX12_findOffers_170 : decode cX12_findOffers 170 = .ok (.aload_n 0, 1) := by decide +kernel
theorem dX12_findOffers_171 : decode cX12_findOffers 171 = .ok (.getfield 128, 3) := by decide +kernel
theorem dX12_findOffers_174 : decode cX12_findOffers 174 = .ok (.sipush 256, 3) := by decide +kernel
theorem dX12_findOffers_177 : decode cX12_findOffers 177 = .ok (.iload_n 1, 1) := by decide +kernel
theorem dX12_findOffers_178 : decode cX12_findOffers 178 = .ok (.imul, 1) := by decide +kernel
theorem dX12_findOffers_179 : decode cX12_findOffers 179 = .ok (.iload_n 2, 1) := by decide +kernel
theorem dX12_findOffers_180 : decode cX12_findOffers 180 = .ok (.iadd, 1) := by decide +kernel
theorem dX12_findOffers_181 : decode cX12_findOffers 181 = .ok (.iload_n 3, 1) := by decide +kernel
theorem dX12_findOffers_182 : decode cX12_findOffers 182 = .ok (.iastore, 1) := by decide +kernel
theorem dX12_findOffers_183 : decode cX12_findOffers 183 = .ok (.iinc 2 1, 3) := by decide +kernel
theorem dX12_findOffers_186 : decode cX12_findOffers 186 = .ok (.goto (-84), 3) := by decide +kernel
theorem dX12_findOffers_189 : decode cX12_findOffers 189 = .ok (.iinc 1 (-1), 3) := by decide +kernel
theorem dX12_findOffers_192 : decode cX12_findOffers 192 = .ok (.goto (-96), 3) := by decide +kernel
theorem dX12_findOffers_195 : decode cX12_findOffers 195 = .ok (.iconst 0, 1) := by decide +kernel
theorem dX12_findOffers_196 : decode cX12_findOffers 196 = .ok (.istore_n 1, 1) := by decide +kernel
theorem dX12_findOffers_197 : decode cX12_findOffers 197 = .ok (.iconst 0, 1) := by decide +kernel
theorem dX12_findOffers_198 : decode cX12_findOffers 198 = .ok (.istore_n 2, 1) := by decide +kernel
theorem dX12_findOffers_199 : decode cX12_findOffers 199 = .ok (.iload_n 2, 1) := by decide +kernel
theorem dX12_findOffers_200 : decode cX12_findOffers 200 = .ok (.aload_n 0, 1) := by decide +kernel
theorem dX12_findOffers_201 : decode cX12_findOffers 201 = .ok (.getfield 316, 3) := by decide +kernel
theorem dX12_findOffers_204 : decode cX12_findOffers 204 = .ok (.if_icmp .ge 95, 3) := by decide +kernel
theorem dX12_findOffers_207 : decode cX12_findOffers 207 = .ok (.iconst (-1), 1) := by decide +kernel
theorem dX12_findOffers_208 : decode cX12_findOffers 208 = .ok (.istore_n 3, 1) := by decide +kernel
theorem dX12_findOffers_209 : decode cX12_findOffers 209 = .ok (.aload_n 0, 1) := by decide +kernel
theorem dX12_findOffers_210 : decode cX12_findOffers 210 = .ok (.getfield 326, 3) := by decide +kernel
theorem dX12_findOffers_213 : decode cX12_findOffers 213 = .ok (.iconst 1, 1) := by decide +kernel
theorem dX12_findOffers_214 : decode cX12_findOffers 214 = .ok (.isub, 1) := by decide +kernel
theorem dX12_findOffers_215 : decode cX12_findOffers 215 = .ok (.istore 4, 2) := by decide +kernel
theorem dX12_findOffers_217 : decode cX12_findOffers 217 = .ok (.iload 4, 2) := by decide +kernel
theorem dX12_findOffers_219 : decode cX12_findOffers 219 = .ok (.ifCond .lt 39, 3) := by decide +kernel
theorem dX12_findOffers_222 : decode cX12_findOffers 222 = .ok (.aload_n 0, 1) := by decide +kernel
theorem dX12_findOffers_223 : decode cX12_findOffers 223 = .ok (.iload_n 2, 1) := by decide +kernel
theorem dX12_findOffers_224 : decode cX12_findOffers 224 = .ok (.iload 4, 2) := by decide +kernel
theorem dX12_findOffers_226 : decode cX12_findOffers 226 = .ok (.iload_n 1, 1) := by decide +kernel
theorem dX12_findOffers_227 : decode cX12_findOffers 227 = .ok (.invokevirtual 329, 3) := by decide +kernel
theorem dX12_findOffers_230 : decode cX12_findOffers 230 = .ok (.aload_n 0, 1) := by decide +kernel
theorem dX12_findOffers_231 : decode cX12_findOffers 231 = .ok (.getfield 128, 3) := by decide +kernel
theorem dX12_findOffers_234 : decode cX12_findOffers 234 = .ok (.sipush 256, 3) := by decide +kernel
theorem dX12_findOffers_237 : decode cX12_findOffers 237 = .ok (.iload_n 2, 1) := by decide +kernel
theorem dX12_findOffers_238 : decode cX12_findOffers 238 = .ok (.imul, 1) := by decide +kernel
theorem dX12_findOffers_239 : decode cX12_findOffers 239 = .ok (.iload_n 1, 1) := by decide +kernel
theorem dX12_findOffers_240 : decode cX12_findOffers 240 = .ok (.iadd, 1) := by decide +kernel
theorem dX12_findOffers_241 : decode cX12_findOffers 241 = .ok (.iaload, 1) := by decide +kernel
theorem dX12_findOffers_242 : decode cX12_findOffers 242 = .ok (.if_icmp .ne 8, 3) := by decide +kernel
theorem dX12_findOffers_245 : decode cX12_findOffers 245 = .ok (.iload 4, 2) := by decide +kernel
theorem dX12_findOffers_247 : decode cX12_findOffers 247 = .ok (.goto 4, 3) := by decide +kernel
theorem dX12_findOffers_250 : decode cX12_findOffers 250 = .ok (.iload_n 3, 1) := by decide +kernel
theorem dX12_findOffers_251 : decode cX12_findOffers 251 = .ok (.istore_n 3, 1) := by decide +kernel
theorem dX12_findOffers_252 : decode cX12_findOffers 252 = .ok (.iinc 4 (-1), 3) := by decide +kernel
theorem dX12_findOffers_255 : decode cX12_findOffers 255 = .ok (.goto (-38), 3) := by decide +kernel
theorem dX12_findOffers_258 : decode cX12_findOffers 258 = .ok (.aload_n 0, 1) := by decide +kernel
theorem dX12_findOffers_259 : decode cX12_findOffers 259 = .ok (.getfield 131, 3) := by decide +kernel
theorem dX12_findOffers_262 : decode cX12_findOffers 262 = .ok (.iload_n 2, 1) := by decide +kernel
theorem dX12_findOffers_263 : decode cX12_findOffers 263 = .ok (.iload_n 3, 1) := by decide +kernel
theorem dX12_findOffers_264 : decode cX12_findOffers 264 = .ok (.ifCond .ge 8, 3) := by decide +kernel
theorem dX12_findOffers_267 : decode cX12_findOffers 267 = .ok (.bipush (-9), 2) := by decide +kernel
theorem dX12_findOffers_269 : decode cX12_findOffers 269 = .ok (.goto 9, 3) := by decide +kernel
theorem dX12_findOffers_272 : decode cX12_findOffers 272 = .ok (.aload_n 0, 1) := by decide +kernel
theorem dX12_findOffers_273 : decode cX12_findOffers 273 = .ok (.getfield 125, 3) := by decide +kernel
theorem dX12_findOffers_276 : decode cX12_findOffers 276 = .ok (.iload_n 3, 1) := by decide +kernel
theorem dX12_findOffers_277 : decode cX12_findOffers 277 = .ok (.iaload, 1) := by decide +kernel
theorem dX12_findOffers_278 : decode cX12_findOffers 278 = .ok (.iastore, 1) := by decide +kernel
theorem dX12_findOffers_279 : decode cX12_findOffers 279 = .ok (.iload_n 1, 1) := by decide +kernel
theorem dX12_findOffers_280 : decode cX12_findOffers 280 = .ok (.iload_n 3, 1) := by decide +kernel
theorem dX12_findOffers_281 : decode cX12_findOffers 281 = .ok (.ifCond .ge 7, 3) := by decide +kernel
theorem dX12_findOffers_284 : decode cX12_findOffers 284 = .ok (.iconst 0, 1) := by decide +kernel
theorem dX12_findOffers_285 : decode cX12_findOffers 285 = .ok (.goto 6, 3) := by decide +kernel
theorem dX12_findOffers_288 : decode cX12_findOffers 288 = .ok (.iconst 1, 1) := by decide +kernel
theorem dX12_findOffers_289 : decode cX12_findOffers 289 = .ok (.iload_n 3, 1) := by decide +kernel
theorem dX12_findOffers_290 : decode cX12_findOffers 290 = .ok (.ishl, 1) := by decide +kernel
theorem dX12_findOffers_291 : decode cX12_findOffers 291 = .ok (.ior, 1) := by decide +kernel
theorem dX12_findOffers_292 : decode cX12_findOffers 292 = .ok (.istore_n 1, 1) := by decide +kernel
theorem dX12_findOffers_293 : decode cX12_findOffers 293 = .ok (.iinc 2 1, 3) := by decide +kernel
theorem dX12_findOffers_296 : decode cX12_findOffers 296 = .ok (.goto (-97), 3) := by decide +kernel
theorem dX12_findOffers_299 : decode cX12_findOffers 299 = .ok (.return_, 1) := by decide +kernel
theorem dX12_offers_0 : decode cX12_offers 0 = .ok (.iload_n 1, 1) := by decide +kernel
theorem dX12_offers_1 : decode cX12_offers 1 = .ok (.iconst 0, 1) := by decide +kernel
theorem dX12_offers_2 : decode cX12_offers 2 = .ok (.iconst 2, 1) := by decide +kernel
theorem dX12_offers_3 : decode cX12_offers 3 = .ok (.invokestatic 157, 3) := by decide +kernel
theorem dX12_offers_6 : decode cX12_offers 6 = .ok (.ifCond .ne 10, 3) := by decide +kernel
theorem dX12_offers_9 : decode cX12_offers 9 = .ok (.aload_n 0, 1) := by decide +kernel
theorem dX12_offers_10 : decode cX12_offers 10 = .ok (.bipush (-2), 2) := by decide +kernel
theorem dX12_offers_12 : decode cX12_offers 12 = .ok (.invokevirtual 174, 3) := by decide +kernel
theorem dX12_offers_15 : decode cX12_offers 15 = .ok (.ireturn, 1) := by decide +kernel
theorem dX12_offers_16 : decode cX12_offers 16 = .ok (.aload_n 0, 1) := by decide +kernel
theorem dX12_offers_17 : decode cX12_offers 17 = .ok (.invokevirtual 332, 3) := by decide +kernel
theorem dX12_offers_20 : decode cX12_offers 20 = .ok (.aload_n 0, 1) := by decide +kernel
theorem dX12_offers_21 : decode cX12_offers 21 = .ok (.getfield 128, 3) := by decide +kernel
theorem dX12_offers_24 : decode cX12_offers 24 = .ok (.iconst 0, 1) := by decide +kernel
theorem dX12_offers_25 : decode cX12_offers 25 = .ok (.iaload, 1) := by decide +kernel
theorem dX12_offers_26 : decode cX12_offers 26 = .ok (.istore_n 2, 1) := by decide +kernel
theorem dX12_offers_27 : decode cX12_offers 27 = .ok (.iload_n 1, 1) := by decide +kernel
theorem dX12_offers_28 : decode cX12_offers 28 = .ok (.ifCond .ne 11, 3) := by decide +kernel
theorem dX12_offers_31 : decode cX12_offers 31 = .ok (.iload_n 2, 1) := by decide +kernel
theorem dX12_offers_32 : decode cX12_offers 32 = .ok (.ldc_w 325, 3) := by decide +kernel
theorem dX12_offers_35 : decode cX12_offers 35 = .ok (.idiv, 1) := by decide +kernel
theorem dX12_offers_36 : decode cX12_offers 36 = .ok (.goto 24, 3) := by decide +kernel
theorem dX12_offers_39 : decode cX12_offers 39 = .ok (.iload_n 1, 1) := by decide +kernel
theorem dX12_offers_40 : decode cX12_offers 40 = .ok (.iconst 1, 1) := by decide +kernel
theorem dX12_offers_41 : decode cX12_offers 41 = .ok (.if_icmp .ne 14, 3) := by decide +kernel
theorem dX12_offers_44 : decode cX12_offers 44 = .ok (.iload_n 2, 1) := by decide +kernel
theorem dX12_offers_45 : decode cX12_offers 45 = .ok (.sipush 10000, 3) := by decide +kernel
theorem dX12_offers_48 : decode cX12_offers 48 = .ok (.idiv, 1) := by decide +kernel
theorem dX12_offers_49 : decode cX12_offers 49 = .ok (.bipush 100, 2) := by decide +kernel
theorem dX12_offers_51 : decode cX12_offers 51 = .ok (.irem, 1) := by decide +kernel
theorem dX12_offers_52 : decode cX12_offers 52 = .ok (.goto 8, 3) := by decide +kernel
theorem dX12_offers_55 : decode cX12_offers 55 = .ok (.iload_n 2, 1) := by decide +kernel
theorem dX12_offers_56 : decode cX12_offers 56 = .ok (.sipush 10000, 3) := by decide +kernel
theorem dX12_offers_59 : decode cX12_offers 59 = .ok (.irem, 1) := by decide +kernel
theorem dX12_offers_60 : decode cX12_offers 60 = .ok (.ireturn, 1) := by decide +kernel
theorem dX12_offered_0 : decode cX12_offered 0 = .ok (.iload_n 1, 1) := by decide +kernel
theorem dX12_offered_1 : decode cX12_offered 1 = .ok (.iconst 0, 1) := by decide +kernel
theorem dX12_offered_2 : decode cX12_offered 2 = .ok (.aload_n 0, 1) := by decide +kernel
theorem dX12_offered_3 : decode cX12_offered 3 = .ok (.getfield 316, 3) := by decide +kernel
theorem dX12_offered_6 : decode cX12_offered 6 = .ok (.iconst 1, 1) := by decide +kernel
theorem dX12_offered_7 : decode cX12_offered 7 = .ok (.isub, 1) := by decide +kernel
theorem dX12_offered_8 : decode cX12_offered 8 = .ok (.invokestatic 157, 3) := by decide +kernel
theorem dX12_offered_11 : decode cX12_offered 11 = .ok (.ifCond .ne 9, 3) := by decide +kernel
theorem dX12_offered_14 : decode cX12_offered 14 = .ok (.aload_n 0, 1) := by decide +kernel
theorem dX12_offered_15 : decode cX12_offered 15 = .ok (.iconst (-1), 1) := by decide +kernel
theorem dX12_offered_16 : decode cX12_offered 16 = .ok (.invokevirtual 174, 3) := by decide +kernel
theorem dX12_offered_19 : decode cX12_offered 19 = .ok (.ireturn, 1) := by decide +kernel
theorem dX12_offered_20 : decode cX12_offered 20 = .ok (.aload_n 0, 1) := by decide +kernel
theorem dX12_offered_21 : decode cX12_offered 21 = .ok (.invokevirtual 332, 3) := by decide +kernel
theorem dX12_offered_24 : decode cX12_offered 24 = .ok (.aload_n 0, 1) := by decide +kernel
theorem dX12_offered_25 : decode cX12_offered 25 = .ok (.getfield 131, 3) := by decide +kernel
theorem dX12_offered_28 : decode cX12_offered 28 = .ok (.iload_n 1, 1) := by decide +kernel
theorem dX12_offered_29 : decode cX12_offered 29 = .ok (.iaload, 1) := by decide +kernel
theorem dX12_offered_30 : decode cX12_offered 30 = .ok (.ireturn, 1) := by decide +kernel
theorem dX12_ends_0 : decode cX12_ends 0 = .ok (.iload_n 1, 1) := by decide +kernel
theorem dX12_ends_1 : decode cX12_ends 1 = .ok (.iconst 0, 1) := by decide +kernel
theorem dX12_ends_2 : decode cX12_ends 2 = .ok (.iconst 3, 1) := by decide +kernel
theorem dX12_ends_3 : decode cX12_ends 3 = .ok (.invokestatic 157, 3) := by decide +kernel
theorem dX12_ends_6 : decode cX12_ends 6 = .ok (.ifCond .ne 9, 3) := by decide +kernel
theorem dX12_ends_9 : decode cX12_ends 9 = .ok (.aload_n 0, 1) := by decide +kernel
theorem dX12_ends_10 : decode cX12_ends 10 = .ok (.iconst (-1), 1) := by decide +kernel
theorem dX12_ends_11 : decode cX12_ends 11 = .ok (.invokevirtual 174, 3) := by decide +kernel
theorem dX12_ends_14 : decode cX12_ends 14 = .ok (.ireturn, 1) := by decide +kernel
theorem dX12_ends_15 : decode cX12_ends 15 = .ok (.iload_n 2, 1) := by decide +kernel
theorem dX12_ends_16 : decode cX12_ends 16 = .ok (.ifCond .lt 8, 3) := by decide +kernel
theorem dX12_ends_19 : decode cX12_ends 19 = .ok (.iload_n 3, 1) := by decide +kernel
theorem dX12_ends_20 : decode cX12_ends 20 = .ok (.iconst 1, 1) := by decide +kernel
theorem dX12_ends_21 : decode cX12_ends 21 = .ok (.if_icmp .ge 10, 3) := by decide +kernel
theorem dX12_ends_24 : decode cX12_ends 24 = .ok (.aload_n 0, 1) := by decide +kernel
theorem dX12_ends_25 : decode cX12_ends 25 = .ok (.bipush (-4), 2) := by decide +kernel
theorem dX12_ends_27 : decode cX12_ends 27 = .ok (.invokevirtual 174, 3) := by decide +kernel
theorem dX12_ends_30 : decode cX12_ends 30 = .ok (.ireturn, 1) := by decide +kernel
theorem dX12_ends_31 : decode cX12_ends 31 = .ok (.iload_n 2, 1) := by decide +kernel
theorem dX12_ends_32 : decode cX12_ends 32 = .ok (.sipush 3000, 3) := by decide +kernel
theorem dX12_ends_35 : decode cX12_ends 35 = .ok (.if_icmp .gt 19, 3) := by decide +kernel
theorem dX12_ends_38 : decode cX12_ends 38 = .ok (.iload_n 3, 1) := by decide +kernel
theorem dX12_ends_39 : decode cX12_ends 39 = .ok (.sipush 500, 3) := by decide +kernel
theorem dX12_ends_42 : decode cX12_ends 42 = .ok (.if_icmp .gt 12, 3) := by decide +kernel
theorem dX12_ends_45 : decode cX12_ends 45 = .ok (.aload_n 0, 1) := by decide +kernel
theorem dX12_ends_46 : decode cX12_ends 46 = .ok (.getfield 335, 3) := by decide +kernel
theorem dX12_ends_49 : decode cX12_ends 49 = .ok (.bipush 60, 2) := by decide +kernel
theorem dX12_ends_51 : decode cX12_ends 51 = .ok (.if_icmp .ne 10, 3) := by decide +kernel
theorem dX12_ends_54 : decode cX12_ends 54 = .ok (.aload_n 0, 1) := by decide +kernel
theorem dX12_ends_55 : decode cX12_ends 55 = .ok (.bipush (-6), 2) := by decide +kernel
theorem dX12_ends_57 : decode cX12_ends 57 = .ok (.invokevirtual 174, 3) := by decide +kernel
theorem dX12_ends_60 : decode cX12_ends 60 = .ok (.ireturn, 1) := by decide +kernel
theorem dX12_ends_61 : decode cX12_ends 61 = .ok (.aload_n 0, 1) := by decide +kernel
theorem dX12_ends_62 : decode cX12_ends 62 = .ok (.getfield 134, 3) := by decide +kernel
theorem dX12_ends_65 : decode cX12_ends 65 = .ok (.aload_n 0, 1) := by decide +kernel
theorem dX12_ends_66 : decode cX12_ends 66 = .ok (.getfield 335, 3) := by decide +kernel
theorem dX12_ends_69 : decode cX12_ends 69 = .ok (.iload_n 1, 1) := by decide +kernel
theorem dX12_ends_70 : decode cX12_ends 70 = .ok (.iastore, 1) := by decide +kernel
theorem dX12_ends_71 : decode cX12_ends 71 = .ok (.aload_n 0, 1) := by decide +kernel
theorem dX12_ends_72 : decode cX12_ends 72 = .ok (.getfield 137, 3) := by decide +kernel
theorem dX12_ends_75 : decode cX12_ends 75 = .ok (.aload_n 0, 1) := by decide +kernel
theorem dX12_ends_76 : decode cX12_ends 76 = .ok (.getfield 335, 3) := by decide +kernel
theorem dX12_ends_79 : decode cX12_ends 79 = .ok (.iload_n 2, 1) := by decide +kernel
theorem dX12_ends_80 : decode cX12_ends 80 = .ok (.iastore, 1) := by decide +kernel
theorem dX12_ends_81 : decode cX12_ends 81 = .ok (.aload_n 0, 1) := by decide +kernel
theorem dX12_ends_82 : decode cX12_ends 82 = .ok (.getfield 140, 3) := by decide +kernel
theorem dX12_ends_85 : decode cX12_ends 85 = .ok (.aload_n 0, 1) := by decide +kernel
theorem dX12_ends_86 : decode cX12_ends 86 = .ok (.getfield 335, 3) := by decide +kernel
theorem dX12_ends_89 : decode cX12_ends 89 = .ok (.iload_n 3, 1) := by decide +kernel
theorem dX12_ends_90 : decode cX12_ends 90 = .ok (.iastore, 1) := by decide +kernel
theorem dX12_ends_91 : decode cX12_ends 91 = .ok (.aload_n 0, 1) := by decide +kernel
theorem dX12_ends_92 : decode cX12_ends 92 = .ok (.dup, 1) := by decide +kernel
theorem dX12_ends_93 : decode cX12_ends 93 = .ok (.getfield 335, 3) := by decide +kernel
theorem dX12_ends_96 : decode cX12_ends 96 = .ok (.iconst 1, 1) := by decide +kernel
theorem dX12_ends_97 : decode cX12_ends 97 = .ok (.iadd, 1) := by decide +kernel
theorem dX12_ends_98 : decode cX12_ends 98 = .ok (.putfield 335, 3) := by decide +kernel
theorem dX12_ends_101 : decode cX12_ends 101 = .ok (.aload_n 0, 1) := by decide +kernel
theorem dX12_ends_102 : decode cX12_ends 102 = .ok (.getfield 335, 3) := by decide +kernel
theorem dX12_ends_105 : decode cX12_ends 105 = .ok (.ireturn, 1) := by decide +kernel
theorem dX12_endedBy_0 : decode cX12_endedBy 0 = .ok (.iconst 0, 1) := by decide +kernel
theorem dX12_endedBy_1 : decode cX12_endedBy 1 = .ok (.istore_n 3, 1) := by decide +kernel
theorem dX12_endedBy_2 : decode cX12_endedBy 2 = .ok (.iconst 0, 1) := by decide +kernel
theorem dX12_endedBy_3 : decode cX12_endedBy 3 = .ok (.istore 4, 2) := by decide +kernel
theorem dX12_endedBy_5 : decode cX12_endedBy 5 = .ok (.iload 4, 2) := by decide +kernel
theorem dX12_endedBy_7 : decode cX12_endedBy 7 = .ok (.aload_n 0, 1) := by decide +kernel
theorem dX12_endedBy_8 : decode cX12_endedBy 8 = .ok (.getfield 335, 3) := by decide +kernel
theorem dX12_endedBy_11 : decode cX12_endedBy 11 = .ok (.if_icmp .ge 52, 3) := by decide +kernel
theorem dX12_endedBy_14 : decode cX12_endedBy 14 = .ok (.iload_n 3, 1) := by decide +kernel
theorem dX12_endedBy_15 : decode cX12_endedBy 15 = .ok (.aload_n 0, 1) := by decide +kernel
theorem dX12_endedBy_16 : decode cX12_endedBy 16 = .ok (.getfield 134, 3) := by decide +kernel
theorem dX12_endedBy_19 : decode cX12_endedBy 19 = .ok (.iload 4, 2) := by decide +kernel
theorem dX12_endedBy_21 : decode cX12_endedBy 21 = .ok (.iaload, 1) := by decide +kernel
theorem dX12_endedBy_22 : decode cX12_endedBy 22 = .ok (.iload_n 1, 1) := by decide +kernel
theorem dX12_endedBy_23 : decode cX12_endedBy 23 = .ok (.if_icmp .ne 31, 3) := by decide +kernel
theorem dX12_endedBy_26 : decode cX12_endedBy 26 = .ok (.aload_n 0, 1) := by decide +kernel
theorem dX12_endedBy_27 : decode cX12_endedBy 27 = .ok (.getfield 137, 3) := by decide +kernel
theorem dX12_endedBy_30 : decode cX12_endedBy 30 = .ok (.iload 4, 2) := by decide +kernel
theorem dX12_endedBy_32 : decode cX12_endedBy 32 = .ok (.iaload, 1) := by decide +kernel
theorem dX12_endedBy_33 : decode cX12_endedBy 33 = .ok (.iload_n 2, 1) := by decide +kernel
theorem dX12_endedBy_34 : decode cX12_endedBy 34 = .ok (.bipush 89, 2) := by decide +kernel
theorem dX12_endedBy_36 : decode cX12_endedBy 36 = .ok (.isub, 1) := by decide +kernel
theorem dX12_endedBy_37 : decode cX12_endedBy 37 = .ok (.iload_n 2, 1) := by decide +kernel
theorem dX12_endedBy_38 : decode cX12_endedBy 38 = .ok (.invokestatic 157, 3) := by decide +kernel
theorem dX12_endedBy_41 : decode cX12_endedBy 41 = .ok (.ifCond .eq 13, 3) := by decide +kernel
theorem dX12_endedBy_44 : decode cX12_endedBy 44 = .ok (.aload_n 0, 1) := by decide +kernel
theorem dX12_endedBy_45 : decode cX12_endedBy 45 = .ok (.getfield 140, 3) := by decide +kernel
theorem dX12_endedBy_48 : decode cX12_endedBy 48 = .ok (.iload 4, 2) := by decide +kernel
theorem dX12_endedBy_50 : decode cX12_endedBy 50 = .ok (.iaload, 1) := by decide +kernel
theorem dX12_endedBy_51 : decode cX12_endedBy 51 = .ok (.goto 4, 3) := by decide +kernel
theorem dX12_endedBy_54 : decode cX12_endedBy 54 = .ok (.iconst 0, 1) := by decide +kernel
theorem dX12_endedBy_55 : decode cX12_endedBy 55 = .ok (.iadd, 1) := by decide +kernel
theorem dX12_endedBy_56 : decode cX12_endedBy 56 = .ok (.istore_n 3, 1) := by decide +kernel
theorem dX12_endedBy_57 : decode cX12_endedBy 57 = .ok (.iinc 4 1, 3) := by decide +kernel
theorem dX12_endedBy_60 : decode cX12_endedBy 60 = .ok (.goto (-55), 3) := by decide +kernel
theorem dX12_endedBy_63 : decode cX12_endedBy 63 = .ok (.iload_n 3, 1) := by decide +kernel
theorem dX12_endedBy_64 : decode cX12_endedBy 64 = .ok (.ireturn, 1) := by decide +kernel
theorem dX12_noticeBy_0 : decode cX12_noticeBy 0 = .ok (.iload_n 0, 1) := by decide +kernel
theorem dX12_noticeBy_1 : decode cX12_noticeBy 1 = .ok (.bipush 100, 2) := by decide +kernel
theorem dX12_noticeBy_3 : decode cX12_noticeBy 3 = .ok (.if_icmp .lt 8, 3) := by decide +kernel
theorem dX12_noticeBy_6 : decode cX12_noticeBy 6 = .ok (.bipush 45, 2) := by decide +kernel
theorem dX12_noticeBy_8 : decode cX12_noticeBy 8 = .ok (.goto 16, 3) := by decide +kernel
theorem dX12_noticeBy_11 : decode cX12_noticeBy 11 = .ok (.iload_n 0, 1) := by decide +kernel
theorem dX12_noticeBy_12 : decode cX12_noticeBy 12 = .ok (.bipush 20, 2) := by decide +kernel
theorem dX12_noticeBy_14 : decode cX12_noticeBy 14 = .ok (.if_icmp .lt 8, 3) := by decide +kernel
theorem dX12_noticeBy_17 : decode cX12_noticeBy 17 = .ok (.bipush 30, 2) := by decide +kernel
theorem dX12_noticeBy_19 : decode cX12_noticeBy 19 = .ok (.goto 5, 3) := by decide +kernel
theorem dX12_noticeBy_22 : decode cX12_noticeBy 22 = .ok (.bipush 7, 2) := by decide +kernel
theorem dX12_noticeBy_24 : decode cX12_noticeBy 24 = .ok (.ireturn, 1) := by decide +kernel
theorem dX12_notice_0 : decode cX12_notice 0 = .ok (.iload_n 1, 1) := by decide +kernel
theorem dX12_notice_1 : decode cX12_notice 1 = .ok (.iconst 0, 1) := by decide +kernel
theorem dX12_notice_2 : decode cX12_notice 2 = .ok (.iconst 3, 1) := by decide +kernel
theorem dX12_notice_3 : decode cX12_notice 3 = .ok (.invokestatic 157, 3) := by decide +kernel
theorem dX12_notice_6 : decode cX12_notice 6 = .ok (.ifCond .ne 9, 3) := by decide +kernel
theorem dX12_notice_9 : decode cX12_notice 9 = .ok (.aload_n 0, 1) := by decide +kernel
theorem dX12_notice_10 : decode cX12_notice 10 = .ok (.iconst (-1), 1) := by decide +kernel
theorem dX12_notice_11 : decode cX12_notice 11 = .ok (.invokevirtual 174, 3) := by decide +kernel
theorem dX12_notice_14 : decode cX12_notice 14 = .ok (.ireturn, 1) := by decide +kernel
theorem dX12_notice_15 : decode cX12_notice 15 = .ok (.iload_n 2, 1) := by decide +kernel
theorem dX12_notice_16 : decode cX12_notice 16 = .ok (.ifCond .ge 10, 3) := by decide +kernel
theorem dX12_notice_19 : decode cX12_notice 19 = .ok (.aload_n 0, 1) := by decide +kernel
theorem dX12_notice_20 : decode cX12_notice 20 = .ok (.bipush (-4), 2) := by decide +kernel
theorem dX12_notice_22 : decode cX12_notice 22 = .ok (.invokevirtual 174, 3) := by decide +kernel
theorem dX12_notice_25 : decode cX12_notice 25 = .ok (.ireturn, 1) := by decide +kernel
theorem dX12_notice_26 : decode cX12_notice 26 = .ok (.iload_n 2, 1) := by decide +kernel
theorem dX12_notice_27 : decode cX12_notice 27 = .ok (.sipush 3000, 3) := by decide +kernel
theorem dX12_notice_30 : decode cX12_notice 30 = .ok (.if_icmp .le 12, 3) := by decide +kernel
theorem dX12_notice_33 : decode cX12_notice 33 = .ok (.aload_n 0, 1) := by decide +kernel
theorem dX12_notice_34 : decode cX12_notice 34 = .ok (.bipush (-6), 2) := by decide +kernel
theorem dX12_notice_36 : decode cX12_notice 36 = .ok (.invokevirtual 174, 3) := by decide +kernel
theorem dX12_notice_39 : decode cX12_notice 39 = .ok (.goto 12, 3) := by decide +kernel
theorem dX12_notice_42 : decode cX12_notice 42 = .ok (.aload_n 0, 1) := by decide +kernel
theorem dX12_notice_43 : decode cX12_notice 43 = .ok (.iload_n 1, 1) := by decide +kernel
theorem dX12_notice_44 : decode cX12_notice 44 = .ok (.iload_n 2, 1) := by decide +kernel
theorem dX12_notice_45 : decode cX12_notice 45 = .ok (.invokevirtual 338, 3) := by decide +kernel
theorem dX12_notice_48 : decode cX12_notice 48 = .ok (.invokestatic 341, 3) := by decide +kernel
theorem dX12_notice_51 : decode cX12_notice 51 = .ok (.ireturn, 1) := by decide +kernel
theorem dX12_weekCost_0 : decode cX12_weekCost 0 = .ok (.iload 4, 2) := by decide +kernel
theorem dX12_weekCost_2 : decode cX12_weekCost 2 = .ok (.iload 5, 2) := by decide +kernel
theorem dX12_weekCost_4 : decode cX12_weekCost 4 = .ok (.imul, 1) := by decide +kernel
theorem dX12_weekCost_5 : decode cX12_weekCost 5 = .ok (.iload_n 1, 1) := by decide +kernel
theorem dX12_weekCost_6 : decode cX12_weekCost 6 = .ok (.iload_n 2, 1) := by decide +kernel
theorem dX12_weekCost_7 : decode cX12_weekCost 7 = .ok (.iconst 1, 1) := by decide +kernel
theorem dX12_weekCost_8 : decode cX12_weekCost 8 = .ok (.isub, 1) := by decide +kernel
theorem dX12_weekCost_9 : decode cX12_weekCost 9 = .ok (.if_icmp .ne 8, 3) := by decide +kernel
theorem dX12_weekCost_12 : decode cX12_weekCost 12 = .ok (.iload 6, 2) := by decide +kernel
theorem dX12_weekCost_14 : decode cX12_weekCost 14 = .ok (.goto 4, 3) := by decide +kernel
theorem dX12_weekCost_17 : decode cX12_weekCost 17 = .ok (.iconst 0, 1) := by decide +kernel
theorem dX12_weekCost_18 : decode cX12_weekCost 18 = .ok (.iadd, 1) := by decide +kernel
theorem dX12_weekCost_19 : decode cX12_weekCost 19 = .ok (.istore 7, 2) := by decide +kernel
theorem dX12_weekCost_21 : decode cX12_weekCost 21 = .ok (.aload_n 0, 1) := by decide +kernel
theorem dX12_weekCost_22 : decode cX12_weekCost 22 = .ok (.getfield 146, 3) := by decide +kernel
theorem dX12_weekCost_25 : decode cX12_weekCost 25 = .ok (.iload_n 1, 1) := by decide +kernel
theorem dX12_weekCost_26 : decode cX12_weekCost 26 = .ok (.iaload, 1) := by decide +kernel
theorem dX12_weekCost_27 : decode cX12_weekCost 27 = .ok (.iload_n 3, 1) := by decide +kernel
theorem dX12_weekCost_28 : decode cX12_weekCost 28 = .ok (.iload 5, 2) := by decide +kernel
theorem dX12_weekCost_30 : decode cX12_weekCost 30 = .ok (.imul, 1) := by decide +kernel
theorem dX12_weekCost_31 : decode cX12_weekCost 31 = .ok (.iadd, 1) := by decide +kernel
theorem dX12_weekCost_32 : decode cX12_weekCost 32 = .ok (.iload 7, 2) := by decide +kernel
theorem dX12_weekCost_34 : decode cX12_weekCost 34 = .ok (.iadd, 1) := by decide +kernel
theorem dX12_weekCost_35 : decode cX12_weekCost 35 = .ok (.istore 8, 2) := by decide +kernel
theorem dX12_weekCost_37 : decode cX12_weekCost 37 = .ok (.iload 7, 2) := by decide +kernel
theorem dX12_weekCost_39 : decode cX12_weekCost 39 = .ok (.iload 8, 2) := by decide +kernel
theorem dX12_weekCost_41 : decode cX12_weekCost 41 = .ok (.invokestatic 341, 3) := by decide +kernel
theorem dX12_weekCost_44 : decode cX12_weekCost 44 = .ok (.bipush 6, 2) := by decide +kernel
theorem dX12_weekCost_46 : decode cX12_weekCost 46 = .ok (.iadd, 1) := by decide +kernel
theorem dX12_weekCost_47 : decode cX12_weekCost 47 = .ok (.bipush 7, 2) := by decide +kernel
theorem dX12_weekCost_49 : decode cX12_weekCost 49 = .ok (.idiv, 1) := by decide +kernel
theorem dX12_weekCost_50 : decode cX12_weekCost 50 = .ok (.iload_n 1, 1) := by decide +kernel
theorem dX12_weekCost_51 : decode cX12_weekCost 51 = .ok (.iadd, 1) := by decide +kernel
theorem dX12_weekCost_52 : decode cX12_weekCost 52 = .ok (.imul, 1) := by decide +kernel
theorem dX12_weekCost_53 : decode cX12_weekCost 53 = .ok (.ireturn, 1) := by decide +kernel
theorem dX12_findWeeks_0 : decode cX12_findWeeks 0 = .ok (.iload_n 2, 1) := by decide +kernel
theorem dX12_findWeeks_1 : decode cX12_findWeeks 1 = .ok (.iload 4, 2) := by decide +kernel
theorem dX12_findWeeks_3 : decode cX12_findWeeks 3 = .ok (.idiv, 1) := by decide +kernel
theorem dX12_findWeeks_4 : decode cX12_findWeeks 4 = .ok (.istore 5, 2) := by decide +kernel
theorem dX12_findWeeks_6 : decode cX12_findWeeks 6 = .ok (.iconst 0, 1) := by decide +kernel
theorem dX12_findWeeks_7 : decode cX12_findWeeks 7 = .ok (.istore 6, 2) := by decide +kernel
theorem dX12_findWeeks_9 : decode cX12_findWeeks 9 = .ok (.iload 6, 2) := by decide +kernel
theorem dX12_findWeeks_11 : decode cX12_findWeeks 11 = .ok (.iload_n 3, 1) := by decide +kernel
theorem dX12_findWeeks_12 : decode cX12_findWeeks 12 = .ok (.if_icmp .ge 31, 3) := by decide +kernel
theorem dX12_findWeeks_15 : decode cX12_findWeeks 15 = .ok (.aload_n 0, 1) := by decide +kernel
theorem dX12_findWeeks_16 : decode cX12_findWeeks 16 = .ok (.getfield 146, 3) := by decide +kernel
theorem dX12_findWeeks_19 : decode cX12_findWeeks 19 = .ok (.iload 6, 2) := by decide +kernel
theorem dX12_findWeeks_21 : decode cX12_findWeeks 21 = .ok (.aload_n 0, 1) := by decide +kernel
theorem dX12_findWeeks_22 : decode cX12_findWeeks 22 = .ok (.iload_n 1, 1) := by decide +kernel
theorem dX12_findWeeks_23 : decode cX12_findWeeks 23 = .ok (.aload_n 0, 1) := by decide +kernel
theorem dX12_findWeeks_24 : decode cX12_findWeeks 24 = .ok (.getfield 167, 3) := by decide +kernel
theorem dX12_findWeeks_27 : decode cX12_findWeeks 27 = .ok (.bipush 7, 2) := by decide +kernel
theorem dX12_findWeeks_29 : decode cX12_findWeeks 29 = .ok (.iload 6, 2) := by decide +kernel
theorem dX12_findWeeks_31 : decode cX12_findWeeks 31 = .ok (.imul, 1) := by decide +kernel
theorem dX12_findWeeks_32 : decode cX12_findWeeks 32 = .ok (.iadd, 1) := by decide +kernel
theorem dX12_findWeeks_33 : decode cX12_findWeeks 33 = .ok (.invokevirtual 338, 3) := by decide +kernel
theorem dX12_findWeeks_36 : decode cX12_findWeeks 36 = .ok (.iastore, 1) := by decide +kernel
theorem dX12_findWeeks_37 : decode cX12_findWeeks 37 = .ok (.iinc 6 1, 3) := by decide +kernel
theorem dX12_findWeeks_40 : decode cX12_findWeeks 40 = .ok (.goto (-31), 3) := by decide +kernel
theorem dX12_findWeeks_43 : decode cX12_findWeeks 43 = .ok (.iload_n 3, 1) := by decide +kernel
theorem dX12_findWeeks_44 : decode cX12_findWeeks 44 = .ok (.iconst 1, 1) := by decide +kernel
theorem dX12_findWeeks_45 : decode cX12_findWeeks 45 = .ok (.isub, 1) := by decide +kernel
theorem dX12_findWeeks_46 : decode cX12_findWeeks 46 = .ok (.istore 6, 2) := by decide +kernel
theorem dX12_findWeeks_48 : decode cX12_findWeeks 48 = .ok (.iload 6, 2) := by decide +kernel
theorem dX12_findWeeks_50 : decode cX12_findWeeks 50 = .ok (.ifCond .lt 151, 3) := by decide +kernel
theorem dX12_findWeeks_53 : decode cX12_findWeeks 53 = .ok (.iconst 0, 1) := by decide +kernel
theorem dX12_findWeeks_54 : decode cX12_findWeeks 54 = .ok (.istore 7, 2) := by decide +kernel
theorem dX12_findWeeks_56 : decode cX12_findWeeks 56 = .ok (.iload 7, 2) := by decide +kernel
theorem dX12_findWeeks_58 : decode cX12_findWeeks 58 = .ok (.iload 5, 2) := by decide +kernel
theorem dX12_findWeeks_60 : decode cX12_findWeeks 60 = .ok (.if_icmp .gt 135, 3) := by decide +kernel
theorem dX12_findWeeks_63 : decode cX12_findWeeks 63 = .ok (.iconst (-1), 1) := by decide +kernel
theorem dX12_findWeeks_64 : decode cX12_findWeeks 64 = .ok (.istore 8, 2) := by decide +kernel
theorem dX12_findWeeks_66 : decode cX12_findWeeks 66 = .ok (.iload 6, 2) := by decide +kernel
theorem dX12_findWeeks_68 : decode cX12_findWeeks 68 = .ok (.iload_n 3, 1) := by decide +kernel
theorem dX12_findWeeks_69 : decode cX12_findWeeks 69 = .ok (.iconst 1, 1) := by decide +kernel
theorem dX12_findWeeks_70 : decode cX12_findWeeks 70 = .ok (.isub, 1) := by decide +kernel
theorem dX12_findWeeks_71 : decode cX12_findWeeks 71 = .ok (.if_icmp .ne 11, 3) := by decide +kernel
theorem dX12_findWeeks_74 : decode cX12_findWeeks 74 = .ok (.iload 5, 2) := by decide +kernel
theorem dX12_findWeeks_76 : decode cX12_findWeeks 76 = .ok (.iload 7, 2) := by decide +kernel
theorem dX12_findWeeks_78 : decode cX12_findWeeks 78 = .ok (.isub, 1) := by decide +kernel
theorem dX12_findWeeks_79 : decode cX12_findWeeks 79 = .ok (.goto 4, 3) := by decide +kernel
theorem dX12_findWeeks_82 : decode cX12_findWeeks 82 = .ok (.iconst 0, 1) := by decide +kernel
theorem dX12_findWeeks_83 : decode cX12_findWeeks 83 = .ok (.istore 9, 2) := by decide +kernel
theorem dX12_findWeeks_85 : decode cX12_findWeeks 85 = .ok (.iload 9, 2) := by decide +kernel
theorem dX12_findWeeks_87 : decode cX12_findWeeks 87 = .ok (.iload 5, 2) := by decide +kernel
theorem dX12_findWeeks_89 : decode cX12_findWeeks 89 = .ok (.iload 7, 2) := by decide +kernel
theorem dX12_findWeeks_91 : decode cX12_findWeeks 91 = .ok (.isub, 1) := by decide +kernel
theorem dX12_findWeeks_92 : decode cX12_findWeeks 92 = .ok (.if_icmp .gt 81, 3) := by decide +kernel
theorem dX12_findWeeks_95 : decode cX12_findWeeks 95 = .ok (.aload_n 0, 1) := by decide +kernel
theorem dX12_findWeeks_96 : decode cX12_findWeeks 96 = .ok (.iload 6, 2) := by decide +kernel
theorem dX12_findWeeks_98 : decode cX12_findWeeks 98 = .ok (.iload_n 3, 1) := by decide +kernel
theorem dX12_findWeeks_99 : decode cX12_findWeeks 99 = .ok (.iload 7, 2) := by decide +kernel
theorem dX12_findWeeks_101 : decode cX12_findWeeks 101 = .ok (.iload 9, 2) := by decide +kernel
theorem dX12_findWeeks_103 : decode cX12_findWeeks 103 = .ok (.iload 4, 2) := by decide +kernel
theorem dX12_findWeeks_105 : decode cX12_findWeeks 105 = .ok (.iload_n 2, 1) := by decide +kernel
theorem dX12_findWeeks_106 : decode cX12_findWeeks 106 = .ok (.iload 4, 2) := by decide +kernel
theorem dX12_findWeeks_108 : decode cX12_findWeeks 108 = .ok (.irem, 1) := by decide +kernel
theorem dX12_findWeeks_109 : decode cX12_findWeeks 109 = .ok (.invokevirtual 344, 3) := by decide +kernel
theorem dX12_findWeeks_112 : decode cX12_findWeeks 112 = .ok (.iload 6, 2) := by decide +kernel
theorem dX12_findWeeks_114 : decode cX12_findWeeks 114 = .ok (.iload_n 3, 1) := by decide +kernel
theorem dX12_findWeeks_115 : decode cX12_findWeeks 115 = .ok (.iconst 1, 1) := by decide +kernel
theorem dX12_findWeeks_116 : decode cX12_findWeeks 116 = .ok (.isub, 1) := by decide +kernel
theorem dX12_findWeeks_117 : decode cX12_findWeeks 117 = .ok (.if_icmp .ne 7, 3) := by decide +kernel
theorem dX12_findWeeks_120 : decode cX12_findWeeks 120 = .ok (.iconst 0, 1) := by decide +kernel
theorem dX12_findWeeks_121 : decode cX12_findWeeks 121 = .ok (.goto 22, 3) := by decide +kernel
theorem dX12_findWeeks_124 : decode cX12_findWeeks 124 = .ok (.aload_n 0, 1) := by decide +kernel
theorem dX12_findWeeks_125 : decode cX12_findWeeks 125 = .ok (.getfield 143, 3) := by decide +kernel
theorem dX12_findWeeks_128 : decode cX12_findWeeks 128 = .ok (.sipush 201, 3) := by decide +kernel
theorem dX12_findWeeks_131 : decode cX12_findWeeks 131 = .ok (.iload 6, 2) := by decide +kernel
theorem dX12_findWeeks_133 : decode cX12_findWeeks 133 = .ok (.iconst 1, 1) := by decide +kernel
theorem dX12_findWeeks_134 : decode cX12_findWeeks 134 = .ok (.iadd, 1) := by decide +kernel
theorem dX12_findWeeks_135 : decode cX12_findWeeks 135 = .ok (.imul, 1) := by decide +kernel
theorem dX12_findWeeks_136 : decode cX12_findWeeks 136 = .ok (.iload 7, 2) := by decide +kernel
theorem dX12_findWeeks_138 : decode cX12_findWeeks 138 = .ok (.iadd, 1) := by decide +kernel
theorem dX12_findWeeks_139 : decode cX12_findWeeks 139 = .ok (.iload 9, 2) := by decide +kernel
theorem dX12_findWeeks_141 : decode cX12_findWeeks 141 = .ok (.iadd, 1) := by decide +kernel
theorem dX12_findWeeks_142 : decode cX12_findWeeks 142 = .ok (.iaload, 1) := by decide +kernel
theorem dX12_findWeeks_143 : decode cX12_findWeeks 143 = .ok (.iadd, 1) := by decide +kernel
theorem dX12_findWeeks_144 : decode cX12_findWeeks 144 = .ok (.istore 10, 2) := by decide +kernel
theorem dX12_findWeeks_146 : decode cX12_findWeeks 146 = .ok (.iload 8, 2) := by decide +kernel
theorem dX12_findWeeks_148 : decode cX12_findWeeks 148 = .ok (.ifCond .lt 10, 3) := by decide +kernel
theorem dX12_findWeeks_151 : decode cX12_findWeeks 151 = .ok (.iload 10, 2) := by decide +kernel
theorem dX12_findWeeks_153 : decode cX12_findWeeks 153 = .ok (.iload 8, 2) := by decide +kernel
theorem dX12_findWeeks_155 : decode cX12_findWeeks 155 = .ok (.if_icmp .ge 8, 3) := by decide +kernel
theorem dX12_findWeeks_158 : decode cX12_findWeeks 158 = .ok (.iload 10, 2) := by decide +kernel
theorem dX12_findWeeks_160 : decode cX12_findWeeks 160 = .ok (.goto 5, 3) := by decide +kernel
theorem dX12_findWeeks_163 : decode cX12_findWeeks 163 = .ok (.iload 8, 2) := by decide +kernel
theorem dX12_findWeeks_165 : decode cX12_findWeeks 165 = .ok (.istore 8, 2) := by decide +kernel
theorem dX12_findWeeks_167 : decode cX12_findWeeks 167 = .ok (.iinc 9 1, 3) := by decide +kernel
theorem dX12_findWeeks_170 : decode cX12_findWeeks 170 = .ok (.goto (-85), 3) := by decide +kernel
theorem dX12_findWeeks_173 : decode cX12_findWeeks 173 = .ok (.aload_n 0, 1) := by decide +kernel
theorem dX12_findWeeks_174 : decode cX12_findWeeks 174 = .ok (.getfield 143, 3) := by decide +kernel
theorem dX12_findWeeks_177 : decode cX12_findWeeks 177 = .ok (.sipush 201, 3) := by decide +kernel
theorem dX12_findWeeks_180 : decode cX12_findWeeks 180 = .ok (.iload 6, 2) := by decide +kernel
theorem dX12_findWeeks_182 : decode cX12_findWeeks 182 = .ok (.imul, 1) := by decide +kernel
theorem dX12_findWeeks_183 : decode cX12_findWeeks 183 = .ok (.iload 7, 2) := by decide +kernel
theorem dX12_findWeeks_185 : decode cX12_findWeeks 185 = .ok (.iadd, 1) := by decide +kernel
theorem dX12_findWeeks_186 : decode cX12_findWeeks 186 = .ok (.iload 8, 2) := by decide +kernel
theorem dX12_findWeeks_188 : decode cX12_findWeeks 188 = .ok (.iastore, 1) := by decide +kernel
theorem dX12_findWeeks_189 : decode cX12_findWeeks 189 = .ok (.iinc 7 1, 3) := by decide +kernel
theorem dX12_findWeeks_192 : decode cX12_findWeeks 192 = .ok (.goto (-136), 3) := by decide +kernel
theorem dX12_findWeeks_195 : decode cX12_findWeeks 195 = .ok (.iinc 6 (-1), 3) := by decide +kernel
theorem dX12_findWeeks_198 : decode cX12_findWeeks 198 = .ok (.goto (-150), 3) := by decide +kernel
theorem dX12_findWeeks_201 : decode cX12_findWeeks 201 = .ok (.return_, 1) := by decide +kernel
theorem dX12_wrongWeeks_0 : decode cX12_wrongWeeks 0 = .ok (.iload_n 0, 1) := by decide +kernel
theorem dX12_wrongWeeks_1 : decode cX12_wrongWeeks 1 = .ok (.iconst 1, 1) := by decide +kernel
theorem dX12_wrongWeeks_2 : decode cX12_wrongWeeks 2 = .ok (.if_icmp .lt 18, 3) := by decide +kernel
theorem dX12_wrongWeeks_5 : decode cX12_wrongWeeks 5 = .ok (.iload_n 1, 1) := by decide +kernel
theorem dX12_wrongWeeks_6 : decode cX12_wrongWeeks 6 = .ok (.iconst 1, 1) := by decide +kernel
theorem dX12_wrongWeeks_7 : decode cX12_wrongWeeks 7 = .ok (.if_icmp .lt 13, 3) := by decide +kernel
theorem dX12_wrongWeeks_10 : decode cX12_wrongWeeks 10 = .ok (.iload_n 2, 1) := by decide +kernel
theorem dX12_wrongWeeks_11 : decode cX12_wrongWeeks 11 = .ok (.iconst 1, 1) := by decide +kernel
theorem dX12_wrongWeeks_12 : decode cX12_wrongWeeks 12 = .ok (.if_icmp .lt 8, 3) := by decide +kernel
theorem dX12_wrongWeeks_15 : decode cX12_wrongWeeks 15 = .ok (.iload_n 3, 1) := by decide +kernel
theorem dX12_wrongWeeks_16 : decode cX12_wrongWeeks 16 = .ok (.iconst 1, 1) := by decide +kernel
theorem dX12_wrongWeeks_17 : decode cX12_wrongWeeks 17 = .ok (.if_icmp .ge 8, 3) := by decide +kernel
theorem dX12_wrongWeeks_20 : decode cX12_wrongWeeks 20 = .ok (.bipush (-4), 2) := by decide +kernel
theorem dX12_wrongWeeks_22 : decode cX12_wrongWeeks 22 = .ok (.goto 35, 3) := by decide +kernel
theorem dX12_wrongWeeks_25 : decode cX12_wrongWeeks 25 = .ok (.iload_n 0, 1) := by decide +kernel
theorem dX12_wrongWeeks_26 : decode cX12_wrongWeeks 26 = .ok (.sipush 200, 3) := by decide +kernel
theorem dX12_wrongWeeks_29 : decode cX12_wrongWeeks 29 = .ok (.if_icmp .gt 22, 3) := by decide +kernel
theorem dX12_wrongWeeks_32 : decode cX12_wrongWeeks 32 = .ok (.iload_n 1, 1) := by decide +kernel
theorem dX12_wrongWeeks_33 : decode cX12_wrongWeeks 33 = .ok (.bipush 6, 2) := by decide +kernel
theorem dX12_wrongWeeks_35 : decode cX12_wrongWeeks 35 = .ok (.if_icmp .gt 16, 3) := by decide +kernel
theorem dX12_wrongWeeks_38 : decode cX12_wrongWeeks 38 = .ok (.iload_n 2, 1) := by decide +kernel
theorem dX12_wrongWeeks_39 : decode cX12_wrongWeeks 39 = .ok (.bipush 50, 2) := by decide +kernel
theorem dX12_wrongWeeks_41 : decode cX12_wrongWeeks 41 = .ok (.if_icmp .gt 10, 3) := by decide +kernel
theorem dX12_wrongWeeks_44 : decode cX12_wrongWeeks 44 = .ok (.iload_n 3, 1) := by decide +kernel
theorem dX12_wrongWeeks_45 : decode cX12_wrongWeeks 45 = .ok (.sipush 9999, 3) := by decide +kernel
theorem dX12_wrongWeeks_48 : decode cX12_wrongWeeks 48 = .ok (.if_icmp .le 8, 3) := by decide +kernel
theorem dX12_wrongWeeks_51 : decode cX12_wrongWeeks 51 = .ok (.bipush (-6), 2) := by decide +kernel
theorem dX12_wrongWeeks_53 : decode cX12_wrongWeeks 53 = .ok (.goto 4, 3) := by decide +kernel
theorem dX12_wrongWeeks_56 : decode cX12_wrongWeeks 56 = .ok (.iconst 0, 1) := by decide +kernel
theorem dX12_wrongWeeks_57 : decode cX12_wrongWeeks 57 = .ok (.ireturn, 1) := by decide +kernel
theorem dX12_weeks_0 : decode cX12_weeks 0 = .ok (.iload_n 1, 1) := by decide +kernel
theorem dX12_weeks_1 : decode cX12_weeks 1 = .ok (.iconst 0, 1) := by decide +kernel
theorem dX12_weeks_2 : decode cX12_weeks 2 = .ok (.iconst 3, 1) := by decide +kernel
theorem dX12_weeks_3 : decode cX12_weeks 3 = .ok (.invokestatic 157, 3) := by decide +kernel
theorem dX12_weeks_6 : decode cX12_weeks 6 = .ok (.ifCond .ne 9, 3) := by decide +kernel
theorem dX12_weeks_9 : decode cX12_weeks 9 = .ok (.aload_n 0, 1) := by decide +kernel
theorem dX12_weeks_10 : decode cX12_weeks 10 = .ok (.iconst (-1), 1) := by decide +kernel
theorem dX12_weeks_11 : decode cX12_weeks 11 = .ok (.invokevirtual 174, 3) := by decide +kernel
theorem dX12_weeks_14 : decode cX12_weeks 14 = .ok (.ireturn, 1) := by decide +kernel
theorem dX12_weeks_15 : decode cX12_weeks 15 = .ok (.iload_n 2, 1) := by decide +kernel
theorem dX12_weeks_16 : decode cX12_weeks 16 = .ok (.iload_n 3, 1) := by decide +kernel
theorem dX12_weeks_17 : decode cX12_weeks 17 = .ok (.iload 4, 2) := by decide +kernel
theorem dX12_weeks_19 : decode cX12_weeks 19 = .ok (.iload 5, 2) := by decide +kernel
theorem dX12_weeks_21 : decode cX12_weeks 21 = .ok (.invokestatic 348, 3) := by decide +kernel
theorem dX12_weeks_24 : decode cX12_weeks 24 = .ok (.istore 6, 2) := by decide +kernel
theorem dX12_weeks_26 : decode cX12_weeks 26 = .ok (.iload 6, 2) := by decide +kernel
theorem dX12_weeks_28 : decode cX12_weeks 28 = .ok (.ifCond .ge 10, 3) := by decide +kernel
theorem dX12_weeks_31 : decode cX12_weeks 31 = .ok (.aload_n 0, 1) := by decide +kernel
theorem dX12_weeks_32 : decode cX12_weeks 32 = .ok (.iload 6, 2) := by decide +kernel
theorem dX12_weeks_34 : decode cX12_weeks 34 = .ok (.invokevirtual 174, 3) := by decide +kernel
theorem dX12_weeks_37 : decode cX12_weeks 37 = .ok (.ireturn, 1) := by decide +kernel
theorem dX12_weeks_38 : decode cX12_weeks 38 = .ok (.aload_n 0, 1) := by decide +kernel
theorem dX12_weeks_39 : decode cX12_weeks 39 = .ok (.iload_n 1, 1) := by decide +kernel
theorem dX12_weeks_40 : decode cX12_weeks 40 = .ok (.iload_n 2, 1) := by decide +kernel
theorem dX12_weeks_41 : decode cX12_weeks 41 = .ok (.iload_n 3, 1) := by decide +kernel
theorem dX12_weeks_42 : decode cX12_weeks 42 = .ok (.iload 4, 2) := by decide +kernel
theorem dX12_weeks_44 : decode cX12_weeks 44 = .ok (.invokevirtual 352, 3) := by decide +kernel
theorem dX12_weeks_47 : decode cX12_weeks 47 = .ok (.aload_n 0, 1) := by decide +kernel
theorem dX12_weeks_48 : decode cX12_weeks 48 = .ok (.getfield 143, 3) := by decide +kernel
theorem dX12_weeks_51 : decode cX12_weeks 51 = .ok (.iconst 0, 1) := by decide +kernel
theorem dX12_weeks_52 : decode cX12_weeks 52 = .ok (.iaload, 1) := by decide +kernel
theorem dX12_weeks_53 : decode cX12_weeks 53 = .ok (.iload 5, 2) := by decide +kernel
theorem dX12_weeks_55 : decode cX12_weeks 55 = .ok (.imul, 1) := by decide +kernel
theorem dX12_weeks_56 : decode cX12_weeks 56 = .ok (.ireturn, 1) := by decide +kernel
theorem dX12_weekOf_0 : decode cX12_weekOf 0 = .ok (.iload_n 1, 1) := by decide +kernel
theorem dX12_weekOf_1 : decode cX12_weekOf 1 = .ok (.iconst 0, 1) := by decide +kernel
theorem dX12_weekOf_2 : decode cX12_weekOf 2 = .ok (.iconst 3, 1) := by decide +kernel
theorem dX12_weekOf_3 : decode cX12_weekOf 3 = .ok (.invokestatic 157, 3) := by decide +kernel
theorem dX12_weekOf_6 : decode cX12_weekOf 6 = .ok (.ifCond .eq 14, 3) := by decide +kernel
theorem dX12_weekOf_9 : decode cX12_weekOf 9 = .ok (.iload 6, 2) := by decide +kernel
theorem dX12_weekOf_11 : decode cX12_weekOf 11 = .ok (.ifCond .lt 9, 3) := by decide +kernel
theorem dX12_weekOf_14 : decode cX12_weekOf 14 = .ok (.iload 6, 2) := by decide +kernel
theorem dX12_weekOf_16 : decode cX12_weekOf 16 = .ok (.iload_n 3, 1) := by decide +kernel
theorem dX12_weekOf_17 : decode cX12_weekOf 17 = .ok (.if_icmp .lt 9, 3) := by decide +kernel
theorem dX12_weekOf_20 : decode cX12_weekOf 20 = .ok (.aload_n 0, 1) := by decide +kernel
theorem dX12_weekOf_21 : decode cX12_weekOf 21 = .ok (.iconst (-1), 1) := by decide +kernel
theorem dX12_weekOf_22 : decode cX12_weekOf 22 = .ok (.invokevirtual 174, 3) := by decide +kernel
theorem dX12_weekOf_25 : decode cX12_weekOf 25 = .ok (.ireturn, 1) := by decide +kernel
theorem dX12_weekOf_26 : decode cX12_weekOf 26 = .ok (.iload_n 2, 1) := by decide +kernel
theorem dX12_weekOf_27 : decode cX12_weekOf 27 = .ok (.iload_n 3, 1) := by decide +kernel
theorem dX12_weekOf_28 : decode cX12_weekOf 28 = .ok (.iload 4, 2) := by decide +kernel
theorem dX12_weekOf_30 : decode cX12_weekOf 30 = .ok (.iload 5, 2) := by decide +kernel
theorem dX12_weekOf_32 : decode cX12_weekOf 32 = .ok (.invokestatic 348, 3) := by decide +kernel
theorem dX12_weekOf_35 : decode cX12_weekOf 35 = .ok (.istore 7, 2) := by decide +kernel
theorem dX12_weekOf_37 : decode cX12_weekOf 37 = .ok (.iload 7, 2) := by decide +kernel
theorem dX12_weekOf_39 : decode cX12_weekOf 39 = .ok (.ifCond .ge 10, 3) := by decide +kernel
theorem dX12_weekOf_42 : decode cX12_weekOf 42 = .ok (.aload_n 0, 1) := by decide +kernel
theorem dX12_weekOf_43 : decode cX12_weekOf 43 = .ok (.iload 7, 2) := by decide +kernel
theorem dX12_weekOf_45 : decode cX12_weekOf 45 = .ok (.invokevirtual 174, 3) := by decide +kernel
theorem dX12_weekOf_48 : decode cX12_weekOf 48 = .ok (.ireturn, 1) := by decide +kernel
theorem dX12_weekOf_49 : decode cX12_weekOf 49 = .ok (.aload_n 0, 1) := by decide +kernel
theorem dX12_weekOf_50 : decode cX12_weekOf 50 = .ok (.iload_n 1, 1) := by decide +kernel
theorem dX12_weekOf_51 : decode cX12_weekOf 51 = .ok (.iload_n 2, 1) := by decide +kernel
theorem dX12_weekOf_52 : decode cX12_weekOf 52 = .ok (.iload_n 3, 1) := by decide +kernel
theorem dX12_weekOf_53 : decode cX12_weekOf 53 = .ok (.iload 4, 2) := by decide +kernel
theorem dX12_weekOf_55 : decode cX12_weekOf 55 = .ok (.invokevirtual 352, 3) := by decide +kernel
theorem dX12_weekOf_58 : decode cX12_weekOf 58 = .ok (.iconst 0, 1) := by decide +kernel
theorem dX12_weekOf_59 : decode cX12_weekOf 59 = .ok (.istore 8, 2) := by decide +kernel
theorem dX12_weekOf_61 : decode cX12_weekOf 61 = .ok (.iconst 0, 1) := by decide +kernel
theorem dX12_weekOf_62 : decode cX12_weekOf 62 = .ok (.istore 9, 2) := by decide +kernel
theorem dX12_weekOf_64 : decode cX12_weekOf 64 = .ok (.iconst 0, 1) := by decide +kernel
theorem dX12_weekOf_65 : decode cX12_weekOf 65 = .ok (.istore 10, 2) := by decide +kernel
theorem dX12_weekOf_67 : decode cX12_weekOf 67 = .ok (.iload 10, 2) := by decide +kernel
theorem dX12_weekOf_69 : decode cX12_weekOf 69 = .ok (.iload 6, 2) := by decide +kernel
theorem dX12_weekOf_71 : decode cX12_weekOf 71 = .ok (.if_icmp .gt 93, 3) := by decide +kernel
theorem dX12_weekOf_74 : decode cX12_weekOf 74 = .ok (.iload 8, 2) := by decide +kernel
theorem dX12_weekOf_76 : decode cX12_weekOf 76 = .ok (.iload 9, 2) := by decide +kernel
theorem dX12_weekOf_78 : decode cX12_weekOf 78 = .ok (.iadd, 1) := by decide +kernel
theorem dX12_weekOf_79 : decode cX12_weekOf 79 = .ok (.istore 8, 2) := by decide +kernel
theorem dX12_weekOf_81 : decode cX12_weekOf 81 = .ok (.iload_n 2, 1) := by decide +kernel
theorem dX12_weekOf_82 : decode cX12_weekOf 82 = .ok (.iload 4, 2) := by decide +kernel
theorem dX12_weekOf_84 : decode cX12_weekOf 84 = .ok (.idiv, 1) := by decide +kernel
theorem dX12_weekOf_85 : decode cX12_weekOf 85 = .ok (.iload 8, 2) := by decide +kernel
theorem dX12_weekOf_87 : decode cX12_weekOf 87 = .ok (.isub, 1) := by decide +kernel
theorem dX12_weekOf_88 : decode cX12_weekOf 88 = .ok (.istore 9, 2) := by decide +kernel
theorem dX12_weekOf_90 : decode cX12_weekOf 90 = .ok (.iload 10, 2) := by decide +kernel
theorem dX12_weekOf_92 : decode cX12_weekOf 92 = .ok (.iload_n 3, 1) := by decide +kernel
theorem dX12_weekOf_93 : decode cX12_weekOf 93 = .ok (.iconst 1, 1) := by decide +kernel
theorem dX12_weekOf_94 : decode cX12_weekOf 94 = .ok (.isub, 1) := by decide +kernel
theorem dX12_weekOf_95 : decode cX12_weekOf 95 = .ok (.if_icmp .ge 63, 3) := by decide +kernel
theorem dX12_weekOf_98 : decode cX12_weekOf 98 = .ok (.aload_n 0, 1) := by decide +kernel
theorem dX12_weekOf_99 : decode cX12_weekOf 99 = .ok (.iload 10, 2) := by decide +kernel
theorem dX12_weekOf_101 : decode cX12_weekOf 101 = .ok (.iload_n 3, 1) := by decide +kernel
theorem dX12_weekOf_102 : decode cX12_weekOf 102 = .ok (.iload 8, 2) := by decide +kernel
theorem dX12_weekOf_104 : decode cX12_weekOf 104 = .ok (.iload 9, 2) := by decide +kernel
theorem dX12_weekOf_106 : decode cX12_weekOf 106 = .ok (.iload 4, 2) := by decide +kernel
theorem dX12_weekOf_108 : decode cX12_weekOf 108 = .ok (.iload_n 2, 1) := by decide +kernel
theorem dX12_weekOf_109 : decode cX12_weekOf 109 = .ok (.iload 4, 2) := by decide +kernel
theorem dX12_weekOf_111 : decode cX12_weekOf 111 = .ok (.irem, 1) := by decide +kernel
theorem dX12_weekOf_112 : decode cX12_weekOf 112 = .ok (.invokevirtual 344, 3) := by decide +kernel
theorem dX12_weekOf_115 : decode cX12_weekOf 115 = .ok (.aload_n 0, 1) := by decide +kernel
theorem dX12_weekOf_116 : decode cX12_weekOf 116 = .ok (.getfield 143, 3) := by decide +kernel
theorem dX12_weekOf_119 : decode cX12_weekOf 119 = .ok (.sipush 201, 3) := by decide +kernel
theorem dX12_weekOf_122 : decode cX12_weekOf 122 = .ok (.iload 10, 2) := by decide +kernel
theorem dX12_weekOf_124 : decode cX12_weekOf 124 = .ok (.iconst 1, 1) := by decide +kernel
theorem dX12_weekOf_125 : decode cX12_weekOf 125 = .ok (.iadd, 1) := by decide +kernel
theorem dX12_weekOf_126 : decode cX12_weekOf 126 = .ok (.imul, 1) := by decide +kernel
theorem dX12_weekOf_127 : decode cX12_weekOf 127 = .ok (.iload 8, 2) := by decide +kernel
theorem dX12_weekOf_129 : decode cX12_weekOf 129 = .ok (.iadd, 1) := by decide +kernel
theorem dX12_weekOf_130 : decode cX12_weekOf 130 = .ok (.iload 9, 2) := by decide +kernel
theorem dX12_weekOf_132 : decode cX12_weekOf 132 = .ok (.iadd, 1) := by decide +kernel
theorem dX12_weekOf_133 : decode cX12_weekOf 133 = .ok (.iaload, 1) := by decide +kernel
theorem dX12_weekOf_134 : decode cX12_weekOf 134 = .ok (.iadd, 1) := by decide +kernel
theorem dX12_weekOf_135 : decode cX12_weekOf 135 = .ok (.aload_n 0, 1) := by decide +kernel
theorem dX12_weekOf_136 : decode cX12_weekOf 136 = .ok (.getfield 143, 3) := by decide +kernel
theorem dX12_weekOf_139 : decode cX12_weekOf 139 = .ok (.sipush 201, 3) := by decide +kernel
theorem dX12_weekOf_142 : decode cX12_weekOf 142 = .ok (.iload 10, 2) := by decide +kernel
theorem dX12_weekOf_144 : decode cX12_weekOf 144 = .ok (.imul, 1) := by decide +kernel
theorem dX12_weekOf_145 : decode cX12_weekOf 145 = .ok (.iload 8, 2) := by decide +kernel
theorem dX12_weekOf_147 : decode cX12_weekOf 147 = .ok (.iadd, 1) := by decide +kernel
theorem dX12_weekOf_148 : decode cX12_weekOf 148 = .ok (.iaload, 1) := by decide +kernel
theorem dX12_weekOf_149 : decode cX12_weekOf 149 = .ok (.if_icmp .eq 9, 3) := by decide +kernel
theorem dX12_weekOf_152 : decode cX12_weekOf 152 = .ok (.iinc 9 (-1), 3) := by decide +kernel
theorem dX12_weekOf_155 : decode cX12_weekOf 155 = .ok (.goto (-65), 3) := by decide +kernel
theorem dX12_weekOf_158 : decode cX12_weekOf 158 = .ok (.iinc 10 1, 3) := by decide +kernel
theorem dX12_weekOf_161 : decode cX12_weekOf 161 = .ok (.goto (-94), 3) := by decide +kernel
theorem dX12_weekOf_164 : decode cX12_weekOf 164 = .ok (.iload 9, 2) := by decide +kernel
theorem dX12_weekOf_166 : decode cX12_weekOf 166 = .ok (.iload 4, 2) := by decide +kernel
theorem dX12_weekOf_168 : decode cX12_weekOf 168 = .ok (.imul, 1) := by decide +kernel
theorem dX12_weekOf_169 : decode cX12_weekOf 169 = .ok (.iload 6, 2) := by decide +kernel
theorem dX12_weekOf_171 : decode cX12_weekOf 171 = .ok (.iload_n 3, 1) := by decide +kernel
theorem dX12_weekOf_172 : decode cX12_weekOf 172 = .ok (.iconst 1, 1) := by decide +kernel
theorem dX12_weekOf_173 : decode cX12_weekOf 173 = .ok (.isub, 1) := by decide +kernel
theorem dX12_weekOf_174 : decode cX12_weekOf 174 = .ok (.if_icmp .ne 10, 3) := by decide +kernel
theorem dX12_weekOf_177 : decode cX12_weekOf 177 = .ok (.iload_n 2, 1) := by decide +kernel
theorem dX12_weekOf_178 : decode cX12_weekOf 178 = .ok (.iload 4, 2) := by decide +kernel
theorem dX12_weekOf_180 : decode cX12_weekOf 180 = .ok (.irem, 1) := by decide +kernel
theorem dX12_weekOf_181 : decode cX12_weekOf 181 = .ok (.goto 4, 3) := by decide +kernel
theorem dX12_weekOf_184 : decode cX12_weekOf 184 = .ok (.iconst 0, 1) := by decide +kernel
theorem dX12_weekOf_185 : decode cX12_weekOf 185 = .ok (.iadd, 1) := by decide +kernel
theorem dX12_weekOf_186 : decode cX12_weekOf 186 = .ok (.ireturn, 1) := by decide +kernel
theorem dX12_turning_0 : decode cX12_turning 0 = .ok (.aload_n 0, 1) := by decide +kernel
theorem dX12_turning_1 : decode cX12_turning 1 = .ok (.iload_n 1, 1) := by decide +kernel
theorem dX12_turning_2 : decode cX12_turning 2 = .ok (.iload_n 2, 1) := by decide +kernel
theorem dX12_turning_3 : decode cX12_turning 3 = .ok (.invokevirtual 258, 3) := by decide +kernel
theorem dX12_turning_6 : decode cX12_turning 6 = .ok (.ifCond .eq 31, 3) := by decide +kernel
theorem dX12_turning_9 : decode cX12_turning 9 = .ok (.aload_n 0, 1) := by decide +kernel
theorem dX12_turning_10 : decode cX12_turning 10 = .ok (.iload 4, 2) := by decide +kernel
theorem dX12_turning_12 : decode cX12_turning 12 = .ok (.invokevirtual 194, 3) := by decide +kernel
theorem dX12_turning_15 : decode cX12_turning 15 = .ok (.ifCond .eq 22, 3) := by decide +kernel
theorem dX12_turning_18 : decode cX12_turning 18 = .ok (.aload_n 0, 1) := by decide +kernel
theorem dX12_turning_19 : decode cX12_turning 19 = .ok (.iload 4, 2) := by decide +kernel
theorem dX12_turning_21 : decode cX12_turning 21 = .ok (.iload_n 2, 1) := by decide +kernel
theorem dX12_turning_22 : decode cX12_turning 22 = .ok (.invokevirtual 249, 3) := by decide +kernel
theorem dX12_turning_25 : decode cX12_turning 25 = .ok (.ifCond .eq 12, 3) := by decide +kernel
theorem dX12_turning_28 : decode cX12_turning 28 = .ok (.aload_n 0, 1) := by decide +kernel
theorem dX12_turning_29 : decode cX12_turning 29 = .ok (.iload 4, 2) := by decide +kernel
theorem dX12_turning_31 : decode cX12_turning 31 = .ok (.invokevirtual 252, 3) := by decide +kernel
theorem dX12_turning_34 : decode cX12_turning 34 = .ok (.ifCond .eq 9, 3) := by decide +kernel
theorem dX12_turning_37 : decode cX12_turning 37 = .ok (.aload_n 0, 1) := by decide +kernel
theorem dX12_turning_38 : decode cX12_turning 38 = .ok (.iconst (-1), 1) := by decide +kernel
theorem dX12_turning_39 : decode cX12_turning 39 = .ok (.invokevirtual 174, 3) := by decide +kernel
theorem dX12_turning_42 : decode cX12_turning 42 = .ok (.ireturn, 1) := by decide +kernel
theorem dX12_turning_43 : decode cX12_turning 43 = .ok (.iload 5, 2) := by decide +kernel
theorem dX12_turning_45 : decode cX12_turning 45 = .ok (.iconst 0, 1) := by decide +kernel
theorem dX12_turning_46 : decode cX12_turning 46 = .ok (.iconst 3, 1) := by decide +kernel
theorem dX12_turning_47 : decode cX12_turning 47 = .ok (.invokestatic 157, 3) := by decide +kernel
theorem dX12_turning_50 : decode cX12_turning 50 = .ok (.ifCond .ne 10, 3) := by decide +kernel
theorem dX12_turning_53 : decode cX12_turning 53 = .ok (.aload_n 0, 1) := by decide +kernel
theorem dX12_turning_54 : decode cX12_turning 54 = .ok (.bipush (-2), 2) := by decide +kernel
theorem dX12_turning_56 : decode cX12_turning 56 = .ok (.invokevirtual 174, 3) := by decide +kernel
theorem dX12_turning_59 : decode cX12_turning 59 = .ok (.ireturn, 1) := by decide +kernel
theorem dX12_turning_60 : decode cX12_turning 60 = .ok (.iload_n 3, 1) := by decide +kernel
theorem dX12_turning_61 : decode cX12_turning 61 = .ok (.invokestatic 261, 3) := by decide +kernel
theorem dX12_turning_64 : decode cX12_turning 64 = .ok (.ifCond .ge 12, 3) := by decide +kernel
theorem dX12_turning_67 : decode cX12_turning 67 = .ok (.aload_n 0, 1) := by decide +kernel
theorem dX12_turning_68 : decode cX12_turning 68 = .ok (.iload_n 3, 1) := by decide +kernel
theorem dX12_turning_69 : decode cX12_turning 69 = .ok (.invokestatic 261, 3) := by decide +kernel
theorem dX12_turning_72 : decode cX12_turning 72 = .ok (.invokevirtual 174, 3) := by decide +kernel
theorem dX12_turning_75 : decode cX12_turning 75 = .ok (.ireturn, 1) := by decide +kernel
theorem dX12_turning_76 : decode cX12_turning 76 = .ok (.aload_n 0, 1) := by decide +kernel
theorem dX12_turning_77 : decode cX12_turning 77 = .ok (.iload 4, 2) := by decide +kernel
theorem dX12_turning_79 : decode cX12_turning 79 = .ok (.iload_n 2, 1) := by decide +kernel
theorem dX12_turning_80 : decode cX12_turning 80 = .ok (.iload_n 3, 1) := by decide +kernel
theorem dX12_turning_81 : decode cX12_turning 81 = .ok (.invokevirtual 356, 3) := by decide +kernel
theorem dX12_turning_84 : decode cX12_turning 84 = .ok (.istore 6, 2) := by decide +kernel
theorem dX12_turning_86 : decode cX12_turning 86 = .ok (.aload_n 0, 1) := by decide +kernel
theorem dX12_turning_87 : decode cX12_turning 87 = .ok (.getfield 65, 3) := by decide +kernel
theorem dX12_turning_90 : decode cX12_turning 90 = .ok (.iload 5, 2) := by decide +kernel
theorem dX12_turning_92 : decode cX12_turning 92 = .ok (.iaload, 1) := by decide +kernel
theorem dX12_turning_93 : decode cX12_turning 93 = .ok (.istore 7, 2) := by decide +kernel
theorem dX12_turning_95 : decode cX12_turning 95 = .ok (.bipush (-9), 2) := by decide +kernel
theorem dX12_turning_97 : decode cX12_turning 97 = .ok (.istore 8, 2) := by decide +kernel
theorem dX12_turning_99 : decode cX12_turning 99 = .ok (.iconst 1, 1) := by decide +kernel
theorem dX12_turning_100 : decode cX12_turning 100 = .ok (.istore 9, 2) := by decide +kernel
theorem dX12_turning_102 : decode cX12_turning 102 = .ok (.iload 9, 2) := by decide +kernel
theorem dX12_turning_104 : decode cX12_turning 104 = .ok (.bipush 60, 2) := by decide +kernel
theorem dX12_turning_106 : decode cX12_turning 106 = .ok (.if_icmp .gt 107, 3) := by decide +kernel
theorem dX12_turning_109 : decode cX12_turning 109 = .ok (.iload 8, 2) := by decide +kernel
theorem dX12_turning_111 : decode cX12_turning 111 = .ok (.bipush (-9), 2) := by decide +kernel
theorem dX12_turning_113 : decode cX12_turning 113 = .ok (.if_icmp .ne 100, 3) := by decide +kernel
theorem dX12_turning_116 : decode cX12_turning 116 = .ok (.iconst 0, 1) := by decide +kernel
theorem dX12_turning_117 : decode cX12_turning 117 = .ok (.istore 10, 2) := by decide +kernel
theorem dX12_turning_119 : decode cX12_turning 119 = .ok (.iload 10, 2) := by decide +kernel
theorem dX12_turning_121 : decode cX12_turning 121 = .ok (.iconst 2, 1) := by decide +kernel
theorem dX12_turning_122 : decode cX12_turning 122 = .ok (.if_icmp .ge 85, 3) := by decide +kernel
theorem dX12_turning_125 : decode cX12_turning 125 = .ok (.iload 8, 2) := by decide +kernel
theorem dX12_turning_127 : decode cX12_turning 127 = .ok (.bipush (-9), 2) := by decide +kernel
theorem dX12_turning_129 : decode cX12_turning 129 = .ok (.if_icmp .ne 78, 3) := by decide +kernel
theorem dX12_turning_132 : decode cX12_turning 132 = .ok (.iload 10, 2) := by decide +kernel
theorem dX12_turning_134 : decode cX12_turning 134 = .ok (.ifCond .ne 11, 3) := by decide +kernel
theorem dX12_turning_137 : decode cX12_turning 137 = .ok (.iload 7, 2) := by decide +kernel
theorem dX12_turning_139 : decode cX12_turning 139 = .ok (.iload 9, 2) := by decide +kernel
theorem dX12_turning_141 : decode cX12_turning 141 = .ok (.iadd, 1) := by decide +kernel
theorem dX12_turning_142 : decode cX12_turning 142 = .ok (.goto 8, 3) := by decide +kernel
theorem dX12_turning_145 : decode cX12_turning 145 = .ok (.iload 7, 2) := by decide +kernel
theorem dX12_turning_147 : decode cX12_turning 147 = .ok (.iload 9, 2) := by decide +kernel
theorem dX12_turning_149 : decode cX12_turning 149 = .ok (.isub, 1) := by decide +kernel
theorem dX12_turning_150 : decode cX12_turning 150 = .ok (.istore 11, 2) := by decide +kernel
theorem dX12_turning_152 : decode cX12_turning 152 = .ok (.iload 11, 2) := by decide +kernel
theorem dX12_turning_154 : decode cX12_turning 154 = .ok (.iconst 0, 1) := by decide +kernel
theorem dX12_turning_155 : decode cX12_turning 155 = .ok (.bipush 60, 2) := by decide +kernel
theorem dX12_turning_157 : decode cX12_turning 157 = .ok (.invokestatic 157, 3) := by decide +kernel
theorem dX12_turning_160 : decode cX12_turning 160 = .ok (.ifCond .eq 41, 3) := by decide +kernel
theorem dX12_turning_163 : decode cX12_turning 163 = .ok (.aload_n 0, 1) := by decide +kernel
theorem dX12_turning_164 : decode cX12_turning 164 = .ok (.getfield 65, 3) := by decide +kernel
theorem dX12_turning_167 : decode cX12_turning 167 = .ok (.iload 5, 2) := by decide +kernel
theorem dX12_turning_169 : decode cX12_turning 169 = .ok (.iload 11, 2) := by decide +kernel
theorem dX12_turning_171 : decode cX12_turning 171 = .ok (.iastore, 1) := by decide +kernel
theorem dX12_turning_172 : decode cX12_turning 172 = .ok (.aload_n 0, 1) := by decide +kernel
theorem dX12_turning_173 : decode cX12_turning 173 = .ok (.iload 4, 2) := by decide +kernel
theorem dX12_turning_175 : decode cX12_turning 175 = .ok (.iload_n 2, 1) := by decide +kernel
theorem dX12_turning_176 : decode cX12_turning 176 = .ok (.iload_n 3, 1) := by decide +kernel
theorem dX12_turning_177 : decode cX12_turning 177 = .ok (.invokevirtual 356, 3) := by decide +kernel
theorem dX12_turning_180 : decode cX12_turning 180 = .ok (.iload 6, 2) := by decide +kernel
theorem dX12_turning_182 : decode cX12_turning 182 = .ok (.if_icmp .eq 15, 3) := by decide +kernel
theorem dX12_turning_185 : decode cX12_turning 185 = .ok (.iload 9, 2) := by decide +kernel
theorem dX12_turning_187 : decode cX12_turning 187 = .ok (.sipush 1000, 3) := by decide +kernel
theorem dX12_turning_190 : decode cX12_turning 190 = .ok (.iload 10, 2) := by decide +kernel
theorem dX12_turning_192 : decode cX12_turning 192 = .ok (.imul, 1) := by decide +kernel
theorem dX12_turning_193 : decode cX12_turning 193 = .ok (.iadd, 1) := by decide +kernel
theorem dX12_turning_194 : decode cX12_turning 194 = .ok (.goto 5, 3) := by decide +kernel
theorem dX12_turning_197 : decode cX12_turning 197 = .ok (.bipush (-9), 2) := by decide +kernel
theorem dX12_turning_199 : decode cX12_turning 199 = .ok (.istore 8, 2) := by decide +kernel
theorem dX12_turning_201 : decode cX12_turning 201 = .ok (.iinc 10 1, 3) := by decide +kernel
theorem dX12_turning_204 : decode cX12_turning 204 = .ok (.goto (-85), 3) := by decide +kernel
theorem dX12_turning_207 : decode cX12_turning 207 = .ok (.iinc 9 1, 3) := by decide +kernel
theorem dX12_turning_210 : decode cX12_turning 210 = .ok (.goto (-108), 3) := by decide +kernel
theorem dX12_turning_213 : decode cX12_turning 213 = .ok (.aload_n 0, 1) := by decide +kernel
theorem dX12_turning_214 : decode cX12_turning 214 = .ok (.getfield 65, 3) := by decide +kernel
theorem dX12_turning_217 : decode cX12_turning 217 = .ok (.iload 5, 2) := by decide +kernel
theorem dX12_turning_219 : decode cX12_turning 219 = .ok (.iload 7, 2) := by decide +kernel
theorem dX12_turning_221 : decode cX12_turning 221 = .ok (.iastore, 1) := by decide +kernel
theorem dX12_turning_222 : decode cX12_turning 222 = .ok (.iload 8, 2) := by decide +kernel
theorem dX12_turning_224 : decode cX12_turning 224 = .ok (.ireturn, 1) := by decide +kernel
theorem dX12_moved_0 : decode cX12_moved 0 = .ok (.aload_n 0, 1) := by decide +kernel
theorem dX12_moved_1 : decode cX12_moved 1 = .ok (.iload_n 1, 1) := by decide +kernel
theorem dX12_moved_2 : decode cX12_moved 2 = .ok (.iload_n 2, 1) := by decide +kernel
theorem dX12_moved_3 : decode cX12_moved 3 = .ok (.invokevirtual 258, 3) := by decide +kernel
theorem dX12_moved_6 : decode cX12_moved 6 = .ok (.ifCond .eq 12, 3) := by decide +kernel
theorem dX12_moved_9 : decode cX12_moved 9 = .ok (.aload_n 0, 1) := by decide +kernel
theorem dX12_moved_10 : decode cX12_moved 10 = .ok (.iload 4, 2) := by decide +kernel
theorem dX12_moved_12 : decode cX12_moved 12 = .ok (.invokevirtual 209, 3) := by decide +kernel
theorem dX12_moved_15 : decode cX12_moved 15 = .ok (.ifCond .ne 9, 3) := by decide +kernel
theorem dX12_moved_18 : decode cX12_moved 18 = .ok (.aload_n 0, 1) := by decide +kernel
theorem dX12_moved_19 : decode cX12_moved 19 = .ok (.iconst (-1), 1) := by decide +kernel
theorem dX12_moved_20 : decode cX12_moved 20 = .ok (.invokevirtual 174, 3) := by decide +kernel
theorem dX12_moved_23 : decode cX12_moved 23 = .ok (.ireturn, 1) := by decide +kernel
theorem dX12_moved_24 : decode cX12_moved 24 = .ok (.iload_n 3, 1) := by decide +kernel
theorem dX12_moved_25 : decode cX12_moved 25 = .ok (.ifCond .lt 8, 3) := by decide +kernel
theorem dX12_moved_28 : decode cX12_moved 28 = .ok (.iload 5, 2) := by decide +kernel
theorem dX12_moved_30 : decode cX12_moved 30 = .ok (.ifCond .ge 10, 3) := by decide +kernel
theorem dX12_moved_33 : decode cX12_moved 33 = .ok (.aload_n 0, 1) := by decide +kernel
theorem dX12_moved_34 : decode cX12_moved 34 = .ok (.bipush (-4), 2) := by decide +kernel
theorem dX12_moved_36 : decode cX12_moved 36 = .ok (.invokevirtual 174, 3) := by decide +kernel
theorem dX12_moved_39 : decode cX12_moved 39 = .ok (.ireturn, 1) := by decide +kernel
theorem dX12_moved_40 : decode cX12_moved 40 = .ok (.iload_n 3, 1) := by decide +kernel
theorem dX12_moved_41 : decode cX12_moved 41 = .ok (.bipush 40, 2) := by decide +kernel
theorem dX12_moved_43 : decode cX12_moved 43 = .ok (.if_icmp .gt 25, 3) := by decide +kernel
theorem dX12_moved_46 : decode cX12_moved 46 = .ok (.iload 5, 2) := by decide +kernel
theorem dX12_moved_48 : decode cX12_moved 48 = .ok (.aload_n 0, 1) := by decide +kernel
theorem dX12_moved_49 : decode cX12_moved 49 = .ok (.getfield 74, 3) := by decide +kernel
theorem dX12_moved_52 : decode cX12_moved 52 = .ok (.iload 4, 2) := by decide +kernel
theorem dX12_moved_54 : decode cX12_moved 54 = .ok (.iaload, 1) := by decide +kernel
theorem dX12_moved_55 : decode cX12_moved 55 = .ok (.ifCond .ne 8, 3) := by decide +kernel
theorem dX12_moved_58 : decode cX12_moved 58 = .ok (.bipush 100, 2) := by decide +kernel
theorem dX12_moved_60 : decode cX12_moved 60 = .ok (.goto 5, 3) := by decide +kernel
theorem dX12_moved_63 : decode cX12_moved 63 = .ok (.bipush 9, 2) := by decide +kernel
theorem dX12_moved_65 : decode cX12_moved 65 = .ok (.if_icmp .le 10, 3) := by decide +kernel
theorem dX12_moved_68 : decode cX12_moved 68 = .ok (.aload_n 0, 1) := by decide +kernel
theorem dX12_moved_69 : decode cX12_moved 69 = .ok (.bipush (-6), 2) := by decide +kernel
theorem dX12_moved_71 : decode cX12_moved 71 = .ok (.invokevirtual 174, 3) := by decide +kernel
theorem dX12_moved_74 : decode cX12_moved 74 = .ok (.ireturn, 1) := by decide +kernel
theorem dX12_moved_75 : decode cX12_moved 75 = .ok (.iconst 0, 1) := by decide +kernel
theorem dX12_moved_76 : decode cX12_moved 76 = .ok (.istore 6, 2) := by decide +kernel
theorem dX12_moved_78 : decode cX12_moved 78 = .ok (.iload 6, 2) := by decide +kernel
theorem dX12_moved_80 : decode cX12_moved 80 = .ok (.aload_n 0, 1) := by decide +kernel
theorem dX12_moved_81 : decode cX12_moved 81 = .ok (.getfield 164, 3) := by decide +kernel
theorem dX12_moved_84 : decode cX12_moved 84 = .ok (.if_icmp .ge 24, 3) := by decide +kernel
theorem dX12_moved_87 : decode cX12_moved 87 = .ok (.aload_n 0, 1) := by decide +kernel
theorem dX12_moved_88 : decode cX12_moved 88 = .ok (.getfield 149, 3) := by decide +kernel
theorem dX12_moved_91 : decode cX12_moved 91 = .ok (.iload 6, 2) := by decide +kernel
theorem dX12_moved_93 : decode cX12_moved 93 = .ok (.aload_n 0, 1) := by decide +kernel
theorem dX12_moved_94 : decode cX12_moved 94 = .ok (.iload 6, 2) := by decide +kernel
theorem dX12_moved_96 : decode cX12_moved 96 = .ok (.iload_n 2, 1) := by decide +kernel
theorem dX12_moved_97 : decode cX12_moved 97 = .ok (.iload_n 3, 1) := by decide +kernel
theorem dX12_moved_98 : decode cX12_moved 98 = .ok (.invokevirtual 356, 3) := by decide +kernel
theorem dX12_moved_101 : decode cX12_moved 101 = .ok (.bastore, 1) := by decide +kernel
theorem dX12_moved_102 : decode cX12_moved 102 = .ok (.iinc 6 1, 3) := by decide +kernel
theorem dX12_moved_105 : decode cX12_moved 105 = .ok (.goto (-27), 3) := by decide +kernel
theorem dX12_moved_108 : decode cX12_moved 108 = .ok (.aload_n 0, 1) := by decide +kernel
theorem dX12_moved_109 : decode cX12_moved 109 = .ok (.iload 4, 2) := by decide +kernel
theorem dX12_moved_111 : decode cX12_moved 111 = .ok (.iload 5, 2) := by decide +kernel
theorem dX12_moved_113 : decode cX12_moved 113 = .ok (.invokevirtual 212, 3) := by decide +kernel
theorem dX12_moved_116 : decode cX12_moved 116 = .ok (.iconst 0, 1) := by decide +kernel
theorem dX12_moved_117 : decode cX12_moved 117 = .ok (.istore 6, 2) := by decide +kernel
theorem dX12_moved_119 : decode cX12_moved 119 = .ok (.iconst 0, 1) := by decide +kernel
theorem dX12_moved_120 : decode cX12_moved 120 = .ok (.istore 7, 2) := by decide +kernel
theorem dX12_moved_122 : decode cX12_moved 122 = .ok (.iload 7, 2) := by decide +kernel
theorem dX12_moved_124 : decode cX12_moved 124 = .ok (.aload_n 0, 1) := by decide +kernel
theorem dX12_moved_125 : decode cX12_moved 125 = .ok (.getfield 164, 3) := by decide +kernel
theorem dX12_moved_128 : decode cX12_moved 128 = .ok (.if_icmp .ge 37, 3) := by decide +kernel
theorem dX12_moved_131 : decode cX12_moved 131 = .ok (.iload 6, 2) := by decide +kernel
theorem dX12_moved_133 : decode cX12_moved 133 = .ok (.aload_n 0, 1) := by decide +kernel
theorem dX12_moved_134 : decode cX12_moved 134 = .ok (.getfield 149, 3) := by decide +kernel
theorem dX12_moved_137 : decode cX12_moved 137 = .ok (.iload 7, 2) := by decide +kernel
theorem dX12_moved_139 : decode cX12_moved 139 = .ok (.baload, 1) := by decide +kernel
theorem dX12_moved_140 : decode cX12_moved 140 = .ok (.aload_n 0, 1) := by decide +kernel
theorem dX12_moved_141 : decode cX12_moved 141 = .ok (.iload 7, 2) := by decide +kernel
theorem dX12_moved_143 : decode cX12_moved 143 = .ok (.iload_n 2, 1) := by decide +kernel
theorem dX12_moved_144 : decode cX12_moved 144 = .ok (.iload_n 3, 1) := by decide +kernel
theorem dX12_moved_145 : decode cX12_moved 145 = .ok (.invokevirtual 356, 3) := by decide +kernel
theorem dX12_moved_148 : decode cX12_moved 148 = .ok (.if_icmp .eq 7, 3) := by decide +kernel
theorem dX12_moved_151 : decode cX12_moved 151 = .ok (.iconst 1, 1) := by decide +kernel
theorem dX12_moved_152 : decode cX12_moved 152 = .ok (.goto 4, 3) := by decide +kernel
theorem dX12_moved_155 : decode cX12_moved 155 = .ok (.iconst 0, 1) := by decide +kernel
theorem dX12_moved_156 : decode cX12_moved 156 = .ok (.iadd, 1) := by decide +kernel
theorem dX12_moved_157 : decode cX12_moved 157 = .ok (.istore 6, 2) := by decide +kernel
theorem dX12_moved_159 : decode cX12_moved 159 = .ok (.iinc 7 1, 3) := by decide +kernel
theorem dX12_moved_162 : decode cX12_moved 162 = .ok (.goto (-40), 3) := by decide +kernel
theorem dX12_moved_165 : decode cX12_moved 165 = .ok (.aload_n 0, 1) := by decide +kernel
theorem dX12_moved_166 : decode cX12_moved 166 = .ok (.dup, 1) := by decide +kernel
theorem dX12_moved_167 : decode cX12_moved 167 = .ok (.getfield 206, 3) := by decide +kernel
theorem dX12_moved_170 : decode cX12_moved 170 = .ok (.iconst 1, 1) := by decide +kernel
theorem dX12_moved_171 : decode cX12_moved 171 = .ok (.isub, 1) := by decide +kernel
theorem dX12_moved_172 : decode cX12_moved 172 = .ok (.putfield 206, 3) := by decide +kernel
theorem dX12_moved_175 : decode cX12_moved 175 = .ok (.iload 6, 2) := by decide +kernel
theorem dX12_moved_177 : decode cX12_moved 177 = .ok (.ireturn, 1) := by decide +kernel
theorem dX12_back_0 : decode cX12_back 0 = .ok (.aload_n 0, 1) := by decide +kernel
theorem dX12_back_1 : decode cX12_back 1 = .ok (.iload_n 1, 1) := by decide +kernel
theorem dX12_back_2 : decode cX12_back 2 = .ok (.invokevirtual 181, 3) := by decide +kernel
theorem dX12_back_5 : decode cX12_back 5 = .ok (.ifCond .ne 9, 3) := by decide +kernel
theorem dX12_back_8 : decode cX12_back 8 = .ok (.aload_n 0, 1) := by decide +kernel
theorem dX12_back_9 : decode cX12_back 9 = .ok (.iconst (-1), 1) := by decide +kernel
theorem dX12_back_10 : decode cX12_back 10 = .ok (.invokevirtual 174, 3) := by decide +kernel
theorem dX12_back_13 : decode cX12_back 13 = .ok (.ireturn, 1) := by decide +kernel
theorem dX12_back_14 : decode cX12_back 14 = .ok (.aload_n 0, 1) := by decide +kernel
theorem dX12_back_15 : decode cX12_back 15 = .ok (.iload_n 1, 1) := by decide +kernel
theorem dX12_back_16 : decode cX12_back 16 = .ok (.invokevirtual 191, 3) := by decide +kernel
theorem dX12_back_19 : decode cX12_back 19 = .ok (.ifCond .ne 10, 3) := by decide +kernel
theorem dX12_back_22 : decode cX12_back 22 = .ok (.aload_n 0, 1) := by decide +kernel
theorem dX12_back_23 : decode cX12_back 23 = .ok (.bipush (-3), 2) := by decide +kernel
theorem dX12_back_25 : decode cX12_back 25 = .ok (.invokevirtual 174, 3) := by decide +kernel
theorem dX12_back_28 : decode cX12_back 28 = .ok (.ireturn, 1) := by decide +kernel
theorem dX12_back_29 : decode cX12_back 29 = .ok (.iconst (-1), 1) := by decide +kernel
theorem dX12_back_30 : decode cX12_back 30 = .ok (.istore_n 2, 1) := by decide +kernel
theorem dX12_back_31 : decode cX12_back 31 = .ok (.iconst 0, 1) := by decide +kernel
theorem dX12_back_32 : decode cX12_back 32 = .ok (.istore_n 3, 1) := by decide +kernel
theorem dX12_back_33 : decode cX12_back 33 = .ok (.iload_n 3, 1) := by decide +kernel
theorem dX12_back_34 : decode cX12_back 34 = .ok (.aload_n 0, 1) := by decide +kernel
theorem dX12_back_35 : decode cX12_back 35 = .ok (.getfield 164, 3) := by decide +kernel
theorem dX12_back_38 : decode cX12_back 38 = .ok (.if_icmp .ge 121, 3) := by decide +kernel
theorem dX12_back_41 : decode cX12_back 41 = .ok (.aload_n 0, 1) := by decide +kernel
theorem dX12_back_42 : decode cX12_back 42 = .ok (.getfield 46, 3) := by decide +kernel
theorem dX12_back_45 : decode cX12_back 45 = .ok (.iload_n 3, 1) := by decide +kernel
theorem dX12_back_46 : decode cX12_back 46 = .ok (.iaload, 1) := by decide +kernel
theorem dX12_back_47 : decode cX12_back 47 = .ok (.istore 4, 2) := by decide +kernel
theorem dX12_back_49 : decode cX12_back 49 = .ok (.aload_n 0, 1) := by decide +kernel
theorem dX12_back_50 : decode cX12_back 50 = .ok (.iload_n 3, 1) := by decide +kernel
theorem dX12_back_51 : decode cX12_back 51 = .ok (.invokevirtual 200, 3) := by decide +kernel
theorem dX12_back_54 : decode cX12_back 54 = .ok (.ifCond .ne 66, 3) := by decide +kernel
theorem dX12_back_57 : decode cX12_back 57 = .ok (.iload 4, 2) := by decide +kernel
theorem dX12_back_59 : decode cX12_back 59 = .ok (.ifCond .lt 61, 3) := by decide +kernel
theorem dX12_back_62 : decode cX12_back 62 = .ok (.aload_n 0, 1) := by decide +kernel
theorem dX12_back_63 : decode cX12_back 63 = .ok (.getfield 31, 3) := by decide +kernel
theorem dX12_back_66 : decode cX12_back 66 = .ok (.iload 4, 2) := by decide +kernel
theorem dX12_back_68 : decode cX12_back 68 = .ok (.iaload, 1) := by decide +kernel
theorem dX12_back_69 : decode cX12_back 69 = .ok (.ifCond .lt 51, 3) := by decide +kernel
theorem dX12_back_72 : decode cX12_back 72 = .ok (.aload_n 0, 1) := by decide +kernel
theorem dX12_back_73 : decode cX12_back 73 = .ok (.getfield 167, 3) := by decide +kernel
theorem dX12_back_76 : decode cX12_back 76 = .ok (.aload_n 0, 1) := by decide +kernel
theorem dX12_back_77 : decode cX12_back 77 = .ok (.getfield 31, 3) := by decide +kernel
theorem dX12_back_80 : decode cX12_back 80 = .ok (.iload 4, 2) := by decide +kernel
theorem dX12_back_82 : decode cX12_back 82 = .ok (.iaload, 1) := by decide +kernel
theorem dX12_back_83 : decode cX12_back 83 = .ok (.isub, 1) := by decide +kernel
theorem dX12_back_84 : decode cX12_back 84 = .ok (.sipush 180, 3) := by decide +kernel
theorem dX12_back_87 : decode cX12_back 87 = .ok (.if_icmp .gt 33, 3) := by decide +kernel
theorem dX12_back_90 : decode cX12_back 90 = .ok (.aload_n 0, 1) := by decide +kernel
theorem dX12_back_91 : decode cX12_back 91 = .ok (.iload_n 1, 1) := by decide +kernel
theorem dX12_back_92 : decode cX12_back 92 = .ok (.iload 4, 2) := by decide +kernel
theorem dX12_back_94 : decode cX12_back 94 = .ok (.invokevirtual 240, 3) := by decide +kernel
theorem dX12_back_97 : decode cX12_back 97 = .ok (.ifCond .eq 23, 3) := by decide +kernel
theorem dX12_back_100 : decode cX12_back 100 = .ok (.aload_n 0, 1) := by decide +kernel
theorem dX12_back_101 : decode cX12_back 101 = .ok (.getfield 49, 3) := by decide +kernel
theorem dX12_back_104 : decode cX12_back 104 = .ok (.iload_n 3, 1) := by decide +kernel
theorem dX12_back_105 : decode cX12_back 105 = .ok (.iaload, 1) := by decide +kernel
theorem dX12_back_106 : decode cX12_back 106 = .ok (.aload_n 0, 1) := by decide +kernel
theorem dX12_back_107 : decode cX12_back 107 = .ok (.getfield 31, 3) := by decide +kernel
theorem dX12_back_110 : decode cX12_back 110 = .ok (.iload 4, 2) := by decide +kernel
theorem dX12_back_112 : decode cX12_back 112 = .ok (.iaload, 1) := by decide +kernel
theorem dX12_back_113 : decode cX12_back 113 = .ok (.if_icmp .lt 7, 3) := by decide +kernel
theorem dX12_back_116 : decode cX12_back 116 = .ok (.iconst 1, 1) := by decide +kernel
theorem dX12_back_117 : decode cX12_back 117 = .ok (.goto 4, 3) := by decide +kernel
theorem dX12_back_120 : decode cX12_back 120 = .ok (.iconst 0, 1) := by decide +kernel
theorem dX12_back_121 : decode cX12_back 121 = .ok (.istore 5, 2) := by decide +kernel
theorem dX12_back_123 : decode cX12_back 123 = .ok (.iload 5, 2) := by decide +kernel
theorem dX12_back_125 : decode cX12_back 125 = .ok (.ifCond .eq 26, 3) := by decide +kernel
theorem dX12_back_128 : decode cX12_back 128 = .ok (.iload_n 2, 1) := by decide +kernel
theorem dX12_back_129 : decode cX12_back 129 = .ok (.ifCond .lt 18, 3) := by decide +kernel
theorem dX12_back_132 : decode cX12_back 132 = .ok (.aload_n 0, 1) := by decide +kernel
theorem dX12_back_133 : decode cX12_back 133 = .ok (.getfield 49, 3) := by decide +kernel
theorem dX12_back_136 : decode cX12_back 136 = .ok (.iload_n 3, 1) := by decide +kernel
theorem dX12_back_137 : decode cX12_back 137 = .ok (.iaload, 1) := by decide +kernel
theorem dX12_back_138 : decode cX12_back 138 = .ok (.aload_n 0, 1) := by decide +kernel
theorem dX12_back_139 : decode cX12_back 139 = .ok (.getfield 49, 3) := by decide +kernel
theorem dX12_back_142 : decode cX12_back 142 = .ok (.iload_n 2, 1) := by decide +kernel
theorem dX12_back_143 : decode cX12_back 143 = .ok (.iaload, 1) := by decide +kernel
theorem dX12_back_144 : decode cX12_back 144 = .ok (.if_icmp .ge 7, 3) := by decide +kernel
theorem dX12_back_147 : decode cX12_back 147 = .ok (.iload_n 3, 1) := by decide +kernel
theorem dX12_back_148 : decode cX12_back 148 = .ok (.goto 4, 3) := by decide +kernel
theorem dX12_back_151 : decode cX12_back 151 = .ok (.iload_n 2, 1) := by decide +kernel
theorem dX12_back_152 : decode cX12_back 152 = .ok (.istore_n 2, 1) := by decide +kernel
theorem dX12_back_153 : decode cX12_back 153 = .ok (.iinc 3 1, 3) := by decide +kernel
theorem dX12_back_156 : decode cX12_back 156 = .ok (.goto (-123), 3) := by decide +kernel
theorem dX12_back_159 : decode cX12_back 159 = .ok (.iload_n 2, 1) := by decide +kernel
theorem dX12_back_160 : decode cX12_back 160 = .ok (.ifCond .ge 8, 3) := by decide +kernel
theorem dX12_back_163 : decode cX12_back 163 = .ok (.bipush (-9), 2) := by decide +kernel
theorem dX12_back_165 : decode cX12_back 165 = .ok (.goto 4, 3) := by decide +kernel
theorem dX12_back_168 : decode cX12_back 168 = .ok (.iload_n 2, 1) := by decide +kernel
theorem dX12_back_169 : decode cX12_back 169 = .ok (.ireturn, 1) := by decide +kernel
theorem dX12_count_0 : decode cX12_count 0 = .ok (.iconst 0, 1) := by decide +kernel
theorem dX12_count_1 : decode cX12_count 1 = .ok (.istore_n 2, 1) := by decide +kernel
theorem dX12_count_2 : decode cX12_count 2 = .ok (.iload_n 1, 1) := by decide +kernel
theorem dX12_count_3 : decode cX12_count 3 = .ok (.tableswitch 192 0 10 #[57, 62, 67, 72, 72, 123, 128, 177, 182, 128, 187], 57) := by decide +kernel
theorem dX12_count_60 : decode cX12_count 60 = .ok (.aload_n 0, 1) := by decide +kernel
theorem dX12_count_61 : decode cX12_count 61 = .ok (.getfield 167, 3) := by decide +kernel
theorem dX12_count_64 : decode cX12_count 64 = .ok (.ireturn, 1) := by decide +kernel
theorem dX12_count_65 : decode cX12_count 65 = .ok (.aload_n 0, 1) := by decide +kernel
theorem dX12_count_66 : decode cX12_count 66 = .ok (.getfield 154, 3) := by decide +kernel
theorem dX12_count_69 : decode cX12_count 69 = .ok (.ireturn, 1) := by decide +kernel
theorem dX12_count_70 : decode cX12_count 70 = .ok (.aload_n 0, 1) := by decide +kernel
theorem dX12_count_71 : decode cX12_count 71 = .ok (.getfield 161, 3) := by decide +kernel
theorem dX12_count_74 : decode cX12_count 74 = .ok (.ireturn, 1) := by decide +kernel
theorem dX12_count_75 : decode cX12_count 75 = .ok (.iconst 0, 1) := by decide +kernel
theorem dX12_count_76 : decode cX12_count 76 = .ok (.istore_n 3, 1) := by decide +kernel
theorem dX12_count_77 : decode cX12_count 77 = .ok (.iload_n 3, 1) := by decide +kernel
theorem dX12_count_78 : decode cX12_count 78 = .ok (.aload_n 0, 1) := by decide +kernel
theorem dX12_count_79 : decode cX12_count 79 = .ok (.getfield 161, 3) := by decide +kernel
theorem dX12_count_82 : decode cX12_count 82 = .ok (.if_icmp .ge 42, 3) := by decide +kernel
theorem dX12_count_85 : decode cX12_count 85 = .ok (.iload_n 2, 1) := by decide +kernel
theorem dX12_count_86 : decode cX12_count 86 = .ok (.iload_n 1, 1) := by decide +kernel
theorem dX12_count_87 : decode cX12_count 87 = .ok (.iconst 3, 1) := by decide +kernel
theorem dX12_count_88 : decode cX12_count 88 = .ok (.if_icmp .ne 15, 3) := by decide +kernel
theorem dX12_count_91 : decode cX12_count 91 = .ok (.aload_n 0, 1) := by decide +kernel
theorem dX12_count_92 : decode cX12_count 92 = .ok (.getfield 31, 3) := by decide +kernel
theorem dX12_count_95 : decode cX12_count 95 = .ok (.iload_n 3, 1) := by decide +kernel
theorem dX12_count_96 : decode cX12_count 96 = .ok (.iaload, 1) := by decide +kernel
theorem dX12_count_97 : decode cX12_count 97 = .ok (.ifCond .ge 18, 3) := by decide +kernel
theorem dX12_count_100 : decode cX12_count 100 = .ok (.goto 11, 3) := by decide +kernel
theorem dX12_count_103 : decode cX12_count 103 = .ok (.aload_n 0, 1) := by decide +kernel
theorem dX12_count_104 : decode cX12_count 104 = .ok (.iload_n 3, 1) := by decide +kernel
theorem dX12_count_105 : decode cX12_count 105 = .ok (.invokevirtual 191, 3) := by decide +kernel
theorem dX12_count_108 : decode cX12_count 108 = .ok (.ifCond .eq 7, 3) := by decide +kernel
theorem dX12_count_111 : decode cX12_count 111 = .ok (.iconst 1, 1) := by decide +kernel
theorem dX12_count_112 : decode cX12_count 112 = .ok (.goto 4, 3) := by decide +kernel
theorem dX12_count_115 : decode cX12_count 115 = .ok (.iconst 0, 1) := by decide +kernel
theorem dX12_count_116 : decode cX12_count 116 = .ok (.iadd, 1) := by decide +kernel
theorem dX12_count_117 : decode cX12_count 117 = .ok (.istore_n 2, 1) := by decide +kernel
theorem dX12_count_118 : decode cX12_count 118 = .ok (.iinc 3 1, 3) := by decide +kernel
theorem dX12_count_121 : decode cX12_count 121 = .ok (.goto (-44), 3) := by decide +kernel
theorem dX12_count_124 : decode cX12_count 124 = .ok (.iload_n 2, 1) := by decide +kernel
theorem dX12_count_125 : decode cX12_count 125 = .ok (.ireturn, 1) := by decide +kernel
theorem dX12_count_126 : decode cX12_count 126 = .ok (.aload_n 0, 1) := by decide +kernel
theorem dX12_count_127 : decode cX12_count 127 = .ok (.getfield 164, 3) := by decide +kernel
theorem dX12_count_130 : decode cX12_count 130 = .ok (.ireturn, 1) := by decide +kernel
theorem dX12_count_131 : decode cX12_count 131 = .ok (.iconst 0, 1) := by decide +kernel
theorem dX12_count_132 : decode cX12_count 132 = .ok (.istore_n 3, 1) := by decide +kernel
theorem dX12_count_133 : decode cX12_count 133 = .ok (.iload_n 3, 1) := by decide +kernel
theorem dX12_count_134 : decode cX12_count 134 = .ok (.aload_n 0, 1) := by decide +kernel
theorem dX12_count_135 : decode cX12_count 135 = .ok (.getfield 164, 3) := by decide +kernel
theorem dX12_count_138 : decode cX12_count 138 = .ok (.if_icmp .ge 40, 3) := by decide +kernel
theorem dX12_count_141 : decode cX12_count 141 = .ok (.iload_n 2, 1) := by decide +kernel
theorem dX12_count_142 : decode cX12_count 142 = .ok (.aload_n 0, 1) := by decide +kernel
theorem dX12_count_143 : decode cX12_count 143 = .ok (.iload_n 3, 1) := by decide +kernel
theorem dX12_count_144 : decode cX12_count 144 = .ok (.invokevirtual 200, 3) := by decide +kernel
theorem dX12_count_147 : decode cX12_count 147 = .ok (.ifCond .eq 22, 3) := by decide +kernel
theorem dX12_count_150 : decode cX12_count 150 = .ok (.iload_n 1, 1) := by decide +kernel
theorem dX12_count_151 : decode cX12_count 151 = .ok (.bipush 6, 2) := by decide +kernel
theorem dX12_count_153 : decode cX12_count 153 = .ok (.if_icmp .eq 12, 3) := by decide +kernel
theorem dX12_count_156 : decode cX12_count 156 = .ok (.aload_n 0, 1) := by decide +kernel
theorem dX12_count_157 : decode cX12_count 157 = .ok (.getfield 55, 3) := by decide +kernel
theorem dX12_count_160 : decode cX12_count 160 = .ok (.iload_n 3, 1) := by decide +kernel
theorem dX12_count_161 : decode cX12_count 161 = .ok (.iaload, 1) := by decide +kernel
theorem dX12_count_162 : decode cX12_count 162 = .ok (.ifCond .lt 7, 3) := by decide +kernel
theorem dX12_count_165 : decode cX12_count 165 = .ok (.iconst 1, 1) := by decide +kernel
theorem dX12_count_166 : decode cX12_count 166 = .ok (.goto 4, 3) := by decide +kernel
theorem dX12_count_169 : decode cX12_count 169 = .ok (.iconst 0, 1) := by decide +kernel
theorem dX12_count_170 : decode cX12_count 170 = .ok (.iadd, 1) := by decide +kernel
theorem dX12_count_171 : decode cX12_count 171 = .ok (.istore_n 2, 1) := by decide +kernel
theorem dX12_count_172 : decode cX12_count 172 = .ok (.iinc 3 1, 3) := by decide +kernel
theorem dX12_count_175 : decode cX12_count 175 = .ok (.goto (-42), 3) := by decide +kernel
theorem dX12_count_178 : decode cX12_count 178 = .ok (.iload_n 2, 1) := by decide +kernel
theorem dX12_count_179 : decode cX12_count 179 = .ok (.ireturn, 1) := by decide +kernel
theorem dX12_count_180 : decode cX12_count 180 = .ok (.aload_n 0, 1) := by decide +kernel
theorem dX12_count_181 : decode cX12_count 181 = .ok (.getfield 203, 3) := by decide +kernel
theorem dX12_count_184 : decode cX12_count 184 = .ok (.ireturn, 1) := by decide +kernel
theorem dX12_count_185 : decode cX12_count 185 = .ok (.aload_n 0, 1) := by decide +kernel
theorem dX12_count_186 : decode cX12_count 186 = .ok (.getfield 206, 3) := by decide +kernel
theorem dX12_count_189 : decode cX12_count 189 = .ok (.ireturn, 1) := by decide +kernel
theorem dX12_count_190 : decode cX12_count 190 = .ok (.aload_n 0, 1) := by decide +kernel
theorem dX12_count_191 : decode cX12_count 191 = .ok (.getfield 316, 3) := by decide +kernel
theorem dX12_count_194 : decode cX12_count 194 = .ok (.ireturn, 1) := by decide +kernel
theorem dX12_count_195 : decode cX12_count 195 = .ok (.iload_n 1, 1) := by decide +kernel
theorem dX12_count_196 : decode cX12_count 196 = .ok (.bipush 11, 2) := by decide +kernel
theorem dX12_count_198 : decode cX12_count 198 = .ok (.bipush 16, 2) := by decide +kernel
theorem dX12_count_200 : decode cX12_count 200 = .ok (.invokestatic 157, 3) := by decide +kernel
theorem dX12_count_203 : decode cX12_count 203 = .ok (.ifCond .eq 15, 3) := by decide +kernel
theorem dX12_count_206 : decode cX12_count 206 = .ok (.aload_n 0, 1) := by decide +kernel
theorem dX12_count_207 : decode cX12_count 207 = .ok (.getfield 68, 3) := by decide +kernel
theorem dX12_count_210 : decode cX12_count 210 = .ok (.iload_n 1, 1) := by decide +kernel
theorem dX12_count_211 : decode cX12_count 211 = .ok (.bipush 10, 2) := by decide +kernel
theorem dX12_count_213 : decode cX12_count 213 = .ok (.isub, 1) := by decide +kernel
theorem dX12_count_214 : decode cX12_count 214 = .ok (.iaload, 1) := by decide +kernel
theorem dX12_count_215 : decode cX12_count 215 = .ok (.goto 5, 3) := by decide +kernel
theorem dX12_count_218 : decode cX12_count 218 = .ok (.bipush (-9), 2) := by decide +kernel
theorem dX12_count_220 : decode cX12_count 220 = .ok (.ireturn, 1) := by decide +kernel
