theorem dX9_init_0 : decode cX9_init 0 = .ok (.aload_n 0, 1) := by decide +kernel
theorem dX9_init_1 : decode cX9_init 1 = .ok (.invokespecial 1, 3) := by decide +kernel
theorem dX9_init_4 : decode cX9_init 4 = .ok (.aload_n 0, 1) := by decide +kernel
theorem dX9_init_5 : decode cX9_init 5 = .ok (.iconst 0, 1) := by decide +kernel
theorem dX9_init_6 : decode cX9_init 6 = .ok (.putfield 7, 3) := by decide +kernel
theorem dX9_init_9 : decode cX9_init 9 = .ok (.aload_n 0, 1) := by decide +kernel
theorem dX9_init_10 : decode cX9_init 10 = .ok (.iconst 0, 1) := by decide +kernel
theorem dX9_init_11 : decode cX9_init 11 = .ok (.putfield 13, 3) := by decide +kernel
theorem dX9_init_14 : decode cX9_init 14 = .ok (.aload_n 0, 1) := by decide +kernel
theorem dX9_init_15 : decode cX9_init 15 = .ok (.iconst 0, 1) := by decide +kernel
theorem dX9_init_16 : decode cX9_init 16 = .ok (.putfield 16, 3) := by decide +kernel
theorem dX9_init_19 : decode cX9_init 19 = .ok (.aload_n 0, 1) := by decide +kernel
theorem dX9_init_20 : decode cX9_init 20 = .ok (.iconst 0, 1) := by decide +kernel
theorem dX9_init_21 : decode cX9_init 21 = .ok (.putfield 19, 3) := by decide +kernel
theorem dX9_init_24 : decode cX9_init 24 = .ok (.aload_n 0, 1) := by decide +kernel
theorem dX9_init_25 : decode cX9_init 25 = .ok (.iconst 0, 1) := by decide +kernel
theorem dX9_init_26 : decode cX9_init 26 = .ok (.putfield 22, 3) := by decide +kernel
theorem dX9_init_29 : decode cX9_init 29 = .ok (.aload_n 0, 1) := by decide +kernel
theorem dX9_init_30 : decode cX9_init 30 = .ok (.bipush 6, 2) := by decide +kernel
theorem dX9_init_32 : decode cX9_init 32 = .ok (.newarray .int, 2) := by decide +kernel
theorem dX9_init_34 : decode cX9_init 34 = .ok (.putfield 25, 3) := by decide +kernel
theorem dX9_init_37 : decode cX9_init 37 = .ok (.aload_n 0, 1) := by decide +kernel
theorem dX9_init_38 : decode cX9_init 38 = .ok (.bipush 6, 2) := by decide +kernel
theorem dX9_init_40 : decode cX9_init 40 = .ok (.newarray .int, 2) := by decide +kernel
theorem dX9_init_42 : decode cX9_init 42 = .ok (.putfield 29, 3) := by decide +kernel
theorem dX9_init_45 : decode cX9_init 45 = .ok (.aload_n 0, 1) := by decide +kernel
theorem dX9_init_46 : decode cX9_init 46 = .ok (.bipush 6, 2) := by decide +kernel
theorem dX9_init_48 : decode cX9_init 48 = .ok (.newarray .int, 2) := by decide +kernel
theorem dX9_init_50 : decode cX9_init 50 = .ok (.putfield 32, 3) := by decide +kernel
theorem dX9_init_53 : decode cX9_init 53 = .ok (.aload_n 0, 1) := by decide +kernel
theorem dX9_init_54 : decode cX9_init 54 = .ok (.bipush 6, 2) := by decide +kernel
theorem dX9_init_56 : decode cX9_init 56 = .ok (.newarray .int, 2) := by decide +kernel
theorem dX9_init_58 : decode cX9_init 58 = .ok (.putfield 35, 3) := by decide +kernel
theorem dX9_init_61 : decode cX9_init 61 = .ok (.aload_n 0, 1) := by decide +kernel
theorem dX9_init_62 : decode cX9_init 62 = .ok (.bipush 24, 2) := by decide +kernel
theorem dX9_init_64 : decode cX9_init 64 = .ok (.newarray .int, 2) := by decide +kernel
theorem dX9_init_66 : decode cX9_init 66 = .ok (.putfield 38, 3) := by decide +kernel
theorem dX9_init_69 : decode cX9_init 69 = .ok (.aload_n 0, 1) := by decide +kernel
theorem dX9_init_70 : decode cX9_init 70 = .ok (.iconst 0, 1) := by decide +kernel
theorem dX9_init_71 : decode cX9_init 71 = .ok (.putfield 41, 3) := by decide +kernel
theorem dX9_init_74 : decode cX9_init 74 = .ok (.aload_n 0, 1) := by decide +kernel
theorem dX9_init_75 : decode cX9_init 75 = .ok (.iconst (-1), 1) := by decide +kernel
theorem dX9_init_76 : decode cX9_init 76 = .ok (.putfield 44, 3) := by decide +kernel
theorem dX9_init_79 : decode cX9_init 79 = .ok (.aload_n 0, 1) := by decide +kernel
theorem dX9_init_80 : decode cX9_init 80 = .ok (.iconst 0, 1) := by decide +kernel
theorem dX9_init_81 : decode cX9_init 81 = .ok (.putfield 47, 3) := by decide +kernel
theorem dX9_init_84 : decode cX9_init 84 = .ok (.aload_n 0, 1) := by decide +kernel
theorem dX9_init_85 : decode cX9_init 85 = .ok (.iconst 0, 1) := by decide +kernel
theorem dX9_init_86 : decode cX9_init 86 = .ok (.putfield 50, 3) := by decide +kernel
theorem dX9_init_89 : decode cX9_init 89 = .ok (.aload_n 0, 1) := by decide +kernel
theorem dX9_init_90 : decode cX9_init 90 = .ok (.iconst 0, 1) := by decide +kernel
theorem dX9_init_91 : decode cX9_init 91 = .ok (.putfield 53, 3) := by decide +kernel
theorem dX9_init_94 : decode cX9_init 94 = .ok (.aload_n 0, 1) := by decide +kernel
theorem dX9_init_95 : decode cX9_init 95 = .ok (.bipush 100, 2) := by decide +kernel
theorem dX9_init_97 : decode cX9_init 97 = .ok (.newarray .int, 2) := by decide +kernel
theorem dX9_init_99 : decode cX9_init 99 = .ok (.putfield 56, 3) := by decide +kernel
theorem dX9_init_102 : decode cX9_init 102 = .ok (.aload_n 0, 1) := by decide +kernel
theorem dX9_init_103 : decode cX9_init 103 = .ok (.bipush 6, 2) := by decide +kernel
theorem dX9_init_105 : decode cX9_init 105 = .ok (.newarray .int, 2) := by decide +kernel
theorem dX9_init_107 : decode cX9_init 107 = .ok (.putfield 59, 3) := by decide +kernel
theorem dX9_init_110 : decode cX9_init 110 = .ok (.aload_n 0, 1) := by decide +kernel
theorem dX9_init_111 : decode cX9_init 111 = .ok (.bipush 60, 2) := by decide +kernel
theorem dX9_init_113 : decode cX9_init 113 = .ok (.newarray .int, 2) := by decide +kernel
theorem dX9_init_115 : decode cX9_init 115 = .ok (.putfield 62, 3) := by decide +kernel
theorem dX9_init_118 : decode cX9_init 118 = .ok (.aload_n 0, 1) := by decide +kernel
theorem dX9_init_119 : decode cX9_init 119 = .ok (.bipush 60, 2) := by decide +kernel
theorem dX9_init_121 : decode cX9_init 121 = .ok (.newarray .int, 2) := by decide +kernel
theorem dX9_init_123 : decode cX9_init 123 = .ok (.putfield 65, 3) := by decide +kernel
theorem dX9_init_126 : decode cX9_init 126 = .ok (.aload_n 0, 1) := by decide +kernel
theorem dX9_init_127 : decode cX9_init 127 = .ok (.bipush 60, 2) := by decide +kernel
theorem dX9_init_129 : decode cX9_init 129 = .ok (.newarray .int, 2) := by decide +kernel
theorem dX9_init_131 : decode cX9_init 131 = .ok (.putfield 68, 3) := by decide +kernel
theorem dX9_init_134 : decode cX9_init 134 = .ok (.aload_n 0, 1) := by decide +kernel
theorem dX9_init_135 : decode cX9_init 135 = .ok (.bipush 60, 2) := by decide +kernel
theorem dX9_init_137 : decode cX9_init 137 = .ok (.newarray .int, 2) := by decide +kernel
theorem dX9_init_139 : decode cX9_init 139 = .ok (.putfield 71, 3) := by decide +kernel
theorem dX9_init_142 : decode cX9_init 142 = .ok (.aload_n 0, 1) := by decide +kernel
theorem dX9_init_143 : decode cX9_init 143 = .ok (.sipush 600, 3) := by decide +kernel
theorem dX9_init_146 : decode cX9_init 146 = .ok (.newarray .int, 2) := by decide +kernel
theorem dX9_init_148 : decode cX9_init 148 = .ok (.putfield 74, 3) := by decide +kernel
theorem dX9_init_151 : decode cX9_init 151 = .ok (.aload_n 0, 1) := by decide +kernel
theorem dX9_init_152 : decode cX9_init 152 = .ok (.bipush 101, 2) := by decide +kernel
theorem dX9_init_154 : decode cX9_init 154 = .ok (.newarray .int, 2) := by decide +kernel
theorem dX9_init_156 : decode cX9_init 156 = .ok (.putfield 77, 3) := by decide +kernel
theorem dX9_init_159 : decode cX9_init 159 = .ok (.aload_n 0, 1) := by decide +kernel
theorem dX9_init_160 : decode cX9_init 160 = .ok (.iconst 0, 1) := by decide +kernel
theorem dX9_init_161 : decode cX9_init 161 = .ok (.putfield 80, 3) := by decide +kernel
theorem dX9_init_164 : decode cX9_init 164 = .ok (.aload_n 0, 1) := by decide +kernel
theorem dX9_init_165 : decode cX9_init 165 = .ok (.iconst 0, 1) := by decide +kernel
theorem dX9_init_166 : decode cX9_init 166 = .ok (.putfield 83, 3) := by decide +kernel
theorem dX9_init_169 : decode cX9_init 169 = .ok (.aload_n 0, 1) := by decide +kernel
theorem dX9_init_170 : decode cX9_init 170 = .ok (.iconst 0, 1) := by decide +kernel
theorem dX9_init_171 : decode cX9_init 171 = .ok (.putfield 86, 3) := by decide +kernel
theorem dX9_init_174 : decode cX9_init 174 = .ok (.aload_n 0, 1) := by decide +kernel
theorem dX9_init_175 : decode cX9_init 175 = .ok (.bipush 20, 2) := by decide +kernel
theorem dX9_init_177 : decode cX9_init 177 = .ok (.newarray .int, 2) := by decide +kernel
theorem dX9_init_179 : decode cX9_init 179 = .ok (.dup, 1) := by decide +kernel
theorem dX9_init_180 : decode cX9_init 180 = .ok (.iconst 0, 1) := by decide +kernel
theorem dX9_init_181 : decode cX9_init 181 = .ok (.bipush 98, 2) := by decide +kernel
theorem dX9_init_183 : decode cX9_init 183 = .ok (.iastore, 1) := by decide +kernel
theorem dX9_init_184 : decode cX9_init 184 = .ok (.dup, 1) := by decide +kernel
theorem dX9_init_185 : decode cX9_init 185 = .ok (.iconst 1, 1) := by decide +kernel
theorem dX9_init_186 : decode cX9_init 186 = .ok (.bipush 101, 2) := by decide +kernel
theorem dX9_init_188 : decode cX9_init 188 = .ok (.iastore, 1) := by decide +kernel
theorem dX9_init_189 : decode cX9_init 189 = .ok (.dup, 1) := by decide +kernel
theorem dX9_init_190 : decode cX9_init 190 = .ok (.iconst 2, 1) := by decide +kernel
theorem dX9_init_191 : decode cX9_init 191 = .ok (.bipush 97, 2) := by decide +kernel
theorem dX9_init_193 : decode cX9_init 193 = .ok (.iastore, 1) := by decide +kernel
theorem dX9_init_194 : decode cX9_init 194 = .ok (.dup, 1) := by decide +kernel
theorem dX9_init_195 : decode cX9_init 195 = .ok (.iconst 3, 1) := by decide +kernel
theorem dX9_init_196 : decode cX9_init 196 = .ok (.bipush 114, 2) := by decide +kernel
theorem dX9_init_198 : decode cX9_init 198 = .ok (.iastore, 1) := by decide +kernel
theorem dX9_init_199 : decode cX9_init 199 = .ok (.dup, 1) := by decide +kernel
theorem dX9_init_200 : decode cX9_init 200 = .ok (.iconst 4, 1) := by decide +kernel
theorem dX9_init_201 : decode cX9_init 201 = .ok (.bipush 115, 2) := by decide +kernel
theorem dX9_init_203 : decode cX9_init 203 = .ok (.iastore, 1) := by decide +kernel
theorem dX9_init_204 : decode cX9_init 204 = .ok (.dup, 1) := by decide +kernel
theorem dX9_init_205 : decode cX9_init 205 = .ok (.iconst 5, 1) := by decide +kernel
theorem dX9_init_206 : decode cX9_init 206 = .ok (.bipush 104, 2) := by decide +kernel
theorem dX9_init_208 : decode cX9_init 208 = .ok (.iastore, 1) := by decide +kernel
theorem dX9_init_209 : decode cX9_init 209 = .ok (.dup, 1) := by decide +kernel
theorem dX9_init_210 : decode cX9_init 210 = .ok (.bipush 6, 2) := by decide +kernel
theorem dX9_init_212 : decode cX9_init 212 = .ok (.bipush 117, 2) := by decide +kernel
theorem dX9_init_214 : decode cX9_init 214 = .ok (.iastore, 1) := by decide +kernel
theorem dX9_init_215 : decode cX9_init 215 = .ok (.dup, 1) := by decide +kernel
theorem dX9_init_216 : decode cX9_init 216 = .ok (.bipush 7, 2) := by decide +kernel
theorem dX9_init_218 : decode cX9_init 218 = .ok (.bipush 110, 2) := by decide +kernel
theorem dX9_init_220 : decode cX9_init 220 = .ok (.iastore, 1) := by decide +kernel
theorem dX9_init_221 : decode cX9_init 221 = .ok (.dup, 1) := by decide +kernel
theorem dX9_init_222 : decode cX9_init 222 = .ok (.bipush 8, 2) := by decide +kernel
theorem dX9_init_224 : decode cX9_init 224 = .ok (.bipush 116, 2) := by decide +kernel
theorem dX9_init_226 : decode cX9_init 226 = .ok (.iastore, 1) := by decide +kernel
theorem dX9_init_227 : decode cX9_init 227 = .ok (.dup, 1) := by decide +kernel
theorem dX9_init_228 : decode cX9_init 228 = .ok (.bipush 9, 2) := by decide +kernel
theorem dX9_init_230 : decode cX9_init 230 = .ok (.bipush 104, 2) := by decide +kernel
theorem dX9_init_232 : decode cX9_init 232 = .ok (.iastore, 1) := by decide +kernel
theorem dX9_init_233 : decode cX9_init 233 = .ok (.dup, 1) := by decide +kernel
theorem dX9_init_234 : decode cX9_init 234 = .ok (.bipush 10, 2) := by decide +kernel
theorem dX9_init_236 : decode cX9_init 236 = .ok (.bipush 105, 2) := by decide +kernel
theorem dX9_init_238 : decode cX9_init 238 = .ok (.iastore, 1) := by decide +kernel
theorem dX9_init_239 : decode cX9_init 239 = .ok (.dup, 1) := by decide +kernel
theorem dX9_init_240 : decode cX9_init 240 = .ok (.bipush 11, 2) := by decide +kernel
theorem dX9_init_242 : decode cX9_init 242 = .ok (.bipush 114, 2) := by decide +kernel
theorem dX9_init_244 : decode cX9_init 244 = .ok (.iastore, 1) := by decide +kernel
theorem dX9_init_245 : decode cX9_init 245 = .ok (.dup, 1) := by decide +kernel
theorem dX9_init_246 : decode cX9_init 246 = .ok (.bipush 12, 2) := by decide +kernel
theorem dX9_init_248 : decode cX9_init 248 = .ok (.bipush 115, 2) := by decide +kernel
theorem dX9_init_250 : decode cX9_init 250 = .ok (.iastore, 1) := by decide +kernel
theorem dX9_init_251 : decode cX9_init 251 = .ok (.dup, 1) := by decide +kernel
theorem dX9_init_252 : decode cX9_init 252 = .ok (.bipush 13, 2) := by decide +kernel
theorem dX9_init_254 : decode cX9_init 254 = .ok (.bipush 116, 2) := by decide +kernel
theorem dX9_init_256 : decode cX9_init 256 = .ok (.iastore, 1) := by decide +kernel
theorem dX9_init_257 : decode cX9_init 257 = .ok (.dup, 1) := by decide +kernel
theorem dX9_init_258 : decode cX9_init 258 = .ok (.bipush 14, 2) := by decide +kernel
theorem dX9_init_260 : decode cX9_init 260 = .ok (.bipush 119, 2) := by decide +kernel
theorem dX9_init_262 : decode cX9_init 262 = .ok (.iastore, 1) := by decide +kernel
theorem dX9_init_263 : decode cX9_init 263 = .ok (.dup, 1) := by decide +kernel
theorem dX9_init_264 : decode cX9_init 264 = .ok (.bipush 15, 2) := by decide +kernel
theorem dX9_init_266 : decode cX9_init 266 = .ok (.bipush 105, 2) := by decide +kernel
theorem dX9_init_268 : decode cX9_init 268 = .ok (.iastore, 1) := by decide +kernel
theorem dX9_init_269 : decode cX9_init 269 = .ok (.dup, 1) := by decide +kernel
theorem dX9_init_270 : decode cX9_init 270 = .ok (.bipush 16, 2) := by decide +kernel
theorem dX9_init_272 : decode cX9_init 272 = .ok (.bipush 110, 2) := by decide +kernel
theorem dX9_init_274 : decode cX9_init 274 = .ok (.iastore, 1) := by decide +kernel
theorem dX9_init_275 : decode cX9_init 275 = .ok (.dup, 1) := by decide +kernel
theorem dX9_init_276 : decode cX9_init 276 = .ok (.bipush 17, 2) := by decide +kernel
theorem dX9_init_278 : decode cX9_init 278 = .ok (.bipush 100, 2) := by decide +kernel
theorem dX9_init_280 : decode cX9_init 280 = .ok (.iastore, 1) := by decide +kernel
theorem dX9_init_281 : decode cX9_init 281 = .ok (.dup, 1) := by decide +kernel
theorem dX9_init_282 : decode cX9_init 282 = .ok (.bipush 18, 2) := by decide +kernel
theorem dX9_init_284 : decode cX9_init 284 = .ok (.bipush 111, 2) := by decide +kernel
theorem dX9_init_286 : decode cX9_init 286 = .ok (.iastore, 1) := by decide +kernel
theorem dX9_init_287 : decode cX9_init 287 = .ok (.dup, 1) := by decide +kernel
theorem dX9_init_288 : decode cX9_init 288 = .ok (.bipush 19, 2) := by decide +kernel
theorem dX9_init_290 : decode cX9_init 290 = .ok (.bipush 119, 2) := by decide +kernel
theorem dX9_init_292 : decode cX9_init 292 = .ok (.iastore, 1) := by decide +kernel
theorem dX9_init_293 : decode cX9_init 293 = .ok (.putfield 89, 3) := by decide +kernel
theorem dX9_init_296 : decode cX9_init 296 = .ok (.aload_n 0, 1) := by decide +kernel
theorem dX9_init_297 : decode cX9_init 297 = .ok (.bipush 100, 2) := by decide +kernel
theorem dX9_init_299 : decode cX9_init 299 = .ok (.newarray .boolean, 2) := by decide +kernel
theorem dX9_init_301 : decode cX9_init 301 = .ok (.putfield 92, 3) := by decide +kernel
theorem dX9_init_304 : decode cX9_init 304 = .ok (.aload_n 0, 1) := by decide +kernel
theorem dX9_init_305 : decode cX9_init 305 = .ok (.bipush 36, 2) := by decide +kernel
theorem dX9_init_307 : decode cX9_init 307 = .ok (.newarray .int, 2) := by decide +kernel
theorem dX9_init_309 : decode cX9_init 309 = .ok (.putfield 96, 3) := by decide +kernel
theorem dX9_init_312 : decode cX9_init 312 = .ok (.aload_n 0, 1) := by decide +kernel
theorem dX9_init_313 : decode cX9_init 313 = .ok (.sipush 9999, 3) := by decide +kernel
theorem dX9_init_316 : decode cX9_init 316 = .ok (.putfield 99, 3) := by decide +kernel
theorem dX9_init_319 : decode cX9_init 319 = .ok (.aload_n 0, 1) := by decide +kernel
theorem dX9_init_320 : decode cX9_init 320 = .ok (.iconst 0, 1) := by decide +kernel
theorem dX9_init_321 : decode cX9_init 321 = .ok (.putfield 102, 3) := by decide +kernel
theorem dX9_init_324 : decode cX9_init 324 = .ok (.aload_n 0, 1) := by decide +kernel
theorem dX9_init_325 : decode cX9_init 325 = .ok (.iconst 0, 1) := by decide +kernel
theorem dX9_init_326 : decode cX9_init 326 = .ok (.putfield 105, 3) := by decide +kernel
theorem dX9_init_329 : decode cX9_init 329 = .ok (.aload_n 0, 1) := by decide +kernel
theorem dX9_init_330 : decode cX9_init 330 = .ok (.iconst 0, 1) := by decide +kernel
theorem dX9_init_331 : decode cX9_init 331 = .ok (.putfield 108, 3) := by decide +kernel
theorem dX9_init_334 : decode cX9_init 334 = .ok (.aload_n 0, 1) := by decide +kernel
theorem dX9_init_335 : decode cX9_init 335 = .ok (.iconst 0, 1) := by decide +kernel
theorem dX9_init_336 : decode cX9_init 336 = .ok (.putfield 111, 3) := by decide +kernel
theorem dX9_init_339 : decode cX9_init 339 = .ok (.aload_n 0, 1) := by decide +kernel
theorem dX9_init_340 : decode cX9_init 340 = .ok (.bipush 6, 2) := by decide +kernel
theorem dX9_init_342 : decode cX9_init 342 = .ok (.newarray .int, 2) := by decide +kernel
theorem dX9_init_344 : decode cX9_init 344 = .ok (.putfield 114, 3) := by decide +kernel
theorem dX9_init_347 : decode cX9_init 347 = .ok (.aload_n 0, 1) := by decide +kernel
theorem dX9_init_348 : decode cX9_init 348 = .ok (.bipush 6, 2) := by decide +kernel
theorem dX9_init_350 : decode cX9_init 350 = .ok (.newarray .int, 2) := by decide +kernel
theorem dX9_init_352 : decode cX9_init 352 = .ok (.putfield 117, 3) := by decide +kernel
theorem dX9_init_355 : decode cX9_init 355 = .ok (.aload_n 0, 1) := by decide +kernel
theorem dX9_init_356 : decode cX9_init 356 = .ok (.bipush 6, 2) := by decide +kernel
theorem dX9_init_358 : decode cX9_init 358 = .ok (.newarray .int, 2) := by decide +kernel
theorem dX9_init_360 : decode cX9_init 360 = .ok (.putfield 120, 3) := by decide +kernel
theorem dX9_init_363 : decode cX9_init 363 = .ok (.aload_n 0, 1) := by decide +kernel
theorem dX9_init_364 : decode cX9_init 364 = .ok (.iconst 0, 1) := by decide +kernel
theorem dX9_init_365 : decode cX9_init 365 = .ok (.putfield 123, 3) := by decide +kernel
theorem dX9_init_368 : decode cX9_init 368 = .ok (.aload_n 0, 1) := by decide +kernel
theorem dX9_init_369 : decode cX9_init 369 = .ok (.iconst 0, 1) := by decide +kernel
theorem dX9_init_370 : decode cX9_init 370 = .ok (.putfield 126, 3) := by decide +kernel
theorem dX9_init_373 : decode cX9_init 373 = .ok (.aload_n 0, 1) := by decide +kernel
theorem dX9_init_374 : decode cX9_init 374 = .ok (.iconst 0, 1) := by decide +kernel
theorem dX9_init_375 : decode cX9_init 375 = .ok (.putfield 129, 3) := by decide +kernel
theorem dX9_init_378 : decode cX9_init 378 = .ok (.aload_n 0, 1) := by decide +kernel
theorem dX9_init_379 : decode cX9_init 379 = .ok (.iconst 5, 1) := by decide +kernel
theorem dX9_init_380 : decode cX9_init 380 = .ok (.newarray .int, 2) := by decide +kernel
theorem dX9_init_382 : decode cX9_init 382 = .ok (.putfield 132, 3) := by decide +kernel
theorem dX9_init_385 : decode cX9_init 385 = .ok (.aload_n 0, 1) := by decide +kernel
theorem dX9_init_386 : decode cX9_init 386 = .ok (.iconst 5, 1) := by decide +kernel
theorem dX9_init_387 : decode cX9_init 387 = .ok (.newarray .int, 2) := by decide +kernel
theorem dX9_init_389 : decode cX9_init 389 = .ok (.putfield 135, 3) := by decide +kernel
theorem dX9_init_392 : decode cX9_init 392 = .ok (.aload_n 0, 1) := by decide +kernel
theorem dX9_init_393 : decode cX9_init 393 = .ok (.iconst 5, 1) := by decide +kernel
theorem dX9_init_394 : decode cX9_init 394 = .ok (.newarray .boolean, 2) := by decide +kernel
theorem dX9_init_396 : decode cX9_init 396 = .ok (.putfield 138, 3) := by decide +kernel
theorem dX9_init_399 : decode cX9_init 399 = .ok (.aload_n 0, 1) := by decide +kernel
theorem dX9_init_400 : decode cX9_init 400 = .ok (.bipush 6, 2) := by decide +kernel
theorem dX9_init_402 : decode cX9_init 402 = .ok (.newarray .int, 2) := by decide +kernel
theorem dX9_init_404 : decode cX9_init 404 = .ok (.putfield 141, 3) := by decide +kernel
theorem dX9_init_407 : decode cX9_init 407 = .ok (.aload_n 0, 1) := by decide +kernel
theorem dX9_init_408 : decode cX9_init 408 = .ok (.iconst 0, 1) := by decide +kernel
theorem dX9_init_409 : decode cX9_init 409 = .ok (.putfield 144, 3) := by decide +kernel
theorem dX9_init_412 : decode cX9_init 412 = .ok (.aload_n 0, 1) := by decide +kernel
theorem dX9_init_413 : decode cX9_init 413 = .ok (.iconst 0, 1) := by decide +kernel
theorem dX9_init_414 : decode cX9_init 414 = .ok (.putfield 147, 3) := by decide +kernel
theorem dX9_init_417 : decode cX9_init 417 = .ok (.aload_n 0, 1) := by decide +kernel
theorem dX9_init_418 : decode cX9_init 418 = .ok (.bipush 10, 2) := by decide +kernel
theorem dX9_init_420 : decode cX9_init 420 = .ok (.newarray .int, 2) := by decide +kernel
theorem dX9_init_422 : decode cX9_init 422 = .ok (.putfield 150, 3) := by decide +kernel
theorem dX9_init_425 : decode cX9_init 425 = .ok (.aload_n 0, 1) := by decide +kernel
theorem dX9_init_426 : decode cX9_init 426 = .ok (.bipush 10, 2) := by decide +kernel
theorem dX9_init_428 : decode cX9_init 428 = .ok (.newarray .int, 2) := by decide +kernel
theorem dX9_init_430 : decode cX9_init 430 = .ok (.putfield 153, 3) := by decide +kernel
theorem dX9_init_433 : decode cX9_init 433 = .ok (.aload_n 0, 1) := by decide +kernel
theorem dX9_init_434 : decode cX9_init 434 = .ok (.bipush 8, 2) := by decide +kernel
theorem dX9_init_436 : decode cX9_init 436 = .ok (.newarray .int, 2) := by decide +kernel
theorem dX9_init_438 : decode cX9_init 438 = .ok (.putfield 156, 3) := by decide +kernel
theorem dX9_init_441 : decode cX9_init 441 = .ok (.aload_n 0, 1) := by decide +kernel
theorem dX9_init_442 : decode cX9_init 442 = .ok (.bipush 8, 2) := by decide +kernel
theorem dX9_init_444 : decode cX9_init 444 = .ok (.newarray .int, 2) := by decide +kernel
theorem dX9_init_446 : decode cX9_init 446 = .ok (.putfield 159, 3) := by decide +kernel
theorem dX9_init_449 : decode cX9_init 449 = .ok (.aload_n 0, 1) := by decide +kernel
theorem dX9_init_450 : decode cX9_init 450 = .ok (.iconst 0, 1) := by decide +kernel
theorem dX9_init_451 : decode cX9_init 451 = .ok (.putfield 162, 3) := by decide +kernel
theorem dX9_init_454 : decode cX9_init 454 = .ok (.aload_n 0, 1) := by decide +kernel
theorem dX9_init_455 : decode cX9_init 455 = .ok (.iconst (-1), 1) := by decide +kernel
theorem dX9_init_456 : decode cX9_init 456 = .ok (.putfield 166, 3) := by decide +kernel
theorem dX9_init_459 : decode cX9_init 459 = .ok (.aload_n 0, 1) := by decide +kernel
theorem dX9_init_460 : decode cX9_init 460 = .ok (.iconst 0, 1) := by decide +kernel
theorem dX9_init_461 : decode cX9_init 461 = .ok (.putfield 169, 3) := by decide +kernel
theorem dX9_init_464 : decode cX9_init 464 = .ok (.aload_n 0, 1) := by decide +kernel
theorem dX9_init_465 : decode cX9_init 465 = .ok (.iconst 0, 1) := by decide +kernel
theorem dX9_init_466 : decode cX9_init 466 = .ok (.putfield 172, 3) := by decide +kernel
theorem dX9_init_469 : decode cX9_init 469 = .ok (.aload_n 0, 1) := by decide +kernel
theorem dX9_init_470 : decode cX9_init 470 = .ok (.iconst 0, 1) := by decide +kernel
theorem dX9_init_471 : decode cX9_init 471 = .ok (.putfield 175, 3) := by decide +kernel
theorem dX9_init_474 : decode cX9_init 474 = .ok (.aload_n 0, 1) := by decide +kernel
theorem dX9_init_475 : decode cX9_init 475 = .ok (.iconst 0, 1) := by decide +kernel
theorem dX9_init_476 : decode cX9_init 476 = .ok (.putfield 178, 3) := by decide +kernel
theorem dX9_init_479 : decode cX9_init 479 = .ok (.aload_n 0, 1) := by decide +kernel
theorem dX9_init_480 : decode cX9_init 480 = .ok (.iconst 0, 1) := by decide +kernel
theorem dX9_init_481 : decode cX9_init 481 = .ok (.putfield 181, 3) := by decide +kernel
theorem dX9_init_484 : decode cX9_init 484 = .ok (.aload_n 0, 1) := by decide +kernel
theorem dX9_init_485 : decode cX9_init 485 = .ok (.iconst 0, 1) := by decide +kernel
theorem dX9_init_486 : decode cX9_init 486 = .ok (.putfield 184, 3) := by decide +kernel
theorem dX9_init_489 : decode cX9_init 489 = .ok (.aload_n 0, 1) := by decide +kernel
theorem dX9_init_490 : decode cX9_init 490 = .ok (.iconst 0, 1) := by decide +kernel
theorem dX9_init_491 : decode cX9_init 491 = .ok (.putfield 187, 3) := by decide +kernel
theorem dX9_init_494 : decode cX9_init 494 = .ok (.aload_n 0, 1) := by decide +kernel
theorem dX9_init_495 : decode cX9_init 495 = .ok (.iconst 0, 1) := by decide +kernel
theorem dX9_init_496 : decode cX9_init 496 = .ok (.putfield 190, 3) := by decide +kernel
theorem dX9_init_499 : decode cX9_init 499 = .ok (.aload_n 0, 1) := by decide +kernel
theorem dX9_init_500 : decode cX9_init 500 = .ok (.bipush 6, 2) := by decide +kernel
theorem dX9_init_502 : decode cX9_init 502 = .ok (.newarray .int, 2) := by decide +kernel
theorem dX9_init_504 : decode cX9_init 504 = .ok (.putfield 193, 3) := by decide +kernel
theorem dX9_init_507 : decode cX9_init 507 = .ok (.aload_n 0, 1) := by decide +kernel
theorem dX9_init_508 : decode cX9_init 508 = .ok (.bipush 6, 2) := by decide +kernel
theorem dX9_init_510 : decode cX9_init 510 = .ok (.newarray .int, 2) := by decide +kernel
theorem dX9_init_512 : decode cX9_init 512 = .ok (.putfield 196, 3) := by decide +kernel
theorem dX9_init_515 : decode cX9_init 515 = .ok (.aload_n 0, 1) := by decide +kernel
theorem dX9_init_516 : decode cX9_init 516 = .ok (.bipush 6, 2) := by decide +kernel
theorem dX9_init_518 : decode cX9_init 518 = .ok (.newarray .int, 2) := by decide +kernel
theorem dX9_init_520 : decode cX9_init 520 = .ok (.putfield 199, 3) := by decide +kernel
theorem dX9_init_523 : decode cX9_init 523 = .ok (.aload_n 0, 1) := by decide +kernel
theorem dX9_init_524 : decode cX9_init 524 = .ok (.bipush 6, 2) := by decide +kernel
theorem dX9_init_526 : decode cX9_init 526 = .ok (.newarray .int, 2) := by decide +kernel
theorem dX9_init_528 : decode cX9_init 528 = .ok (.putfield 202, 3) := by decide +kernel
theorem dX9_init_531 : decode cX9_init 531 = .ok (.aload_n 0, 1) := by decide +kernel
theorem dX9_init_532 : decode cX9_init 532 = .ok (.bipush 24, 2) := by decide +kernel
theorem dX9_init_534 : decode cX9_init 534 = .ok (.newarray .int, 2) := by decide +kernel
theorem dX9_init_536 : decode cX9_init 536 = .ok (.putfield 205, 3) := by decide +kernel
theorem dX9_init_539 : decode cX9_init 539 = .ok (.aload_n 0, 1) := by decide +kernel
theorem dX9_init_540 : decode cX9_init 540 = .ok (.iconst 5, 1) := by decide +kernel
theorem dX9_init_541 : decode cX9_init 541 = .ok (.newarray .int, 2) := by decide +kernel
theorem dX9_init_543 : decode cX9_init 543 = .ok (.putfield 208, 3) := by decide +kernel
theorem dX9_init_546 : decode cX9_init 546 = .ok (.aload_n 0, 1) := by decide +kernel
theorem dX9_init_547 : decode cX9_init 547 = .ok (.iconst 5, 1) := by decide +kernel
theorem dX9_init_548 : decode cX9_init 548 = .ok (.newarray .int, 2) := by decide +kernel
theorem dX9_init_550 : decode cX9_init 550 = .ok (.putfield 211, 3) := by decide +kernel
theorem dX9_init_553 : decode cX9_init 553 = .ok (.aload_n 0, 1) := by decide +kernel
theorem dX9_init_554 : decode cX9_init 554 = .ok (.bipush 10, 2) := by decide +kernel
theorem dX9_init_556 : decode cX9_init 556 = .ok (.newarray .int, 2) := by decide +kernel
theorem dX9_init_558 : decode cX9_init 558 = .ok (.putfield 214, 3) := by decide +kernel
theorem dX9_init_561 : decode cX9_init 561 = .ok (.aload_n 0, 1) := by decide +kernel
theorem dX9_init_562 : decode cX9_init 562 = .ok (.bipush 10, 2) := by decide +kernel
theorem dX9_init_564 : decode cX9_init 564 = .ok (.newarray .int, 2) := by decide +kernel
theorem dX9_init_566 : decode cX9_init 566 = .ok (.putfield 217, 3) := by decide +kernel
theorem dX9_init_569 : decode cX9_init 569 = .ok (.aload_n 0, 1) := by decide +kernel
theorem dX9_init_570 : decode cX9_init 570 = .ok (.bipush 8, 2) := by decide +kernel
theorem dX9_init_572 : decode cX9_init 572 = .ok (.newarray .int, 2) := by decide +kernel
theorem dX9_init_574 : decode cX9_init 574 = .ok (.putfield 220, 3) := by decide +kernel
theorem dX9_init_577 : decode cX9_init 577 = .ok (.aload_n 0, 1) := by decide +kernel
theorem dX9_init_578 : decode cX9_init 578 = .ok (.bipush 8, 2) := by decide +kernel
theorem dX9_init_580 : decode cX9_init 580 = .ok (.newarray .int, 2) := by decide +kernel
theorem dX9_init_582 : decode cX9_init 582 = .ok (.putfield 223, 3) := by decide +kernel
theorem dX9_init_585 : decode cX9_init 585 = .ok (.aload_n 0, 1) := by decide +kernel
theorem dX9_init_586 : decode cX9_init 586 = .ok (.iconst 5, 1) := by decide +kernel
theorem dX9_init_587 : decode cX9_init 587 = .ok (.newarray .boolean, 2) := by decide +kernel
theorem dX9_init_589 : decode cX9_init 589 = .ok (.putfield 226, 3) := by decide +kernel
theorem dX9_init_592 : decode cX9_init 592 = .ok (.aload_n 0, 1) := by decide +kernel
theorem dX9_init_593 : decode cX9_init 593 = .ok (.iconst 0, 1) := by decide +kernel
theorem dX9_init_594 : decode cX9_init 594 = .ok (.putfield 229, 3) := by decide +kernel
theorem dX9_init_597 : decode cX9_init 597 = .ok (.aload_n 0, 1) := by decide +kernel
theorem dX9_init_598 : decode cX9_init 598 = .ok (.bipush 20, 2) := by decide +kernel
theorem dX9_init_600 : decode cX9_init 600 = .ok (.newarray .int, 2) := by decide +kernel
theorem dX9_init_602 : decode cX9_init 602 = .ok (.putfield 232, 3) := by decide +kernel
theorem dX9_init_605 : decode cX9_init 605 = .ok (.aload_n 0, 1) := by decide +kernel
theorem dX9_init_606 : decode cX9_init 606 = .ok (.bipush 6, 2) := by decide +kernel
theorem dX9_init_608 : decode cX9_init 608 = .ok (.newarray .int, 2) := by decide +kernel
theorem dX9_init_610 : decode cX9_init 610 = .ok (.dup, 1) := by decide +kernel
theorem dX9_init_611 : decode cX9_init 611 = .ok (.iconst 0, 1) := by decide +kernel
theorem dX9_init_612 : decode cX9_init 612 = .ok (.iconst (-1), 1) := by decide +kernel
theorem dX9_init_613 : decode cX9_init 613 = .ok (.iastore, 1) := by decide +kernel
theorem dX9_init_614 : decode cX9_init 614 = .ok (.dup, 1) := by decide +kernel
theorem dX9_init_615 : decode cX9_init 615 = .ok (.iconst 1, 1) := by decide +kernel
theorem dX9_init_616 : decode cX9_init 616 = .ok (.iconst (-1), 1) := by decide +kernel
theorem dX9_init_617 : decode cX9_init 617 = .ok (.iastore, 1) := by decide +kernel
theorem dX9_init_618 : decode cX9_init 618 = .ok (.dup, 1) := by decide +kernel
theorem dX9_init_619 : decode cX9_init 619 = .ok (.iconst 2, 1) := by decide +kernel
theorem dX9_init_620 : decode cX9_init 620 = .ok (.iconst (-1), 1) := by decide +kernel
theorem dX9_init_621 : decode cX9_init 621 = .ok (.iastore, 1) := by decide +kernel
theorem dX9_init_622 : decode cX9_init 622 = .ok (.dup, 1) := by decide +kernel
theorem dX9_init_623 : decode cX9_init 623 = .ok (.iconst 3, 1) := by decide +kernel
theorem dX9_init_624 : decode cX9_init 624 = .ok (.iconst (-1), 1) := by decide +kernel
theorem dX9_init_625 : decode cX9_init 625 = .ok (.iastore, 1) := by decide +kernel
theorem dX9_init_626 : decode cX9_init 626 = .ok (.dup, 1) := by decide +kernel
theorem dX9_init_627 : decode cX9_init 627 = .ok (.iconst 4, 1) := by decide +kernel
theorem dX9_init_628 : decode cX9_init 628 = .ok (.iconst (-1), 1) := by decide +kernel
theorem dX9_init_629 : decode cX9_init 629 = .ok (.iastore, 1) := by decide +kernel
theorem dX9_init_630 : decode cX9_init 630 = .ok (.dup, 1) := by decide +kernel
theorem dX9_init_631 : decode cX9_init 631 = .ok (.iconst 5, 1) := by decide +kernel
theorem dX9_init_632 : decode cX9_init 632 = .ok (.iconst (-1), 1) := by decide +kernel
theorem dX9_init_633 : decode cX9_init 633 = .ok (.iastore, 1) := by decide +kernel
theorem dX9_init_634 : decode cX9_init 634 = .ok (.putfield 235, 3) := by decide +kernel
theorem dX9_init_637 : decode cX9_init 637 = .ok (.aload_n 0, 1) := by decide +kernel
theorem dX9_init_638 : decode cX9_init 638 = .ok (.bipush 6, 2) := by decide +kernel
theorem dX9_init_640 : decode cX9_init 640 = .ok (.newarray .int, 2) := by decide +kernel
theorem dX9_init_642 : decode cX9_init 642 = .ok (.putfield 238, 3) := by decide +kernel
theorem dX9_init_645 : decode cX9_init 645 = .ok (.aload_n 0, 1) := by decide +kernel
theorem dX9_init_646 : decode cX9_init 646 = .ok (.sipush 360, 3) := by decide +kernel
theorem dX9_init_649 : decode cX9_init 649 = .ok (.newarray .long, 2) := by decide +kernel
theorem dX9_init_651 : decode cX9_init 651 = .ok (.putfield 241, 3) := by decide +kernel
theorem dX9_init_654 : decode cX9_init 654 = .ok (.aload_n 0, 1) := by decide +kernel
theorem dX9_init_655 : decode cX9_init 655 = .ok (.bipush 60, 2) := by decide +kernel
theorem dX9_init_657 : decode cX9_init 657 = .ok (.newarray .long, 2) := by decide +kernel
theorem dX9_init_659 : decode cX9_init 659 = .ok (.putfield 245, 3) := by decide +kernel
theorem dX9_init_662 : decode cX9_init 662 = .ok (.return_, 1) := by decide +kernel
theorem dX9_in_0 : decode cX9_in 0 = .ok (.iload_n 1, 1) := by decide +kernel
theorem dX9_in_1 : decode cX9_in 1 = .ok (.iload_n 2, 1) := by decide +kernel
theorem dX9_in_2 : decode cX9_in 2 = .ok (.if_icmp .lt 12, 3) := by decide +kernel
theorem dX9_in_5 : decode cX9_in 5 = .ok (.iload_n 1, 1) := by decide +kernel
theorem dX9_in_6 : decode cX9_in 6 = .ok (.iload_n 3, 1) := by decide +kernel
theorem dX9_in_7 : decode cX9_in 7 = .ok (.if_icmp .gt 7, 3) := by decide +kernel
theorem dX9_in_10 : decode cX9_in 10 = .ok (.iconst 1, 1) := by decide +kernel
theorem dX9_in_11 : decode cX9_in 11 = .ok (.goto 4, 3) := by decide +kernel
theorem dX9_in_14 : decode cX9_in 14 = .ok (.iconst 0, 1) := by decide +kernel
theorem dX9_in_15 : decode cX9_in 15 = .ok (.ireturn, 1) := by decide +kernel
theorem dX9_has_0 : decode cX9_has 0 = .ok (.iload_n 1, 1) := by decide +kernel
theorem dX9_has_1 : decode cX9_has 1 = .ok (.iload_n 2, 1) := by decide +kernel
theorem dX9_has_2 : decode cX9_has 2 = .ok (.ishr, 1) := by decide +kernel
theorem dX9_has_3 : decode cX9_has 3 = .ok (.iconst 1, 1) := by decide +kernel
theorem dX9_has_4 : decode cX9_has 4 = .ok (.iand, 1) := by decide +kernel
theorem dX9_has_5 : decode cX9_has 5 = .ok (.iconst 1, 1) := by decide +kernel
theorem dX9_has_6 : decode cX9_has 6 = .ok (.if_icmp .ne 7, 3) := by decide +kernel
theorem dX9_has_9 : decode cX9_has 9 = .ok (.iconst 1, 1) := by decide +kernel
theorem dX9_has_10 : decode cX9_has 10 = .ok (.goto 4, 3) := by decide +kernel
theorem dX9_has_13 : decode cX9_has 13 = .ok (.iconst 0, 1) := by decide +kernel
theorem dX9_has_14 : decode cX9_has 14 = .ok (.ireturn, 1) := by decide +kernel
theorem dX9_least_0 : decode cX9_least 0 = .ok (.iload_n 1, 1) := by decide +kernel
theorem dX9_least_1 : decode cX9_least 1 = .ok (.iload_n 2, 1) := by decide +kernel
theorem dX9_least_2 : decode cX9_least 2 = .ok (.if_icmp .ge 7, 3) := by decide +kernel
theorem dX9_least_5 : decode cX9_least 5 = .ok (.iload_n 1, 1) := by decide +kernel
theorem dX9_least_6 : decode cX9_least 6 = .ok (.goto 4, 3) := by decide +kernel
theorem dX9_least_9 : decode cX9_least 9 = .ok (.iload_n 2, 1) := by decide +kernel
theorem dX9_least_10 : decode cX9_least 10 = .ok (.ireturn, 1) := by decide +kernel
theorem dX9_bits_0 : decode cX9_bits 0 = .ok (.iconst 0, 1) := by decide +kernel
theorem dX9_bits_1 : decode cX9_bits 1 = .ok (.istore_n 2, 1) := by decide +kernel
theorem dX9_bits_2 : decode cX9_bits 2 = .ok (.iconst 0, 1) := by decide +kernel
theorem dX9_bits_3 : decode cX9_bits 3 = .ok (.istore_n 3, 1) := by decide +kernel
theorem dX9_bits_4 : decode cX9_bits 4 = .ok (.iload_n 3, 1) := by decide +kernel
theorem dX9_bits_5 : decode cX9_bits 5 = .ok (.bipush 6, 2) := by decide +kernel
theorem dX9_bits_7 : decode cX9_bits 7 = .ok (.if_icmp .ge 26, 3) := by decide +kernel
theorem dX9_bits_10 : decode cX9_bits 10 = .ok (.iload_n 2, 1) := by decide +kernel
theorem dX9_bits_11 : decode cX9_bits 11 = .ok (.aload_n 0, 1) := by decide +kernel
theorem dX9_bits_12 : decode cX9_bits 12 = .ok (.iload_n 1, 1) := by decide +kernel
theorem dX9_bits_13 : decode cX9_bits 13 = .ok (.iload_n 3, 1) := by decide +kernel
theorem dX9_bits_14 : decode cX9_bits 14 = .ok (.invokevirtual 248, 3) := by decide +kernel
theorem dX9_bits_17 : decode cX9_bits 17 = .ok (.ifCond .eq 7, 3) := by decide +kernel
theorem dX9_bits_20 : decode cX9_bits 20 = .ok (.iconst 1, 1) := by decide +kernel
theorem dX9_bits_21 : decode cX9_bits 21 = .ok (.goto 4, 3) := by decide +kernel
theorem dX9_bits_24 : decode cX9_bits 24 = .ok (.iconst 0, 1) := by decide +kernel
theorem dX9_bits_25 : decode cX9_bits 25 = .ok (.iadd, 1) := by decide +kernel
theorem dX9_bits_26 : decode cX9_bits 26 = .ok (.istore_n 2, 1) := by decide +kernel
theorem dX9_bits_27 : decode cX9_bits 27 = .ok (.iinc 3 1, 3) := by decide +kernel
theorem dX9_bits_30 : decode cX9_bits 30 = .ok (.goto (-26), 3) := by decide +kernel
theorem dX9_bits_33 : decode cX9_bits 33 = .ok (.iload_n 2, 1) := by decide +kernel
theorem dX9_bits_34 : decode cX9_bits 34 = .ok (.ireturn, 1) := by decide +kernel
theorem dX9_isGuest_0 : decode cX9_isGuest 0 = .ok (.aload_n 0, 1) := by decide +kernel
theorem dX9_isGuest_1 : decode cX9_isGuest 1 = .ok (.iload_n 1, 1) := by decide +kernel
theorem dX9_isGuest_2 : decode cX9_isGuest 2 = .ok (.iconst 0, 1) := by decide +kernel
theorem dX9_isGuest_3 : decode cX9_isGuest 3 = .ok (.aload_n 0, 1) := by decide +kernel
theorem dX9_isGuest_4 : decode cX9_isGuest 4 = .ok (.getfield 7, 3) := by decide +kernel
theorem dX9_isGuest_7 : decode cX9_isGuest 7 = .ok (.iconst 1, 1) := by decide +kernel
theorem dX9_isGuest_8 : decode cX9_isGuest 8 = .ok (.isub, 1) := by decide +kernel
theorem dX9_isGuest_9 : decode cX9_isGuest 9 = .ok (.invokevirtual 252, 3) := by decide +kernel
theorem dX9_isGuest_12 : decode cX9_isGuest 12 = .ok (.ireturn, 1) := by decide +kernel
theorem dX9_isSeat_0 : decode cX9_isSeat 0 = .ok (.aload_n 0, 1) := by decide +kernel
theorem dX9_isSeat_1 : decode cX9_isSeat 1 = .ok (.iload_n 1, 1) := by decide +kernel
theorem dX9_isSeat_2 : decode cX9_isSeat 2 = .ok (.iconst 0, 1) := by decide +kernel
theorem dX9_isSeat_3 : decode cX9_isSeat 3 = .ok (.iconst 5, 1) := by decide +kernel
theorem dX9_isSeat_4 : decode cX9_isSeat 4 = .ok (.invokevirtual 252, 3) := by decide +kernel
theorem dX9_isSeat_7 : decode cX9_isSeat 7 = .ok (.ireturn, 1) := by decide +kernel
theorem dX9_isYears_0 : decode cX9_isYears 0 = .ok (.aload_n 0, 1) := by decide +kernel
theorem dX9_isYears_1 : decode cX9_isYears 1 = .ok (.iload_n 1, 1) := by decide +kernel
theorem dX9_isYears_2 : decode cX9_isYears 2 = .ok (.iconst 0, 1) := by decide +kernel
theorem dX9_isYears_3 : decode cX9_isYears 3 = .ok (.bipush 60, 2) := by decide +kernel
theorem dX9_isYears_5 : decode cX9_isYears 5 = .ok (.invokevirtual 252, 3) := by decide +kernel
theorem dX9_isYears_8 : decode cX9_isYears 8 = .ok (.ireturn, 1) := by decide +kernel
theorem dX9_whoSits_0 : decode cX9_whoSits 0 = .ok (.iconst 0, 1) := by decide +kernel
theorem dX9_whoSits_1 : decode cX9_whoSits 1 = .ok (.istore_n 2, 1) := by decide +kernel
theorem dX9_whoSits_2 : decode cX9_whoSits 2 = .ok (.iload_n 2, 1) := by decide +kernel
theorem dX9_whoSits_3 : decode cX9_whoSits 3 = .ok (.aload_n 0, 1) := by decide +kernel
theorem dX9_whoSits_4 : decode cX9_whoSits 4 = .ok (.getfield 7, 3) := by decide +kernel
theorem dX9_whoSits_7 : decode cX9_whoSits 7 = .ok (.if_icmp .ge 21, 3) := by decide +kernel
theorem dX9_whoSits_10 : decode cX9_whoSits 10 = .ok (.aload_n 0, 1) := by decide +kernel
theorem dX9_whoSits_11 : decode cX9_whoSits 11 = .ok (.getfield 32, 3) := by decide +kernel
theorem dX9_whoSits_14 : decode cX9_whoSits 14 = .ok (.iload_n 2, 1) := by decide +kernel
theorem dX9_whoSits_15 : decode cX9_whoSits 15 = .ok (.iaload, 1) := by decide +kernel
theorem dX9_whoSits_16 : decode cX9_whoSits 16 = .ok (.iload_n 1, 1) := by decide +kernel
theorem dX9_whoSits_17 : decode cX9_whoSits 17 = .ok (.if_icmp .ne 5, 3) := by decide +kernel
theorem dX9_whoSits_20 : decode cX9_whoSits 20 = .ok (.iload_n 2, 1) := by decide +kernel
theorem dX9_whoSits_21 : decode cX9_whoSits 21 = .ok (.ireturn, 1) := by decide +kernel
theorem dX9_whoSits_22 : decode cX9_whoSits 22 = .ok (.iinc 2 1, 3) := by decide +kernel
theorem dX9_whoSits_25 : decode cX9_whoSits 25 = .ok (.goto (-23), 3) := by decide +kernel
theorem dX9_whoSits_28 : decode cX9_whoSits 28 = .ok (.bipush (-5), 2) := by decide +kernel
theorem dX9_whoSits_30 : decode cX9_whoSits 30 = .ok (.ireturn, 1) := by decide +kernel
theorem dX9_guest_0 : decode cX9_guest 0 = .ok (.aload_n 0, 1) := by decide +kernel
theorem dX9_guest_1 : decode cX9_guest 1 = .ok (.iload_n 1, 1) := by decide +kernel
theorem dX9_guest_2 : decode cX9_guest 2 = .ok (.iconst 0, 1) := by decide +kernel
theorem dX9_guest_3 : decode cX9_guest 3 = .ok (.bipush 6, 2) := by decide +kernel
theorem dX9_guest_5 : decode cX9_guest 5 = .ok (.invokevirtual 252, 3) := by decide +kernel
theorem dX9_guest_8 : decode cX9_guest 8 = .ok (.ifCond .ne 5, 3) := by decide +kernel
theorem dX9_guest_11 : decode cX9_guest 11 = .ok (.iconst (-1), 1) := by decide +kernel
theorem dX9_guest_12 : decode cX9_guest 12 = .ok (.ireturn, 1) := by decide +kernel
theorem dX9_guest_13 : decode cX9_guest 13 = .ok (.aload_n 0, 1) := by decide +kernel
theorem dX9_guest_14 : decode cX9_guest 14 = .ok (.iload_n 2, 1) := by decide +kernel
theorem dX9_guest_15 : decode cX9_guest 15 = .ok (.iconst 0, 1) := by decide +kernel
theorem dX9_guest_16 : decode cX9_guest 16 = .ok (.bipush 9, 2) := by decide +kernel
theorem dX9_guest_18 : decode cX9_guest 18 = .ok (.invokevirtual 252, 3) := by decide +kernel
theorem dX9_guest_21 : decode cX9_guest 21 = .ok (.ifCond .ne 6, 3) := by decide +kernel
theorem dX9_guest_24 : decode cX9_guest 24 = .ok (.bipush (-2), 2) := by decide +kernel
theorem dX9_guest_26 : decode cX9_guest 26 = .ok (.ireturn, 1) := by decide +kernel
theorem dX9_guest_27 : decode cX9_guest 27 = .ok (.aload_n 0, 1) := by decide +kernel
theorem dX9_guest_28 : decode cX9_guest 28 = .ok (.getfield 7, 3) := by decide +kernel
theorem dX9_guest_31 : decode cX9_guest 31 = .ok (.bipush 6, 2) := by decide +kernel
theorem dX9_guest_33 : decode cX9_guest 33 = .ok (.if_icmp .ne 6, 3) := by decide +kernel
theorem dX9_guest_36 : decode cX9_guest 36 = .ok (.bipush (-4), 2) := by decide +kernel
theorem dX9_guest_38 : decode cX9_guest 38 = .ok (.ireturn, 1) := by decide +kernel
theorem dX9_guest_39 : decode cX9_guest 39 = .ok (.iconst 0, 1) := by decide +kernel
theorem dX9_guest_40 : decode cX9_guest 40 = .ok (.istore_n 3, 1) := by decide +kernel
theorem dX9_guest_41 : decode cX9_guest 41 = .ok (.aload_n 0, 1) := by decide +kernel
theorem dX9_guest_42 : decode cX9_guest 42 = .ok (.iload_n 3, 1) := by decide +kernel
theorem dX9_guest_43 : decode cX9_guest 43 = .ok (.invokevirtual 256, 3) := by decide +kernel
theorem dX9_guest_46 : decode cX9_guest 46 = .ok (.ifCond .lt 9, 3) := by decide +kernel
theorem dX9_guest_49 : decode cX9_guest 49 = .ok (.iinc 3 1, 3) := by decide +kernel
theorem dX9_guest_52 : decode cX9_guest 52 = .ok (.goto (-11), 3) := by decide +kernel
theorem dX9_guest_55 : decode cX9_guest 55 = .ok (.aload_n 0, 1) := by decide +kernel
theorem dX9_guest_56 : decode cX9_guest 56 = .ok (.getfield 25, 3) := by decide +kernel
theorem dX9_guest_59 : decode cX9_guest 59 = .ok (.aload_n 0, 1) := by decide +kernel
theorem dX9_guest_60 : decode cX9_guest 60 = .ok (.getfield 7, 3) := by decide +kernel
theorem dX9_guest_63 : decode cX9_guest 63 = .ok (.iload_n 1, 1) := by decide +kernel
theorem dX9_guest_64 : decode cX9_guest 64 = .ok (.iastore, 1) := by decide +kernel
theorem dX9_guest_65 : decode cX9_guest 65 = .ok (.aload_n 0, 1) := by decide +kernel
theorem dX9_guest_66 : decode cX9_guest 66 = .ok (.getfield 29, 3) := by decide +kernel
theorem dX9_guest_69 : decode cX9_guest 69 = .ok (.aload_n 0, 1) := by decide +kernel
theorem dX9_guest_70 : decode cX9_guest 70 = .ok (.getfield 7, 3) := by decide +kernel
theorem dX9_guest_73 : decode cX9_guest 73 = .ok (.iload_n 2, 1) := by decide +kernel
theorem dX9_guest_74 : decode cX9_guest 74 = .ok (.iastore, 1) := by decide +kernel
theorem dX9_guest_75 : decode cX9_guest 75 = .ok (.aload_n 0, 1) := by decide +kernel
theorem dX9_guest_76 : decode cX9_guest 76 = .ok (.getfield 32, 3) := by decide +kernel
theorem dX9_guest_79 : decode cX9_guest 79 = .ok (.aload_n 0, 1) := by decide +kernel
theorem dX9_guest_80 : decode cX9_guest 80 = .ok (.getfield 7, 3) := by decide +kernel
theorem dX9_guest_83 : decode cX9_guest 83 = .ok (.iload_n 3, 1) := by decide +kernel
theorem dX9_guest_84 : decode cX9_guest 84 = .ok (.iastore, 1) := by decide +kernel
theorem dX9_guest_85 : decode cX9_guest 85 = .ok (.aload_n 0, 1) := by decide +kernel
theorem dX9_guest_86 : decode cX9_guest 86 = .ok (.getfield 35, 3) := by decide +kernel
theorem dX9_guest_89 : decode cX9_guest 89 = .ok (.aload_n 0, 1) := by decide +kernel
theorem dX9_guest_90 : decode cX9_guest 90 = .ok (.getfield 7, 3) := by decide +kernel
theorem dX9_guest_93 : decode cX9_guest 93 = .ok (.iconst 0, 1) := by decide +kernel
theorem dX9_guest_94 : decode cX9_guest 94 = .ok (.iastore, 1) := by decide +kernel
theorem dX9_guest_95 : decode cX9_guest 95 = .ok (.aload_n 0, 1) := by decide +kernel
theorem dX9_guest_96 : decode cX9_guest 96 = .ok (.dup, 1) := by decide +kernel
theorem dX9_guest_97 : decode cX9_guest 97 = .ok (.getfield 13, 3) := by decide +kernel
theorem dX9_guest_100 : decode cX9_guest 100 = .ok (.iconst 1, 1) := by decide +kernel
theorem dX9_guest_101 : decode cX9_guest 101 = .ok (.aload_n 0, 1) := by decide +kernel
theorem dX9_guest_102 : decode cX9_guest 102 = .ok (.getfield 7, 3) := by decide +kernel
theorem dX9_guest_105 : decode cX9_guest 105 = .ok (.ishl, 1) := by decide +kernel
theorem dX9_guest_106 : decode cX9_guest 106 = .ok (.iconst (-1), 1) := by decide +kernel
theorem dX9_guest_107 : decode cX9_guest 107 = .ok (.ixor, 1) := by decide +kernel
theorem dX9_guest_108 : decode cX9_guest 108 = .ok (.iand, 1) := by decide +kernel
theorem dX9_guest_109 : decode cX9_guest 109 = .ok (.putfield 13, 3) := by decide +kernel
theorem dX9_guest_112 : decode cX9_guest 112 = .ok (.aload_n 0, 1) := by decide +kernel
theorem dX9_guest_113 : decode cX9_guest 113 = .ok (.dup, 1) := by decide +kernel
theorem dX9_guest_114 : decode cX9_guest 114 = .ok (.getfield 16, 3) := by decide +kernel
theorem dX9_guest_117 : decode cX9_guest 117 = .ok (.iconst 1, 1) := by decide +kernel
theorem dX9_guest_118 : decode cX9_guest 118 = .ok (.aload_n 0, 1) := by decide +kernel
theorem dX9_guest_119 : decode cX9_guest 119 = .ok (.getfield 7, 3) := by decide +kernel
theorem dX9_guest_122 : decode cX9_guest 122 = .ok (.ishl, 1) := by decide +kernel
theorem dX9_guest_123 : decode cX9_guest 123 = .ok (.iconst (-1), 1) := by decide +kernel
theorem dX9_guest_124 : decode cX9_guest 124 = .ok (.ixor, 1) := by decide +kernel
theorem dX9_guest_125 : decode cX9_guest 125 = .ok (.iand, 1) := by decide +kernel
theorem dX9_guest_126 : decode cX9_guest 126 = .ok (.putfield 16, 3) := by decide +kernel
theorem dX9_guest_129 : decode cX9_guest 129 = .ok (.iconst 0, 1) := by decide +kernel
theorem dX9_guest_130 : decode cX9_guest 130 = .ok (.istore 4, 2) := by decide +kernel
theorem dX9_guest_132 : decode cX9_guest 132 = .ok (.iload 4, 2) := by decide +kernel
theorem dX9_guest_134 : decode cX9_guest 134 = .ok (.iconst 4, 1) := by decide +kernel
theorem dX9_guest_135 : decode cX9_guest 135 = .ok (.if_icmp .ge 24, 3) := by decide +kernel
theorem dX9_guest_138 : decode cX9_guest 138 = .ok (.aload_n 0, 1) := by decide +kernel
theorem dX9_guest_139 : decode cX9_guest 139 = .ok (.getfield 38, 3) := by decide +kernel
theorem dX9_guest_142 : decode cX9_guest 142 = .ok (.iconst 4, 1) := by decide +kernel
theorem dX9_guest_143 : decode cX9_guest 143 = .ok (.aload_n 0, 1) := by decide +kernel
theorem dX9_guest_144 : decode cX9_guest 144 = .ok (.getfield 7, 3) := by decide +kernel
theorem dX9_guest_147 : decode cX9_guest 147 = .ok (.imul, 1) := by decide +kernel
theorem dX9_guest_148 : decode cX9_guest 148 = .ok (.iload 4, 2) := by decide +kernel
theorem dX9_guest_150 : decode cX9_guest 150 = .ok (.iadd, 1) := by decide +kernel
theorem dX9_guest_151 : decode cX9_guest 151 = .ok (.iconst 0, 1) := by decide +kernel
theorem dX9_guest_152 : decode cX9_guest 152 = .ok (.iastore, 1) := by decide +kernel
theorem dX9_guest_153 : decode cX9_guest 153 = .ok (.iinc 4 1, 3) := by decide +kernel
theorem dX9_guest_156 : decode cX9_guest 156 = .ok (.goto (-24), 3) := by decide +kernel
theorem dX9_guest_159 : decode cX9_guest 159 = .ok (.aload_n 0, 1) := by decide +kernel
theorem dX9_guest_160 : decode cX9_guest 160 = .ok (.dup, 1) := by decide +kernel
theorem dX9_guest_161 : decode cX9_guest 161 = .ok (.getfield 7, 3) := by decide +kernel
theorem dX9_guest_164 : decode cX9_guest 164 = .ok (.iconst 1, 1) := by decide +kernel
theorem dX9_guest_165 : decode cX9_guest 165 = .ok (.iadd, 1) := by decide +kernel
theorem dX9_guest_166 : decode cX9_guest 166 = .ok (.putfield 7, 3) := by decide +kernel
theorem dX9_guest_169 : decode cX9_guest 169 = .ok (.aload_n 0, 1) := by decide +kernel
theorem dX9_guest_170 : decode cX9_guest 170 = .ok (.getfield 7, 3) := by decide +kernel
theorem dX9_guest_173 : decode cX9_guest 173 = .ok (.iconst 1, 1) := by decide +kernel
theorem dX9_guest_174 : decode cX9_guest 174 = .ok (.isub, 1) := by decide +kernel
theorem dX9_guest_175 : decode cX9_guest 175 = .ok (.ireturn, 1) := by decide +kernel
theorem dX9_goes_0 : decode cX9_goes 0 = .ok (.aload_n 0, 1) := by decide +kernel
theorem dX9_goes_1 : decode cX9_goes 1 = .ok (.iload_n 2, 1) := by decide +kernel
theorem dX9_goes_2 : decode cX9_goes 2 = .ok (.ifCond .eq 14, 3) := by decide +kernel
theorem dX9_goes_5 : decode cX9_goes 5 = .ok (.aload_n 0, 1) := by decide +kernel
theorem dX9_goes_6 : decode cX9_goes 6 = .ok (.getfield 13, 3) := by decide +kernel
theorem dX9_goes_9 : decode cX9_goes 9 = .ok (.iconst 1, 1) := by decide +kernel
theorem dX9_goes_10 : decode cX9_goes 10 = .ok (.iload_n 1, 1) := by decide +kernel
theorem dX9_goes_11 : decode cX9_goes 11 = .ok (.ishl, 1) := by decide +kernel
theorem dX9_goes_12 : decode cX9_goes 12 = .ok (.ior, 1) := by decide +kernel
theorem dX9_goes_13 : decode cX9_goes 13 = .ok (.goto 13, 3) := by decide +kernel
theorem dX9_goes_16 : decode cX9_goes 16 = .ok (.aload_n 0, 1) := by decide +kernel
theorem dX9_goes_17 : decode cX9_goes 17 = .ok (.getfield 13, 3) := by decide +kernel
theorem dX9_goes_20 : decode cX9_goes 20 = .ok (.iconst 1, 1) := by decide +kernel
theorem dX9_goes_21 : decode cX9_goes 21 = .ok (.iload_n 1, 1) := by decide +kernel
theorem dX9_goes_22 : decode cX9_goes 22 = .ok (.ishl, 1) := by decide +kernel
theorem dX9_goes_23 : decode cX9_goes 23 = .ok (.iconst (-1), 1) := by decide +kernel
theorem dX9_goes_24 : decode cX9_goes 24 = .ok (.ixor, 1) := by decide +kernel
theorem dX9_goes_25 : decode cX9_goes 25 = .ok (.iand, 1) := by decide +kernel
theorem dX9_goes_26 : decode cX9_goes 26 = .ok (.putfield 13, 3) := by decide +kernel
theorem dX9_goes_29 : decode cX9_goes 29 = .ok (.return_, 1) := by decide +kernel
theorem dX9_leave_0 : decode cX9_leave 0 = .ok (.aload_n 0, 1) := by decide +kernel
theorem dX9_leave_1 : decode cX9_leave 1 = .ok (.iload_n 1, 1) := by decide +kernel
theorem dX9_leave_2 : decode cX9_leave 2 = .ok (.invokevirtual 260, 3) := by decide +kernel
theorem dX9_leave_5 : decode cX9_leave 5 = .ok (.ifCond .ne 5, 3) := by decide +kernel
theorem dX9_leave_8 : decode cX9_leave 8 = .ok (.iconst (-1), 1) := by decide +kernel
theorem dX9_leave_9 : decode cX9_leave 9 = .ok (.ireturn, 1) := by decide +kernel
theorem dX9_leave_10 : decode cX9_leave 10 = .ok (.aload_n 0, 1) := by decide +kernel
theorem dX9_leave_11 : decode cX9_leave 11 = .ok (.aload_n 0, 1) := by decide +kernel
theorem dX9_leave_12 : decode cX9_leave 12 = .ok (.getfield 13, 3) := by decide +kernel
theorem dX9_leave_15 : decode cX9_leave 15 = .ok (.iload_n 1, 1) := by decide +kernel
theorem dX9_leave_16 : decode cX9_leave 16 = .ok (.invokevirtual 248, 3) := by decide +kernel
theorem dX9_leave_19 : decode cX9_leave 19 = .ok (.ifCond .eq 7, 3) := by decide +kernel
theorem dX9_leave_22 : decode cX9_leave 22 = .ok (.iconst 1, 1) := by decide +kernel
theorem dX9_leave_23 : decode cX9_leave 23 = .ok (.goto 4, 3) := by decide +kernel
theorem dX9_leave_26 : decode cX9_leave 26 = .ok (.iconst 0, 1) := by decide +kernel
theorem dX9_leave_27 : decode cX9_leave 27 = .ok (.istore_n 3, 1) := by decide +kernel
theorem dX9_leave_28 : decode cX9_leave 28 = .ok (.aload_n 0, 1) := by decide +kernel
theorem dX9_leave_29 : decode cX9_leave 29 = .ok (.iload_n 1, 1) := by decide +kernel
theorem dX9_leave_30 : decode cX9_leave 30 = .ok (.iload_n 2, 1) := by decide +kernel
theorem dX9_leave_31 : decode cX9_leave 31 = .ok (.invokevirtual 264, 3) := by decide +kernel
theorem dX9_leave_34 : decode cX9_leave 34 = .ok (.iload_n 3, 1) := by decide +kernel
theorem dX9_leave_35 : decode cX9_leave 35 = .ok (.ireturn, 1) := by decide +kernel
theorem dX9_takesSeat_0 : decode cX9_takesSeat 0 = .ok (.aload_n 0, 1) := by decide +kernel
theorem dX9_takesSeat_1 : decode cX9_takesSeat 1 = .ok (.iload_n 2, 1) := by decide +kernel
theorem dX9_takesSeat_2 : decode cX9_takesSeat 2 = .ok (.invokevirtual 256, 3) := by decide +kernel
theorem dX9_takesSeat_5 : decode cX9_takesSeat 5 = .ok (.istore_n 3, 1) := by decide +kernel
theorem dX9_takesSeat_6 : decode cX9_takesSeat 6 = .ok (.iload_n 3, 1) := by decide +kernel
theorem dX9_takesSeat_7 : decode cX9_takesSeat 7 = .ok (.ifCond .lt 15, 3) := by decide +kernel
theorem dX9_takesSeat_10 : decode cX9_takesSeat 10 = .ok (.aload_n 0, 1) := by decide +kernel
theorem dX9_takesSeat_11 : decode cX9_takesSeat 11 = .ok (.getfield 32, 3) := by decide +kernel
theorem dX9_takesSeat_14 : decode cX9_takesSeat 14 = .ok (.iload_n 3, 1) := by decide +kernel
theorem dX9_takesSeat_15 : decode cX9_takesSeat 15 = .ok (.aload_n 0, 1) := by decide +kernel
theorem dX9_takesSeat_16 : decode cX9_takesSeat 16 = .ok (.getfield 32, 3) := by decide +kernel
theorem dX9_takesSeat_19 : decode cX9_takesSeat 19 = .ok (.iload_n 1, 1) := by decide +kernel
theorem dX9_takesSeat_20 : decode cX9_takesSeat 20 = .ok (.iaload, 1) := by decide +kernel
theorem dX9_takesSeat_21 : decode cX9_takesSeat 21 = .ok (.iastore, 1) := by decide +kernel
theorem dX9_takesSeat_22 : decode cX9_takesSeat 22 = .ok (.aload_n 0, 1) := by decide +kernel
theorem dX9_takesSeat_23 : decode cX9_takesSeat 23 = .ok (.getfield 32, 3) := by decide +kernel
theorem dX9_takesSeat_26 : decode cX9_takesSeat 26 = .ok (.iload_n 1, 1) := by decide +kernel
theorem dX9_takesSeat_27 : decode cX9_takesSeat 27 = .ok (.iload_n 2, 1) := by decide +kernel
theorem dX9_takesSeat_28 : decode cX9_takesSeat 28 = .ok (.iastore, 1) := by decide +kernel
theorem dX9_takesSeat_29 : decode cX9_takesSeat 29 = .ok (.return_, 1) := by decide +kernel
theorem dX9_sit_0 : decode cX9_sit 0 = .ok (.aload_n 0, 1) := by decide +kernel
theorem dX9_sit_1 : decode cX9_sit 1 = .ok (.iload_n 1, 1) := by decide +kernel
theorem dX9_sit_2 : decode cX9_sit 2 = .ok (.invokevirtual 260, 3) := by decide +kernel
theorem dX9_sit_5 : decode cX9_sit 5 = .ok (.ifCond .eq 11, 3) := by decide +kernel
theorem dX9_sit_8 : decode cX9_sit 8 = .ok (.aload_n 0, 1) := by decide +kernel
theorem dX9_sit_9 : decode cX9_sit 9 = .ok (.iload_n 2, 1) := by decide +kernel
theorem dX9_sit_10 : decode cX9_sit 10 = .ok (.invokevirtual 268, 3) := by decide +kernel
theorem dX9_sit_13 : decode cX9_sit 13 = .ok (.ifCond .ne 7, 3) := by decide +kernel
theorem dX9_sit_16 : decode cX9_sit 16 = .ok (.sipush (-10001), 3) := by decide +kernel
theorem dX9_sit_19 : decode cX9_sit 19 = .ok (.ireturn, 1) := by decide +kernel
theorem dX9_sit_20 : decode cX9_sit 20 = .ok (.aload_n 0, 1) := by decide +kernel
theorem dX9_sit_21 : decode cX9_sit 21 = .ok (.iload_n 1, 1) := by decide +kernel
theorem dX9_sit_22 : decode cX9_sit 22 = .ok (.iload_n 2, 1) := by decide +kernel
theorem dX9_sit_23 : decode cX9_sit 23 = .ok (.invokevirtual 271, 3) := by decide +kernel
theorem dX9_sit_26 : decode cX9_sit 26 = .ok (.aload_n 0, 1) := by decide +kernel
theorem dX9_sit_27 : decode cX9_sit 27 = .ok (.iload_n 1, 1) := by decide +kernel
theorem dX9_sit_28 : decode cX9_sit 28 = .ok (.invokevirtual 275, 3) := by decide +kernel
theorem dX9_sit_31 : decode cX9_sit 31 = .ok (.ireturn, 1) := by decide +kernel
theorem dX9_pours_0 : decode cX9_pours 0 = .ok (.aload_n 0, 1) := by decide +kernel
theorem dX9_pours_1 : decode cX9_pours 1 = .ok (.iload_n 1, 1) := by decide +kernel
theorem dX9_pours_2 : decode cX9_pours 2 = .ok (.putfield 19, 3) := by decide +kernel
theorem dX9_pours_5 : decode cX9_pours 5 = .ok (.aload_n 0, 1) := by decide +kernel
theorem dX9_pours_6 : decode cX9_pours 6 = .ok (.iload_n 1, 1) := by decide +kernel
theorem dX9_pours_7 : decode cX9_pours 7 = .ok (.invokevirtual 256, 3) := by decide +kernel
theorem dX9_pours_10 : decode cX9_pours 10 = .ok (.istore_n 2, 1) := by decide +kernel
theorem dX9_pours_11 : decode cX9_pours 11 = .ok (.iload_n 2, 1) := by decide +kernel
theorem dX9_pours_12 : decode cX9_pours 12 = .ok (.ifCond .lt 17, 3) := by decide +kernel
theorem dX9_pours_15 : decode cX9_pours 15 = .ok (.aload_n 0, 1) := by decide +kernel
theorem dX9_pours_16 : decode cX9_pours 16 = .ok (.dup, 1) := by decide +kernel
theorem dX9_pours_17 : decode cX9_pours 17 = .ok (.getfield 16, 3) := by decide +kernel
theorem dX9_pours_20 : decode cX9_pours 20 = .ok (.iconst 1, 1) := by decide +kernel
theorem dX9_pours_21 : decode cX9_pours 21 = .ok (.iload_n 2, 1) := by decide +kernel
theorem dX9_pours_22 : decode cX9_pours 22 = .ok (.ishl, 1) := by decide +kernel
theorem dX9_pours_23 : decode cX9_pours 23 = .ok (.iconst (-1), 1) := by decide +kernel
theorem dX9_pours_24 : decode cX9_pours 24 = .ok (.ixor, 1) := by decide +kernel
theorem dX9_pours_25 : decode cX9_pours 25 = .ok (.iand, 1) := by decide +kernel
theorem dX9_pours_26 : decode cX9_pours 26 = .ok (.putfield 16, 3) := by decide +kernel
theorem dX9_pours_29 : decode cX9_pours 29 = .ok (.return_, 1) := by decide +kernel
theorem dX9_pour_0 : decode cX9_pour 0 = .ok (.aload_n 0, 1) := by decide +kernel
theorem dX9_pour_1 : decode cX9_pour 1 = .ok (.iload_n 1, 1) := by decide +kernel
theorem dX9_pour_2 : decode cX9_pour 2 = .ok (.invokevirtual 268, 3) := by decide +kernel
theorem dX9_pour_5 : decode cX9_pour 5 = .ok (.ifCond .ne 5, 3) := by decide +kernel
theorem dX9_pour_8 : decode cX9_pour 8 = .ok (.iconst (-1), 1) := by decide +kernel
theorem dX9_pour_9 : decode cX9_pour 9 = .ok (.ireturn, 1) := by decide +kernel
theorem dX9_pour_10 : decode cX9_pour 10 = .ok (.aload_n 0, 1) := by decide +kernel
theorem dX9_pour_11 : decode cX9_pour 11 = .ok (.iload_n 1, 1) := by decide +kernel
theorem dX9_pour_12 : decode cX9_pour 12 = .ok (.invokevirtual 278, 3) := by decide +kernel
theorem dX9_pour_15 : decode cX9_pour 15 = .ok (.aload_n 0, 1) := by decide +kernel
theorem dX9_pour_16 : decode cX9_pour 16 = .ok (.aload_n 0, 1) := by decide +kernel
theorem dX9_pour_17 : decode cX9_pour 17 = .ok (.getfield 16, 3) := by decide +kernel
theorem dX9_pour_20 : decode cX9_pour 20 = .ok (.invokevirtual 282, 3) := by decide +kernel
theorem dX9_pour_23 : decode cX9_pour 23 = .ok (.ireturn, 1) := by decide +kernel
theorem dX9_row_0 : decode cX9_row 0 = .ok (.aload_n 0, 1) := by decide +kernel
theorem dX9_row_1 : decode cX9_row 1 = .ok (.iload_n 1, 1) := by decide +kernel
theorem dX9_row_2 : decode cX9_row 2 = .ok (.invokevirtual 260, 3) := by decide +kernel
theorem dX9_row_5 : decode cX9_row 5 = .ok (.ifCond .eq 13, 3) := by decide +kernel
theorem dX9_row_8 : decode cX9_row 8 = .ok (.aload_n 0, 1) := by decide +kernel
theorem dX9_row_9 : decode cX9_row 9 = .ok (.iload_n 2, 1) := by decide +kernel
theorem dX9_row_10 : decode cX9_row 10 = .ok (.iconst 0, 1) := by decide +kernel
theorem dX9_row_11 : decode cX9_row 11 = .ok (.iconst 3, 1) := by decide +kernel
theorem dX9_row_12 : decode cX9_row 12 = .ok (.invokevirtual 252, 3) := by decide +kernel
theorem dX9_row_15 : decode cX9_row 15 = .ok (.ifCond .ne 5, 3) := by decide +kernel
theorem dX9_row_18 : decode cX9_row 18 = .ok (.iconst (-1), 1) := by decide +kernel
theorem dX9_row_19 : decode cX9_row 19 = .ok (.ireturn, 1) := by decide +kernel
theorem dX9_row_20 : decode cX9_row 20 = .ok (.aload_n 0, 1) := by decide +kernel
theorem dX9_row_21 : decode cX9_row 21 = .ok (.iload_n 3, 1) := by decide +kernel
theorem dX9_row_22 : decode cX9_row 22 = .ok (.iconst 0, 1) := by decide +kernel
theorem dX9_row_23 : decode cX9_row 23 = .ok (.bipush 9, 2) := by decide +kernel
theorem dX9_row_25 : decode cX9_row 25 = .ok (.invokevirtual 252, 3) := by decide +kernel
theorem dX9_row_28 : decode cX9_row 28 = .ok (.ifCond .ne 6, 3) := by decide +kernel
theorem dX9_row_31 : decode cX9_row 31 = .ok (.bipush (-2), 2) := by decide +kernel
theorem dX9_row_33 : decode cX9_row 33 = .ok (.ireturn, 1) := by decide +kernel
theorem dX9_row_34 : decode cX9_row 34 = .ok (.aload_n 0, 1) := by decide +kernel
theorem dX9_row_35 : decode cX9_row 35 = .ok (.getfield 25, 3) := by decide +kernel
theorem dX9_row_38 : decode cX9_row 38 = .ok (.iload_n 1, 1) := by decide +kernel
theorem dX9_row_39 : decode cX9_row 39 = .ok (.iaload, 1) := by decide +kernel
theorem dX9_row_40 : decode cX9_row 40 = .ok (.bipush 6, 2) := by decide +kernel
theorem dX9_row_42 : decode cX9_row 42 = .ok (.if_icmp .eq 6, 3) := by decide +kernel
theorem dX9_row_45 : decode cX9_row 45 = .ok (.bipush (-3), 2) := by decide +kernel
theorem dX9_row_47 : decode cX9_row 47 = .ok (.ireturn, 1) := by decide +kernel
theorem dX9_row_48 : decode cX9_row 48 = .ok (.aload_n 0, 1) := by decide +kernel
theorem dX9_row_49 : decode cX9_row 49 = .ok (.getfield 38, 3) := by decide +kernel
theorem dX9_row_52 : decode cX9_row 52 = .ok (.iconst 4, 1) := by decide +kernel
theorem dX9_row_53 : decode cX9_row 53 = .ok (.iload_n 1, 1) := by decide +kernel
theorem dX9_row_54 : decode cX9_row 54 = .ok (.imul, 1) := by decide +kernel
theorem dX9_row_55 : decode cX9_row 55 = .ok (.iload_n 2, 1) := by decide +kernel
theorem dX9_row_56 : decode cX9_row 56 = .ok (.iadd, 1) := by decide +kernel
theorem dX9_row_57 : decode cX9_row 57 = .ok (.iaload, 1) := by decide +kernel
theorem dX9_row_58 : decode cX9_row 58 = .ok (.istore 4, 2) := by decide +kernel
theorem dX9_row_60 : decode cX9_row 60 = .ok (.aload_n 0, 1) := by decide +kernel
theorem dX9_row_61 : decode cX9_row 61 = .ok (.getfield 38, 3) := by decide +kernel
theorem dX9_row_64 : decode cX9_row 64 = .ok (.iconst 4, 1) := by decide +kernel
theorem dX9_row_65 : decode cX9_row 65 = .ok (.iload_n 1, 1) := by decide +kernel
theorem dX9_row_66 : decode cX9_row 66 = .ok (.imul, 1) := by decide +kernel
theorem dX9_row_67 : decode cX9_row 67 = .ok (.iload_n 2, 1) := by decide +kernel
theorem dX9_row_68 : decode cX9_row 68 = .ok (.iadd, 1) := by decide +kernel
theorem dX9_row_69 : decode cX9_row 69 = .ok (.iload_n 3, 1) := by decide +kernel
theorem dX9_row_70 : decode cX9_row 70 = .ok (.iastore, 1) := by decide +kernel
theorem dX9_row_71 : decode cX9_row 71 = .ok (.iload 4, 2) := by decide +kernel
theorem dX9_row_73 : decode cX9_row 73 = .ok (.ireturn, 1) := by decide +kernel
theorem dX9_feed_0 : decode cX9_feed 0 = .ok (.aload_n 0, 1) := by decide +kernel
theorem dX9_feed_1 : decode cX9_feed 1 = .ok (.iload_n 1, 1) := by decide +kernel
theorem dX9_feed_2 : decode cX9_feed 2 = .ok (.iconst 0, 1) := by decide +kernel
theorem dX9_feed_3 : decode cX9_feed 3 = .ok (.bipush 127, 2) := by decide +kernel
theorem dX9_feed_5 : decode cX9_feed 5 = .ok (.invokevirtual 252, 3) := by decide +kernel
theorem dX9_feed_8 : decode cX9_feed 8 = .ok (.ifCond .ne 6, 3) := by decide +kernel
theorem dX9_feed_11 : decode cX9_feed 11 = .ok (.bipush (-2), 2) := by decide +kernel
theorem dX9_feed_13 : decode cX9_feed 13 = .ok (.ireturn, 1) := by decide +kernel
theorem dX9_feed_14 : decode cX9_feed 14 = .ok (.aload_n 0, 1) := by decide +kernel
theorem dX9_feed_15 : decode cX9_feed 15 = .ok (.getfield 47, 3) := by decide +kernel
theorem dX9_feed_18 : decode cX9_feed 18 = .ok (.bipush 100, 2) := by decide +kernel
theorem dX9_feed_20 : decode cX9_feed 20 = .ok (.if_icmp .ne 6, 3) := by decide +kernel
theorem dX9_feed_23 : decode cX9_feed 23 = .ok (.bipush (-4), 2) := by decide +kernel
theorem dX9_feed_25 : decode cX9_feed 25 = .ok (.ireturn, 1) := by decide +kernel
theorem dX9_feed_26 : decode cX9_feed 26 = .ok (.aload_n 0, 1) := by decide +kernel
theorem dX9_feed_27 : decode cX9_feed 27 = .ok (.getfield 56, 3) := by decide +kernel
theorem dX9_feed_30 : decode cX9_feed 30 = .ok (.aload_n 0, 1) := by decide +kernel
theorem dX9_feed_31 : decode cX9_feed 31 = .ok (.getfield 47, 3) := by decide +kernel
theorem dX9_feed_34 : decode cX9_feed 34 = .ok (.iload_n 1, 1) := by decide +kernel
theorem dX9_feed_35 : decode cX9_feed 35 = .ok (.iastore, 1) := by decide +kernel
theorem dX9_feed_36 : decode cX9_feed 36 = .ok (.aload_n 0, 1) := by decide +kernel
theorem dX9_feed_37 : decode cX9_feed 37 = .ok (.dup, 1) := by decide +kernel
theorem dX9_feed_38 : decode cX9_feed 38 = .ok (.getfield 47, 3) := by decide +kernel
theorem dX9_feed_41 : decode cX9_feed 41 = .ok (.iconst 1, 1) := by decide +kernel
theorem dX9_feed_42 : decode cX9_feed 42 = .ok (.iadd, 1) := by decide +kernel
theorem dX9_feed_43 : decode cX9_feed 43 = .ok (.putfield 47, 3) := by decide +kernel
theorem dX9_feed_46 : decode cX9_feed 46 = .ok (.aload_n 0, 1) := by decide +kernel
theorem dX9_feed_47 : decode cX9_feed 47 = .ok (.getfield 47, 3) := by decide +kernel
theorem dX9_feed_50 : decode cX9_feed 50 = .ok (.ireturn, 1) := by decide +kernel
theorem dX9_next_0 : decode cX9_next 0 = .ok (.aload_n 0, 1) := by decide +kernel
theorem dX9_next_1 : decode cX9_next 1 = .ok (.getfield 50, 3) := by decide +kernel
theorem dX9_next_4 : decode cX9_next 4 = .ok (.aload_n 0, 1) := by decide +kernel
theorem dX9_next_5 : decode cX9_next 5 = .ok (.getfield 47, 3) := by decide +kernel
theorem dX9_next_8 : decode cX9_next 8 = .ok (.if_icmp .ge 15, 3) := by decide +kernel
theorem dX9_next_11 : decode cX9_next 11 = .ok (.aload_n 0, 1) := by decide +kernel
theorem dX9_next_12 : decode cX9_next 12 = .ok (.getfield 56, 3) := by decide +kernel
theorem dX9_next_15 : decode cX9_next 15 = .ok (.aload_n 0, 1) := by decide +kernel
theorem dX9_next_16 : decode cX9_next 16 = .ok (.getfield 50, 3) := by decide +kernel
theorem dX9_next_19 : decode cX9_next 19 = .ok (.iaload, 1) := by decide +kernel
theorem dX9_next_20 : decode cX9_next 20 = .ok (.goto 4, 3) := by decide +kernel
theorem dX9_next_23 : decode cX9_next 23 = .ok (.iconst (-1), 1) := by decide +kernel
theorem dX9_next_24 : decode cX9_next 24 = .ok (.ireturn, 1) := by decide +kernel
theorem dX9_takes_0 : decode cX9_takes 0 = .ok (.aload_n 0, 1) := by decide +kernel
theorem dX9_takes_1 : decode cX9_takes 1 = .ok (.invokevirtual 285, 3) := by decide +kernel
theorem dX9_takes_4 : decode cX9_takes 4 = .ok (.iload_n 1, 1) := by decide +kernel
theorem dX9_takes_5 : decode cX9_takes 5 = .ok (.if_icmp .eq 5, 3) := by decide +kernel
theorem dX9_takes_8 : decode cX9_takes 8 = .ok (.iconst 0, 1) := by decide +kernel
theorem dX9_takes_9 : decode cX9_takes 9 = .ok (.ireturn, 1) := by decide +kernel
theorem dX9_takes_10 : decode cX9_takes 10 = .ok (.aload_n 0, 1) := by decide +kernel
theorem dX9_takes_11 : decode cX9_takes 11 = .ok (.dup, 1) := by decide +kernel
theorem dX9_takes_12 : decode cX9_takes 12 = .ok (.getfield 50, 3) := by decide +kernel
theorem dX9_takes_15 : decode cX9_takes 15 = .ok (.iconst 1, 1) := by decide +kernel
theorem dX9_takes_16 : decode cX9_takes 16 = .ok (.iadd, 1) := by decide +kernel
theorem dX9_takes_17 : decode cX9_takes 17 = .ok (.putfield 50, 3) := by decide +kernel
theorem dX9_takes_20 : decode cX9_takes 20 = .ok (.iconst 1, 1) := by decide +kernel
theorem dX9_takes_21 : decode cX9_takes 21 = .ok (.ireturn, 1) := by decide +kernel
theorem dX9_takesWord_0 : decode cX9_takesWord 0 = .ok (.iconst 0, 1) := by decide +kernel
theorem dX9_takesWord_1 : decode cX9_takesWord 1 = .ok (.istore_n 3, 1) := by decide +kernel
theorem dX9_takesWord_2 : decode cX9_takesWord 2 = .ok (.iload_n 3, 1) := by decide +kernel
theorem dX9_takesWord_3 : decode cX9_takesWord 3 = .ok (.iload_n 2, 1) := by decide +kernel
theorem dX9_takesWord_4 : decode cX9_takesWord 4 = .ok (.if_icmp .ge 26, 3) := by decide +kernel
theorem dX9_takesWord_7 : decode cX9_takesWord 7 = .ok (.aload_n 0, 1) := by decide +kernel
theorem dX9_takesWord_8 : decode cX9_takesWord 8 = .ok (.aload_n 0, 1) := by decide +kernel
theorem dX9_takesWord_9 : decode cX9_takesWord 9 = .ok (.getfield 89, 3) := by decide +kernel
theorem dX9_takesWord_12 : decode cX9_takesWord 12 = .ok (.iload_n 1, 1) := by decide +kernel
theorem dX9_takesWord_13 : decode cX9_takesWord 13 = .ok (.iload_n 3, 1) := by decide +kernel
theorem dX9_takesWord_14 : decode cX9_takesWord 14 = .ok (.iadd, 1) := by decide +kernel
theorem dX9_takesWord_15 : decode cX9_takesWord 15 = .ok (.iaload, 1) := by decide +kernel
theorem dX9_takesWord_16 : decode cX9_takesWord 16 = .ok (.invokevirtual 289, 3) := by decide +kernel
theorem dX9_takesWord_19 : decode cX9_takesWord 19 = .ok (.ifCond .ne 5, 3) := by decide +kernel
theorem dX9_takesWord_22 : decode cX9_takesWord 22 = .ok (.iconst 0, 1) := by decide +kernel
theorem dX9_takesWord_23 : decode cX9_takesWord 23 = .ok (.ireturn, 1) := by decide +kernel
theorem dX9_takesWord_24 : decode cX9_takesWord 24 = .ok (.iinc 3 1, 3) := by decide +kernel
theorem dX9_takesWord_27 : decode cX9_takesWord 27 = .ok (.goto (-25), 3) := by decide +kernel
theorem dX9_takesWord_30 : decode cX9_takesWord 30 = .ok (.aload_n 0, 1) := by decide +kernel
theorem dX9_takesWord_31 : decode cX9_takesWord 31 = .ok (.bipush 32, 2) := by decide +kernel
theorem dX9_takesWord_33 : decode cX9_takesWord 33 = .ok (.invokevirtual 289, 3) := by decide +kernel
theorem dX9_takesWord_36 : decode cX9_takesWord 36 = .ok (.ireturn, 1) := by decide +kernel
theorem dX9_isDigit_0 : decode cX9_isDigit 0 = .ok (.aload_n 0, 1) := by decide +kernel
theorem dX9_isDigit_1 : decode cX9_isDigit 1 = .ok (.aload_n 0, 1) := by decide +kernel
theorem dX9_isDigit_2 : decode cX9_isDigit 2 = .ok (.invokevirtual 285, 3) := by decide +kernel
theorem dX9_isDigit_5 : decode cX9_isDigit 5 = .ok (.bipush 48, 2) := by decide +kernel
theorem dX9_isDigit_7 : decode cX9_isDigit 7 = .ok (.bipush 57, 2) := by decide +kernel
theorem dX9_isDigit_9 : decode cX9_isDigit 9 = .ok (.invokevirtual 252, 3) := by decide +kernel
theorem dX9_isDigit_12 : decode cX9_isDigit 12 = .ok (.ireturn, 1) := by decide +kernel
theorem dX9_takesNumber_0 : decode cX9_takesNumber 0 = .ok (.aload_n 0, 1) := by decide +kernel
theorem dX9_takesNumber_1 : decode cX9_takesNumber 1 = .ok (.invokevirtual 292, 3) := by decide +kernel
theorem dX9_takesNumber_4 : decode cX9_takesNumber 4 = .ok (.ifCond .ne 5, 3) := by decide +kernel
theorem dX9_takesNumber_7 : decode cX9_takesNumber 7 = .ok (.iconst 0, 1) := by decide +kernel
theorem dX9_takesNumber_8 : decode cX9_takesNumber 8 = .ok (.ireturn, 1) := by decide +kernel
theorem dX9_takesNumber_9 : decode cX9_takesNumber 9 = .ok (.aload_n 0, 1) := by decide +kernel
theorem dX9_takesNumber_10 : decode cX9_takesNumber 10 = .ok (.iconst 0, 1) := by decide +kernel
theorem dX9_takesNumber_11 : decode cX9_takesNumber 11 = .ok (.putfield 53, 3) := by decide +kernel
theorem dX9_takesNumber_14 : decode cX9_takesNumber 14 = .ok (.iconst 0, 1) := by decide +kernel
theorem dX9_takesNumber_15 : decode cX9_takesNumber 15 = .ok (.istore_n 1, 1) := by decide +kernel
theorem dX9_takesNumber_16 : decode cX9_takesNumber 16 = .ok (.iload_n 1, 1) := by decide +kernel
theorem dX9_takesNumber_17 : decode cX9_takesNumber 17 = .ok (.iconst 2, 1) := by decide +kernel
theorem dX9_takesNumber_18 : decode cX9_takesNumber 18 = .ok (.if_icmp .ge 45, 3) := by decide +kernel
theorem dX9_takesNumber_21 : decode cX9_takesNumber 21 = .ok (.aload_n 0, 1) := by decide +kernel
theorem dX9_takesNumber_22 : decode cX9_takesNumber 22 = .ok (.invokevirtual 292, 3) := by decide +kernel
theorem dX9_takesNumber_25 : decode cX9_takesNumber 25 = .ok (.ifCond .eq 38, 3) := by decide +kernel
theorem dX9_takesNumber_28 : decode cX9_takesNumber 28 = .ok (.aload_n 0, 1) := by decide +kernel
theorem dX9_takesNumber_29 : decode cX9_takesNumber 29 = .ok (.bipush 10, 2) := by decide +kernel
theorem dX9_takesNumber_31 : decode cX9_takesNumber 31 = .ok (.aload_n 0, 1) := by decide +kernel
theorem dX9_takesNumber_32 : decode cX9_takesNumber 32 = .ok (.getfield 53, 3) := by decide +kernel
theorem dX9_takesNumber_35 : decode cX9_takesNumber 35 = .ok (.imul, 1) := by decide +kernel
theorem dX9_takesNumber_36 : decode cX9_takesNumber 36 = .ok (.aload_n 0, 1) := by decide +kernel
theorem dX9_takesNumber_37 : decode cX9_takesNumber 37 = .ok (.invokevirtual 285, 3) := by decide +kernel
theorem dX9_takesNumber_40 : decode cX9_takesNumber 40 = .ok (.iadd, 1) := by decide +kernel
theorem dX9_takesNumber_41 : decode cX9_takesNumber 41 = .ok (.bipush 48, 2) := by decide +kernel
theorem dX9_takesNumber_43 : decode cX9_takesNumber 43 = .ok (.isub, 1) := by decide +kernel
theorem dX9_takesNumber_44 : decode cX9_takesNumber 44 = .ok (.putfield 53, 3) := by decide +kernel
theorem dX9_takesNumber_47 : decode cX9_takesNumber 47 = .ok (.aload_n 0, 1) := by decide +kernel
theorem dX9_takesNumber_48 : decode cX9_takesNumber 48 = .ok (.dup, 1) := by decide +kernel
theorem dX9_takesNumber_49 : decode cX9_takesNumber 49 = .ok (.getfield 50, 3) := by decide +kernel
theorem dX9_takesNumber_52 : decode cX9_takesNumber 52 = .ok (.iconst 1, 1) := by decide +kernel
theorem dX9_takesNumber_53 : decode cX9_takesNumber 53 = .ok (.iadd, 1) := by decide +kernel
theorem dX9_takesNumber_54 : decode cX9_takesNumber 54 = .ok (.putfield 50, 3) := by decide +kernel
theorem dX9_takesNumber_57 : decode cX9_takesNumber 57 = .ok (.iinc 1 1, 3) := by decide +kernel
theorem dX9_takesNumber_60 : decode cX9_takesNumber 60 = .ok (.goto (-44), 3) := by decide +kernel
theorem dX9_takesNumber_63 : decode cX9_takesNumber 63 = .ok (.iconst 1, 1) := by decide +kernel
theorem dX9_takesNumber_64 : decode cX9_takesNumber 64 = .ok (.ireturn, 1) := by decide +kernel
theorem dX9_emits_0 : decode cX9_emits 0 = .ok (.aload_n 0, 1) := by decide +kernel
theorem dX9_emits_1 : decode cX9_emits 1 = .ok (.getfield 74, 3) := by decide +kernel
theorem dX9_emits_4 : decode cX9_emits 4 = .ok (.aload_n 0, 1) := by decide +kernel
theorem dX9_emits_5 : decode cX9_emits 5 = .ok (.getfield 80, 3) := by decide +kernel
theorem dX9_emits_8 : decode cX9_emits 8 = .ok (.iload_n 1, 1) := by decide +kernel
theorem dX9_emits_9 : decode cX9_emits 9 = .ok (.iastore, 1) := by decide +kernel
theorem dX9_emits_10 : decode cX9_emits 10 = .ok (.aload_n 0, 1) := by decide +kernel
theorem dX9_emits_11 : decode cX9_emits 11 = .ok (.dup, 1) := by decide +kernel
theorem dX9_emits_12 : decode cX9_emits 12 = .ok (.getfield 80, 3) := by decide +kernel
theorem dX9_emits_15 : decode cX9_emits 15 = .ok (.iconst 1, 1) := by decide +kernel
theorem dX9_emits_16 : decode cX9_emits 16 = .ok (.iadd, 1) := by decide +kernel
theorem dX9_emits_17 : decode cX9_emits 17 = .ok (.putfield 80, 3) := by decide +kernel
theorem dX9_emits_20 : decode cX9_emits 20 = .ok (.return_, 1) := by decide +kernel
theorem dX9_whole_0 : decode cX9_whole 0 = .ok (.aload_n 0, 1) := by decide +kernel
theorem dX9_whole_1 : decode cX9_whole 1 = .ok (.getfield 83, 3) := by decide +kernel
theorem dX9_whole_4 : decode cX9_whole 4 = .ok (.ifCond .le 48, 3) := by decide +kernel
theorem dX9_whole_7 : decode cX9_whole 7 = .ok (.aload_n 0, 1) := by decide +kernel
theorem dX9_whole_8 : decode cX9_whole 8 = .ok (.getfield 77, 3) := by decide +kernel
theorem dX9_whole_11 : decode cX9_whole 11 = .ok (.aload_n 0, 1) := by decide +kernel
theorem dX9_whole_12 : decode cX9_whole 12 = .ok (.getfield 83, 3) := by decide +kernel
theorem dX9_whole_15 : decode cX9_whole 15 = .ok (.iconst 1, 1) := by decide +kernel
theorem dX9_whole_16 : decode cX9_whole 16 = .ok (.isub, 1) := by decide +kernel
theorem dX9_whole_17 : decode cX9_whole 17 = .ok (.iaload, 1) := by decide +kernel
theorem dX9_whole_18 : decode cX9_whole 18 = .ok (.bipush 33, 2) := by decide +kernel
theorem dX9_whole_20 : decode cX9_whole 20 = .ok (.if_icmp .ne 32, 3) := by decide +kernel
theorem dX9_whole_23 : decode cX9_whole 23 = .ok (.aload_n 0, 1) := by decide +kernel
theorem dX9_whole_24 : decode cX9_whole 24 = .ok (.bipush (-33), 2) := by decide +kernel
theorem dX9_whole_26 : decode cX9_whole 26 = .ok (.invokevirtual 296, 3) := by decide +kernel
theorem dX9_whole_29 : decode cX9_whole 29 = .ok (.aload_n 0, 1) := by decide +kernel
theorem dX9_whole_30 : decode cX9_whole 30 = .ok (.dup, 1) := by decide +kernel
theorem dX9_whole_31 : decode cX9_whole 31 = .ok (.getfield 83, 3) := by decide +kernel
theorem dX9_whole_34 : decode cX9_whole 34 = .ok (.iconst 1, 1) := by decide +kernel
theorem dX9_whole_35 : decode cX9_whole 35 = .ok (.isub, 1) := by decide +kernel
theorem dX9_whole_36 : decode cX9_whole 36 = .ok (.putfield 83, 3) := by decide +kernel
theorem dX9_whole_39 : decode cX9_whole 39 = .ok (.aload_n 0, 1) := by decide +kernel
theorem dX9_whole_40 : decode cX9_whole 40 = .ok (.dup, 1) := by decide +kernel
theorem dX9_whole_41 : decode cX9_whole 41 = .ok (.getfield 86, 3) := by decide +kernel
theorem dX9_whole_44 : decode cX9_whole 44 = .ok (.iconst 1, 1) := by decide +kernel
theorem dX9_whole_45 : decode cX9_whole 45 = .ok (.isub, 1) := by decide +kernel
theorem dX9_whole_46 : decode cX9_whole 46 = .ok (.putfield 86, 3) := by decide +kernel
theorem dX9_whole_49 : decode cX9_whole 49 = .ok (.goto (-49), 3) := by decide +kernel
theorem dX9_whole_52 : decode cX9_whole 52 = .ok (.return_, 1) := by decide +kernel
theorem dX9_settle_0 : decode cX9_settle 0 = .ok (.aload_n 0, 1) := by decide +kernel
theorem dX9_settle_1 : decode cX9_settle 1 = .ok (.getfield 83, 3) := by decide +kernel
theorem dX9_settle_4 : decode cX9_settle 4 = .ok (.ifCond .le 68, 3) := by decide +kernel
theorem dX9_settle_7 : decode cX9_settle 7 = .ok (.aload_n 0, 1) := by decide +kernel
theorem dX9_settle_8 : decode cX9_settle 8 = .ok (.getfield 77, 3) := by decide +kernel
theorem dX9_settle_11 : decode cX9_settle 11 = .ok (.aload_n 0, 1) := by decide +kernel
theorem dX9_settle_12 : decode cX9_settle 12 = .ok (.getfield 83, 3) := by decide +kernel
theorem dX9_settle_15 : decode cX9_settle 15 = .ok (.iconst 1, 1) := by decide +kernel
theorem dX9_settle_16 : decode cX9_settle 16 = .ok (.isub, 1) := by decide +kernel
theorem dX9_settle_17 : decode cX9_settle 17 = .ok (.iaload, 1) := by decide +kernel
theorem dX9_settle_18 : decode cX9_settle 18 = .ok (.bipush 38, 2) := by decide +kernel
theorem dX9_settle_20 : decode cX9_settle 20 = .ok (.if_icmp .eq 25, 3) := by decide +kernel
theorem dX9_settle_23 : decode cX9_settle 23 = .ok (.aload_n 0, 1) := by decide +kernel
theorem dX9_settle_24 : decode cX9_settle 24 = .ok (.getfield 77, 3) := by decide +kernel
theorem dX9_settle_27 : decode cX9_settle 27 = .ok (.aload_n 0, 1) := by decide +kernel
theorem dX9_settle_28 : decode cX9_settle 28 = .ok (.getfield 83, 3) := by decide +kernel
theorem dX9_settle_31 : decode cX9_settle 31 = .ok (.iconst 1, 1) := by decide +kernel
theorem dX9_settle_32 : decode cX9_settle 32 = .ok (.isub, 1) := by decide +kernel
theorem dX9_settle_33 : decode cX9_settle 33 = .ok (.iaload, 1) := by decide +kernel
theorem dX9_settle_34 : decode cX9_settle 34 = .ok (.bipush 124, 2) := by decide +kernel
theorem dX9_settle_36 : decode cX9_settle 36 = .ok (.if_icmp .ne 36, 3) := by decide +kernel
theorem dX9_settle_39 : decode cX9_settle 39 = .ok (.iload_n 1, 1) := by decide +kernel
theorem dX9_settle_40 : decode cX9_settle 40 = .ok (.bipush 38, 2) := by decide +kernel
theorem dX9_settle_42 : decode cX9_settle 42 = .ok (.if_icmp .eq 30, 3) := by decide +kernel
theorem dX9_settle_45 : decode cX9_settle 45 = .ok (.aload_n 0, 1) := by decide +kernel
theorem dX9_settle_46 : decode cX9_settle 46 = .ok (.dup, 1) := by decide +kernel
theorem dX9_settle_47 : decode cX9_settle 47 = .ok (.getfield 83, 3) := by decide +kernel
theorem dX9_settle_50 : decode cX9_settle 50 = .ok (.iconst 1, 1) := by decide +kernel
theorem dX9_settle_51 : decode cX9_settle 51 = .ok (.isub, 1) := by decide +kernel
theorem dX9_settle_52 : decode cX9_settle 52 = .ok (.putfield 83, 3) := by decide +kernel
theorem dX9_settle_55 : decode cX9_settle 55 = .ok (.aload_n 0, 1) := by decide +kernel
theorem dX9_settle_56 : decode cX9_settle 56 = .ok (.aload_n 0, 1) := by decide +kernel
theorem dX9_settle_57 : decode cX9_settle 57 = .ok (.getfield 77, 3) := by decide +kernel
theorem dX9_settle_60 : decode cX9_settle 60 = .ok (.aload_n 0, 1) := by decide +kernel
theorem dX9_settle_61 : decode cX9_settle 61 = .ok (.getfield 83, 3) := by decide +kernel
theorem dX9_settle_64 : decode cX9_settle 64 = .ok (.iaload, 1) := by decide +kernel
theorem dX9_settle_65 : decode cX9_settle 65 = .ok (.ineg, 1) := by decide +kernel
theorem dX9_settle_66 : decode cX9_settle 66 = .ok (.invokevirtual 296, 3) := by decide +kernel
theorem dX9_settle_69 : decode cX9_settle 69 = .ok (.goto (-69), 3) := by decide +kernel
theorem dX9_settle_72 : decode cX9_settle 72 = .ok (.return_, 1) := by decide +kernel
theorem dX9_place_0 : decode cX9_place 0 = .ok (.iload_n 1, 1) := by decide +kernel
theorem dX9_place_1 : decode cX9_place 1 = .ok (.tableswitch 91 106 121 #[85, 83, 91, 91, 91, 91, 79, 81, 91, 91, 91, 91, 87, 91, 91, 89], 79) := by decide +kernel
theorem dX9_place_80 : decode cX9_place 80 = .ok (.iconst 0, 1) := by decide +kernel
theorem dX9_place_81 : decode cX9_place 81 = .ok (.ireturn, 1) := by decide +kernel
theorem dX9_place_82 : decode cX9_place 82 = .ok (.iconst 1, 1) := by decide +kernel
theorem dX9_place_83 : decode cX9_place 83 = .ok (.ireturn, 1) := by decide +kernel
theorem dX9_place_84 : decode cX9_place 84 = .ok (.iconst 2, 1) := by decide +kernel
theorem dX9_place_85 : decode cX9_place 85 = .ok (.ireturn, 1) := by decide +kernel
theorem dX9_place_86 : decode cX9_place 86 = .ok (.iconst 3, 1) := by decide +kernel
theorem dX9_place_87 : decode cX9_place 87 = .ok (.ireturn, 1) := by decide +kernel
theorem dX9_place_88 : decode cX9_place 88 = .ok (.iconst 4, 1) := by decide +kernel
theorem dX9_place_89 : decode cX9_place 89 = .ok (.ireturn, 1) := by decide +kernel
theorem dX9_place_90 : decode cX9_place 90 = .ok (.iconst 5, 1) := by decide +kernel
theorem dX9_place_91 : decode cX9_place 91 = .ok (.ireturn, 1) := by decide +kernel
theorem dX9_place_92 : decode cX9_place 92 = .ok (.iconst (-1), 1) := by decide +kernel
theorem dX9_place_93 : decode cX9_place 93 = .ok (.ireturn, 1) := by decide +kernel
theorem dX9_takesTest_0 : decode cX9_takesTest 0 = .ok (.aload_n 0, 1) := by decide +kernel
theorem dX9_takesTest_1 : decode cX9_takesTest 1 = .ok (.aload_n 0, 1) := by decide +kernel
theorem dX9_takesTest_2 : decode cX9_takesTest 2 = .ok (.invokevirtual 285, 3) := by decide +kernel
theorem dX9_takesTest_5 : decode cX9_takesTest 5 = .ok (.invokevirtual 299, 3) := by decide +kernel
theorem dX9_takesTest_8 : decode cX9_takesTest 8 = .ok (.istore_n 1, 1) := by decide +kernel
theorem dX9_takesTest_9 : decode cX9_takesTest 9 = .ok (.iload_n 1, 1) := by decide +kernel
theorem dX9_takesTest_10 : decode cX9_takesTest 10 = .ok (.ifCond .ge 5, 3) := by decide +kernel
theorem dX9_takesTest_13 : decode cX9_takesTest 13 = .ok (.iconst 0, 1) := by decide +kernel
theorem dX9_takesTest_14 : decode cX9_takesTest 14 = .ok (.ireturn, 1) := by decide +kernel
theorem dX9_takesTest_15 : decode cX9_takesTest 15 = .ok (.aload_n 0, 1) := by decide +kernel
theorem dX9_takesTest_16 : decode cX9_takesTest 16 = .ok (.dup, 1) := by decide +kernel
theorem dX9_takesTest_17 : decode cX9_takesTest 17 = .ok (.getfield 50, 3) := by decide +kernel
theorem dX9_takesTest_20 : decode cX9_takesTest 20 = .ok (.iconst 1, 1) := by decide +kernel
theorem dX9_takesTest_21 : decode cX9_takesTest 21 = .ok (.iadd, 1) := by decide +kernel
theorem dX9_takesTest_22 : decode cX9_takesTest 22 = .ok (.putfield 50, 3) := by decide +kernel
theorem dX9_takesTest_25 : decode cX9_takesTest 25 = .ok (.aload_n 0, 1) := by decide +kernel
theorem dX9_takesTest_26 : decode cX9_takesTest 26 = .ok (.invokevirtual 285, 3) := by decide +kernel
theorem dX9_takesTest_29 : decode cX9_takesTest 29 = .ok (.istore_n 2, 1) := by decide +kernel
theorem dX9_takesTest_30 : decode cX9_takesTest 30 = .ok (.aload_n 0, 1) := by decide +kernel
theorem dX9_takesTest_31 : decode cX9_takesTest 31 = .ok (.iload_n 2, 1) := by decide +kernel
theorem dX9_takesTest_32 : decode cX9_takesTest 32 = .ok (.bipush 60, 2) := by decide +kernel
theorem dX9_takesTest_34 : decode cX9_takesTest 34 = .ok (.bipush 62, 2) := by decide +kernel
theorem dX9_takesTest_36 : decode cX9_takesTest 36 = .ok (.invokevirtual 252, 3) := by decide +kernel
theorem dX9_takesTest_39 : decode cX9_takesTest 39 = .ok (.ifCond .ne 5, 3) := by decide +kernel
theorem dX9_takesTest_42 : decode cX9_takesTest 42 = .ok (.iconst 0, 1) := by decide +kernel
theorem dX9_takesTest_43 : decode cX9_takesTest 43 = .ok (.ireturn, 1) := by decide +kernel
theorem dX9_takesTest_44 : decode cX9_takesTest 44 = .ok (.aload_n 0, 1) := by decide +kernel
theorem dX9_takesTest_45 : decode cX9_takesTest 45 = .ok (.dup, 1) := by decide +kernel
theorem dX9_takesTest_46 : decode cX9_takesTest 46 = .ok (.getfield 50, 3) := by decide +kernel
theorem dX9_takesTest_49 : decode cX9_takesTest 49 = .ok (.iconst 1, 1) := by decide +kernel
theorem dX9_takesTest_50 : decode cX9_takesTest 50 = .ok (.iadd, 1) := by decide +kernel
theorem dX9_takesTest_51 : decode cX9_takesTest 51 = .ok (.putfield 50, 3) := by decide +kernel
theorem dX9_takesTest_54 : decode cX9_takesTest 54 = .ok (.aload_n 0, 1) := by decide +kernel
theorem dX9_takesTest_55 : decode cX9_takesTest 55 = .ok (.invokevirtual 302, 3) := by decide +kernel
theorem dX9_takesTest_58 : decode cX9_takesTest 58 = .ok (.ifCond .ne 5, 3) := by decide +kernel
theorem dX9_takesTest_61 : decode cX9_takesTest 61 = .ok (.iconst 0, 1) := by decide +kernel
theorem dX9_takesTest_62 : decode cX9_takesTest 62 = .ok (.ireturn, 1) := by decide +kernel
theorem dX9_takesTest_63 : decode cX9_takesTest 63 = .ok (.aload_n 0, 1) := by decide +kernel
theorem dX9_takesTest_64 : decode cX9_takesTest 64 = .ok (.sipush 1000, 3) := by decide +kernel
theorem dX9_takesTest_67 : decode cX9_takesTest 67 = .ok (.iload_n 1, 1) := by decide +kernel
theorem dX9_takesTest_68 : decode cX9_takesTest 68 = .ok (.imul, 1) := by decide +kernel
theorem dX9_takesTest_69 : decode cX9_takesTest 69 = .ok (.bipush 100, 2) := by decide +kernel
theorem dX9_takesTest_71 : decode cX9_takesTest 71 = .ok (.iload_n 2, 1) := by decide +kernel
theorem dX9_takesTest_72 : decode cX9_takesTest 72 = .ok (.bipush 60, 2) := by decide +kernel
theorem dX9_takesTest_74 : decode cX9_takesTest 74 = .ok (.isub, 1) := by decide +kernel
theorem dX9_takesTest_75 : decode cX9_takesTest 75 = .ok (.imul, 1) := by decide +kernel
theorem dX9_takesTest_76 : decode cX9_takesTest 76 = .ok (.iadd, 1) := by decide +kernel
theorem dX9_takesTest_77 : decode cX9_takesTest 77 = .ok (.aload_n 0, 1) := by decide +kernel
theorem dX9_takesTest_78 : decode cX9_takesTest 78 = .ok (.getfield 53, 3) := by decide +kernel
theorem dX9_takesTest_81 : decode cX9_takesTest 81 = .ok (.iadd, 1) := by decide +kernel
theorem dX9_takesTest_82 : decode cX9_takesTest 82 = .ok (.invokevirtual 296, 3) := by decide +kernel
theorem dX9_takesTest_85 : decode cX9_takesTest 85 = .ok (.aload_n 0, 1) := by decide +kernel
theorem dX9_takesTest_86 : decode cX9_takesTest 86 = .ok (.invokevirtual 305, 3) := by decide +kernel
theorem dX9_takesTest_89 : decode cX9_takesTest 89 = .ok (.iconst 1, 1) := by decide +kernel
theorem dX9_takesTest_90 : decode cX9_takesTest 90 = .ok (.ireturn, 1) := by decide +kernel
theorem dX9_takesE_0 : decode cX9_takesE 0 = .ok (.aload_n 0, 1) := by decide +kernel
theorem dX9_takesE_1 : decode cX9_takesE 1 = .ok (.iconst 0, 1) := by decide +kernel
theorem dX9_takesE_2 : decode cX9_takesE 2 = .ok (.putfield 83, 3) := by decide +kernel
theorem dX9_takesE_5 : decode cX9_takesE 5 = .ok (.aload_n 0, 1) := by decide +kernel
theorem dX9_takesE_6 : decode cX9_takesE 6 = .ok (.iconst 0, 1) := by decide +kernel
theorem dX9_takesE_7 : decode cX9_takesE 7 = .ok (.putfield 86, 3) := by decide +kernel
theorem dX9_takesE_10 : decode cX9_takesE 10 = .ok (.aload_n 0, 1) := by decide +kernel
theorem dX9_takesE_11 : decode cX9_takesE 11 = .ok (.getfield 68, 3) := by decide +kernel
theorem dX9_takesE_14 : decode cX9_takesE 14 = .ok (.iload_n 1, 1) := by decide +kernel
theorem dX9_takesE_15 : decode cX9_takesE 15 = .ok (.aload_n 0, 1) := by decide +kernel
theorem dX9_takesE_16 : decode cX9_takesE 16 = .ok (.getfield 80, 3) := by decide +kernel
theorem dX9_takesE_19 : decode cX9_takesE 19 = .ok (.iastore, 1) := by decide +kernel
theorem dX9_takesE_20 : decode cX9_takesE 20 = .ok (.iconst 1, 1) := by decide +kernel
theorem dX9_takesE_21 : decode cX9_takesE 21 = .ok (.istore_n 2, 1) := by decide +kernel
theorem dX9_takesE_22 : decode cX9_takesE 22 = .ok (.aload_n 0, 1) := by decide +kernel
theorem dX9_takesE_23 : decode cX9_takesE 23 = .ok (.invokevirtual 285, 3) := by decide +kernel
theorem dX9_takesE_26 : decode cX9_takesE 26 = .ok (.istore_n 3, 1) := by decide +kernel
theorem dX9_takesE_27 : decode cX9_takesE 27 = .ok (.iload_n 2, 1) := by decide +kernel
theorem dX9_takesE_28 : decode cX9_takesE 28 = .ok (.ifCond .eq 82, 3) := by decide +kernel
theorem dX9_takesE_31 : decode cX9_takesE 31 = .ok (.iload_n 3, 1) := by decide +kernel
theorem dX9_takesE_32 : decode cX9_takesE 32 = .ok (.bipush 33, 2) := by decide +kernel
theorem dX9_takesE_34 : decode cX9_takesE 34 = .ok (.if_icmp .eq 9, 3) := by decide +kernel
theorem dX9_takesE_37 : decode cX9_takesE 37 = .ok (.iload_n 3, 1) := by decide +kernel
theorem dX9_takesE_38 : decode cX9_takesE 38 = .ok (.bipush 40, 2) := by decide +kernel
theorem dX9_takesE_40 : decode cX9_takesE 40 = .ok (.if_icmp .ne 56, 3) := by decide +kernel
theorem dX9_takesE_43 : decode cX9_takesE 43 = .ok (.aload_n 0, 1) := by decide +kernel
theorem dX9_takesE_44 : decode cX9_takesE 44 = .ok (.getfield 86, 3) := by decide +kernel
theorem dX9_takesE_47 : decode cX9_takesE 47 = .ok (.iconst 4, 1) := by decide +kernel
theorem dX9_takesE_48 : decode cX9_takesE 48 = .ok (.if_icmp .ne 5, 3) := by decide +kernel
theorem dX9_takesE_51 : decode cX9_takesE 51 = .ok (.iconst 0, 1) := by decide +kernel
theorem dX9_takesE_52 : decode cX9_takesE 52 = .ok (.ireturn, 1) := by decide +kernel
theorem dX9_takesE_53 : decode cX9_takesE 53 = .ok (.aload_n 0, 1) := by decide +kernel
theorem dX9_takesE_54 : decode cX9_takesE 54 = .ok (.dup, 1) := by decide +kernel
theorem dX9_takesE_55 : decode cX9_takesE 55 = .ok (.getfield 86, 3) := by decide +kernel
theorem dX9_takesE_58 : decode cX9_takesE 58 = .ok (.iconst 1, 1) := by decide +kernel
theorem dX9_takesE_59 : decode cX9_takesE 59 = .ok (.iadd, 1) := by decide +kernel
theorem dX9_takesE_60 : decode cX9_takesE 60 = .ok (.putfield 86, 3) := by decide +kernel
theorem dX9_takesE_63 : decode cX9_takesE 63 = .ok (.aload_n 0, 1) := by decide +kernel
theorem dX9_takesE_64 : decode cX9_takesE 64 = .ok (.getfield 77, 3) := by decide +kernel
theorem dX9_takesE_67 : decode cX9_takesE 67 = .ok (.aload_n 0, 1) := by decide +kernel
theorem dX9_takesE_68 : decode cX9_takesE 68 = .ok (.getfield 83, 3) := by decide +kernel
theorem dX9_takesE_71 : decode cX9_takesE 71 = .ok (.iload_n 3, 1) := by decide +kernel
theorem dX9_takesE_72 : decode cX9_takesE 72 = .ok (.iastore, 1) := by decide +kernel
theorem dX9_takesE_73 : decode cX9_takesE 73 = .ok (.aload_n 0, 1) := by decide +kernel
theorem dX9_takesE_74 : decode cX9_takesE 74 = .ok (.dup, 1) := by decide +kernel
theorem dX9_takesE_75 : decode cX9_takesE 75 = .ok (.getfield 83, 3) := by decide +kernel
theorem dX9_takesE_78 : decode cX9_takesE 78 = .ok (.iconst 1, 1) := by decide +kernel
theorem dX9_takesE_79 : decode cX9_takesE 79 = .ok (.iadd, 1) := by decide +kernel
theorem dX9_takesE_80 : decode cX9_takesE 80 = .ok (.putfield 83, 3) := by decide +kernel
theorem dX9_takesE_83 : decode cX9_takesE 83 = .ok (.aload_n 0, 1) := by decide +kernel
theorem dX9_takesE_84 : decode cX9_takesE 84 = .ok (.dup, 1) := by decide +kernel
theorem dX9_takesE_85 : decode cX9_takesE 85 = .ok (.getfield 50, 3) := by decide +kernel
theorem dX9_takesE_88 : decode cX9_takesE 88 = .ok (.iconst 1, 1) := by decide +kernel
theorem dX9_takesE_89 : decode cX9_takesE 89 = .ok (.iadd, 1) := by decide +kernel
theorem dX9_takesE_90 : decode cX9_takesE 90 = .ok (.putfield 50, 3) := by decide +kernel
theorem dX9_takesE_93 : decode cX9_takesE 93 = .ok (.goto (-71), 3) := by decide +kernel
theorem dX9_takesE_96 : decode cX9_takesE 96 = .ok (.aload_n 0, 1) := by decide +kernel
theorem dX9_takesE_97 : decode cX9_takesE 97 = .ok (.invokevirtual 308, 3) := by decide +kernel
theorem dX9_takesE_100 : decode cX9_takesE 100 = .ok (.ifCond .eq 8, 3) := by decide +kernel
theorem dX9_takesE_103 : decode cX9_takesE 103 = .ok (.iconst 0, 1) := by decide +kernel
theorem dX9_takesE_104 : decode cX9_takesE 104 = .ok (.istore_n 2, 1) := by decide +kernel
theorem dX9_takesE_105 : decode cX9_takesE 105 = .ok (.goto (-83), 3) := by decide +kernel
theorem dX9_takesE_108 : decode cX9_takesE 108 = .ok (.iconst 0, 1) := by decide +kernel
theorem dX9_takesE_109 : decode cX9_takesE 109 = .ok (.ireturn, 1) := by decide +kernel
theorem dX9_takesE_110 : decode cX9_takesE 110 = .ok (.iload_n 3, 1) := by decide +kernel
theorem dX9_takesE_111 : decode cX9_takesE 111 = .ok (.bipush 38, 2) := by decide +kernel
theorem dX9_takesE_113 : decode cX9_takesE 113 = .ok (.if_icmp .eq 9, 3) := by decide +kernel
theorem dX9_takesE_116 : decode cX9_takesE 116 = .ok (.iload_n 3, 1) := by decide +kernel
theorem dX9_takesE_117 : decode cX9_takesE 117 = .ok (.bipush 124, 2) := by decide +kernel
theorem dX9_takesE_119 : decode cX9_takesE 119 = .ok (.if_icmp .ne 43, 3) := by decide +kernel
theorem dX9_takesE_122 : decode cX9_takesE 122 = .ok (.aload_n 0, 1) := by decide +kernel
theorem dX9_takesE_123 : decode cX9_takesE 123 = .ok (.iload_n 3, 1) := by decide +kernel
theorem dX9_takesE_124 : decode cX9_takesE 124 = .ok (.invokevirtual 311, 3) := by decide +kernel
theorem dX9_takesE_127 : decode cX9_takesE 127 = .ok (.aload_n 0, 1) := by decide +kernel
theorem dX9_takesE_128 : decode cX9_takesE 128 = .ok (.getfield 77, 3) := by decide +kernel
theorem dX9_takesE_131 : decode cX9_takesE 131 = .ok (.aload_n 0, 1) := by decide +kernel
theorem dX9_takesE_132 : decode cX9_takesE 132 = .ok (.getfield 83, 3) := by decide +kernel
theorem dX9_takesE_135 : decode cX9_takesE 135 = .ok (.iload_n 3, 1) := by decide +kernel
theorem dX9_takesE_136 : decode cX9_takesE 136 = .ok (.iastore, 1) := by decide +kernel
theorem dX9_takesE_137 : decode cX9_takesE 137 = .ok (.aload_n 0, 1) := by decide +kernel
theorem dX9_takesE_138 : decode cX9_takesE 138 = .ok (.dup, 1) := by decide +kernel
theorem dX9_takesE_139 : decode cX9_takesE 139 = .ok (.getfield 83, 3) := by decide +kernel
theorem dX9_takesE_142 : decode cX9_takesE 142 = .ok (.iconst 1, 1) := by decide +kernel
theorem dX9_takesE_143 : decode cX9_takesE 143 = .ok (.iadd, 1) := by decide +kernel
theorem dX9_takesE_144 : decode cX9_takesE 144 = .ok (.putfield 83, 3) := by decide +kernel
theorem dX9_takesE_147 : decode cX9_takesE 147 = .ok (.iconst 1, 1) := by decide +kernel
theorem dX9_takesE_148 : decode cX9_takesE 148 = .ok (.istore_n 2, 1) := by decide +kernel
theorem dX9_takesE_149 : decode cX9_takesE 149 = .ok (.aload_n 0, 1) := by decide +kernel
theorem dX9_takesE_150 : decode cX9_takesE 150 = .ok (.dup, 1) := by decide +kernel
theorem dX9_takesE_151 : decode cX9_takesE 151 = .ok (.getfield 50, 3) := by decide +kernel
theorem dX9_takesE_154 : decode cX9_takesE 154 = .ok (.iconst 1, 1) := by decide +kernel
theorem dX9_takesE_155 : decode cX9_takesE 155 = .ok (.iadd, 1) := by decide +kernel
theorem dX9_takesE_156 : decode cX9_takesE 156 = .ok (.putfield 50, 3) := by decide +kernel
theorem dX9_takesE_159 : decode cX9_takesE 159 = .ok (.goto (-137), 3) := by decide +kernel
theorem dX9_takesE_162 : decode cX9_takesE 162 = .ok (.aload_n 0, 1) := by decide +kernel
theorem dX9_takesE_163 : decode cX9_takesE 163 = .ok (.bipush 124, 2) := by decide +kernel
theorem dX9_takesE_165 : decode cX9_takesE 165 = .ok (.invokevirtual 311, 3) := by decide +kernel
theorem dX9_takesE_168 : decode cX9_takesE 168 = .ok (.aload_n 0, 1) := by decide +kernel
theorem dX9_takesE_169 : decode cX9_takesE 169 = .ok (.getfield 71, 3) := by decide +kernel
theorem dX9_takesE_172 : decode cX9_takesE 172 = .ok (.iload_n 1, 1) := by decide +kernel
theorem dX9_takesE_173 : decode cX9_takesE 173 = .ok (.aload_n 0, 1) := by decide +kernel
theorem dX9_takesE_174 : decode cX9_takesE 174 = .ok (.getfield 80, 3) := by decide +kernel
theorem dX9_takesE_177 : decode cX9_takesE 177 = .ok (.iastore, 1) := by decide +kernel
theorem dX9_takesE_178 : decode cX9_takesE 178 = .ok (.aload_n 0, 1) := by decide +kernel
theorem dX9_takesE_179 : decode cX9_takesE 179 = .ok (.getfield 83, 3) := by decide +kernel
theorem dX9_takesE_182 : decode cX9_takesE 182 = .ok (.ifCond .ne 5, 3) := by decide +kernel
theorem dX9_takesE_185 : decode cX9_takesE 185 = .ok (.iconst 1, 1) := by decide +kernel
theorem dX9_takesE_186 : decode cX9_takesE 186 = .ok (.ireturn, 1) := by decide +kernel
theorem dX9_takesE_187 : decode cX9_takesE 187 = .ok (.iload_n 3, 1) := by decide +kernel
theorem dX9_takesE_188 : decode cX9_takesE 188 = .ok (.bipush 41, 2) := by decide +kernel
theorem dX9_takesE_190 : decode cX9_takesE 190 = .ok (.if_icmp .eq 5, 3) := by decide +kernel
theorem dX9_takesE_193 : decode cX9_takesE 193 = .ok (.iconst 0, 1) := by decide +kernel
theorem dX9_takesE_194 : decode cX9_takesE 194 = .ok (.ireturn, 1) := by decide +kernel
theorem dX9_takesE_195 : decode cX9_takesE 195 = .ok (.aload_n 0, 1) := by decide +kernel
theorem dX9_takesE_196 : decode cX9_takesE 196 = .ok (.dup, 1) := by decide +kernel
theorem dX9_takesE_197 : decode cX9_takesE 197 = .ok (.getfield 83, 3) := by decide +kernel
theorem dX9_takesE_200 : decode cX9_takesE 200 = .ok (.iconst 1, 1) := by decide +kernel
theorem dX9_takesE_201 : decode cX9_takesE 201 = .ok (.isub, 1) := by decide +kernel
theorem dX9_takesE_202 : decode cX9_takesE 202 = .ok (.putfield 83, 3) := by decide +kernel
theorem dX9_takesE_205 : decode cX9_takesE 205 = .ok (.aload_n 0, 1) := by decide +kernel
theorem dX9_takesE_206 : decode cX9_takesE 206 = .ok (.dup, 1) := by decide +kernel
theorem dX9_takesE_207 : decode cX9_takesE 207 = .ok (.getfield 86, 3) := by decide +kernel
theorem dX9_takesE_210 : decode cX9_takesE 210 = .ok (.iconst 1, 1) := by decide +kernel
theorem dX9_takesE_211 : decode cX9_takesE 211 = .ok (.isub, 1) := by decide +kernel
theorem dX9_takesE_212 : decode cX9_takesE 212 = .ok (.putfield 86, 3) := by decide +kernel
theorem dX9_takesE_215 : decode cX9_takesE 215 = .ok (.aload_n 0, 1) := by decide +kernel
theorem dX9_takesE_216 : decode cX9_takesE 216 = .ok (.dup, 1) := by decide +kernel
theorem dX9_takesE_217 : decode cX9_takesE 217 = .ok (.getfield 50, 3) := by decide +kernel
theorem dX9_takesE_220 : decode cX9_takesE 220 = .ok (.iconst 1, 1) := by decide +kernel
theorem dX9_takesE_221 : decode cX9_takesE 221 = .ok (.iadd, 1) := by decide +kernel
theorem dX9_takesE_222 : decode cX9_takesE 222 = .ok (.putfield 50, 3) := by decide +kernel
theorem dX9_takesE_225 : decode cX9_takesE 225 = .ok (.aload_n 0, 1) := by decide +kernel
theorem dX9_takesE_226 : decode cX9_takesE 226 = .ok (.invokevirtual 305, 3) := by decide +kernel
theorem dX9_takesE_229 : decode cX9_takesE 229 = .ok (.goto (-207), 3) := by decide +kernel
theorem dX9_takesHead_0 : decode cX9_takesHead 0 = .ok (.aload_n 0, 1) := by decide +kernel
theorem dX9_takesHead_1 : decode cX9_takesHead 1 = .ok (.invokevirtual 285, 3) := by decide +kernel
theorem dX9_takesHead_4 : decode cX9_takesHead 4 = .ok (.lookupswitch 80 #[(98, 36), (115, 50), (116, 64)], 36) := by decide +kernel
theorem dX9_takesHead_40 : decode cX9_takesHead 40 = .ok (.aload_n 0, 1) := by decide +kernel
theorem dX9_takesHead_41 : decode cX9_takesHead 41 = .ok (.getfield 62, 3) := by decide +kernel
theorem dX9_takesHead_44 : decode cX9_takesHead 44 = .ok (.iload_n 1, 1) := by decide +kernel
theorem dX9_takesHead_45 : decode cX9_takesHead 45 = .ok (.iconst 0, 1) := by decide +kernel
theorem dX9_takesHead_46 : decode cX9_takesHead 46 = .ok (.iastore, 1) := by decide +kernel
theorem dX9_takesHead_47 : decode cX9_takesHead 47 = .ok (.aload_n 0, 1) := by decide +kernel
theorem dX9_takesHead_48 : decode cX9_takesHead 48 = .ok (.iconst 0, 1) := by decide +kernel
theorem dX9_takesHead_49 : decode cX9_takesHead 49 = .ok (.iconst 4, 1) := by decide +kernel
theorem dX9_takesHead_50 : decode cX9_takesHead 50 = .ok (.invokevirtual 314, 3) := by decide +kernel
theorem dX9_takesHead_53 : decode cX9_takesHead 53 = .ok (.ireturn, 1) := by decide +kernel
theorem dX9_takesHead_54 : decode cX9_takesHead 54 = .ok (.aload_n 0, 1) := by decide +kernel
theorem dX9_takesHead_55 : decode cX9_takesHead 55 = .ok (.getfield 62, 3) := by decide +kernel
theorem dX9_takesHead_58 : decode cX9_takesHead 58 = .ok (.iload_n 1, 1) := by decide +kernel
theorem dX9_takesHead_59 : decode cX9_takesHead 59 = .ok (.iconst 1, 1) := by decide +kernel
theorem dX9_takesHead_60 : decode cX9_takesHead 60 = .ok (.iastore, 1) := by decide +kernel
theorem dX9_takesHead_61 : decode cX9_takesHead 61 = .ok (.aload_n 0, 1) := by decide +kernel
theorem dX9_takesHead_62 : decode cX9_takesHead 62 = .ok (.iconst 4, 1) := by decide +kernel
theorem dX9_takesHead_63 : decode cX9_takesHead 63 = .ok (.iconst 4, 1) := by decide +kernel
theorem dX9_takesHead_64 : decode cX9_takesHead 64 = .ok (.invokevirtual 314, 3) := by decide +kernel
theorem dX9_takesHead_67 : decode cX9_takesHead 67 = .ok (.ireturn, 1) := by decide +kernel
theorem dX9_takesHead_68 : decode cX9_takesHead 68 = .ok (.aload_n 0, 1) := by decide +kernel
theorem dX9_takesHead_69 : decode cX9_takesHead 69 = .ok (.getfield 62, 3) := by decide +kernel
theorem dX9_takesHead_72 : decode cX9_takesHead 72 = .ok (.iload_n 1, 1) := by decide +kernel
theorem dX9_takesHead_73 : decode cX9_takesHead 73 = .ok (.iconst 2, 1) := by decide +kernel
theorem dX9_takesHead_74 : decode cX9_takesHead 74 = .ok (.iastore, 1) := by decide +kernel
theorem dX9_takesHead_75 : decode cX9_takesHead 75 = .ok (.aload_n 0, 1) := by decide +kernel
theorem dX9_takesHead_76 : decode cX9_takesHead 76 = .ok (.bipush 8, 2) := by decide +kernel
theorem dX9_takesHead_78 : decode cX9_takesHead 78 = .ok (.bipush 6, 2) := by decide +kernel
theorem dX9_takesHead_80 : decode cX9_takesHead 80 = .ok (.invokevirtual 314, 3) := by decide +kernel
theorem dX9_takesHead_83 : decode cX9_takesHead 83 = .ok (.ireturn, 1) := by decide +kernel
theorem dX9_takesHead_84 : decode cX9_takesHead 84 = .ok (.aload_n 0, 1) := by decide +kernel
theorem dX9_takesHead_85 : decode cX9_takesHead 85 = .ok (.getfield 62, 3) := by decide +kernel
theorem dX9_takesHead_88 : decode cX9_takesHead 88 = .ok (.iload_n 1, 1) := by decide +kernel
theorem dX9_takesHead_89 : decode cX9_takesHead 89 = .ok (.iconst 3, 1) := by decide +kernel
theorem dX9_takesHead_90 : decode cX9_takesHead 90 = .ok (.iastore, 1) := by decide +kernel
theorem dX9_takesHead_91 : decode cX9_takesHead 91 = .ok (.aload_n 0, 1) := by decide +kernel
theorem dX9_takesHead_92 : decode cX9_takesHead 92 = .ok (.bipush 14, 2) := by decide +kernel
theorem dX9_takesHead_94 : decode cX9_takesHead 94 = .ok (.bipush 6, 2) := by decide +kernel
theorem dX9_takesHead_96 : decode cX9_takesHead 96 = .ok (.invokevirtual 314, 3) := by decide +kernel
theorem dX9_takesHead_99 : decode cX9_takesHead 99 = .ok (.ireturn, 1) := by decide +kernel
theorem dX9_takesClause_0 : decode cX9_takesClause 0 = .ok (.aload_n 0, 1) := by decide +kernel
theorem dX9_takesClause_1 : decode cX9_takesClause 1 = .ok (.iload_n 1, 1) := by decide +kernel
theorem dX9_takesClause_2 : decode cX9_takesClause 2 = .ok (.invokevirtual 317, 3) := by decide +kernel
theorem dX9_takesClause_5 : decode cX9_takesClause 5 = .ok (.ifCond .eq 10, 3) := by decide +kernel
theorem dX9_takesClause_8 : decode cX9_takesClause 8 = .ok (.aload_n 0, 1) := by decide +kernel
theorem dX9_takesClause_9 : decode cX9_takesClause 9 = .ok (.invokevirtual 302, 3) := by decide +kernel
theorem dX9_takesClause_12 : decode cX9_takesClause 12 = .ok (.ifCond .ne 5, 3) := by decide +kernel
theorem dX9_takesClause_15 : decode cX9_takesClause 15 = .ok (.iconst 0, 1) := by decide +kernel
theorem dX9_takesClause_16 : decode cX9_takesClause 16 = .ok (.ireturn, 1) := by decide +kernel
theorem dX9_takesClause_17 : decode cX9_takesClause 17 = .ok (.aload_n 0, 1) := by decide +kernel
theorem dX9_takesClause_18 : decode cX9_takesClause 18 = .ok (.getfield 65, 3) := by decide +kernel
theorem dX9_takesClause_21 : decode cX9_takesClause 21 = .ok (.iload_n 1, 1) := by decide +kernel
theorem dX9_takesClause_22 : decode cX9_takesClause 22 = .ok (.aload_n 0, 1) := by decide +kernel
theorem dX9_takesClause_23 : decode cX9_takesClause 23 = .ok (.getfield 53, 3) := by decide +kernel
theorem dX9_takesClause_26 : decode cX9_takesClause 26 = .ok (.iastore, 1) := by decide +kernel
theorem dX9_takesClause_27 : decode cX9_takesClause 27 = .ok (.aload_n 0, 1) := by decide +kernel
theorem dX9_takesClause_28 : decode cX9_takesClause 28 = .ok (.getfield 62, 3) := by decide +kernel
theorem dX9_takesClause_31 : decode cX9_takesClause 31 = .ok (.iload_n 1, 1) := by decide +kernel
theorem dX9_takesClause_32 : decode cX9_takesClause 32 = .ok (.iaload, 1) := by decide +kernel
theorem dX9_takesClause_33 : decode cX9_takesClause 33 = .ok (.iconst 2, 1) := by decide +kernel
theorem dX9_takesClause_34 : decode cX9_takesClause 34 = .ok (.if_icmp .ge 20, 3) := by decide +kernel
theorem dX9_takesClause_37 : decode cX9_takesClause 37 = .ok (.aload_n 0, 1) := by decide +kernel
theorem dX9_takesClause_38 : decode cX9_takesClause 38 = .ok (.bipush 32, 2) := by decide +kernel
theorem dX9_takesClause_40 : decode cX9_takesClause 40 = .ok (.invokevirtual 289, 3) := by decide +kernel
theorem dX9_takesClause_43 : decode cX9_takesClause 43 = .ok (.ifCond .eq 15, 3) := by decide +kernel
theorem dX9_takesClause_46 : decode cX9_takesClause 46 = .ok (.aload_n 0, 1) := by decide +kernel
theorem dX9_takesClause_47 : decode cX9_takesClause 47 = .ok (.iload_n 1, 1) := by decide +kernel
theorem dX9_takesClause_48 : decode cX9_takesClause 48 = .ok (.invokevirtual 320, 3) := by decide +kernel
theorem dX9_takesClause_51 : decode cX9_takesClause 51 = .ok (.ifCond .eq 7, 3) := by decide +kernel
theorem dX9_takesClause_54 : decode cX9_takesClause 54 = .ok (.iconst 1, 1) := by decide +kernel
theorem dX9_takesClause_55 : decode cX9_takesClause 55 = .ok (.goto 4, 3) := by decide +kernel
theorem dX9_takesClause_58 : decode cX9_takesClause 58 = .ok (.iconst 0, 1) := by decide +kernel
theorem dX9_takesClause_59 : decode cX9_takesClause 59 = .ok (.ireturn, 1) := by decide +kernel
theorem dX9_goesText_0 : decode cX9_goesText 0 = .ok (.aload_n 0, 1) := by decide +kernel
theorem dX9_goesText_1 : decode cX9_goesText 1 = .ok (.iconst 0, 1) := by decide +kernel
theorem dX9_goesText_2 : decode cX9_goesText 2 = .ok (.putfield 50, 3) := by decide +kernel
theorem dX9_goesText_5 : decode cX9_goesText 5 = .ok (.aload_n 0, 1) := by decide +kernel
theorem dX9_goesText_6 : decode cX9_goesText 6 = .ok (.bipush 100, 2) := by decide +kernel
theorem dX9_goesText_8 : decode cX9_goesText 8 = .ok (.iload_n 1, 1) := by decide +kernel
theorem dX9_goesText_9 : decode cX9_goesText 9 = .ok (.imul, 1) := by decide +kernel
theorem dX9_goesText_10 : decode cX9_goesText 10 = .ok (.putfield 80, 3) := by decide +kernel
theorem dX9_goesText_13 : decode cX9_goesText 13 = .ok (.iconst 0, 1) := by decide +kernel
theorem dX9_goesText_14 : decode cX9_goesText 14 = .ok (.istore_n 2, 1) := by decide +kernel
theorem dX9_goesText_15 : decode cX9_goesText 15 = .ok (.aload_n 0, 1) := by decide +kernel
theorem dX9_goesText_16 : decode cX9_goesText 16 = .ok (.bipush 10, 2) := by decide +kernel
theorem dX9_goesText_18 : decode cX9_goesText 18 = .ok (.iload_n 1, 1) := by decide +kernel
theorem dX9_goesText_19 : decode cX9_goesText 19 = .ok (.imul, 1) := by decide +kernel
theorem dX9_goesText_20 : decode cX9_goesText 20 = .ok (.iload_n 2, 1) := by decide +kernel
theorem dX9_goesText_21 : decode cX9_goesText 21 = .ok (.iadd, 1) := by decide +kernel
theorem dX9_goesText_22 : decode cX9_goesText 22 = .ok (.invokevirtual 323, 3) := by decide +kernel
theorem dX9_goesText_25 : decode cX9_goesText 25 = .ok (.ifCond .ne 5, 3) := by decide +kernel
theorem dX9_goesText_28 : decode cX9_goesText 28 = .ok (.iconst 0, 1) := by decide +kernel
theorem dX9_goesText_29 : decode cX9_goesText 29 = .ok (.ireturn, 1) := by decide +kernel
theorem dX9_goesText_30 : decode cX9_goesText 30 = .ok (.iinc 2 1, 3) := by decide +kernel
theorem dX9_goesText_33 : decode cX9_goesText 33 = .ok (.aload_n 0, 1) := by decide +kernel
theorem dX9_goesText_34 : decode cX9_goesText 34 = .ok (.getfield 59, 3) := by decide +kernel
theorem dX9_goesText_37 : decode cX9_goesText 37 = .ok (.iload_n 1, 1) := by decide +kernel
theorem dX9_goesText_38 : decode cX9_goesText 38 = .ok (.iload_n 2, 1) := by decide +kernel
theorem dX9_goesText_39 : decode cX9_goesText 39 = .ok (.iastore, 1) := by decide +kernel
theorem dX9_goesText_40 : decode cX9_goesText 40 = .ok (.aload_n 0, 1) := by decide +kernel
theorem dX9_goesText_41 : decode cX9_goesText 41 = .ok (.getfield 50, 3) := by decide +kernel
theorem dX9_goesText_44 : decode cX9_goesText 44 = .ok (.aload_n 0, 1) := by decide +kernel
theorem dX9_goesText_45 : decode cX9_goesText 45 = .ok (.getfield 47, 3) := by decide +kernel
theorem dX9_goesText_48 : decode cX9_goesText 48 = .ok (.if_icmp .ne 5, 3) := by decide +kernel
theorem dX9_goesText_51 : decode cX9_goesText 51 = .ok (.iconst 1, 1) := by decide +kernel
theorem dX9_goesText_52 : decode cX9_goesText 52 = .ok (.ireturn, 1) := by decide +kernel
theorem dX9_goesText_53 : decode cX9_goesText 53 = .ok (.iload_n 2, 1) := by decide +kernel
theorem dX9_goesText_54 : decode cX9_goesText 54 = .ok (.bipush 10, 2) := by decide +kernel
theorem dX9_goesText_56 : decode cX9_goesText 56 = .ok (.if_icmp .eq 12, 3) := by decide +kernel
theorem dX9_goesText_59 : decode cX9_goesText 59 = .ok (.aload_n 0, 1) := by decide +kernel
theorem dX9_goesText_60 : decode cX9_goesText 60 = .ok (.bipush 59, 2) := by decide +kernel
theorem dX9_goesText_62 : decode cX9_goesText 62 = .ok (.invokevirtual 289, 3) := by decide +kernel
theorem dX9_goesText_65 : decode cX9_goesText 65 = .ok (.ifCond .ne (-50), 3) := by decide +kernel
theorem dX9_goesText_68 : decode cX9_goesText 68 = .ok (.iconst 0, 1) := by decide +kernel
theorem dX9_goesText_69 : decode cX9_goesText 69 = .ok (.ireturn, 1) := by decide +kernel
theorem dX9_house_0 : decode cX9_house 0 = .ok (.aload_n 0, 1) := by decide +kernel
theorem dX9_house_1 : decode cX9_house 1 = .ok (.getfield 41, 3) := by decide +kernel
theorem dX9_house_4 : decode cX9_house 4 = .ok (.bipush 6, 2) := by decide +kernel
theorem dX9_house_6 : decode cX9_house 6 = .ok (.if_icmp .ne 6, 3) := by decide +kernel
theorem dX9_house_9 : decode cX9_house 9 = .ok (.bipush (-4), 2) := by decide +kernel
theorem dX9_house_11 : decode cX9_house 11 = .ok (.ireturn, 1) := by decide +kernel
theorem dX9_house_12 : decode cX9_house 12 = .ok (.aload_n 0, 1) := by decide +kernel
theorem dX9_house_13 : decode cX9_house 13 = .ok (.aload_n 0, 1) := by decide +kernel
theorem dX9_house_14 : decode cX9_house 14 = .ok (.getfield 41, 3) := by decide +kernel
theorem dX9_house_17 : decode cX9_house 17 = .ok (.invokevirtual 326, 3) := by decide +kernel
theorem dX9_house_20 : decode cX9_house 20 = .ok (.istore_n 1, 1) := by decide +kernel
theorem dX9_house_21 : decode cX9_house 21 = .ok (.aload_n 0, 1) := by decide +kernel
theorem dX9_house_22 : decode cX9_house 22 = .ok (.iconst 0, 1) := by decide +kernel
theorem dX9_house_23 : decode cX9_house 23 = .ok (.putfield 47, 3) := by decide +kernel
theorem dX9_house_26 : decode cX9_house 26 = .ok (.iload_n 1, 1) := by decide +kernel
theorem dX9_house_27 : decode cX9_house 27 = .ok (.ifCond .ne 11, 3) := by decide +kernel
theorem dX9_house_30 : decode cX9_house 30 = .ok (.bipush (-10), 2) := by decide +kernel
theorem dX9_house_32 : decode cX9_house 32 = .ok (.aload_n 0, 1) := by decide +kernel
theorem dX9_house_33 : decode cX9_house 33 = .ok (.getfield 50, 3) := by decide +kernel
theorem dX9_house_36 : decode cX9_house 36 = .ok (.isub, 1) := by decide +kernel
theorem dX9_house_37 : decode cX9_house 37 = .ok (.ireturn, 1) := by decide +kernel
theorem dX9_house_38 : decode cX9_house 38 = .ok (.aload_n 0, 1) := by decide +kernel
theorem dX9_house_39 : decode cX9_house 39 = .ok (.aload_n 0, 1) := by decide +kernel
theorem dX9_house_40 : decode cX9_house 40 = .ok (.getfield 41, 3) := by decide +kernel
theorem dX9_house_43 : decode cX9_house 43 = .ok (.putfield 44, 3) := by decide +kernel
theorem dX9_house_46 : decode cX9_house 46 = .ok (.aload_n 0, 1) := by decide +kernel
theorem dX9_house_47 : decode cX9_house 47 = .ok (.dup, 1) := by decide +kernel
theorem dX9_house_48 : decode cX9_house 48 = .ok (.getfield 41, 3) := by decide +kernel
theorem dX9_house_51 : decode cX9_house 51 = .ok (.iconst 1, 1) := by decide +kernel
theorem dX9_house_52 : decode cX9_house 52 = .ok (.iadd, 1) := by decide +kernel
theorem dX9_house_53 : decode cX9_house 53 = .ok (.putfield 41, 3) := by decide +kernel
theorem dX9_house_56 : decode cX9_house 56 = .ok (.aload_n 0, 1) := by decide +kernel
theorem dX9_house_57 : decode cX9_house 57 = .ok (.getfield 44, 3) := by decide +kernel
theorem dX9_house_60 : decode cX9_house 60 = .ok (.ireturn, 1) := by decide +kernel
theorem dX9_begin_0 : decode cX9_begin 0 = .ok (.aload_n 0, 1) := by decide +kernel
theorem dX9_begin_1 : decode cX9_begin 1 = .ok (.getfield 44, 3) := by decide +kernel
theorem dX9_begin_4 : decode cX9_begin 4 = .ok (.ifCond .ge 7, 3) := by decide +kernel
theorem dX9_begin_7 : decode cX9_begin 7 = .ok (.iconst 0, 1) := by decide +kernel
theorem dX9_begin_8 : decode cX9_begin 8 = .ok (.goto 10, 3) := by decide +kernel
theorem dX9_begin_11 : decode cX9_begin 11 = .ok (.bipush 10, 2) := by decide +kernel
theorem dX9_begin_13 : decode cX9_begin 13 = .ok (.aload_n 0, 1) := by decide +kernel
theorem dX9_begin_14 : decode cX9_begin 14 = .ok (.getfield 44, 3) := by decide +kernel
theorem dX9_begin_17 : decode cX9_begin 17 = .ok (.imul, 1) := by decide +kernel
theorem dX9_begin_18 : decode cX9_begin 18 = .ok (.ireturn, 1) := by decide +kernel
theorem dX9_behind_0 : decode cX9_behind 0 = .ok (.aload_n 0, 1) := by decide +kernel
theorem dX9_behind_1 : decode cX9_behind 1 = .ok (.getfield 44, 3) := by decide +kernel
theorem dX9_behind_4 : decode cX9_behind 4 = .ok (.ifCond .ge 7, 3) := by decide +kernel
theorem dX9_behind_7 : decode cX9_behind 7 = .ok (.iconst 0, 1) := by decide +kernel
theorem dX9_behind_8 : decode cX9_behind 8 = .ok (.goto 20, 3) := by decide +kernel
theorem dX9_behind_11 : decode cX9_behind 11 = .ok (.bipush 10, 2) := by decide +kernel
theorem dX9_behind_13 : decode cX9_behind 13 = .ok (.aload_n 0, 1) := by decide +kernel
theorem dX9_behind_14 : decode cX9_behind 14 = .ok (.getfield 44, 3) := by decide +kernel
theorem dX9_behind_17 : decode cX9_behind 17 = .ok (.imul, 1) := by decide +kernel
theorem dX9_behind_18 : decode cX9_behind 18 = .ok (.aload_n 0, 1) := by decide +kernel
theorem dX9_behind_19 : decode cX9_behind 19 = .ok (.getfield 59, 3) := by decide +kernel
theorem dX9_behind_22 : decode cX9_behind 22 = .ok (.aload_n 0, 1) := by decide +kernel
theorem dX9_behind_23 : decode cX9_behind 23 = .ok (.getfield 44, 3) := by decide +kernel
theorem dX9_behind_26 : decode cX9_behind 26 = .ok (.iaload, 1) := by decide +kernel
theorem dX9_behind_27 : decode cX9_behind 27 = .ok (.iadd, 1) := by decide +kernel
theorem dX9_behind_28 : decode cX9_behind 28 = .ok (.ireturn, 1) := by decide +kernel
theorem dX9_lastOf_0 : decode cX9_lastOf 0 = .ok (.iload_n 2, 1) := by decide +kernel
theorem dX9_lastOf_1 : decode cX9_lastOf 1 = .ok (.istore_n 3, 1) := by decide +kernel
theorem dX9_lastOf_2 : decode cX9_lastOf 2 = .ok (.aload_n 0, 1) := by decide +kernel
theorem dX9_lastOf_3 : decode cX9_lastOf 3 = .ok (.invokevirtual 329, 3) := by decide +kernel
theorem dX9_lastOf_6 : decode cX9_lastOf 6 = .ok (.istore 4, 2) := by decide +kernel
theorem dX9_lastOf_8 : decode cX9_lastOf 8 = .ok (.iload 4, 2) := by decide +kernel
theorem dX9_lastOf_10 : decode cX9_lastOf 10 = .ok (.aload_n 0, 1) := by decide +kernel
theorem dX9_lastOf_11 : decode cX9_lastOf 11 = .ok (.invokevirtual 332, 3) := by decide +kernel
theorem dX9_lastOf_14 : decode cX9_lastOf 14 = .ok (.if_icmp .ge 32, 3) := by decide +kernel
theorem dX9_lastOf_17 : decode cX9_lastOf 17 = .ok (.aload_n 0, 1) := by decide +kernel
theorem dX9_lastOf_18 : decode cX9_lastOf 18 = .ok (.getfield 62, 3) := by decide +kernel
theorem dX9_lastOf_21 : decode cX9_lastOf 21 = .ok (.iload 4, 2) := by decide +kernel
theorem dX9_lastOf_23 : decode cX9_lastOf 23 = .ok (.iaload, 1) := by decide +kernel
theorem dX9_lastOf_24 : decode cX9_lastOf 24 = .ok (.iload_n 1, 1) := by decide +kernel
theorem dX9_lastOf_25 : decode cX9_lastOf 25 = .ok (.if_icmp .ne 13, 3) := by decide +kernel
theorem dX9_lastOf_28 : decode cX9_lastOf 28 = .ok (.aload_n 0, 1) := by decide +kernel
theorem dX9_lastOf_29 : decode cX9_lastOf 29 = .ok (.getfield 65, 3) := by decide +kernel
theorem dX9_lastOf_32 : decode cX9_lastOf 32 = .ok (.iload 4, 2) := by decide +kernel
theorem dX9_lastOf_34 : decode cX9_lastOf 34 = .ok (.iaload, 1) := by decide +kernel
theorem dX9_lastOf_35 : decode cX9_lastOf 35 = .ok (.goto 4, 3) := by decide +kernel
theorem dX9_lastOf_38 : decode cX9_lastOf 38 = .ok (.iload_n 3, 1) := by decide +kernel
theorem dX9_lastOf_39 : decode cX9_lastOf 39 = .ok (.istore_n 3, 1) := by decide +kernel
theorem dX9_lastOf_40 : decode cX9_lastOf 40 = .ok (.iinc 4 1, 3) := by decide +kernel
theorem dX9_lastOf_43 : decode cX9_lastOf 43 = .ok (.goto (-35), 3) := by decide +kernel
theorem dX9_lastOf_46 : decode cX9_lastOf 46 = .ok (.iload_n 3, 1) := by decide +kernel
theorem dX9_lastOf_47 : decode cX9_lastOf 47 = .ok (.ireturn, 1) := by decide +kernel
theorem dX9_factOf_0 : decode cX9_factOf 0 = .ok (.iload_n 1, 1) := by decide +kernel
theorem dX9_factOf_1 : decode cX9_factOf 1 = .ok (.tableswitch 60 0 4 #[35, 37, 39, 46, 53], 35) := by decide +kernel
theorem dX9_factOf_36 : decode cX9_factOf 36 = .ok (.iload_n 2, 1) := by decide +kernel
theorem dX9_factOf_37 : decode cX9_factOf 37 = .ok (.ireturn, 1) := by decide +kernel
theorem dX9_factOf_38 : decode cX9_factOf 38 = .ok (.iload_n 3, 1) := by decide +kernel
theorem dX9_factOf_39 : decode cX9_factOf 39 = .ok (.ireturn, 1) := by decide +kernel
theorem dX9_factOf_40 : decode cX9_factOf 40 = .ok (.aload_n 0, 1) := by decide +kernel
theorem dX9_factOf_41 : decode cX9_factOf 41 = .ok (.getfield 25, 3) := by decide +kernel
theorem dX9_factOf_44 : decode cX9_factOf 44 = .ok (.iload_n 2, 1) := by decide +kernel
theorem dX9_factOf_45 : decode cX9_factOf 45 = .ok (.iaload, 1) := by decide +kernel
theorem dX9_factOf_46 : decode cX9_factOf 46 = .ok (.ireturn, 1) := by decide +kernel
theorem dX9_factOf_47 : decode cX9_factOf 47 = .ok (.aload_n 0, 1) := by decide +kernel
theorem dX9_factOf_48 : decode cX9_factOf 48 = .ok (.getfield 25, 3) := by decide +kernel
theorem dX9_factOf_51 : decode cX9_factOf 51 = .ok (.iload_n 3, 1) := by decide +kernel
theorem dX9_factOf_52 : decode cX9_factOf 52 = .ok (.iaload, 1) := by decide +kernel
theorem dX9_factOf_53 : decode cX9_factOf 53 = .ok (.ireturn, 1) := by decide +kernel
theorem dX9_factOf_54 : decode cX9_factOf 54 = .ok (.aload_n 0, 1) := by decide +kernel
theorem dX9_factOf_55 : decode cX9_factOf 55 = .ok (.getfield 29, 3) := by decide +kernel
theorem dX9_factOf_58 : decode cX9_factOf 58 = .ok (.iload_n 2, 1) := by decide +kernel
theorem dX9_factOf_59 : decode cX9_factOf 59 = .ok (.iaload, 1) := by decide +kernel
theorem dX9_factOf_60 : decode cX9_factOf 60 = .ok (.ireturn, 1) := by decide +kernel
theorem dX9_factOf_61 : decode cX9_factOf 61 = .ok (.aload_n 0, 1) := by decide +kernel
theorem dX9_factOf_62 : decode cX9_factOf 62 = .ok (.getfield 22, 3) := by decide +kernel
theorem dX9_factOf_65 : decode cX9_factOf 65 = .ok (.bipush 10, 2) := by decide +kernel
theorem dX9_factOf_67 : decode cX9_factOf 67 = .ok (.irem, 1) := by decide +kernel
theorem dX9_factOf_68 : decode cX9_factOf 68 = .ok (.ireturn, 1) := by decide +kernel
theorem dX9_holds_0 : decode cX9_holds 0 = .ok (.iconst 0, 1) := by decide +kernel
theorem dX9_holds_1 : decode cX9_holds 1 = .ok (.istore 4, 2) := by decide +kernel
theorem dX9_holds_3 : decode cX9_holds 3 = .ok (.aload_n 0, 1) := by decide +kernel
theorem dX9_holds_4 : decode cX9_holds 4 = .ok (.getfield 68, 3) := by decide +kernel
theorem dX9_holds_7 : decode cX9_holds 7 = .ok (.iload_n 1, 1) := by decide +kernel
theorem dX9_holds_8 : decode cX9_holds 8 = .ok (.iaload, 1) := by decide +kernel
theorem dX9_holds_9 : decode cX9_holds 9 = .ok (.istore 5, 2) := by decide +kernel
theorem dX9_holds_11 : decode cX9_holds 11 = .ok (.iload 5, 2) := by decide +kernel
theorem dX9_holds_13 : decode cX9_holds 13 = .ok (.aload_n 0, 1) := by decide +kernel
theorem dX9_holds_14 : decode cX9_holds 14 = .ok (.getfield 71, 3) := by decide +kernel
theorem dX9_holds_17 : decode cX9_holds 17 = .ok (.iload_n 1, 1) := by decide +kernel
theorem dX9_holds_18 : decode cX9_holds 18 = .ok (.iaload, 1) := by decide +kernel
theorem dX9_holds_19 : decode cX9_holds 19 = .ok (.if_icmp .ge 234, 3) := by decide +kernel
theorem dX9_holds_22 : decode cX9_holds 22 = .ok (.aload_n 0, 1) := by decide +kernel
theorem dX9_holds_23 : decode cX9_holds 23 = .ok (.getfield 74, 3) := by decide +kernel
theorem dX9_holds_26 : decode cX9_holds 26 = .ok (.iload 5, 2) := by decide +kernel
theorem dX9_holds_28 : decode cX9_holds 28 = .ok (.iaload, 1) := by decide +kernel
theorem dX9_holds_29 : decode cX9_holds 29 = .ok (.istore 6, 2) := by decide +kernel
theorem dX9_holds_31 : decode cX9_holds 31 = .ok (.iload 6, 2) := by decide +kernel
theorem dX9_holds_33 : decode cX9_holds 33 = .ok (.bipush (-33), 2) := by decide +kernel
theorem dX9_holds_35 : decode cX9_holds 35 = .ok (.if_icmp .ne 32, 3) := by decide +kernel
theorem dX9_holds_38 : decode cX9_holds 38 = .ok (.aload_n 0, 1) := by decide +kernel
theorem dX9_holds_39 : decode cX9_holds 39 = .ok (.getfield 92, 3) := by decide +kernel
theorem dX9_holds_42 : decode cX9_holds 42 = .ok (.iload 4, 2) := by decide +kernel
theorem dX9_holds_44 : decode cX9_holds 44 = .ok (.iconst 1, 1) := by decide +kernel
theorem dX9_holds_45 : decode cX9_holds 45 = .ok (.isub, 1) := by decide +kernel
theorem dX9_holds_46 : decode cX9_holds 46 = .ok (.aload_n 0, 1) := by decide +kernel
theorem dX9_holds_47 : decode cX9_holds 47 = .ok (.getfield 92, 3) := by decide +kernel
theorem dX9_holds_50 : decode cX9_holds 50 = .ok (.iload 4, 2) := by decide +kernel
theorem dX9_holds_52 : decode cX9_holds 52 = .ok (.iconst 1, 1) := by decide +kernel
theorem dX9_holds_53 : decode cX9_holds 53 = .ok (.isub, 1) := by decide +kernel
theorem dX9_holds_54 : decode cX9_holds 54 = .ok (.baload, 1) := by decide +kernel
theorem dX9_holds_55 : decode cX9_holds 55 = .ok (.ifCond .ne 7, 3) := by decide +kernel
theorem dX9_holds_58 : decode cX9_holds 58 = .ok (.iconst 1, 1) := by decide +kernel
theorem dX9_holds_59 : decode cX9_holds 59 = .ok (.goto 4, 3) := by decide +kernel
theorem dX9_holds_62 : decode cX9_holds 62 = .ok (.iconst 0, 1) := by decide +kernel
theorem dX9_holds_63 : decode cX9_holds 63 = .ok (.bastore, 1) := by decide +kernel
theorem dX9_holds_64 : decode cX9_holds 64 = .ok (.goto 183, 3) := by decide +kernel
theorem dX9_holds_67 : decode cX9_holds 67 = .ok (.iload 6, 2) := by decide +kernel
theorem dX9_holds_69 : decode cX9_holds 69 = .ok (.ifCond .ge 82, 3) := by decide +kernel
theorem dX9_holds_72 : decode cX9_holds 72 = .ok (.iinc 4 (-1), 3) := by decide +kernel
theorem dX9_holds_75 : decode cX9_holds 75 = .ok (.aload_n 0, 1) := by decide +kernel
theorem dX9_holds_76 : decode cX9_holds 76 = .ok (.getfield 92, 3) := by decide +kernel
theorem dX9_holds_79 : decode cX9_holds 79 = .ok (.iload 4, 2) := by decide +kernel
theorem dX9_holds_81 : decode cX9_holds 81 = .ok (.iconst 1, 1) := by decide +kernel
theorem dX9_holds_82 : decode cX9_holds 82 = .ok (.isub, 1) := by decide +kernel
theorem dX9_holds_83 : decode cX9_holds 83 = .ok (.iload 6, 2) := by decide +kernel
theorem dX9_holds_85 : decode cX9_holds 85 = .ok (.bipush (-38), 2) := by decide +kernel
theorem dX9_holds_87 : decode cX9_holds 87 = .ok (.if_icmp .ne 33, 3) := by decide +kernel
theorem dX9_holds_90 : decode cX9_holds 90 = .ok (.aload_n 0, 1) := by decide +kernel
theorem dX9_holds_91 : decode cX9_holds 91 = .ok (.getfield 92, 3) := by decide +kernel
theorem dX9_holds_94 : decode cX9_holds 94 = .ok (.iload 4, 2) := by decide +kernel
theorem dX9_holds_96 : decode cX9_holds 96 = .ok (.iconst 1, 1) := by decide +kernel
theorem dX9_holds_97 : decode cX9_holds 97 = .ok (.isub, 1) := by decide +kernel
theorem dX9_holds_98 : decode cX9_holds 98 = .ok (.baload, 1) := by decide +kernel
theorem dX9_holds_99 : decode cX9_holds 99 = .ok (.ifCond .eq 17, 3) := by decide +kernel
theorem dX9_holds_102 : decode cX9_holds 102 = .ok (.aload_n 0, 1) := by decide +kernel
theorem dX9_holds_103 : decode cX9_holds 103 = .ok (.getfield 92, 3) := by decide +kernel
theorem dX9_holds_106 : decode cX9_holds 106 = .ok (.iload 4, 2) := by decide +kernel
theorem dX9_holds_108 : decode cX9_holds 108 = .ok (.baload, 1) := by decide +kernel
theorem dX9_holds_109 : decode cX9_holds 109 = .ok (.ifCond .eq 7, 3) := by decide +kernel
theorem dX9_holds_112 : decode cX9_holds 112 = .ok (.iconst 1, 1) := by decide +kernel
theorem dX9_holds_113 : decode cX9_holds 113 = .ok (.goto 34, 3) := by decide +kernel
theorem dX9_holds_116 : decode cX9_holds 116 = .ok (.iconst 0, 1) := by decide +kernel
theorem dX9_holds_117 : decode cX9_holds 117 = .ok (.goto 30, 3) := by decide +kernel
theorem dX9_holds_120 : decode cX9_holds 120 = .ok (.aload_n 0, 1) := by decide +kernel
theorem dX9_holds_121 : decode cX9_holds 121 = .ok (.getfield 92, 3) := by decide +kernel
theorem dX9_holds_124 : decode cX9_holds 124 = .ok (.iload 4, 2) := by decide +kernel
theorem dX9_holds_126 : decode cX9_holds 126 = .ok (.iconst 1, 1) := by decide +kernel
theorem dX9_holds_127 : decode cX9_holds 127 = .ok (.isub, 1) := by decide +kernel
theorem dX9_holds_128 : decode cX9_holds 128 = .ok (.baload, 1) := by decide +kernel
theorem dX9_holds_129 : decode cX9_holds 129 = .ok (.ifCond .ne 13, 3) := by decide +kernel
theorem dX9_holds_132 : decode cX9_holds 132 = .ok (.aload_n 0, 1) := by decide +kernel
theorem dX9_holds_133 : decode cX9_holds 133 = .ok (.getfield 92, 3) := by decide +kernel
theorem dX9_holds_136 : decode cX9_holds 136 = .ok (.iload 4, 2) := by decide +kernel
theorem dX9_holds_138 : decode cX9_holds 138 = .ok (.baload, 1) := by decide +kernel
theorem dX9_holds_139 : decode cX9_holds 139 = .ok (.ifCond .eq 7, 3) := by decide +kernel
theorem dX9_holds_142 : decode cX9_holds 142 = .ok (.iconst 1, 1) := by decide +kernel
theorem dX9_holds_143 : decode cX9_holds 143 = .ok (.goto 4, 3) := by decide +kernel
theorem dX9_holds_146 : decode cX9_holds 146 = .ok (.iconst 0, 1) := by decide +kernel
theorem dX9_holds_147 : decode cX9_holds 147 = .ok (.bastore, 1) := by decide +kernel
theorem dX9_holds_148 : decode cX9_holds 148 = .ok (.goto 99, 3) := by decide +kernel
theorem dX9_holds_151 : decode cX9_holds 151 = .ok (.aload_n 0, 1) := by decide +kernel
theorem dX9_holds_152 : decode cX9_holds 152 = .ok (.iload 6, 2) := by decide +kernel
theorem dX9_holds_154 : decode cX9_holds 154 = .ok (.sipush 1000, 3) := by decide +kernel
theorem dX9_holds_157 : decode cX9_holds 157 = .ok (.idiv, 1) := by decide +kernel
theorem dX9_holds_158 : decode cX9_holds 158 = .ok (.iload_n 2, 1) := by decide +kernel
theorem dX9_holds_159 : decode cX9_holds 159 = .ok (.iload_n 3, 1) := by decide +kernel
theorem dX9_holds_160 : decode cX9_holds 160 = .ok (.invokevirtual 335, 3) := by decide +kernel
theorem dX9_holds_163 : decode cX9_holds 163 = .ok (.istore 7, 2) := by decide +kernel
theorem dX9_holds_165 : decode cX9_holds 165 = .ok (.iload 6, 2) := by decide +kernel
theorem dX9_holds_167 : decode cX9_holds 167 = .ok (.bipush 100, 2) := by decide +kernel
theorem dX9_holds_169 : decode cX9_holds 169 = .ok (.idiv, 1) := by decide +kernel
theorem dX9_holds_170 : decode cX9_holds 170 = .ok (.bipush 10, 2) := by decide +kernel
theorem dX9_holds_172 : decode cX9_holds 172 = .ok (.irem, 1) := by decide +kernel
theorem dX9_holds_173 : decode cX9_holds 173 = .ok (.istore 8, 2) := by decide +kernel
theorem dX9_holds_175 : decode cX9_holds 175 = .ok (.aload_n 0, 1) := by decide +kernel
theorem dX9_holds_176 : decode cX9_holds 176 = .ok (.getfield 92, 3) := by decide +kernel
theorem dX9_holds_179 : decode cX9_holds 179 = .ok (.iload 4, 2) := by decide +kernel
theorem dX9_holds_181 : decode cX9_holds 181 = .ok (.iload 8, 2) := by decide +kernel
theorem dX9_holds_183 : decode cX9_holds 183 = .ok (.ifCond .ne 21, 3) := by decide +kernel
theorem dX9_holds_186 : decode cX9_holds 186 = .ok (.iload 7, 2) := by decide +kernel
theorem dX9_holds_188 : decode cX9_holds 188 = .ok (.iload 6, 2) := by decide +kernel
theorem dX9_holds_190 : decode cX9_holds 190 = .ok (.bipush 100, 2) := by decide +kernel
theorem dX9_holds_192 : decode cX9_holds 192 = .ok (.irem, 1) := by decide +kernel
theorem dX9_holds_193 : decode cX9_holds 193 = .ok (.if_icmp .ge 7, 3) := by decide +kernel
theorem dX9_holds_196 : decode cX9_holds 196 = .ok (.iconst 1, 1) := by decide +kernel
theorem dX9_holds_197 : decode cX9_holds 197 = .ok (.goto 46, 3) := by decide +kernel
theorem dX9_holds_200 : decode cX9_holds 200 = .ok (.iconst 0, 1) := by decide +kernel
theorem dX9_holds_201 : decode cX9_holds 201 = .ok (.goto 42, 3) := by decide +kernel
theorem dX9_holds_204 : decode cX9_holds 204 = .ok (.iload 8, 2) := by decide +kernel
theorem dX9_holds_206 : decode cX9_holds 206 = .ok (.iconst 1, 1) := by decide +kernel
theorem dX9_holds_207 : decode cX9_holds 207 = .ok (.if_icmp .ne 21, 3) := by decide +kernel
theorem dX9_holds_210 : decode cX9_holds 210 = .ok (.iload 7, 2) := by decide +kernel
theorem dX9_holds_212 : decode cX9_holds 212 = .ok (.iload 6, 2) := by decide +kernel
theorem dX9_holds_214 : decode cX9_holds 214 = .ok (.bipush 100, 2) := by decide +kernel
theorem dX9_holds_216 : decode cX9_holds 216 = .ok (.irem, 1) := by decide +kernel
theorem dX9_holds_217 : decode cX9_holds 217 = .ok (.if_icmp .ne 7, 3) := by decide +kernel
theorem dX9_holds_220 : decode cX9_holds 220 = .ok (.iconst 1, 1) := by decide +kernel
theorem dX9_holds_221 : decode cX9_holds 221 = .ok (.goto 22, 3) := by decide +kernel
theorem dX9_holds_224 : decode cX9_holds 224 = .ok (.iconst 0, 1) := by decide +kernel
theorem dX9_holds_225 : decode cX9_holds 225 = .ok (.goto 18, 3) := by decide +kernel
theorem dX9_holds_228 : decode cX9_holds 228 = .ok (.iload 7, 2) := by decide +kernel
theorem dX9_holds_230 : decode cX9_holds 230 = .ok (.iload 6, 2) := by decide +kernel
theorem dX9_holds_232 : decode cX9_holds 232 = .ok (.bipush 100, 2) := by decide +kernel
theorem dX9_holds_234 : decode cX9_holds 234 = .ok (.irem, 1) := by decide +kernel
theorem dX9_holds_235 : decode cX9_holds 235 = .ok (.if_icmp .le 7, 3) := by decide +kernel
theorem dX9_holds_238 : decode cX9_holds 238 = .ok (.iconst 1, 1) := by decide +kernel
theorem dX9_holds_239 : decode cX9_holds 239 = .ok (.goto 4, 3) := by decide +kernel
theorem dX9_holds_242 : decode cX9_holds 242 = .ok (.iconst 0, 1) := by decide +kernel
theorem dX9_holds_243 : decode cX9_holds 243 = .ok (.bastore, 1) := by decide +kernel
theorem dX9_holds_244 : decode cX9_holds 244 = .ok (.iinc 4 1, 3) := by decide +kernel
theorem dX9_holds_247 : decode cX9_holds 247 = .ok (.iinc 5 1, 3) := by decide +kernel
theorem dX9_holds_250 : decode cX9_holds 250 = .ok (.goto (-239), 3) := by decide +kernel
theorem dX9_holds_253 : decode cX9_holds 253 = .ok (.aload_n 0, 1) := by decide +kernel
theorem dX9_holds_254 : decode cX9_holds 254 = .ok (.getfield 92, 3) := by decide +kernel
theorem dX9_holds_257 : decode cX9_holds 257 = .ok (.iconst 0, 1) := by decide +kernel
theorem dX9_holds_258 : decode cX9_holds 258 = .ok (.baload, 1) := by decide +kernel
theorem dX9_holds_259 : decode cX9_holds 259 = .ok (.ireturn, 1) := by decide +kernel
theorem dX9_likesOf_0 : decode cX9_likesOf 0 = .ok (.iconst 2, 1) := by decide +kernel
theorem dX9_likesOf_1 : decode cX9_likesOf 1 = .ok (.istore_n 3, 1) := by decide +kernel
theorem dX9_likesOf_2 : decode cX9_likesOf 2 = .ok (.aload_n 0, 1) := by decide +kernel
theorem dX9_likesOf_3 : decode cX9_likesOf 3 = .ok (.invokevirtual 329, 3) := by decide +kernel
theorem dX9_likesOf_6 : decode cX9_likesOf 6 = .ok (.istore 4, 2) := by decide +kernel
theorem dX9_likesOf_8 : decode cX9_likesOf 8 = .ok (.iload 4, 2) := by decide +kernel
theorem dX9_likesOf_10 : decode cX9_likesOf 10 = .ok (.aload_n 0, 1) := by decide +kernel
theorem dX9_likesOf_11 : decode cX9_likesOf 11 = .ok (.invokevirtual 332, 3) := by decide +kernel
theorem dX9_likesOf_14 : decode cX9_likesOf 14 = .ok (.if_icmp .ge 65, 3) := by decide +kernel
theorem dX9_likesOf_17 : decode cX9_likesOf 17 = .ok (.aload_n 0, 1) := by decide +kernel
theorem dX9_likesOf_18 : decode cX9_likesOf 18 = .ok (.getfield 62, 3) := by decide +kernel
theorem dX9_likesOf_21 : decode cX9_likesOf 21 = .ok (.iload 4, 2) := by decide +kernel
theorem dX9_likesOf_23 : decode cX9_likesOf 23 = .ok (.iaload, 1) := by decide +kernel
theorem dX9_likesOf_24 : decode cX9_likesOf 24 = .ok (.iconst 1, 1) := by decide +kernel
theorem dX9_likesOf_25 : decode cX9_likesOf 25 = .ok (.if_icmp .gt 48, 3) := by decide +kernel
theorem dX9_likesOf_28 : decode cX9_likesOf 28 = .ok (.aload_n 0, 1) := by decide +kernel
theorem dX9_likesOf_29 : decode cX9_likesOf 29 = .ok (.iload 4, 2) := by decide +kernel
theorem dX9_likesOf_31 : decode cX9_likesOf 31 = .ok (.iload_n 1, 1) := by decide +kernel
theorem dX9_likesOf_32 : decode cX9_likesOf 32 = .ok (.iload_n 2, 1) := by decide +kernel
theorem dX9_likesOf_33 : decode cX9_likesOf 33 = .ok (.invokevirtual 339, 3) := by decide +kernel
theorem dX9_likesOf_36 : decode cX9_likesOf 36 = .ok (.ifCond .ne 6, 3) := by decide +kernel
theorem dX9_likesOf_39 : decode cX9_likesOf 39 = .ok (.goto 34, 3) := by decide +kernel
theorem dX9_likesOf_42 : decode cX9_likesOf 42 = .ok (.iload_n 3, 1) := by decide +kernel
theorem dX9_likesOf_43 : decode cX9_likesOf 43 = .ok (.aload_n 0, 1) := by decide +kernel
theorem dX9_likesOf_44 : decode cX9_likesOf 44 = .ok (.getfield 62, 3) := by decide +kernel
theorem dX9_likesOf_47 : decode cX9_likesOf 47 = .ok (.iload 4, 2) := by decide +kernel
theorem dX9_likesOf_49 : decode cX9_likesOf 49 = .ok (.iaload, 1) := by decide +kernel
theorem dX9_likesOf_50 : decode cX9_likesOf 50 = .ok (.ifCond .ne 13, 3) := by decide +kernel
theorem dX9_likesOf_53 : decode cX9_likesOf 53 = .ok (.aload_n 0, 1) := by decide +kernel
theorem dX9_likesOf_54 : decode cX9_likesOf 54 = .ok (.getfield 65, 3) := by decide +kernel
theorem dX9_likesOf_57 : decode cX9_likesOf 57 = .ok (.iload 4, 2) := by decide +kernel
theorem dX9_likesOf_59 : decode cX9_likesOf 59 = .ok (.iaload, 1) := by decide +kernel
theorem dX9_likesOf_60 : decode cX9_likesOf 60 = .ok (.goto 11, 3) := by decide +kernel
theorem dX9_likesOf_63 : decode cX9_likesOf 63 = .ok (.aload_n 0, 1) := by decide +kernel
theorem dX9_likesOf_64 : decode cX9_likesOf 64 = .ok (.getfield 65, 3) := by decide +kernel
theorem dX9_likesOf_67 : decode cX9_likesOf 67 = .ok (.iload 4, 2) := by decide +kernel
theorem dX9_likesOf_69 : decode cX9_likesOf 69 = .ok (.iaload, 1) := by decide +kernel
theorem dX9_likesOf_70 : decode cX9_likesOf 70 = .ok (.ineg, 1) := by decide +kernel
theorem dX9_likesOf_71 : decode cX9_likesOf 71 = .ok (.iadd, 1) := by decide +kernel
theorem dX9_likesOf_72 : decode cX9_likesOf 72 = .ok (.istore_n 3, 1) := by decide +kernel
theorem dX9_likesOf_73 : decode cX9_likesOf 73 = .ok (.iinc 4 1, 3) := by decide +kernel
theorem dX9_likesOf_76 : decode cX9_likesOf 76 = .ok (.goto (-68), 3) := by decide +kernel
theorem dX9_likesOf_79 : decode cX9_likesOf 79 = .ok (.iload_n 3, 1) := by decide +kernel
theorem dX9_likesOf_80 : decode cX9_likesOf 80 = .ok (.ireturn, 1) := by decide +kernel
theorem dX9_likes_0 : decode cX9_likes 0 = .ok (.aload_n 0, 1) := by decide +kernel
theorem dX9_likes_1 : decode cX9_likes 1 = .ok (.iload_n 1, 1) := by decide +kernel
theorem dX9_likes_2 : decode cX9_likes 2 = .ok (.invokevirtual 260, 3) := by decide +kernel
theorem dX9_likes_5 : decode cX9_likes 5 = .ok (.ifCond .eq 11, 3) := by decide +kernel
theorem dX9_likes_8 : decode cX9_likes 8 = .ok (.aload_n 0, 1) := by decide +kernel
theorem dX9_likes_9 : decode cX9_likes 9 = .ok (.iload_n 2, 1) := by decide +kernel
theorem dX9_likes_10 : decode cX9_likes 10 = .ok (.invokevirtual 260, 3) := by decide +kernel
theorem dX9_likes_13 : decode cX9_likes 13 = .ok (.ifCond .ne 7, 3) := by decide +kernel
theorem dX9_likes_16 : decode cX9_likes 16 = .ok (.sipush (-10001), 3) := by decide +kernel
theorem dX9_likes_19 : decode cX9_likes 19 = .ok (.ireturn, 1) := by decide +kernel
theorem dX9_likes_20 : decode cX9_likes 20 = .ok (.iload_n 1, 1) := by decide +kernel
theorem dX9_likes_21 : decode cX9_likes 21 = .ok (.iload_n 2, 1) := by decide +kernel
theorem dX9_likes_22 : decode cX9_likes 22 = .ok (.if_icmp .ne 9, 3) := by decide +kernel
theorem dX9_likes_25 : decode cX9_likes 25 = .ok (.sipush (-10002), 3) := by decide +kernel
theorem dX9_likes_28 : decode cX9_likes 28 = .ok (.goto 9, 3) := by decide +kernel
theorem dX9_likes_31 : decode cX9_likes 31 = .ok (.aload_n 0, 1) := by decide +kernel
theorem dX9_likes_32 : decode cX9_likes 32 = .ok (.iload_n 1, 1) := by decide +kernel
theorem dX9_likes_33 : decode cX9_likes 33 = .ok (.iload_n 2, 1) := by decide +kernel
theorem dX9_likes_34 : decode cX9_likes 34 = .ok (.invokevirtual 342, 3) := by decide +kernel
theorem dX9_likes_37 : decode cX9_likes 37 = .ok (.ireturn, 1) := by decide +kernel
theorem dX9_layLikes_0 : decode cX9_layLikes 0 = .ok (.iconst 0, 1) := by decide +kernel
theorem dX9_layLikes_1 : decode cX9_layLikes 1 = .ok (.istore_n 1, 1) := by decide +kernel
theorem dX9_layLikes_2 : decode cX9_layLikes 2 = .ok (.iload_n 1, 1) := by decide +kernel
theorem dX9_layLikes_3 : decode cX9_layLikes 3 = .ok (.aload_n 0, 1) := by decide +kernel
theorem dX9_layLikes_4 : decode cX9_layLikes 4 = .ok (.getfield 7, 3) := by decide +kernel
theorem dX9_layLikes_7 : decode cX9_layLikes 7 = .ok (.if_icmp .ge 51, 3) := by decide +kernel
theorem dX9_layLikes_10 : decode cX9_layLikes 10 = .ok (.iconst 0, 1) := by decide +kernel
theorem dX9_layLikes_11 : decode cX9_layLikes 11 = .ok (.istore_n 2, 1) := by decide +kernel
theorem dX9_layLikes_12 : decode cX9_layLikes 12 = .ok (.iload_n 2, 1) := by decide +kernel
theorem dX9_layLikes_13 : decode cX9_layLikes 13 = .ok (.aload_n 0, 1) := by decide +kernel
theorem dX9_layLikes_14 : decode cX9_layLikes 14 = .ok (.getfield 7, 3) := by decide +kernel
theorem dX9_layLikes_17 : decode cX9_layLikes 17 = .ok (.if_icmp .ge 35, 3) := by decide +kernel
theorem dX9_layLikes_20 : decode cX9_layLikes 20 = .ok (.aload_n 0, 1) := by decide +kernel
theorem dX9_layLikes_21 : decode cX9_layLikes 21 = .ok (.getfield 96, 3) := by decide +kernel
theorem dX9_layLikes_24 : decode cX9_layLikes 24 = .ok (.bipush 6, 2) := by decide +kernel
theorem dX9_layLikes_26 : decode cX9_layLikes 26 = .ok (.iload_n 1, 1) := by decide +kernel
theorem dX9_layLikes_27 : decode cX9_layLikes 27 = .ok (.imul, 1) := by decide +kernel
theorem dX9_layLikes_28 : decode cX9_layLikes 28 = .ok (.iload_n 2, 1) := by decide +kernel
theorem dX9_layLikes_29 : decode cX9_layLikes 29 = .ok (.iadd, 1) := by decide +kernel
theorem dX9_layLikes_30 : decode cX9_layLikes 30 = .ok (.iload_n 1, 1) := by decide +kernel
theorem dX9_layLikes_31 : decode cX9_layLikes 31 = .ok (.iload_n 2, 1) := by decide +kernel
theorem dX9_layLikes_32 : decode cX9_layLikes 32 = .ok (.if_icmp .ne 7, 3) := by decide +kernel
theorem dX9_layLikes_35 : decode cX9_layLikes 35 = .ok (.iconst 0, 1) := by decide +kernel
theorem dX9_layLikes_36 : decode cX9_layLikes 36 = .ok (.goto 9, 3) := by decide +kernel
theorem dX9_layLikes_39 : decode cX9_layLikes 39 = .ok (.aload_n 0, 1) := by decide +kernel
theorem dX9_layLikes_40 : decode cX9_layLikes 40 = .ok (.iload_n 1, 1) := by decide +kernel
theorem dX9_layLikes_41 : decode cX9_layLikes 41 = .ok (.iload_n 2, 1) := by decide +kernel
theorem dX9_layLikes_42 : decode cX9_layLikes 42 = .ok (.invokevirtual 342, 3) := by decide +kernel
theorem dX9_layLikes_45 : decode cX9_layLikes 45 = .ok (.iastore, 1) := by decide +kernel
theorem dX9_layLikes_46 : decode cX9_layLikes 46 = .ok (.iinc 2 1, 3) := by decide +kernel
theorem dX9_layLikes_49 : decode cX9_layLikes 49 = .ok (.goto (-37), 3) := by decide +kernel
theorem dX9_layLikes_52 : decode cX9_layLikes 52 = .ok (.iinc 1 1, 3) := by decide +kernel
theorem dX9_layLikes_55 : decode cX9_layLikes 55 = .ok (.goto (-53), 3) := by decide +kernel
theorem dX9_layLikes_58 : decode cX9_layLikes 58 = .ok (.return_, 1) := by decide +kernel
theorem dX9_isBeside_0 : decode cX9_isBeside 0 = .ok (.iload_n 1, 1) := by decide +kernel
theorem dX9_isBeside_1 : decode cX9_isBeside 1 = .ok (.iconst 1, 1) := by decide +kernel
theorem dX9_isBeside_2 : decode cX9_isBeside 2 = .ok (.iadd, 1) := by decide +kernel
theorem dX9_isBeside_3 : decode cX9_isBeside 3 = .ok (.bipush 6, 2) := by decide +kernel
theorem dX9_isBeside_5 : decode cX9_isBeside 5 = .ok (.irem, 1) := by decide +kernel
theorem dX9_isBeside_6 : decode cX9_isBeside 6 = .ok (.iload_n 2, 1) := by decide +kernel
theorem dX9_isBeside_7 : decode cX9_isBeside 7 = .ok (.if_icmp .eq 13, 3) := by decide +kernel
theorem dX9_isBeside_10 : decode cX9_isBeside 10 = .ok (.iload_n 2, 1) := by decide +kernel
theorem dX9_isBeside_11 : decode cX9_isBeside 11 = .ok (.iconst 1, 1) := by decide +kernel
theorem dX9_isBeside_12 : decode cX9_isBeside 12 = .ok (.iadd, 1) := by decide +kernel
theorem dX9_isBeside_13 : decode cX9_isBeside 13 = .ok (.bipush 6, 2) := by decide +kernel
theorem dX9_isBeside_15 : decode cX9_isBeside 15 = .ok (.irem, 1) := by decide +kernel
theorem dX9_isBeside_16 : decode cX9_isBeside 16 = .ok (.iload_n 1, 1) := by decide +kernel
theorem dX9_isBeside_17 : decode cX9_isBeside 17 = .ok (.if_icmp .ne 7, 3) := by decide +kernel
theorem dX9_isBeside_20 : decode cX9_isBeside 20 = .ok (.iconst 1, 1) := by decide +kernel
theorem dX9_isBeside_21 : decode cX9_isBeside 21 = .ok (.goto 4, 3) := by decide +kernel
theorem dX9_isBeside_24 : decode cX9_isBeside 24 = .ok (.iconst 0, 1) := by decide +kernel
theorem dX9_isBeside_25 : decode cX9_isBeside 25 = .ok (.ireturn, 1) := by decide +kernel
theorem dX9_isCompany_0 : decode cX9_isCompany 0 = .ok (.aload_n 0, 1) := by decide +kernel
theorem dX9_isCompany_1 : decode cX9_isCompany 1 = .ok (.aload_n 0, 1) := by decide +kernel
theorem dX9_isCompany_2 : decode cX9_isCompany 2 = .ok (.getfield 13, 3) := by decide +kernel
theorem dX9_isCompany_5 : decode cX9_isCompany 5 = .ok (.iload_n 1, 1) := by decide +kernel
theorem dX9_isCompany_6 : decode cX9_isCompany 6 = .ok (.invokevirtual 248, 3) := by decide +kernel
theorem dX9_isCompany_9 : decode cX9_isCompany 9 = .ok (.ifCond .ne 17, 3) := by decide +kernel
theorem dX9_isCompany_12 : decode cX9_isCompany 12 = .ok (.aload_n 0, 1) := by decide +kernel
theorem dX9_isCompany_13 : decode cX9_isCompany 13 = .ok (.getfield 25, 3) := by decide +kernel
theorem dX9_isCompany_16 : decode cX9_isCompany 16 = .ok (.iload_n 1, 1) := by decide +kernel
theorem dX9_isCompany_17 : decode cX9_isCompany 17 = .ok (.iaload, 1) := by decide +kernel
theorem dX9_isCompany_18 : decode cX9_isCompany 18 = .ok (.iconst 4, 1) := by decide +kernel
theorem dX9_isCompany_19 : decode cX9_isCompany 19 = .ok (.if_icmp .eq 7, 3) := by decide +kernel
theorem dX9_isCompany_22 : decode cX9_isCompany 22 = .ok (.iconst 1, 1) := by decide +kernel
theorem dX9_isCompany_23 : decode cX9_isCompany 23 = .ok (.goto 4, 3) := by decide +kernel
theorem dX9_isCompany_26 : decode cX9_isCompany 26 = .ok (.iconst 0, 1) := by decide +kernel
theorem dX9_isCompany_27 : decode cX9_isCompany 27 = .ok (.ireturn, 1) := by decide +kernel
theorem dX9_beside_0 : decode cX9_beside 0 = .ok (.iconst 0, 1) := by decide +kernel
theorem dX9_beside_1 : decode cX9_beside 1 = .ok (.istore_n 2, 1) := by decide +kernel
theorem dX9_beside_2 : decode cX9_beside 2 = .ok (.iconst 0, 1) := by decide +kernel
theorem dX9_beside_3 : decode cX9_beside 3 = .ok (.istore_n 3, 1) := by decide +kernel
theorem dX9_beside_4 : decode cX9_beside 4 = .ok (.iload_n 3, 1) := by decide +kernel
theorem dX9_beside_5 : decode cX9_beside 5 = .ok (.aload_n 0, 1) := by decide +kernel
theorem dX9_beside_6 : decode cX9_beside 6 = .ok (.getfield 7, 3) := by decide +kernel
theorem dX9_beside_9 : decode cX9_beside 9 = .ok (.if_icmp .ge 51, 3) := by decide +kernel
theorem dX9_beside_12 : decode cX9_beside 12 = .ok (.iload_n 2, 1) := by decide +kernel
theorem dX9_beside_13 : decode cX9_beside 13 = .ok (.iload_n 3, 1) := by decide +kernel
theorem dX9_beside_14 : decode cX9_beside 14 = .ok (.iload_n 1, 1) := by decide +kernel
theorem dX9_beside_15 : decode cX9_beside 15 = .ok (.if_icmp .eq 36, 3) := by decide +kernel
theorem dX9_beside_18 : decode cX9_beside 18 = .ok (.aload_n 0, 1) := by decide +kernel
theorem dX9_beside_19 : decode cX9_beside 19 = .ok (.iload_n 3, 1) := by decide +kernel
theorem dX9_beside_20 : decode cX9_beside 20 = .ok (.invokevirtual 346, 3) := by decide +kernel
theorem dX9_beside_23 : decode cX9_beside 23 = .ok (.ifCond .eq 28, 3) := by decide +kernel
theorem dX9_beside_26 : decode cX9_beside 26 = .ok (.aload_n 0, 1) := by decide +kernel
theorem dX9_beside_27 : decode cX9_beside 27 = .ok (.aload_n 0, 1) := by decide +kernel
theorem dX9_beside_28 : decode cX9_beside 28 = .ok (.getfield 32, 3) := by decide +kernel
theorem dX9_beside_31 : decode cX9_beside 31 = .ok (.iload_n 3, 1) := by decide +kernel
theorem dX9_beside_32 : decode cX9_beside 32 = .ok (.iaload, 1) := by decide +kernel
theorem dX9_beside_33 : decode cX9_beside 33 = .ok (.aload_n 0, 1) := by decide +kernel
theorem dX9_beside_34 : decode cX9_beside 34 = .ok (.getfield 32, 3) := by decide +kernel
theorem dX9_beside_37 : decode cX9_beside 37 = .ok (.iload_n 1, 1) := by decide +kernel
theorem dX9_beside_38 : decode cX9_beside 38 = .ok (.iaload, 1) := by decide +kernel
theorem dX9_beside_39 : decode cX9_beside 39 = .ok (.invokevirtual 349, 3) := by decide +kernel
theorem dX9_beside_42 : decode cX9_beside 42 = .ok (.ifCond .eq 9, 3) := by decide +kernel
theorem dX9_beside_45 : decode cX9_beside 45 = .ok (.iconst 1, 1) := by decide +kernel
theorem dX9_beside_46 : decode cX9_beside 46 = .ok (.iload_n 3, 1) := by decide +kernel
theorem dX9_beside_47 : decode cX9_beside 47 = .ok (.ishl, 1) := by decide +kernel
theorem dX9_beside_48 : decode cX9_beside 48 = .ok (.goto 4, 3) := by decide +kernel
theorem dX9_beside_51 : decode cX9_beside 51 = .ok (.iconst 0, 1) := by decide +kernel
theorem dX9_beside_52 : decode cX9_beside 52 = .ok (.ior, 1) := by decide +kernel
theorem dX9_beside_53 : decode cX9_beside 53 = .ok (.istore_n 2, 1) := by decide +kernel
theorem dX9_beside_54 : decode cX9_beside 54 = .ok (.iinc 3 1, 3) := by decide +kernel
theorem dX9_beside_57 : decode cX9_beside 57 = .ok (.goto (-53), 3) := by decide +kernel
theorem dX9_beside_60 : decode cX9_beside 60 = .ok (.iload_n 2, 1) := by decide +kernel
theorem dX9_beside_61 : decode cX9_beside 61 = .ok (.ireturn, 1) := by decide +kernel
theorem dX9_fondBy_0 : decode cX9_fondBy 0 = .ok (.aload_n 0, 1) := by decide +kernel
theorem dX9_fondBy_1 : decode cX9_fondBy 1 = .ok (.aload_n 0, 1) := by decide +kernel
theorem dX9_fondBy_2 : decode cX9_fondBy 2 = .ok (.getfield 13, 3) := by decide +kernel
theorem dX9_fondBy_5 : decode cX9_fondBy 5 = .ok (.iload_n 1, 1) := by decide +kernel
theorem dX9_fondBy_6 : decode cX9_fondBy 6 = .ok (.invokevirtual 248, 3) := by decide +kernel
theorem dX9_fondBy_9 : decode cX9_fondBy 9 = .ok (.ifCond .eq 5, 3) := by decide +kernel
theorem dX9_fondBy_12 : decode cX9_fondBy 12 = .ok (.iconst 0, 1) := by decide +kernel
theorem dX9_fondBy_13 : decode cX9_fondBy 13 = .ok (.ireturn, 1) := by decide +kernel
theorem dX9_fondBy_14 : decode cX9_fondBy 14 = .ok (.iconst 0, 1) := by decide +kernel
theorem dX9_fondBy_15 : decode cX9_fondBy 15 = .ok (.istore_n 2, 1) := by decide +kernel
theorem dX9_fondBy_16 : decode cX9_fondBy 16 = .ok (.iconst 0, 1) := by decide +kernel
theorem dX9_fondBy_17 : decode cX9_fondBy 17 = .ok (.istore_n 3, 1) := by decide +kernel
theorem dX9_fondBy_18 : decode cX9_fondBy 18 = .ok (.aload_n 0, 1) := by decide +kernel
theorem dX9_fondBy_19 : decode cX9_fondBy 19 = .ok (.iload_n 1, 1) := by decide +kernel
theorem dX9_fondBy_20 : decode cX9_fondBy 20 = .ok (.invokevirtual 352, 3) := by decide +kernel
theorem dX9_fondBy_23 : decode cX9_fondBy 23 = .ok (.istore 4, 2) := by decide +kernel
theorem dX9_fondBy_25 : decode cX9_fondBy 25 = .ok (.iconst 0, 1) := by decide +kernel
theorem dX9_fondBy_26 : decode cX9_fondBy 26 = .ok (.istore 5, 2) := by decide +kernel
theorem dX9_fondBy_28 : decode cX9_fondBy 28 = .ok (.iload 5, 2) := by decide +kernel
theorem dX9_fondBy_30 : decode cX9_fondBy 30 = .ok (.aload_n 0, 1) := by decide +kernel
theorem dX9_fondBy_31 : decode cX9_fondBy 31 = .ok (.getfield 7, 3) := by decide +kernel
theorem dX9_fondBy_34 : decode cX9_fondBy 34 = .ok (.if_icmp .ge 69, 3) := by decide +kernel
theorem dX9_fondBy_37 : decode cX9_fondBy 37 = .ok (.aload_n 0, 1) := by decide +kernel
theorem dX9_fondBy_38 : decode cX9_fondBy 38 = .ok (.iload 4, 2) := by decide +kernel
theorem dX9_fondBy_40 : decode cX9_fondBy 40 = .ok (.iload 5, 2) := by decide +kernel
theorem dX9_fondBy_42 : decode cX9_fondBy 42 = .ok (.invokevirtual 248, 3) := by decide +kernel
theorem dX9_fondBy_45 : decode cX9_fondBy 45 = .ok (.ifCond .ne 6, 3) := by decide +kernel
theorem dX9_fondBy_48 : decode cX9_fondBy 48 = .ok (.goto 49, 3) := by decide +kernel
theorem dX9_fondBy_51 : decode cX9_fondBy 51 = .ok (.iload_n 2, 1) := by decide +kernel
theorem dX9_fondBy_52 : decode cX9_fondBy 52 = .ok (.aload_n 0, 1) := by decide +kernel
theorem dX9_fondBy_53 : decode cX9_fondBy 53 = .ok (.getfield 96, 3) := by decide +kernel
theorem dX9_fondBy_56 : decode cX9_fondBy 56 = .ok (.bipush 6, 2) := by decide +kernel
theorem dX9_fondBy_58 : decode cX9_fondBy 58 = .ok (.iload_n 1, 1) := by decide +kernel
theorem dX9_fondBy_59 : decode cX9_fondBy 59 = .ok (.imul, 1) := by decide +kernel
theorem dX9_fondBy_60 : decode cX9_fondBy 60 = .ok (.iload 5, 2) := by decide +kernel
theorem dX9_fondBy_62 : decode cX9_fondBy 62 = .ok (.iadd, 1) := by decide +kernel
theorem dX9_fondBy_63 : decode cX9_fondBy 63 = .ok (.iaload, 1) := by decide +kernel
theorem dX9_fondBy_64 : decode cX9_fondBy 64 = .ok (.iadd, 1) := by decide +kernel
theorem dX9_fondBy_65 : decode cX9_fondBy 65 = .ok (.istore_n 2, 1) := by decide +kernel
theorem dX9_fondBy_66 : decode cX9_fondBy 66 = .ok (.iload_n 3, 1) := by decide +kernel
theorem dX9_fondBy_67 : decode cX9_fondBy 67 = .ok (.aload_n 0, 1) := by decide +kernel
theorem dX9_fondBy_68 : decode cX9_fondBy 68 = .ok (.getfield 25, 3) := by decide +kernel
theorem dX9_fondBy_71 : decode cX9_fondBy 71 = .ok (.iload 5, 2) := by decide +kernel
theorem dX9_fondBy_73 : decode cX9_fondBy 73 = .ok (.iaload, 1) := by decide +kernel
theorem dX9_fondBy_74 : decode cX9_fondBy 74 = .ok (.iconst 3, 1) := by decide +kernel
theorem dX9_fondBy_75 : decode cX9_fondBy 75 = .ok (.if_icmp .eq 15, 3) := by decide +kernel
theorem dX9_fondBy_78 : decode cX9_fondBy 78 = .ok (.aload_n 0, 1) := by decide +kernel
theorem dX9_fondBy_79 : decode cX9_fondBy 79 = .ok (.getfield 25, 3) := by decide +kernel
theorem dX9_fondBy_82 : decode cX9_fondBy 82 = .ok (.iload 5, 2) := by decide +kernel
theorem dX9_fondBy_84 : decode cX9_fondBy 84 = .ok (.iaload, 1) := by decide +kernel
theorem dX9_fondBy_85 : decode cX9_fondBy 85 = .ok (.bipush 6, 2) := by decide +kernel
theorem dX9_fondBy_87 : decode cX9_fondBy 87 = .ok (.if_icmp .ne 7, 3) := by decide +kernel
theorem dX9_fondBy_90 : decode cX9_fondBy 90 = .ok (.iconst 1, 1) := by decide +kernel
theorem dX9_fondBy_91 : decode cX9_fondBy 91 = .ok (.goto 4, 3) := by decide +kernel
theorem dX9_fondBy_94 : decode cX9_fondBy 94 = .ok (.iconst 0, 1) := by decide +kernel
theorem dX9_fondBy_95 : decode cX9_fondBy 95 = .ok (.iadd, 1) := by decide +kernel
theorem dX9_fondBy_96 : decode cX9_fondBy 96 = .ok (.istore_n 3, 1) := by decide +kernel
theorem dX9_fondBy_97 : decode cX9_fondBy 97 = .ok (.iinc 5 1, 3) := by decide +kernel
theorem dX9_fondBy_100 : decode cX9_fondBy 100 = .ok (.goto (-72), 3) := by decide +kernel
theorem dX9_fondBy_103 : decode cX9_fondBy 103 = .ok (.aload_n 0, 1) := by decide +kernel
theorem dX9_fondBy_104 : decode cX9_fondBy 104 = .ok (.getfield 32, 3) := by decide +kernel
theorem dX9_fondBy_107 : decode cX9_fondBy 107 = .ok (.iload_n 1, 1) := by decide +kernel
theorem dX9_fondBy_108 : decode cX9_fondBy 108 = .ok (.iaload, 1) := by decide +kernel
theorem dX9_fondBy_109 : decode cX9_fondBy 109 = .ok (.ifCond .ne 15, 3) := by decide +kernel
theorem dX9_fondBy_112 : decode cX9_fondBy 112 = .ok (.iload_n 2, 1) := by decide +kernel
theorem dX9_fondBy_113 : decode cX9_fondBy 113 = .ok (.aload_n 0, 1) := by decide +kernel
theorem dX9_fondBy_114 : decode cX9_fondBy 114 = .ok (.iconst 3, 1) := by decide +kernel
theorem dX9_fondBy_115 : decode cX9_fondBy 115 = .ok (.bipush 6, 2) := by decide +kernel
theorem dX9_fondBy_117 : decode cX9_fondBy 117 = .ok (.invokevirtual 355, 3) := by decide +kernel
theorem dX9_fondBy_120 : decode cX9_fondBy 120 = .ok (.iadd, 1) := by decide +kernel
theorem dX9_fondBy_121 : decode cX9_fondBy 121 = .ok (.goto 4, 3) := by decide +kernel
theorem dX9_fondBy_124 : decode cX9_fondBy 124 = .ok (.iload_n 2, 1) := by decide +kernel
theorem dX9_fondBy_125 : decode cX9_fondBy 125 = .ok (.istore 5, 2) := by decide +kernel
theorem dX9_fondBy_127 : decode cX9_fondBy 127 = .ok (.aload_n 0, 1) := by decide +kernel
theorem dX9_fondBy_128 : decode cX9_fondBy 128 = .ok (.getfield 25, 3) := by decide +kernel
theorem dX9_fondBy_131 : decode cX9_fondBy 131 = .ok (.iload_n 1, 1) := by decide +kernel
theorem dX9_fondBy_132 : decode cX9_fondBy 132 = .ok (.iaload, 1) := by decide +kernel
theorem dX9_fondBy_133 : decode cX9_fondBy 133 = .ok (.tableswitch 110 1 6 #[39, 43, 46, 57, 64, 81], 39) := by decide +kernel
theorem dX9_fondBy_172 : decode cX9_fondBy 172 = .ok (.iload_n 2, 1) := by decide +kernel
theorem dX9_fondBy_173 : decode cX9_fondBy 173 = .ok (.iconst 2, 1) := by decide +kernel
theorem dX9_fondBy_174 : decode cX9_fondBy 174 = .ok (.idiv, 1) := by decide +kernel
theorem dX9_fondBy_175 : decode cX9_fondBy 175 = .ok (.ireturn, 1) := by decide +kernel
theorem dX9_fondBy_176 : decode cX9_fondBy 176 = .ok (.iload 5, 2) := by decide +kernel
theorem dX9_fondBy_178 : decode cX9_fondBy 178 = .ok (.ireturn, 1) := by decide +kernel
theorem dX9_fondBy_179 : decode cX9_fondBy 179 = .ok (.iload_n 2, 1) := by decide +kernel
theorem dX9_fondBy_180 : decode cX9_fondBy 180 = .ok (.aload_n 0, 1) := by decide +kernel
theorem dX9_fondBy_181 : decode cX9_fondBy 181 = .ok (.getfield 29, 3) := by decide +kernel
theorem dX9_fondBy_184 : decode cX9_fondBy 184 = .ok (.iload_n 1, 1) := by decide +kernel
theorem dX9_fondBy_185 : decode cX9_fondBy 185 = .ok (.iaload, 1) := by decide +kernel
theorem dX9_fondBy_186 : decode cX9_fondBy 186 = .ok (.iload_n 3, 1) := by decide +kernel
theorem dX9_fondBy_187 : decode cX9_fondBy 187 = .ok (.imul, 1) := by decide +kernel
theorem dX9_fondBy_188 : decode cX9_fondBy 188 = .ok (.isub, 1) := by decide +kernel
theorem dX9_fondBy_189 : decode cX9_fondBy 189 = .ok (.ireturn, 1) := by decide +kernel
theorem dX9_fondBy_190 : decode cX9_fondBy 190 = .ok (.aload_n 0, 1) := by decide +kernel
theorem dX9_fondBy_191 : decode cX9_fondBy 191 = .ok (.getfield 29, 3) := by decide +kernel
theorem dX9_fondBy_194 : decode cX9_fondBy 194 = .ok (.iload_n 1, 1) := by decide +kernel
theorem dX9_fondBy_195 : decode cX9_fondBy 195 = .ok (.iaload, 1) := by decide +kernel
theorem dX9_fondBy_196 : decode cX9_fondBy 196 = .ok (.ireturn, 1) := by decide +kernel
theorem dX9_fondBy_197 : decode cX9_fondBy 197 = .ok (.aload_n 0, 1) := by decide +kernel
theorem dX9_fondBy_198 : decode cX9_fondBy 198 = .ok (.getfield 22, 3) := by decide +kernel
theorem dX9_fondBy_201 : decode cX9_fondBy 201 = .ok (.iconst 2, 1) := by decide +kernel
theorem dX9_fondBy_202 : decode cX9_fondBy 202 = .ok (.irem, 1) := by decide +kernel
theorem dX9_fondBy_203 : decode cX9_fondBy 203 = .ok (.iconst 1, 1) := by decide +kernel
theorem dX9_fondBy_204 : decode cX9_fondBy 204 = .ok (.if_icmp .ne 7, 3) := by decide +kernel
theorem dX9_fondBy_207 : decode cX9_fondBy 207 = .ok (.iconst 0, 1) := by decide +kernel
theorem dX9_fondBy_208 : decode cX9_fondBy 208 = .ok (.goto 5, 3) := by decide +kernel
theorem dX9_fondBy_211 : decode cX9_fondBy 211 = .ok (.iload 5, 2) := by decide +kernel
theorem dX9_fondBy_213 : decode cX9_fondBy 213 = .ok (.ireturn, 1) := by decide +kernel
theorem dX9_fondBy_214 : decode cX9_fondBy 214 = .ok (.iload_n 2, 1) := by decide +kernel
theorem dX9_fondBy_215 : decode cX9_fondBy 215 = .ok (.aload_n 0, 1) := by decide +kernel
theorem dX9_fondBy_216 : decode cX9_fondBy 216 = .ok (.getfield 29, 3) := by decide +kernel
theorem dX9_fondBy_219 : decode cX9_fondBy 219 = .ok (.iload_n 1, 1) := by decide +kernel
theorem dX9_fondBy_220 : decode cX9_fondBy 220 = .ok (.iaload, 1) := by decide +kernel
theorem dX9_fondBy_221 : decode cX9_fondBy 221 = .ok (.iload_n 3, 1) := by decide +kernel
theorem dX9_fondBy_222 : decode cX9_fondBy 222 = .ok (.imul, 1) := by decide +kernel
theorem dX9_fondBy_223 : decode cX9_fondBy 223 = .ok (.isub, 1) := by decide +kernel
theorem dX9_fondBy_224 : decode cX9_fondBy 224 = .ok (.aload_n 0, 1) := by decide +kernel
theorem dX9_fondBy_225 : decode cX9_fondBy 225 = .ok (.getfield 38, 3) := by decide +kernel
theorem dX9_fondBy_228 : decode cX9_fondBy 228 = .ok (.iconst 4, 1) := by decide +kernel
theorem dX9_fondBy_229 : decode cX9_fondBy 229 = .ok (.iload_n 1, 1) := by decide +kernel
theorem dX9_fondBy_230 : decode cX9_fondBy 230 = .ok (.imul, 1) := by decide +kernel
theorem dX9_fondBy_231 : decode cX9_fondBy 231 = .ok (.aload_n 0, 1) := by decide +kernel
theorem dX9_fondBy_232 : decode cX9_fondBy 232 = .ok (.getfield 32, 3) := by decide +kernel
theorem dX9_fondBy_235 : decode cX9_fondBy 235 = .ok (.iload_n 1, 1) := by decide +kernel
theorem dX9_fondBy_236 : decode cX9_fondBy 236 = .ok (.iaload, 1) := by decide +kernel
theorem dX9_fondBy_237 : decode cX9_fondBy 237 = .ok (.iconst 4, 1) := by decide +kernel
theorem dX9_fondBy_238 : decode cX9_fondBy 238 = .ok (.irem, 1) := by decide +kernel
theorem dX9_fondBy_239 : decode cX9_fondBy 239 = .ok (.iadd, 1) := by decide +kernel
theorem dX9_fondBy_240 : decode cX9_fondBy 240 = .ok (.iaload, 1) := by decide +kernel
theorem dX9_fondBy_241 : decode cX9_fondBy 241 = .ok (.iadd, 1) := by decide +kernel
theorem dX9_fondBy_242 : decode cX9_fondBy 242 = .ok (.ireturn, 1) := by decide +kernel
theorem dX9_fondBy_243 : decode cX9_fondBy 243 = .ok (.iload_n 2, 1) := by decide +kernel
theorem dX9_fondBy_244 : decode cX9_fondBy 244 = .ok (.ireturn, 1) := by decide +kernel
theorem dX9_fond_0 : decode cX9_fond 0 = .ok (.aload_n 0, 1) := by decide +kernel
theorem dX9_fond_1 : decode cX9_fond 1 = .ok (.invokevirtual 358, 3) := by decide +kernel
theorem dX9_fond_4 : decode cX9_fond 4 = .ok (.aload_n 0, 1) := by decide +kernel
theorem dX9_fond_5 : decode cX9_fond 5 = .ok (.iload_n 1, 1) := by decide +kernel
theorem dX9_fond_6 : decode cX9_fond 6 = .ok (.invokevirtual 361, 3) := by decide +kernel
theorem dX9_fond_9 : decode cX9_fond 9 = .ok (.ireturn, 1) := by decide +kernel
theorem dX9_allFondBy_0 : decode cX9_allFondBy 0 = .ok (.iconst 0, 1) := by decide +kernel
theorem dX9_allFondBy_1 : decode cX9_allFondBy 1 = .ok (.istore_n 1, 1) := by decide +kernel
theorem dX9_allFondBy_2 : decode cX9_allFondBy 2 = .ok (.iconst 0, 1) := by decide +kernel
theorem dX9_allFondBy_3 : decode cX9_allFondBy 3 = .ok (.istore_n 2, 1) := by decide +kernel
theorem dX9_allFondBy_4 : decode cX9_allFondBy 4 = .ok (.iload_n 2, 1) := by decide +kernel
theorem dX9_allFondBy_5 : decode cX9_allFondBy 5 = .ok (.aload_n 0, 1) := by decide +kernel
theorem dX9_allFondBy_6 : decode cX9_allFondBy 6 = .ok (.getfield 7, 3) := by decide +kernel
theorem dX9_allFondBy_9 : decode cX9_allFondBy 9 = .ok (.if_icmp .ge 17, 3) := by decide +kernel
theorem dX9_allFondBy_12 : decode cX9_allFondBy 12 = .ok (.iload_n 1, 1) := by decide +kernel
theorem dX9_allFondBy_13 : decode cX9_allFondBy 13 = .ok (.aload_n 0, 1) := by decide +kernel
theorem dX9_allFondBy_14 : decode cX9_allFondBy 14 = .ok (.iload_n 2, 1) := by decide +kernel
theorem dX9_allFondBy_15 : decode cX9_allFondBy 15 = .ok (.invokevirtual 361, 3) := by decide +kernel
theorem dX9_allFondBy_18 : decode cX9_allFondBy 18 = .ok (.iadd, 1) := by decide +kernel
theorem dX9_allFondBy_19 : decode cX9_allFondBy 19 = .ok (.istore_n 1, 1) := by decide +kernel
theorem dX9_allFondBy_20 : decode cX9_allFondBy 20 = .ok (.iinc 2 1, 3) := by decide +kernel
theorem dX9_allFondBy_23 : decode cX9_allFondBy 23 = .ok (.goto (-19), 3) := by decide +kernel
theorem dX9_allFondBy_26 : decode cX9_allFondBy 26 = .ok (.iload_n 1, 1) := by decide +kernel
theorem dX9_allFondBy_27 : decode cX9_allFondBy 27 = .ok (.ireturn, 1) := by decide +kernel
theorem dX9_allFond_0 : decode cX9_allFond 0 = .ok (.aload_n 0, 1) := by decide +kernel
theorem dX9_allFond_1 : decode cX9_allFond 1 = .ok (.invokevirtual 358, 3) := by decide +kernel
theorem dX9_allFond_4 : decode cX9_allFond 4 = .ok (.aload_n 0, 1) := by decide +kernel
theorem dX9_allFond_5 : decode cX9_allFond 5 = .ok (.invokevirtual 364, 3) := by decide +kernel
theorem dX9_allFond_8 : decode cX9_allFond 8 = .ok (.ireturn, 1) := by decide +kernel
theorem dX9_clashesBy_0 : decode cX9_clashesBy 0 = .ok (.iconst 0, 1) := by decide +kernel
theorem dX9_clashesBy_1 : decode cX9_clashesBy 1 = .ok (.istore_n 1, 1) := by decide +kernel
theorem dX9_clashesBy_2 : decode cX9_clashesBy 2 = .ok (.iconst 0, 1) := by decide +kernel
theorem dX9_clashesBy_3 : decode cX9_clashesBy 3 = .ok (.istore_n 2, 1) := by decide +kernel
theorem dX9_clashesBy_4 : decode cX9_clashesBy 4 = .ok (.iload_n 2, 1) := by decide +kernel
theorem dX9_clashesBy_5 : decode cX9_clashesBy 5 = .ok (.aload_n 0, 1) := by decide +kernel
theorem dX9_clashesBy_6 : decode cX9_clashesBy 6 = .ok (.getfield 7, 3) := by decide +kernel
theorem dX9_clashesBy_9 : decode cX9_clashesBy 9 = .ok (.if_icmp .ge 101, 3) := by decide +kernel
theorem dX9_clashesBy_12 : decode cX9_clashesBy 12 = .ok (.iload_n 2, 1) := by decide +kernel
theorem dX9_clashesBy_13 : decode cX9_clashesBy 13 = .ok (.iconst 1, 1) := by decide +kernel
theorem dX9_clashesBy_14 : decode cX9_clashesBy 14 = .ok (.iadd, 1) := by decide +kernel
theorem dX9_clashesBy_15 : decode cX9_clashesBy 15 = .ok (.istore_n 3, 1) := by decide +kernel
theorem dX9_clashesBy_16 : decode cX9_clashesBy 16 = .ok (.iload_n 3, 1) := by decide +kernel
theorem dX9_clashesBy_17 : decode cX9_clashesBy 17 = .ok (.aload_n 0, 1) := by decide +kernel
theorem dX9_clashesBy_18 : decode cX9_clashesBy 18 = .ok (.getfield 7, 3) := by decide +kernel
theorem dX9_clashesBy_21 : decode cX9_clashesBy 21 = .ok (.if_icmp .ge 83, 3) := by decide +kernel
theorem dX9_clashesBy_24 : decode cX9_clashesBy 24 = .ok (.aload_n 0, 1) := by decide +kernel
theorem dX9_clashesBy_25 : decode cX9_clashesBy 25 = .ok (.iload_n 2, 1) := by decide +kernel
theorem dX9_clashesBy_26 : decode cX9_clashesBy 26 = .ok (.invokevirtual 346, 3) := by decide +kernel
theorem dX9_clashesBy_29 : decode cX9_clashesBy 29 = .ok (.ifCond .eq 69, 3) := by decide +kernel
theorem dX9_clashesBy_32 : decode cX9_clashesBy 32 = .ok (.aload_n 0, 1) := by decide +kernel
theorem dX9_clashesBy_33 : decode cX9_clashesBy 33 = .ok (.iload_n 3, 1) := by decide +kernel
theorem dX9_clashesBy_34 : decode cX9_clashesBy 34 = .ok (.invokevirtual 346, 3) := by decide +kernel
theorem dX9_clashesBy_37 : decode cX9_clashesBy 37 = .ok (.ifCond .eq 61, 3) := by decide +kernel
theorem dX9_clashesBy_40 : decode cX9_clashesBy 40 = .ok (.aload_n 0, 1) := by decide +kernel
theorem dX9_clashesBy_41 : decode cX9_clashesBy 41 = .ok (.aload_n 0, 1) := by decide +kernel
theorem dX9_clashesBy_42 : decode cX9_clashesBy 42 = .ok (.getfield 32, 3) := by decide +kernel
theorem dX9_clashesBy_45 : decode cX9_clashesBy 45 = .ok (.iload_n 2, 1) := by decide +kernel
theorem dX9_clashesBy_46 : decode cX9_clashesBy 46 = .ok (.iaload, 1) := by decide +kernel
theorem dX9_clashesBy_47 : decode cX9_clashesBy 47 = .ok (.aload_n 0, 1) := by decide +kernel
theorem dX9_clashesBy_48 : decode cX9_clashesBy 48 = .ok (.getfield 32, 3) := by decide +kernel
theorem dX9_clashesBy_51 : decode cX9_clashesBy 51 = .ok (.iload_n 3, 1) := by decide +kernel
theorem dX9_clashesBy_52 : decode cX9_clashesBy 52 = .ok (.iaload, 1) := by decide +kernel
theorem dX9_clashesBy_53 : decode cX9_clashesBy 53 = .ok (.invokevirtual 349, 3) := by decide +kernel
theorem dX9_clashesBy_56 : decode cX9_clashesBy 56 = .ok (.ifCond .ne 6, 3) := by decide +kernel
theorem dX9_clashesBy_59 : decode cX9_clashesBy 59 = .ok (.goto 39, 3) := by decide +kernel
theorem dX9_clashesBy_62 : decode cX9_clashesBy 62 = .ok (.iload_n 1, 1) := by decide +kernel
theorem dX9_clashesBy_63 : decode cX9_clashesBy 63 = .ok (.aload_n 0, 1) := by decide +kernel
theorem dX9_clashesBy_64 : decode cX9_clashesBy 64 = .ok (.getfield 96, 3) := by decide +kernel
theorem dX9_clashesBy_67 : decode cX9_clashesBy 67 = .ok (.bipush 6, 2) := by decide +kernel
theorem dX9_clashesBy_69 : decode cX9_clashesBy 69 = .ok (.iload_n 2, 1) := by decide +kernel
theorem dX9_clashesBy_70 : decode cX9_clashesBy 70 = .ok (.imul, 1) := by decide +kernel
theorem dX9_clashesBy_71 : decode cX9_clashesBy 71 = .ok (.iload_n 3, 1) := by decide +kernel
theorem dX9_clashesBy_72 : decode cX9_clashesBy 72 = .ok (.iadd, 1) := by decide +kernel
theorem dX9_clashesBy_73 : decode cX9_clashesBy 73 = .ok (.iaload, 1) := by decide +kernel
theorem dX9_clashesBy_74 : decode cX9_clashesBy 74 = .ok (.ifCond .lt 17, 3) := by decide +kernel
theorem dX9_clashesBy_77 : decode cX9_clashesBy 77 = .ok (.aload_n 0, 1) := by decide +kernel
theorem dX9_clashesBy_78 : decode cX9_clashesBy 78 = .ok (.getfield 96, 3) := by decide +kernel
theorem dX9_clashesBy_81 : decode cX9_clashesBy 81 = .ok (.bipush 6, 2) := by decide +kernel
theorem dX9_clashesBy_83 : decode cX9_clashesBy 83 = .ok (.iload_n 3, 1) := by decide +kernel
theorem dX9_clashesBy_84 : decode cX9_clashesBy 84 = .ok (.imul, 1) := by decide +kernel
theorem dX9_clashesBy_85 : decode cX9_clashesBy 85 = .ok (.iload_n 2, 1) := by decide +kernel
theorem dX9_clashesBy_86 : decode cX9_clashesBy 86 = .ok (.iadd, 1) := by decide +kernel
theorem dX9_clashesBy_87 : decode cX9_clashesBy 87 = .ok (.iaload, 1) := by decide +kernel
theorem dX9_clashesBy_88 : decode cX9_clashesBy 88 = .ok (.ifCond .ge 7, 3) := by decide +kernel
theorem dX9_clashesBy_91 : decode cX9_clashesBy 91 = .ok (.iconst 1, 1) := by decide +kernel
theorem dX9_clashesBy_92 : decode cX9_clashesBy 92 = .ok (.goto 4, 3) := by decide +kernel
theorem dX9_clashesBy_95 : decode cX9_clashesBy 95 = .ok (.iconst 0, 1) := by decide +kernel
theorem dX9_clashesBy_96 : decode cX9_clashesBy 96 = .ok (.iadd, 1) := by decide +kernel
theorem dX9_clashesBy_97 : decode cX9_clashesBy 97 = .ok (.istore_n 1, 1) := by decide +kernel
theorem dX9_clashesBy_98 : decode cX9_clashesBy 98 = .ok (.iinc 3 1, 3) := by decide +kernel
theorem dX9_clashesBy_101 : decode cX9_clashesBy 101 = .ok (.goto (-85), 3) := by decide +kernel
theorem dX9_clashesBy_104 : decode cX9_clashesBy 104 = .ok (.iinc 2 1, 3) := by decide +kernel
theorem dX9_clashesBy_107 : decode cX9_clashesBy 107 = .ok (.goto (-103), 3) := by decide +kernel
theorem dX9_clashesBy_110 : decode cX9_clashesBy 110 = .ok (.iload_n 1, 1) := by decide +kernel
theorem dX9_clashesBy_111 : decode cX9_clashesBy 111 = .ok (.ireturn, 1) := by decide +kernel
theorem dX9_clashes_0 : decode cX9_clashes 0 = .ok (.aload_n 0, 1) := by decide +kernel
theorem dX9_clashes_1 : decode cX9_clashes 1 = .ok (.invokevirtual 358, 3) := by decide +kernel
theorem dX9_clashes_4 : decode cX9_clashes 4 = .ok (.aload_n 0, 1) := by decide +kernel
theorem dX9_clashes_5 : decode cX9_clashes 5 = .ok (.invokevirtual 367, 3) := by decide +kernel
theorem dX9_clashes_8 : decode cX9_clashes 8 = .ok (.ireturn, 1) := by decide +kernel
theorem dX9_of_0 : decode cX9_of 0 = .ok (.aload_n 0, 1) := by decide +kernel
theorem dX9_of_1 : decode cX9_of 1 = .ok (.iload_n 1, 1) := by decide +kernel
theorem dX9_of_2 : decode cX9_of 2 = .ok (.invokevirtual 260, 3) := by decide +kernel
theorem dX9_of_5 : decode cX9_of 5 = .ok (.ifCond .ne 7, 3) := by decide +kernel
theorem dX9_of_8 : decode cX9_of 8 = .ok (.sipush (-10001), 3) := by decide +kernel
theorem dX9_of_11 : decode cX9_of 11 = .ok (.ireturn, 1) := by decide +kernel
theorem dX9_of_12 : decode cX9_of 12 = .ok (.iload_n 2, 1) := by decide +kernel
theorem dX9_of_13 : decode cX9_of 13 = .ok (.tableswitch 123 0 7 #[47, 54, 61, 68, 86, 93, 111, 117], 47) := by decide +kernel
theorem dX9_of_60 : decode cX9_of 60 = .ok (.aload_n 0, 1) := by decide +kernel
theorem dX9_of_61 : decode cX9_of 61 = .ok (.getfield 25, 3) := by decide +kernel
theorem dX9_of_64 : decode cX9_of 64 = .ok (.iload_n 1, 1) := by decide +kernel
theorem dX9_of_65 : decode cX9_of 65 = .ok (.iaload, 1) := by decide +kernel
theorem dX9_of_66 : decode cX9_of 66 = .ok (.ireturn, 1) := by decide +kernel
theorem dX9_of_67 : decode cX9_of 67 = .ok (.aload_n 0, 1) := by decide +kernel
theorem dX9_of_68 : decode cX9_of 68 = .ok (.getfield 29, 3) := by decide +kernel
theorem dX9_of_71 : decode cX9_of 71 = .ok (.iload_n 1, 1) := by decide +kernel
theorem dX9_of_72 : decode cX9_of 72 = .ok (.iaload, 1) := by decide +kernel
theorem dX9_of_73 : decode cX9_of 73 = .ok (.ireturn, 1) := by decide +kernel
theorem dX9_of_74 : decode cX9_of 74 = .ok (.aload_n 0, 1) := by decide +kernel
theorem dX9_of_75 : decode cX9_of 75 = .ok (.getfield 32, 3) := by decide +kernel
theorem dX9_of_78 : decode cX9_of 78 = .ok (.iload_n 1, 1) := by decide +kernel
theorem dX9_of_79 : decode cX9_of 79 = .ok (.iaload, 1) := by decide +kernel
theorem dX9_of_80 : decode cX9_of 80 = .ok (.ireturn, 1) := by decide +kernel
theorem dX9_of_81 : decode cX9_of 81 = .ok (.aload_n 0, 1) := by decide +kernel
theorem dX9_of_82 : decode cX9_of 82 = .ok (.aload_n 0, 1) := by decide +kernel
theorem dX9_of_83 : decode cX9_of 83 = .ok (.getfield 16, 3) := by decide +kernel
theorem dX9_of_86 : decode cX9_of 86 = .ok (.iload_n 1, 1) := by decide +kernel
theorem dX9_of_87 : decode cX9_of 87 = .ok (.invokevirtual 248, 3) := by decide +kernel
theorem dX9_of_90 : decode cX9_of 90 = .ok (.ifCond .eq 7, 3) := by decide +kernel
theorem dX9_of_93 : decode cX9_of 93 = .ok (.iconst 1, 1) := by decide +kernel
theorem dX9_of_94 : decode cX9_of 94 = .ok (.goto 4, 3) := by decide +kernel
theorem dX9_of_97 : decode cX9_of 97 = .ok (.iconst 0, 1) := by decide +kernel
theorem dX9_of_98 : decode cX9_of 98 = .ok (.ireturn, 1) := by decide +kernel
theorem dX9_of_99 : decode cX9_of 99 = .ok (.aload_n 0, 1) := by decide +kernel
theorem dX9_of_100 : decode cX9_of 100 = .ok (.getfield 35, 3) := by decide +kernel
theorem dX9_of_103 : decode cX9_of 103 = .ok (.iload_n 1, 1) := by decide +kernel
theorem dX9_of_104 : decode cX9_of 104 = .ok (.iaload, 1) := by decide +kernel
theorem dX9_of_105 : decode cX9_of 105 = .ok (.ireturn, 1) := by decide +kernel
theorem dX9_of_106 : decode cX9_of 106 = .ok (.aload_n 0, 1) := by decide +kernel
theorem dX9_of_107 : decode cX9_of 107 = .ok (.aload_n 0, 1) := by decide +kernel
theorem dX9_of_108 : decode cX9_of 108 = .ok (.getfield 13, 3) := by decide +kernel
theorem dX9_of_111 : decode cX9_of 111 = .ok (.iload_n 1, 1) := by decide +kernel
theorem dX9_of_112 : decode cX9_of 112 = .ok (.invokevirtual 248, 3) := by decide +kernel
theorem dX9_of_115 : decode cX9_of 115 = .ok (.ifCond .eq 7, 3) := by decide +kernel
theorem dX9_of_118 : decode cX9_of 118 = .ok (.iconst 1, 1) := by decide +kernel
theorem dX9_of_119 : decode cX9_of 119 = .ok (.goto 4, 3) := by decide +kernel
theorem dX9_of_122 : decode cX9_of 122 = .ok (.iconst 0, 1) := by decide +kernel
theorem dX9_of_123 : decode cX9_of 123 = .ok (.ireturn, 1) := by decide +kernel
theorem dX9_of_124 : decode cX9_of 124 = .ok (.aload_n 0, 1) := by decide +kernel
theorem dX9_of_125 : decode cX9_of 125 = .ok (.iload_n 1, 1) := by decide +kernel
theorem dX9_of_126 : decode cX9_of 126 = .ok (.invokevirtual 352, 3) := by decide +kernel
theorem dX9_of_129 : decode cX9_of 129 = .ok (.ireturn, 1) := by decide +kernel
theorem dX9_of_130 : decode cX9_of 130 = .ok (.aload_n 0, 1) := by decide +kernel
theorem dX9_of_131 : decode cX9_of 131 = .ok (.iload_n 1, 1) := by decide +kernel
theorem dX9_of_132 : decode cX9_of 132 = .ok (.invokevirtual 275, 3) := by decide +kernel
theorem dX9_of_135 : decode cX9_of 135 = .ok (.ireturn, 1) := by decide +kernel
theorem dX9_of_136 : decode cX9_of 136 = .ok (.sipush (-10001), 3) := by decide +kernel
theorem dX9_of_139 : decode cX9_of 139 = .ok (.ireturn, 1) := by decide +kernel
theorem dX9_isDue_0 : decode cX9_isDue 0 = .ok (.aload_n 0, 1) := by decide +kernel
theorem dX9_isDue_1 : decode cX9_isDue 1 = .ok (.iload_n 1, 1) := by decide +kernel
theorem dX9_isDue_2 : decode cX9_isDue 2 = .ok (.invokevirtual 256, 3) := by decide +kernel
theorem dX9_isDue_5 : decode cX9_isDue 5 = .ok (.istore_n 2, 1) := by decide +kernel
theorem dX9_isDue_6 : decode cX9_isDue 6 = .ok (.iload_n 2, 1) := by decide +kernel
theorem dX9_isDue_7 : decode cX9_isDue 7 = .ok (.ifCond .lt 19, 3) := by decide +kernel
theorem dX9_isDue_10 : decode cX9_isDue 10 = .ok (.aload_n 0, 1) := by decide +kernel
theorem dX9_isDue_11 : decode cX9_isDue 11 = .ok (.aload_n 0, 1) := by decide +kernel
theorem dX9_isDue_12 : decode cX9_isDue 12 = .ok (.getfield 16, 3) := by decide +kernel
theorem dX9_isDue_15 : decode cX9_isDue 15 = .ok (.iload_n 2, 1) := by decide +kernel
theorem dX9_isDue_16 : decode cX9_isDue 16 = .ok (.invokevirtual 248, 3) := by decide +kernel
theorem dX9_isDue_19 : decode cX9_isDue 19 = .ok (.ifCond .eq 7, 3) := by decide +kernel
theorem dX9_isDue_22 : decode cX9_isDue 22 = .ok (.iconst 1, 1) := by decide +kernel
theorem dX9_isDue_23 : decode cX9_isDue 23 = .ok (.goto 4, 3) := by decide +kernel
theorem dX9_isDue_26 : decode cX9_isDue 26 = .ok (.iconst 0, 1) := by decide +kernel
theorem dX9_isDue_27 : decode cX9_isDue 27 = .ok (.ireturn, 1) := by decide +kernel
theorem dX9_isCovered_0 : decode cX9_isCovered 0 = .ok (.iconst 0, 1) := by decide +kernel
theorem dX9_isCovered_1 : decode cX9_isCovered 1 = .ok (.istore_n 3, 1) := by decide +kernel
theorem dX9_isCovered_2 : decode cX9_isCovered 2 = .ok (.iload_n 3, 1) := by decide +kernel
theorem dX9_isCovered_3 : decode cX9_isCovered 3 = .ok (.bipush 6, 2) := by decide +kernel
theorem dX9_isCovered_5 : decode cX9_isCovered 5 = .ok (.if_icmp .ge 40, 3) := by decide +kernel
theorem dX9_isCovered_8 : decode cX9_isCovered 8 = .ok (.aload_n 0, 1) := by decide +kernel
theorem dX9_isCovered_9 : decode cX9_isCovered 9 = .ok (.aload_n 0, 1) := by decide +kernel
theorem dX9_isCovered_10 : decode cX9_isCovered 10 = .ok (.getfield 19, 3) := by decide +kernel
theorem dX9_isCovered_13 : decode cX9_isCovered 13 = .ok (.iload_n 3, 1) := by decide +kernel
theorem dX9_isCovered_14 : decode cX9_isCovered 14 = .ok (.iadd, 1) := by decide +kernel
theorem dX9_isCovered_15 : decode cX9_isCovered 15 = .ok (.bipush 6, 2) := by decide +kernel
theorem dX9_isCovered_17 : decode cX9_isCovered 17 = .ok (.irem, 1) := by decide +kernel
theorem dX9_isCovered_18 : decode cX9_isCovered 18 = .ok (.invokevirtual 370, 3) := by decide +kernel
theorem dX9_isCovered_21 : decode cX9_isCovered 21 = .ok (.ifCond .eq 18, 3) := by decide +kernel
theorem dX9_isCovered_24 : decode cX9_isCovered 24 = .ok (.iload_n 3, 1) := by decide +kernel
theorem dX9_isCovered_25 : decode cX9_isCovered 25 = .ok (.iload_n 1, 1) := by decide +kernel
theorem dX9_isCovered_26 : decode cX9_isCovered 26 = .ok (.if_icmp .le 13, 3) := by decide +kernel
theorem dX9_isCovered_29 : decode cX9_isCovered 29 = .ok (.bipush 6, 2) := by decide +kernel
theorem dX9_isCovered_31 : decode cX9_isCovered 31 = .ok (.iload_n 3, 1) := by decide +kernel
theorem dX9_isCovered_32 : decode cX9_isCovered 32 = .ok (.isub, 1) := by decide +kernel
theorem dX9_isCovered_33 : decode cX9_isCovered 33 = .ok (.iload_n 2, 1) := by decide +kernel
theorem dX9_isCovered_34 : decode cX9_isCovered 34 = .ok (.if_icmp .le 5, 3) := by decide +kernel
theorem dX9_isCovered_37 : decode cX9_isCovered 37 = .ok (.iconst 0, 1) := by decide +kernel
theorem dX9_isCovered_38 : decode cX9_isCovered 38 = .ok (.ireturn, 1) := by decide +kernel
theorem dX9_isCovered_39 : decode cX9_isCovered 39 = .ok (.iinc 3 1, 3) := by decide +kernel
theorem dX9_isCovered_42 : decode cX9_isCovered 42 = .ok (.goto (-40), 3) := by decide +kernel
theorem dX9_isCovered_45 : decode cX9_isCovered 45 = .ok (.iconst 1, 1) := by decide +kernel
theorem dX9_isCovered_46 : decode cX9_isCovered 46 = .ok (.ireturn, 1) := by decide +kernel
theorem dX9_steps_0 : decode cX9_steps 0 = .ok (.bipush 99, 2) := by decide +kernel
theorem dX9_steps_2 : decode cX9_steps 2 = .ok (.istore_n 2, 1) := by decide +kernel
theorem dX9_steps_3 : decode cX9_steps 3 = .ok (.iconst 1, 1) := by decide +kernel
theorem dX9_steps_4 : decode cX9_steps 4 = .ok (.istore_n 3, 1) := by decide +kernel
theorem dX9_steps_5 : decode cX9_steps 5 = .ok (.iload_n 3, 1) := by decide +kernel
theorem dX9_steps_6 : decode cX9_steps 6 = .ok (.bipush 6, 2) := by decide +kernel
theorem dX9_steps_8 : decode cX9_steps 8 = .ok (.if_icmp .ge 85, 3) := by decide +kernel
theorem dX9_steps_11 : decode cX9_steps 11 = .ok (.iconst 0, 1) := by decide +kernel
theorem dX9_steps_12 : decode cX9_steps 12 = .ok (.istore 4, 2) := by decide +kernel
theorem dX9_steps_14 : decode cX9_steps 14 = .ok (.iload 4, 2) := by decide +kernel
theorem dX9_steps_16 : decode cX9_steps 16 = .ok (.bipush 6, 2) := by decide +kernel
theorem dX9_steps_18 : decode cX9_steps 18 = .ok (.if_icmp .ge 69, 3) := by decide +kernel
theorem dX9_steps_21 : decode cX9_steps 21 = .ok (.aload_n 0, 1) := by decide +kernel
theorem dX9_steps_22 : decode cX9_steps 22 = .ok (.iload_n 1, 1) := by decide +kernel
theorem dX9_steps_23 : decode cX9_steps 23 = .ok (.ifCond .eq 7, 3) := by decide +kernel
theorem dX9_steps_26 : decode cX9_steps 26 = .ok (.iload_n 3, 1) := by decide +kernel
theorem dX9_steps_27 : decode cX9_steps 27 = .ok (.goto 5, 3) := by decide +kernel
theorem dX9_steps_30 : decode cX9_steps 30 = .ok (.iload 4, 2) := by decide +kernel
theorem dX9_steps_32 : decode cX9_steps 32 = .ok (.iload_n 1, 1) := by decide +kernel
theorem dX9_steps_33 : decode cX9_steps 33 = .ok (.ifCond .eq 8, 3) := by decide +kernel
theorem dX9_steps_36 : decode cX9_steps 36 = .ok (.iload 4, 2) := by decide +kernel
theorem dX9_steps_38 : decode cX9_steps 38 = .ok (.goto 4, 3) := by decide +kernel
theorem dX9_steps_41 : decode cX9_steps 41 = .ok (.iload_n 3, 1) := by decide +kernel
theorem dX9_steps_42 : decode cX9_steps 42 = .ok (.invokevirtual 373, 3) := by decide +kernel
theorem dX9_steps_45 : decode cX9_steps 45 = .ok (.ifCond .ne 6, 3) := by decide +kernel
theorem dX9_steps_48 : decode cX9_steps 48 = .ok (.goto 33, 3) := by decide +kernel
theorem dX9_steps_51 : decode cX9_steps 51 = .ok (.iload 4, 2) := by decide +kernel
theorem dX9_steps_53 : decode cX9_steps 53 = .ok (.ifCond .ne 7, 3) := by decide +kernel
theorem dX9_steps_56 : decode cX9_steps 56 = .ok (.iload_n 3, 1) := by decide +kernel
theorem dX9_steps_57 : decode cX9_steps 57 = .ok (.goto 9, 3) := by decide +kernel
theorem dX9_steps_60 : decode cX9_steps 60 = .ok (.iconst 2, 1) := by decide +kernel
theorem dX9_steps_61 : decode cX9_steps 61 = .ok (.iload_n 3, 1) := by decide +kernel
theorem dX9_steps_62 : decode cX9_steps 62 = .ok (.imul, 1) := by decide +kernel
theorem dX9_steps_63 : decode cX9_steps 63 = .ok (.iload 4, 2) := by decide +kernel
theorem dX9_steps_65 : decode cX9_steps 65 = .ok (.iadd, 1) := by decide +kernel
theorem dX9_steps_66 : decode cX9_steps 66 = .ok (.istore 5, 2) := by decide +kernel
theorem dX9_steps_68 : decode cX9_steps 68 = .ok (.iload 5, 2) := by decide +kernel
theorem dX9_steps_70 : decode cX9_steps 70 = .ok (.iload_n 2, 1) := by decide +kernel
theorem dX9_steps_71 : decode cX9_steps 71 = .ok (.if_icmp .ge 8, 3) := by decide +kernel
theorem dX9_steps_74 : decode cX9_steps 74 = .ok (.iload 5, 2) := by decide +kernel
theorem dX9_steps_76 : decode cX9_steps 76 = .ok (.goto 4, 3) := by decide +kernel
theorem dX9_steps_79 : decode cX9_steps 79 = .ok (.iload_n 2, 1) := by decide +kernel
theorem dX9_steps_80 : decode cX9_steps 80 = .ok (.istore_n 2, 1) := by decide +kernel
theorem dX9_steps_81 : decode cX9_steps 81 = .ok (.iinc 4 1, 3) := by decide +kernel
theorem dX9_steps_84 : decode cX9_steps 84 = .ok (.goto (-70), 3) := by decide +kernel
theorem dX9_steps_87 : decode cX9_steps 87 = .ok (.iinc 3 1, 3) := by decide +kernel
theorem dX9_steps_90 : decode cX9_steps 90 = .ok (.goto (-85), 3) := by decide +kernel
theorem dX9_steps_93 : decode cX9_steps 93 = .ok (.iload_n 2, 1) := by decide +kernel
theorem dX9_steps_94 : decode cX9_steps 94 = .ok (.ireturn, 1) := by decide +kernel
theorem dX9_round_0 : decode cX9_round 0 = .ok (.aload_n 0, 1) := by decide +kernel
theorem dX9_round_1 : decode cX9_round 1 = .ok (.iconst 0, 1) := by decide +kernel
theorem dX9_round_2 : decode cX9_round 2 = .ok (.iconst 0, 1) := by decide +kernel
theorem dX9_round_3 : decode cX9_round 3 = .ok (.invokevirtual 373, 3) := by decide +kernel
theorem dX9_round_6 : decode cX9_round 6 = .ok (.ifCond .eq 7, 3) := by decide +kernel
theorem dX9_round_9 : decode cX9_round 9 = .ok (.iconst 0, 1) := by decide +kernel
theorem dX9_round_10 : decode cX9_round 10 = .ok (.goto 17, 3) := by decide +kernel
theorem dX9_round_13 : decode cX9_round 13 = .ok (.aload_n 0, 1) := by decide +kernel
theorem dX9_round_14 : decode cX9_round 14 = .ok (.aload_n 0, 1) := by decide +kernel
theorem dX9_round_15 : decode cX9_round 15 = .ok (.iconst 1, 1) := by decide +kernel
theorem dX9_round_16 : decode cX9_round 16 = .ok (.invokevirtual 376, 3) := by decide +kernel
theorem dX9_round_19 : decode cX9_round 19 = .ok (.aload_n 0, 1) := by decide +kernel
theorem dX9_round_20 : decode cX9_round 20 = .ok (.iconst 0, 1) := by decide +kernel
theorem dX9_round_21 : decode cX9_round 21 = .ok (.invokevirtual 376, 3) := by decide +kernel
theorem dX9_round_24 : decode cX9_round 24 = .ok (.invokevirtual 380, 3) := by decide +kernel
theorem dX9_round_27 : decode cX9_round 27 = .ok (.ireturn, 1) := by decide +kernel
theorem dX9_toward_0 : decode cX9_toward 0 = .ok (.aload_n 0, 1) := by decide +kernel
theorem dX9_toward_1 : decode cX9_toward 1 = .ok (.iconst 0, 1) := by decide +kernel
theorem dX9_toward_2 : decode cX9_toward 2 = .ok (.iconst 0, 1) := by decide +kernel
theorem dX9_toward_3 : decode cX9_toward 3 = .ok (.invokevirtual 373, 3) := by decide +kernel
theorem dX9_toward_6 : decode cX9_toward 6 = .ok (.ifCond .eq 7, 3) := by decide +kernel
theorem dX9_toward_9 : decode cX9_toward 9 = .ok (.iconst 0, 1) := by decide +kernel
theorem dX9_toward_10 : decode cX9_toward 10 = .ok (.goto 21, 3) := by decide +kernel
theorem dX9_toward_13 : decode cX9_toward 13 = .ok (.aload_n 0, 1) := by decide +kernel
theorem dX9_toward_14 : decode cX9_toward 14 = .ok (.iconst 1, 1) := by decide +kernel
theorem dX9_toward_15 : decode cX9_toward 15 = .ok (.invokevirtual 376, 3) := by decide +kernel
theorem dX9_toward_18 : decode cX9_toward 18 = .ok (.aload_n 0, 1) := by decide +kernel
theorem dX9_toward_19 : decode cX9_toward 19 = .ok (.iconst 0, 1) := by decide +kernel
theorem dX9_toward_20 : decode cX9_toward 20 = .ok (.invokevirtual 376, 3) := by decide +kernel
theorem dX9_toward_23 : decode cX9_toward 23 = .ok (.if_icmp .gt 7, 3) := by decide +kernel
theorem dX9_toward_26 : decode cX9_toward 26 = .ok (.iconst 1, 1) := by decide +kernel
theorem dX9_toward_27 : decode cX9_toward 27 = .ok (.goto 4, 3) := by decide +kernel
theorem dX9_toward_30 : decode cX9_toward 30 = .ok (.iconst 2, 1) := by decide +kernel
theorem dX9_toward_31 : decode cX9_toward 31 = .ok (.ireturn, 1) := by decide +kernel
theorem dX9_told_0 : decode cX9_told 0 = .ok (.aload_n 0, 1) := by decide +kernel
theorem dX9_told_1 : decode cX9_told 1 = .ok (.iload_n 1, 1) := by decide +kernel
theorem dX9_told_2 : decode cX9_told 2 = .ok (.bipush 10, 2) := by decide +kernel
theorem dX9_told_4 : decode cX9_told 4 = .ok (.bipush 15, 2) := by decide +kernel
theorem dX9_told_6 : decode cX9_told 6 = .ok (.invokevirtual 252, 3) := by decide +kernel
theorem dX9_told_9 : decode cX9_told 9 = .ok (.ifCond .eq 12, 3) := by decide +kernel
theorem dX9_told_12 : decode cX9_told 12 = .ok (.aload_n 0, 1) := by decide +kernel
theorem dX9_told_13 : decode cX9_told 13 = .ok (.iload_n 1, 1) := by decide +kernel
theorem dX9_told_14 : decode cX9_told 14 = .ok (.bipush 10, 2) := by decide +kernel
theorem dX9_told_16 : decode cX9_told 16 = .ok (.isub, 1) := by decide +kernel
theorem dX9_told_17 : decode cX9_told 17 = .ok (.invokevirtual 256, 3) := by decide +kernel
theorem dX9_told_20 : decode cX9_told 20 = .ok (.ireturn, 1) := by decide +kernel
theorem dX9_told_21 : decode cX9_told 21 = .ok (.iload_n 1, 1) := by decide +kernel
theorem dX9_told_22 : decode cX9_told 22 = .ok (.tableswitch 100 0 8 #[50, 55, 62, 70, 75, 80, 85, 90, 95], 50) := by decide +kernel
theorem dX9_told_72 : decode cX9_told 72 = .ok (.aload_n 0, 1) := by decide +kernel
theorem dX9_told_73 : decode cX9_told 73 = .ok (.getfield 22, 3) := by decide +kernel
theorem dX9_told_76 : decode cX9_told 76 = .ok (.ireturn, 1) := by decide +kernel
theorem dX9_told_77 : decode cX9_told 77 = .ok (.aload_n 0, 1) := by decide +kernel
theorem dX9_told_78 : decode cX9_told 78 = .ok (.iconst 2, 1) := by decide +kernel
theorem dX9_told_79 : decode cX9_told 79 = .ok (.iconst 5, 1) := by decide +kernel
theorem dX9_told_80 : decode cX9_told 80 = .ok (.invokevirtual 355, 3) := by decide +kernel
theorem dX9_told_83 : decode cX9_told 83 = .ok (.ireturn, 1) := by decide +kernel
theorem dX9_told_84 : decode cX9_told 84 = .ok (.aload_n 0, 1) := by decide +kernel
theorem dX9_told_85 : decode cX9_told 85 = .ok (.iconst 3, 1) := by decide +kernel
theorem dX9_told_86 : decode cX9_told 86 = .ok (.bipush 6, 2) := by decide +kernel
theorem dX9_told_88 : decode cX9_told 88 = .ok (.invokevirtual 355, 3) := by decide +kernel
theorem dX9_told_91 : decode cX9_told 91 = .ok (.ireturn, 1) := by decide +kernel
theorem dX9_told_92 : decode cX9_told 92 = .ok (.aload_n 0, 1) := by decide +kernel
theorem dX9_told_93 : decode cX9_told 93 = .ok (.getfield 19, 3) := by decide +kernel
theorem dX9_told_96 : decode cX9_told 96 = .ok (.ireturn, 1) := by decide +kernel
theorem dX9_told_97 : decode cX9_told 97 = .ok (.aload_n 0, 1) := by decide +kernel
theorem dX9_told_98 : decode cX9_told 98 = .ok (.getfield 16, 3) := by decide +kernel
theorem dX9_told_101 : decode cX9_told 101 = .ok (.ireturn, 1) := by decide +kernel
theorem dX9_told_102 : decode cX9_told 102 = .ok (.aload_n 0, 1) := by decide +kernel
theorem dX9_told_103 : decode cX9_told 103 = .ok (.invokevirtual 383, 3) := by decide +kernel
theorem dX9_told_106 : decode cX9_told 106 = .ok (.ireturn, 1) := by decide +kernel
theorem dX9_told_107 : decode cX9_told 107 = .ok (.aload_n 0, 1) := by decide +kernel
theorem dX9_told_108 : decode cX9_told 108 = .ok (.invokevirtual 386, 3) := by decide +kernel
theorem dX9_told_111 : decode cX9_told 111 = .ok (.ireturn, 1) := by decide +kernel
theorem dX9_told_112 : decode cX9_told 112 = .ok (.aload_n 0, 1) := by decide +kernel
theorem dX9_told_113 : decode cX9_told 113 = .ok (.invokevirtual 389, 3) := by decide +kernel
theorem dX9_told_116 : decode cX9_told 116 = .ok (.ireturn, 1) := by decide +kernel
theorem dX9_told_117 : decode cX9_told 117 = .ok (.aload_n 0, 1) := by decide +kernel
theorem dX9_told_118 : decode cX9_told 118 = .ok (.invokevirtual 392, 3) := by decide +kernel
theorem dX9_told_121 : decode cX9_told 121 = .ok (.ireturn, 1) := by decide +kernel
theorem dX9_told_122 : decode cX9_told 122 = .ok (.sipush (-10001), 3) := by decide +kernel
theorem dX9_told_125 : decode cX9_told 125 = .ok (.ireturn, 1) := by decide +kernel
theorem dX9_goYear_0 : decode cX9_goYear 0 = .ok (.aload_n 0, 1) := by decide +kernel
theorem dX9_goYear_1 : decode cX9_goYear 1 = .ok (.invokevirtual 358, 3) := by decide +kernel
theorem dX9_goYear_4 : decode cX9_goYear 4 = .ok (.iconst 0, 1) := by decide +kernel
theorem dX9_goYear_5 : decode cX9_goYear 5 = .ok (.istore_n 1, 1) := by decide +kernel
theorem dX9_goYear_6 : decode cX9_goYear 6 = .ok (.iconst 0, 1) := by decide +kernel
theorem dX9_goYear_7 : decode cX9_goYear 7 = .ok (.istore_n 2, 1) := by decide +kernel
theorem dX9_goYear_8 : decode cX9_goYear 8 = .ok (.iload_n 2, 1) := by decide +kernel
theorem dX9_goYear_9 : decode cX9_goYear 9 = .ok (.aload_n 0, 1) := by decide +kernel
theorem dX9_goYear_10 : decode cX9_goYear 10 = .ok (.getfield 7, 3) := by decide +kernel
theorem dX9_goYear_13 : decode cX9_goYear 13 = .ok (.if_icmp .ge 57, 3) := by decide +kernel
theorem dX9_goYear_16 : decode cX9_goYear 16 = .ok (.iload_n 1, 1) := by decide +kernel
theorem dX9_goYear_17 : decode cX9_goYear 17 = .ok (.aload_n 0, 1) := by decide +kernel
theorem dX9_goYear_18 : decode cX9_goYear 18 = .ok (.aload_n 0, 1) := by decide +kernel
theorem dX9_goYear_19 : decode cX9_goYear 19 = .ok (.getfield 13, 3) := by decide +kernel
theorem dX9_goYear_22 : decode cX9_goYear 22 = .ok (.iload_n 2, 1) := by decide +kernel
theorem dX9_goYear_23 : decode cX9_goYear 23 = .ok (.invokevirtual 248, 3) := by decide +kernel
theorem dX9_goYear_26 : decode cX9_goYear 26 = .ok (.ifCond .ne 35, 3) := by decide +kernel
theorem dX9_goYear_29 : decode cX9_goYear 29 = .ok (.aload_n 0, 1) := by decide +kernel
theorem dX9_goYear_30 : decode cX9_goYear 30 = .ok (.aload_n 0, 1) := by decide +kernel
theorem dX9_goYear_31 : decode cX9_goYear 31 = .ok (.getfield 16, 3) := by decide +kernel
theorem dX9_goYear_34 : decode cX9_goYear 34 = .ok (.iload_n 2, 1) := by decide +kernel
theorem dX9_goYear_35 : decode cX9_goYear 35 = .ok (.invokevirtual 248, 3) := by decide +kernel
theorem dX9_goYear_38 : decode cX9_goYear 38 = .ok (.ifCond .ne 23, 3) := by decide +kernel
theorem dX9_goYear_41 : decode cX9_goYear 41 = .ok (.aload_n 0, 1) := by decide +kernel
theorem dX9_goYear_42 : decode cX9_goYear 42 = .ok (.iload_n 2, 1) := by decide +kernel
theorem dX9_goYear_43 : decode cX9_goYear 43 = .ok (.invokevirtual 361, 3) := by decide +kernel
theorem dX9_goYear_46 : decode cX9_goYear 46 = .ok (.aload_n 0, 1) := by decide +kernel
theorem dX9_goYear_47 : decode cX9_goYear 47 = .ok (.iconst 2, 1) := by decide +kernel
theorem dX9_goYear_48 : decode cX9_goYear 48 = .ok (.iconst 5, 1) := by decide +kernel
theorem dX9_goYear_49 : decode cX9_goYear 49 = .ok (.invokevirtual 355, 3) := by decide +kernel
theorem dX9_goYear_52 : decode cX9_goYear 52 = .ok (.if_icmp .lt 9, 3) := by decide +kernel
theorem dX9_goYear_55 : decode cX9_goYear 55 = .ok (.iconst 1, 1) := by decide +kernel
theorem dX9_goYear_56 : decode cX9_goYear 56 = .ok (.iload_n 2, 1) := by decide +kernel
theorem dX9_goYear_57 : decode cX9_goYear 57 = .ok (.ishl, 1) := by decide +kernel
theorem dX9_goYear_58 : decode cX9_goYear 58 = .ok (.goto 4, 3) := by decide +kernel
theorem dX9_goYear_61 : decode cX9_goYear 61 = .ok (.iconst 0, 1) := by decide +kernel
theorem dX9_goYear_62 : decode cX9_goYear 62 = .ok (.ior, 1) := by decide +kernel
theorem dX9_goYear_63 : decode cX9_goYear 63 = .ok (.istore_n 1, 1) := by decide +kernel
theorem dX9_goYear_64 : decode cX9_goYear 64 = .ok (.iinc 2 1, 3) := by decide +kernel
theorem dX9_goYear_67 : decode cX9_goYear 67 = .ok (.goto (-59), 3) := by decide +kernel
theorem dX9_goYear_70 : decode cX9_goYear 70 = .ok (.iconst 0, 1) := by decide +kernel
theorem dX9_goYear_71 : decode cX9_goYear 71 = .ok (.istore_n 2, 1) := by decide +kernel
theorem dX9_goYear_72 : decode cX9_goYear 72 = .ok (.iload_n 2, 1) := by decide +kernel
theorem dX9_goYear_73 : decode cX9_goYear 73 = .ok (.aload_n 0, 1) := by decide +kernel
theorem dX9_goYear_74 : decode cX9_goYear 74 = .ok (.getfield 7, 3) := by decide +kernel
theorem dX9_goYear_77 : decode cX9_goYear 77 = .ok (.if_icmp .ge 40, 3) := by decide +kernel
theorem dX9_goYear_80 : decode cX9_goYear 80 = .ok (.aload_n 0, 1) := by decide +kernel
theorem dX9_goYear_81 : decode cX9_goYear 81 = .ok (.iload_n 1, 1) := by decide +kernel
theorem dX9_goYear_82 : decode cX9_goYear 82 = .ok (.iload_n 2, 1) := by decide +kernel
theorem dX9_goYear_83 : decode cX9_goYear 83 = .ok (.invokevirtual 248, 3) := by decide +kernel
theorem dX9_goYear_86 : decode cX9_goYear 86 = .ok (.ifCond .eq 25, 3) := by decide +kernel
theorem dX9_goYear_89 : decode cX9_goYear 89 = .ok (.aload_n 0, 1) := by decide +kernel
theorem dX9_goYear_90 : decode cX9_goYear 90 = .ok (.getfield 35, 3) := by decide +kernel
theorem dX9_goYear_93 : decode cX9_goYear 93 = .ok (.iload_n 2, 1) := by decide +kernel
theorem dX9_goYear_94 : decode cX9_goYear 94 = .ok (.aload_n 0, 1) := by decide +kernel
theorem dX9_goYear_95 : decode cX9_goYear 95 = .ok (.aload_n 0, 1) := by decide +kernel
theorem dX9_goYear_96 : decode cX9_goYear 96 = .ok (.getfield 35, 3) := by decide +kernel
theorem dX9_goYear_99 : decode cX9_goYear 99 = .ok (.iload_n 2, 1) := by decide +kernel
theorem dX9_goYear_100 : decode cX9_goYear 100 = .ok (.iaload, 1) := by decide +kernel
theorem dX9_goYear_101 : decode cX9_goYear 101 = .ok (.iconst 1, 1) := by decide +kernel
theorem dX9_goYear_102 : decode cX9_goYear 102 = .ok (.iadd, 1) := by decide +kernel
theorem dX9_goYear_103 : decode cX9_goYear 103 = .ok (.aload_n 0, 1) := by decide +kernel
theorem dX9_goYear_104 : decode cX9_goYear 104 = .ok (.getfield 99, 3) := by decide +kernel
theorem dX9_goYear_107 : decode cX9_goYear 107 = .ok (.invokevirtual 380, 3) := by decide +kernel
theorem dX9_goYear_110 : decode cX9_goYear 110 = .ok (.iastore, 1) := by decide +kernel
theorem dX9_goYear_111 : decode cX9_goYear 111 = .ok (.iinc 2 1, 3) := by decide +kernel
theorem dX9_goYear_114 : decode cX9_goYear 114 = .ok (.goto (-42), 3) := by decide +kernel
theorem dX9_goYear_117 : decode cX9_goYear 117 = .ok (.aload_n 0, 1) := by decide +kernel
theorem dX9_goYear_118 : decode cX9_goYear 118 = .ok (.dup, 1) := by decide +kernel
theorem dX9_goYear_119 : decode cX9_goYear 119 = .ok (.getfield 16, 3) := by decide +kernel
theorem dX9_goYear_122 : decode cX9_goYear 122 = .ok (.iload_n 1, 1) := by decide +kernel
theorem dX9_goYear_123 : decode cX9_goYear 123 = .ok (.ior, 1) := by decide +kernel
theorem dX9_goYear_124 : decode cX9_goYear 124 = .ok (.putfield 16, 3) := by decide +kernel
theorem dX9_goYear_127 : decode cX9_goYear 127 = .ok (.aload_n 0, 1) := by decide +kernel
theorem dX9_goYear_128 : decode cX9_goYear 128 = .ok (.dup, 1) := by decide +kernel
theorem dX9_goYear_129 : decode cX9_goYear 129 = .ok (.getfield 22, 3) := by decide +kernel
theorem dX9_goYear_132 : decode cX9_goYear 132 = .ok (.iconst 1, 1) := by decide +kernel
theorem dX9_goYear_133 : decode cX9_goYear 133 = .ok (.iadd, 1) := by decide +kernel
theorem dX9_goYear_134 : decode cX9_goYear 134 = .ok (.putfield 22, 3) := by decide +kernel
theorem dX9_goYear_137 : decode cX9_goYear 137 = .ok (.return_, 1) := by decide +kernel
theorem dX9_goYears_0 : decode cX9_goYears 0 = .ok (.iconst 0, 1) := by decide +kernel
theorem dX9_goYears_1 : decode cX9_goYears 1 = .ok (.istore_n 2, 1) := by decide +kernel
theorem dX9_goYears_2 : decode cX9_goYears 2 = .ok (.iload_n 2, 1) := by decide +kernel
theorem dX9_goYears_3 : decode cX9_goYears 3 = .ok (.iload_n 1, 1) := by decide +kernel
theorem dX9_goYears_4 : decode cX9_goYears 4 = .ok (.if_icmp .ge 13, 3) := by decide +kernel
theorem dX9_goYears_7 : decode cX9_goYears 7 = .ok (.aload_n 0, 1) := by decide +kernel
theorem dX9_goYears_8 : decode cX9_goYears 8 = .ok (.invokevirtual 395, 3) := by decide +kernel
theorem dX9_goYears_11 : decode cX9_goYears 11 = .ok (.iinc 2 1, 3) := by decide +kernel
theorem dX9_goYears_14 : decode cX9_goYears 14 = .ok (.goto (-12), 3) := by decide +kernel
theorem dX9_goYears_17 : decode cX9_goYears 17 = .ok (.return_, 1) := by decide +kernel
theorem dX9_pass_0 : decode cX9_pass 0 = .ok (.aload_n 0, 1) := by decide +kernel
theorem dX9_pass_1 : decode cX9_pass 1 = .ok (.iload_n 1, 1) := by decide +kernel
theorem dX9_pass_2 : decode cX9_pass 2 = .ok (.invokevirtual 398, 3) := by decide +kernel
theorem dX9_pass_5 : decode cX9_pass 5 = .ok (.ifCond .ne 6, 3) := by decide +kernel
theorem dX9_pass_8 : decode cX9_pass 8 = .ok (.bipush (-2), 2) := by decide +kernel
theorem dX9_pass_10 : decode cX9_pass 10 = .ok (.ireturn, 1) := by decide +kernel
theorem dX9_pass_11 : decode cX9_pass 11 = .ok (.aload_n 0, 1) := by decide +kernel
theorem dX9_pass_12 : decode cX9_pass 12 = .ok (.getfield 22, 3) := by decide +kernel
theorem dX9_pass_15 : decode cX9_pass 15 = .ok (.iload_n 1, 1) := by decide +kernel
theorem dX9_pass_16 : decode cX9_pass 16 = .ok (.iadd, 1) := by decide +kernel
theorem dX9_pass_17 : decode cX9_pass 17 = .ok (.sipush 9999, 3) := by decide +kernel
theorem dX9_pass_20 : decode cX9_pass 20 = .ok (.if_icmp .le 6, 3) := by decide +kernel
theorem dX9_pass_23 : decode cX9_pass 23 = .ok (.bipush (-3), 2) := by decide +kernel
theorem dX9_pass_25 : decode cX9_pass 25 = .ok (.ireturn, 1) := by decide +kernel
theorem dX9_pass_26 : decode cX9_pass 26 = .ok (.aload_n 0, 1) := by decide +kernel
theorem dX9_pass_27 : decode cX9_pass 27 = .ok (.iload_n 1, 1) := by decide +kernel
theorem dX9_pass_28 : decode cX9_pass 28 = .ok (.invokevirtual 401, 3) := by decide +kernel
theorem dX9_pass_31 : decode cX9_pass 31 = .ok (.aload_n 0, 1) := by decide +kernel
theorem dX9_pass_32 : decode cX9_pass 32 = .ok (.getfield 22, 3) := by decide +kernel
theorem dX9_pass_35 : decode cX9_pass 35 = .ok (.ireturn, 1) := by decide +kernel
theorem dX9_save_0 : decode cX9_save 0 = .ok (.aload_n 0, 1) := by decide +kernel
theorem dX9_save_1 : decode cX9_save 1 = .ok (.ldc_w 404, 3) := by decide +kernel
theorem dX9_save_4 : decode cX9_save 4 = .ok (.putfield 99, 3) := by decide +kernel
theorem dX9_save_7 : decode cX9_save 7 = .ok (.aload_n 0, 1) := by decide +kernel
theorem dX9_save_8 : decode cX9_save 8 = .ok (.aload_n 0, 1) := by decide +kernel
theorem dX9_save_9 : decode cX9_save 9 = .ok (.getfield 13, 3) := by decide +kernel
theorem dX9_save_12 : decode cX9_save 12 = .ok (.putfield 102, 3) := by decide +kernel
theorem dX9_save_15 : decode cX9_save 15 = .ok (.aload_n 0, 1) := by decide +kernel
theorem dX9_save_16 : decode cX9_save 16 = .ok (.aload_n 0, 1) := by decide +kernel
theorem dX9_save_17 : decode cX9_save 17 = .ok (.getfield 16, 3) := by decide +kernel
theorem dX9_save_20 : decode cX9_save 20 = .ok (.putfield 105, 3) := by decide +kernel
theorem dX9_save_23 : decode cX9_save 23 = .ok (.aload_n 0, 1) := by decide +kernel
theorem dX9_save_24 : decode cX9_save 24 = .ok (.aload_n 0, 1) := by decide +kernel
theorem dX9_save_25 : decode cX9_save 25 = .ok (.getfield 19, 3) := by decide +kernel
theorem dX9_save_28 : decode cX9_save 28 = .ok (.putfield 108, 3) := by decide +kernel
theorem dX9_save_31 : decode cX9_save 31 = .ok (.aload_n 0, 1) := by decide +kernel
theorem dX9_save_32 : decode cX9_save 32 = .ok (.aload_n 0, 1) := by decide +kernel
theorem dX9_save_33 : decode cX9_save 33 = .ok (.getfield 22, 3) := by decide +kernel
theorem dX9_save_36 : decode cX9_save 36 = .ok (.putfield 111, 3) := by decide +kernel
theorem dX9_save_39 : decode cX9_save 39 = .ok (.iconst 0, 1) := by decide +kernel
theorem dX9_save_40 : decode cX9_save 40 = .ok (.istore_n 1, 1) := by decide +kernel
theorem dX9_save_41 : decode cX9_save 41 = .ok (.iload_n 1, 1) := by decide +kernel
theorem dX9_save_42 : decode cX9_save 42 = .ok (.bipush 6, 2) := by decide +kernel
theorem dX9_save_44 : decode cX9_save 44 = .ok (.if_icmp .ge 33, 3) := by decide +kernel
theorem dX9_save_47 : decode cX9_save 47 = .ok (.aload_n 0, 1) := by decide +kernel
theorem dX9_save_48 : decode cX9_save 48 = .ok (.getfield 114, 3) := by decide +kernel
theorem dX9_save_51 : decode cX9_save 51 = .ok (.iload_n 1, 1) := by decide +kernel
theorem dX9_save_52 : decode cX9_save 52 = .ok (.aload_n 0, 1) := by decide +kernel
theorem dX9_save_53 : decode cX9_save 53 = .ok (.getfield 32, 3) := by decide +kernel
theorem dX9_save_56 : decode cX9_save 56 = .ok (.iload_n 1, 1) := by decide +kernel
theorem dX9_save_57 : decode cX9_save 57 = .ok (.iaload, 1) := by decide +kernel
theorem dX9_save_58 : decode cX9_save 58 = .ok (.iastore, 1) := by decide +kernel
theorem dX9_save_59 : decode cX9_save 59 = .ok (.aload_n 0, 1) := by decide +kernel
theorem dX9_save_60 : decode cX9_save 60 = .ok (.getfield 117, 3) := by decide +kernel
theorem dX9_save_63 : decode cX9_save 63 = .ok (.iload_n 1, 1) := by decide +kernel
theorem dX9_save_64 : decode cX9_save 64 = .ok (.aload_n 0, 1) := by decide +kernel
theorem dX9_save_65 : decode cX9_save 65 = .ok (.getfield 35, 3) := by decide +kernel
theorem dX9_save_68 : decode cX9_save 68 = .ok (.iload_n 1, 1) := by decide +kernel
theorem dX9_save_69 : decode cX9_save 69 = .ok (.iaload, 1) := by decide +kernel
theorem dX9_save_70 : decode cX9_save 70 = .ok (.iastore, 1) := by decide +kernel
theorem dX9_save_71 : decode cX9_save 71 = .ok (.iinc 1 1, 3) := by decide +kernel
theorem dX9_save_74 : decode cX9_save 74 = .ok (.goto (-33), 3) := by decide +kernel
theorem dX9_save_77 : decode cX9_save 77 = .ok (.return_, 1) := by decide +kernel
theorem dX9_putBack_0 : decode cX9_putBack 0 = .ok (.aload_n 0, 1) := by decide +kernel
theorem dX9_putBack_1 : decode cX9_putBack 1 = .ok (.sipush 9999, 3) := by decide +kernel
theorem dX9_putBack_4 : decode cX9_putBack 4 = .ok (.putfield 99, 3) := by decide +kernel
theorem dX9_putBack_7 : decode cX9_putBack 7 = .ok (.aload_n 0, 1) := by decide +kernel
theorem dX9_putBack_8 : decode cX9_putBack 8 = .ok (.aload_n 0, 1) := by decide +kernel
theorem dX9_putBack_9 : decode cX9_putBack 9 = .ok (.getfield 102, 3) := by decide +kernel
theorem dX9_putBack_12 : decode cX9_putBack 12 = .ok (.putfield 13, 3) := by decide +kernel
theorem dX9_putBack_15 : decode cX9_putBack 15 = .ok (.aload_n 0, 1) := by decide +kernel
theorem dX9_putBack_16 : decode cX9_putBack 16 = .ok (.aload_n 0, 1) := by decide +kernel
theorem dX9_putBack_17 : decode cX9_putBack 17 = .ok (.getfield 105, 3) := by decide +kernel
theorem dX9_putBack_20 : decode cX9_putBack 20 = .ok (.putfield 16, 3) := by decide +kernel
theorem dX9_putBack_23 : decode cX9_putBack 23 = .ok (.aload_n 0, 1) := by decide +kernel
theorem dX9_putBack_24 : decode cX9_putBack 24 = .ok (.aload_n 0, 1) := by decide +kernel
theorem dX9_putBack_25 : decode cX9_putBack 25 = .ok (.getfield 108, 3) := by decide +kernel
theorem dX9_putBack_28 : decode cX9_putBack 28 = .ok (.putfield 19, 3) := by decide +kernel
theorem dX9_putBack_31 : decode cX9_putBack 31 = .ok (.aload_n 0, 1) := by decide +kernel
theorem dX9_putBack_32 : decode cX9_putBack 32 = .ok (.aload_n 0, 1) := by decide +kernel
theorem dX9_putBack_33 : decode cX9_putBack 33 = .ok (.getfield 111, 3) := by decide +kernel
theorem dX9_putBack_36 : decode cX9_putBack 36 = .ok (.putfield 22, 3) := by decide +kernel
theorem dX9_putBack_39 : decode cX9_putBack 39 = .ok (.iconst 0, 1) := by decide +kernel
theorem dX9_putBack_40 : decode cX9_putBack 40 = .ok (.istore_n 1, 1) := by decide +kernel
theorem dX9_putBack_41 : decode cX9_putBack 41 = .ok (.iload_n 1, 1) := by decide +kernel
theorem dX9_putBack_42 : decode cX9_putBack 42 = .ok (.bipush 6, 2) := by decide +kernel
theorem dX9_putBack_44 : decode cX9_putBack 44 = .ok (.if_icmp .ge 33, 3) := by decide +kernel
theorem dX9_putBack_47 : decode cX9_putBack 47 = .ok (.aload_n 0, 1) := by decide +kernel
theorem dX9_putBack_48 : decode cX9_putBack 48 = .ok (.getfield 32, 3) := by decide +kernel
theorem dX9_putBack_51 : decode cX9_putBack 51 = .ok (.iload_n 1, 1) := by decide +kernel
theorem dX9_putBack_52 : decode cX9_putBack 52 = .ok (.aload_n 0, 1) := by decide +kernel
theorem dX9_putBack_53 : decode cX9_putBack 53 = .ok (.getfield 114, 3) := by decide +kernel
theorem dX9_putBack_56 : decode cX9_putBack 56 = .ok (.iload_n 1, 1) := by decide +kernel
theorem dX9_putBack_57 : decode cX9_putBack 57 = .ok (.iaload, 1) := by decide +kernel
theorem dX9_putBack_58 : decode cX9_putBack 58 = .ok (.iastore, 1) := by decide +kernel
theorem dX9_putBack_59 : decode cX9_putBack 59 = .ok (.aload_n 0, 1) := by decide +kernel
theorem dX9_putBack_60 : decode cX9_putBack 60 = .ok (.getfield 35, 3) := by decide +kernel
theorem dX9_putBack_63 : decode cX9_putBack 63 = .ok (.iload_n 1, 1) := by decide +kernel
theorem dX9_putBack_64 : decode cX9_putBack 64 = .ok (.aload_n 0, 1) := by decide +kernel
theorem dX9_putBack_65 : decode cX9_putBack 65 = .ok (.getfield 117, 3) := by decide +kernel
theorem dX9_putBack_68 : decode cX9_putBack 68 = .ok (.iload_n 1, 1) := by decide +kernel
theorem dX9_putBack_69 : decode cX9_putBack 69 = .ok (.iaload, 1) := by decide +kernel
theorem dX9_putBack_70 : decode cX9_putBack 70 = .ok (.iastore, 1) := by decide +kernel
theorem dX9_putBack_71 : decode cX9_putBack 71 = .ok (.iinc 1 1, 3) := by decide +kernel
theorem dX9_putBack_74 : decode cX9_putBack 74 = .ok (.goto (-33), 3) := by decide +kernel
theorem dX9_putBack_77 : decode cX9_putBack 77 = .ok (.return_, 1) := by decide +kernel
theorem dX9_usesMore_0 : decode cX9_usesMore 0 = .ok (.iconst 0, 1) := by decide +kernel
theorem dX9_usesMore_1 : decode cX9_usesMore 1 = .ok (.istore_n 1, 1) := by decide +kernel
theorem dX9_usesMore_2 : decode cX9_usesMore 2 = .ok (.iconst 0, 1) := by decide +kernel
theorem dX9_usesMore_3 : decode cX9_usesMore 3 = .ok (.istore_n 2, 1) := by decide +kernel
theorem dX9_usesMore_4 : decode cX9_usesMore 4 = .ok (.iload_n 2, 1) := by decide +kernel
theorem dX9_usesMore_5 : decode cX9_usesMore 5 = .ok (.aload_n 0, 1) := by decide +kernel
theorem dX9_usesMore_6 : decode cX9_usesMore 6 = .ok (.getfield 7, 3) := by decide +kernel
theorem dX9_usesMore_9 : decode cX9_usesMore 9 = .ok (.if_icmp .ge 25, 3) := by decide +kernel
theorem dX9_usesMore_12 : decode cX9_usesMore 12 = .ok (.iload_n 1, 1) := by decide +kernel
theorem dX9_usesMore_13 : decode cX9_usesMore 13 = .ok (.aload_n 0, 1) := by decide +kernel
theorem dX9_usesMore_14 : decode cX9_usesMore 14 = .ok (.getfield 35, 3) := by decide +kernel
theorem dX9_usesMore_17 : decode cX9_usesMore 17 = .ok (.iload_n 2, 1) := by decide +kernel
theorem dX9_usesMore_18 : decode cX9_usesMore 18 = .ok (.iaload, 1) := by decide +kernel
theorem dX9_usesMore_19 : decode cX9_usesMore 19 = .ok (.aload_n 0, 1) := by decide +kernel
theorem dX9_usesMore_20 : decode cX9_usesMore 20 = .ok (.getfield 117, 3) := by decide +kernel
theorem dX9_usesMore_23 : decode cX9_usesMore 23 = .ok (.iload_n 2, 1) := by decide +kernel
theorem dX9_usesMore_24 : decode cX9_usesMore 24 = .ok (.iaload, 1) := by decide +kernel
theorem dX9_usesMore_25 : decode cX9_usesMore 25 = .ok (.isub, 1) := by decide +kernel
theorem dX9_usesMore_26 : decode cX9_usesMore 26 = .ok (.iadd, 1) := by decide +kernel
theorem dX9_usesMore_27 : decode cX9_usesMore 27 = .ok (.istore_n 1, 1) := by decide +kernel
theorem dX9_usesMore_28 : decode cX9_usesMore 28 = .ok (.iinc 2 1, 3) := by decide +kernel
theorem dX9_usesMore_31 : decode cX9_usesMore 31 = .ok (.goto (-27), 3) := by decide +kernel
theorem dX9_usesMore_34 : decode cX9_usesMore 34 = .ok (.iload_n 1, 1) := by decide +kernel
theorem dX9_usesMore_35 : decode cX9_usesMore 35 = .ok (.ireturn, 1) := by decide +kernel
theorem dX9_on_0 : decode cX9_on 0 = .ok (.aload_n 0, 1) := by decide +kernel
theorem dX9_on_1 : decode cX9_on 1 = .ok (.iload_n 2, 1) := by decide +kernel
theorem dX9_on_2 : decode cX9_on 2 = .ok (.iconst 0, 1) := by decide +kernel
theorem dX9_on_3 : decode cX9_on 3 = .ok (.iconst 1, 1) := by decide +kernel
theorem dX9_on_4 : decode cX9_on 4 = .ok (.invokevirtual 252, 3) := by decide +kernel
theorem dX9_on_7 : decode cX9_on 7 = .ok (.ifCond .ne 24, 3) := by decide +kernel
theorem dX9_on_10 : decode cX9_on 10 = .ok (.aload_n 0, 1) := by decide +kernel
theorem dX9_on_11 : decode cX9_on 11 = .ok (.iload_n 2, 1) := by decide +kernel
theorem dX9_on_12 : decode cX9_on 12 = .ok (.bipush 10, 2) := by decide +kernel
theorem dX9_on_14 : decode cX9_on 14 = .ok (.bipush 9, 2) := by decide +kernel
theorem dX9_on_16 : decode cX9_on 16 = .ok (.aload_n 0, 1) := by decide +kernel
theorem dX9_on_17 : decode cX9_on 17 = .ok (.getfield 7, 3) := by decide +kernel
theorem dX9_on_20 : decode cX9_on 20 = .ok (.iadd, 1) := by decide +kernel
theorem dX9_on_21 : decode cX9_on 21 = .ok (.invokevirtual 252, 3) := by decide +kernel
theorem dX9_on_24 : decode cX9_on 24 = .ok (.ifCond .ne 7, 3) := by decide +kernel
theorem dX9_on_27 : decode cX9_on 27 = .ok (.sipush (-10001), 3) := by decide +kernel
theorem dX9_on_30 : decode cX9_on 30 = .ok (.ireturn, 1) := by decide +kernel
theorem dX9_on_31 : decode cX9_on 31 = .ok (.aload_n 0, 1) := by decide +kernel
theorem dX9_on_32 : decode cX9_on 32 = .ok (.iload_n 1, 1) := by decide +kernel
theorem dX9_on_33 : decode cX9_on 33 = .ok (.invokevirtual 398, 3) := by decide +kernel
theorem dX9_on_36 : decode cX9_on 36 = .ok (.ifCond .ne 7, 3) := by decide +kernel
theorem dX9_on_39 : decode cX9_on 39 = .ok (.sipush (-10002), 3) := by decide +kernel
theorem dX9_on_42 : decode cX9_on 42 = .ok (.ireturn, 1) := by decide +kernel
theorem dX9_on_43 : decode cX9_on 43 = .ok (.aload_n 0, 1) := by decide +kernel
theorem dX9_on_44 : decode cX9_on 44 = .ok (.invokevirtual 405, 3) := by decide +kernel
theorem dX9_on_47 : decode cX9_on 47 = .ok (.aload_n 0, 1) := by decide +kernel
theorem dX9_on_48 : decode cX9_on 48 = .ok (.iload_n 1, 1) := by decide +kernel
theorem dX9_on_49 : decode cX9_on 49 = .ok (.invokevirtual 401, 3) := by decide +kernel
theorem dX9_on_52 : decode cX9_on 52 = .ok (.iload_n 2, 1) := by decide +kernel
theorem dX9_on_53 : decode cX9_on 53 = .ok (.ifCond .ne 10, 3) := by decide +kernel
theorem dX9_on_56 : decode cX9_on 56 = .ok (.aload_n 0, 1) := by decide +kernel
theorem dX9_on_57 : decode cX9_on 57 = .ok (.getfield 16, 3) := by decide +kernel
theorem dX9_on_60 : decode cX9_on 60 = .ok (.goto 23, 3) := by decide +kernel
theorem dX9_on_63 : decode cX9_on 63 = .ok (.iload_n 2, 1) := by decide +kernel
theorem dX9_on_64 : decode cX9_on 64 = .ok (.iconst 1, 1) := by decide +kernel
theorem dX9_on_65 : decode cX9_on 65 = .ok (.if_icmp .ne 10, 3) := by decide +kernel
theorem dX9_on_68 : decode cX9_on 68 = .ok (.aload_n 0, 1) := by decide +kernel
theorem dX9_on_69 : decode cX9_on 69 = .ok (.invokevirtual 408, 3) := by decide +kernel
theorem dX9_on_72 : decode cX9_on 72 = .ok (.goto 11, 3) := by decide +kernel
theorem dX9_on_75 : decode cX9_on 75 = .ok (.aload_n 0, 1) := by decide +kernel
theorem dX9_on_76 : decode cX9_on 76 = .ok (.iload_n 2, 1) := by decide +kernel
theorem dX9_on_77 : decode cX9_on 77 = .ok (.bipush 10, 2) := by decide +kernel
theorem dX9_on_79 : decode cX9_on 79 = .ok (.isub, 1) := by decide +kernel
theorem dX9_on_80 : decode cX9_on 80 = .ok (.invokevirtual 275, 3) := by decide +kernel
theorem dX9_on_83 : decode cX9_on 83 = .ok (.istore_n 3, 1) := by decide +kernel
theorem dX9_on_84 : decode cX9_on 84 = .ok (.aload_n 0, 1) := by decide +kernel
theorem dX9_on_85 : decode cX9_on 85 = .ok (.invokevirtual 411, 3) := by decide +kernel
theorem dX9_on_88 : decode cX9_on 88 = .ok (.iload_n 3, 1) := by decide +kernel
theorem dX9_on_89 : decode cX9_on 89 = .ok (.ireturn, 1) := by decide +kernel
theorem dX9_soon_0 : decode cX9_soon 0 = .ok (.aload_n 0, 1) := by decide +kernel
theorem dX9_soon_1 : decode cX9_soon 1 = .ok (.iload_n 1, 1) := by decide +kernel
theorem dX9_soon_2 : decode cX9_soon 2 = .ok (.iconst 0, 1) := by decide +kernel
theorem dX9_soon_3 : decode cX9_soon 3 = .ok (.bipush 6, 2) := by decide +kernel
theorem dX9_soon_5 : decode cX9_soon 5 = .ok (.invokevirtual 252, 3) := by decide +kernel
theorem dX9_soon_8 : decode cX9_soon 8 = .ok (.ifCond .ne 6, 3) := by decide +kernel
theorem dX9_soon_11 : decode cX9_soon 11 = .ok (.bipush (-2), 2) := by decide +kernel
theorem dX9_soon_13 : decode cX9_soon 13 = .ok (.ireturn, 1) := by decide +kernel
theorem dX9_soon_14 : decode cX9_soon 14 = .ok (.aload_n 0, 1) := by decide +kernel
theorem dX9_soon_15 : decode cX9_soon 15 = .ok (.invokevirtual 405, 3) := by decide +kernel
theorem dX9_soon_18 : decode cX9_soon 18 = .ok (.iconst 0, 1) := by decide +kernel
theorem dX9_soon_19 : decode cX9_soon 19 = .ok (.istore_n 2, 1) := by decide +kernel
theorem dX9_soon_20 : decode cX9_soon 20 = .ok (.iload_n 2, 1) := by decide +kernel
theorem dX9_soon_21 : decode cX9_soon 21 = .ok (.bipush 61, 2) := by decide +kernel
theorem dX9_soon_23 : decode cX9_soon 23 = .ok (.if_icmp .ge 25, 3) := by decide +kernel
theorem dX9_soon_26 : decode cX9_soon 26 = .ok (.aload_n 0, 1) := by decide +kernel
theorem dX9_soon_27 : decode cX9_soon 27 = .ok (.aload_n 0, 1) := by decide +kernel
theorem dX9_soon_28 : decode cX9_soon 28 = .ok (.getfield 16, 3) := by decide +kernel
theorem dX9_soon_31 : decode cX9_soon 31 = .ok (.invokevirtual 282, 3) := by decide +kernel
theorem dX9_soon_34 : decode cX9_soon 34 = .ok (.iload_n 1, 1) := by decide +kernel
theorem dX9_soon_35 : decode cX9_soon 35 = .ok (.if_icmp .ge 13, 3) := by decide +kernel
theorem dX9_soon_38 : decode cX9_soon 38 = .ok (.aload_n 0, 1) := by decide +kernel
theorem dX9_soon_39 : decode cX9_soon 39 = .ok (.invokevirtual 395, 3) := by decide +kernel
theorem dX9_soon_42 : decode cX9_soon 42 = .ok (.iinc 2 1, 3) := by decide +kernel
theorem dX9_soon_45 : decode cX9_soon 45 = .ok (.goto (-25), 3) := by decide +kernel
theorem dX9_soon_48 : decode cX9_soon 48 = .ok (.aload_n 0, 1) := by decide +kernel
theorem dX9_soon_49 : decode cX9_soon 49 = .ok (.invokevirtual 411, 3) := by decide +kernel
theorem dX9_soon_52 : decode cX9_soon 52 = .ok (.iload_n 2, 1) := by decide +kernel
theorem dX9_soon_53 : decode cX9_soon 53 = .ok (.bipush 61, 2) := by decide +kernel
theorem dX9_soon_55 : decode cX9_soon 55 = .ok (.if_icmp .ge 7, 3) := by decide +kernel
theorem dX9_soon_58 : decode cX9_soon 58 = .ok (.iload_n 2, 1) := by decide +kernel
theorem dX9_soon_59 : decode cX9_soon 59 = .ok (.goto 5, 3) := by decide +kernel
theorem dX9_soon_62 : decode cX9_soon 62 = .ok (.bipush (-5), 2) := by decide +kernel
theorem dX9_soon_64 : decode cX9_soon 64 = .ok (.ireturn, 1) := by decide +kernel
theorem dX9_layPlacing_0 : decode cX9_layPlacing 0 = .ok (.iload_n 1, 1) := by decide +kernel
theorem dX9_layPlacing_1 : decode cX9_layPlacing 1 = .ok (.istore_n 2, 1) := by decide +kernel
theorem dX9_layPlacing_2 : decode cX9_layPlacing 2 = .ok (.iconst 0, 1) := by decide +kernel
theorem dX9_layPlacing_3 : decode cX9_layPlacing 3 = .ok (.istore_n 3, 1) := by decide +kernel
theorem dX9_layPlacing_4 : decode cX9_layPlacing 4 = .ok (.aload_n 0, 1) := by decide +kernel
theorem dX9_layPlacing_5 : decode cX9_layPlacing 5 = .ok (.getfield 7, 3) := by decide +kernel
theorem dX9_layPlacing_8 : decode cX9_layPlacing 8 = .ok (.iconst 1, 1) := by decide +kernel
theorem dX9_layPlacing_9 : decode cX9_layPlacing 9 = .ok (.isub, 1) := by decide +kernel
theorem dX9_layPlacing_10 : decode cX9_layPlacing 10 = .ok (.istore 4, 2) := by decide +kernel
theorem dX9_layPlacing_12 : decode cX9_layPlacing 12 = .ok (.iload 4, 2) := by decide +kernel
theorem dX9_layPlacing_14 : decode cX9_layPlacing 14 = .ok (.ifCond .lt 54, 3) := by decide +kernel
theorem dX9_layPlacing_17 : decode cX9_layPlacing 17 = .ok (.aload_n 0, 1) := by decide +kernel
theorem dX9_layPlacing_18 : decode cX9_layPlacing 18 = .ok (.getfield 32, 3) := by decide +kernel
theorem dX9_layPlacing_21 : decode cX9_layPlacing 21 = .ok (.iload 4, 2) := by decide +kernel
theorem dX9_layPlacing_23 : decode cX9_layPlacing 23 = .ok (.iload_n 2, 1) := by decide +kernel
theorem dX9_layPlacing_24 : decode cX9_layPlacing 24 = .ok (.bipush 6, 2) := by decide +kernel
theorem dX9_layPlacing_26 : decode cX9_layPlacing 26 = .ok (.irem, 1) := by decide +kernel
theorem dX9_layPlacing_27 : decode cX9_layPlacing 27 = .ok (.iastore, 1) := by decide +kernel
theorem dX9_layPlacing_28 : decode cX9_layPlacing 28 = .ok (.iload_n 2, 1) := by decide +kernel
theorem dX9_layPlacing_29 : decode cX9_layPlacing 29 = .ok (.bipush 6, 2) := by decide +kernel
theorem dX9_layPlacing_31 : decode cX9_layPlacing 31 = .ok (.idiv, 1) := by decide +kernel
theorem dX9_layPlacing_32 : decode cX9_layPlacing 32 = .ok (.istore_n 2, 1) := by decide +kernel
theorem dX9_layPlacing_33 : decode cX9_layPlacing 33 = .ok (.aload_n 0, 1) := by decide +kernel
theorem dX9_layPlacing_34 : decode cX9_layPlacing 34 = .ok (.iload_n 3, 1) := by decide +kernel
theorem dX9_layPlacing_35 : decode cX9_layPlacing 35 = .ok (.aload_n 0, 1) := by decide +kernel
theorem dX9_layPlacing_36 : decode cX9_layPlacing 36 = .ok (.getfield 32, 3) := by decide +kernel
theorem dX9_layPlacing_39 : decode cX9_layPlacing 39 = .ok (.iload 4, 2) := by decide +kernel
theorem dX9_layPlacing_41 : decode cX9_layPlacing 41 = .ok (.iaload, 1) := by decide +kernel
theorem dX9_layPlacing_42 : decode cX9_layPlacing 42 = .ok (.invokevirtual 248, 3) := by decide +kernel
theorem dX9_layPlacing_45 : decode cX9_layPlacing 45 = .ok (.ifCond .eq 5, 3) := by decide +kernel
theorem dX9_layPlacing_48 : decode cX9_layPlacing 48 = .ok (.iconst 0, 1) := by decide +kernel
theorem dX9_layPlacing_49 : decode cX9_layPlacing 49 = .ok (.ireturn, 1) := by decide +kernel
theorem dX9_layPlacing_50 : decode cX9_layPlacing 50 = .ok (.iload_n 3, 1) := by decide +kernel
theorem dX9_layPlacing_51 : decode cX9_layPlacing 51 = .ok (.iconst 1, 1) := by decide +kernel
theorem dX9_layPlacing_52 : decode cX9_layPlacing 52 = .ok (.aload_n 0, 1) := by decide +kernel
theorem dX9_layPlacing_53 : decode cX9_layPlacing 53 = .ok (.getfield 32, 3) := by decide +kernel
theorem dX9_layPlacing_56 : decode cX9_layPlacing 56 = .ok (.iload 4, 2) := by decide +kernel
theorem dX9_layPlacing_58 : decode cX9_layPlacing 58 = .ok (.iaload, 1) := by decide +kernel
theorem dX9_layPlacing_59 : decode cX9_layPlacing 59 = .ok (.ishl, 1) := by decide +kernel
theorem dX9_layPlacing_60 : decode cX9_layPlacing 60 = .ok (.ior, 1) := by decide +kernel
theorem dX9_layPlacing_61 : decode cX9_layPlacing 61 = .ok (.istore_n 3, 1) := by decide +kernel
theorem dX9_layPlacing_62 : decode cX9_layPlacing 62 = .ok (.iinc 4 (-1), 3) := by decide +kernel
theorem dX9_layPlacing_65 : decode cX9_layPlacing 65 = .ok (.goto (-53), 3) := by decide +kernel
theorem dX9_layPlacing_68 : decode cX9_layPlacing 68 = .ok (.iconst 1, 1) := by decide +kernel
theorem dX9_layPlacing_69 : decode cX9_layPlacing 69 = .ok (.ireturn, 1) := by decide +kernel
theorem dX9_layBest_0 : decode cX9_layBest 0 = .ok (.aload_n 0, 1) := by decide +kernel
theorem dX9_layBest_1 : decode cX9_layBest 1 = .ok (.invokevirtual 405, 3) := by decide +kernel
theorem dX9_layBest_4 : decode cX9_layBest 4 = .ok (.aload_n 0, 1) := by decide +kernel
theorem dX9_layBest_5 : decode cX9_layBest 5 = .ok (.invokevirtual 358, 3) := by decide +kernel
theorem dX9_layBest_8 : decode cX9_layBest 8 = .ok (.iconst 1, 1) := by decide +kernel
theorem dX9_layBest_9 : decode cX9_layBest 9 = .ok (.istore_n 2, 1) := by decide +kernel
theorem dX9_layBest_10 : decode cX9_layBest 10 = .ok (.iconst 0, 1) := by decide +kernel
theorem dX9_layBest_11 : decode cX9_layBest 11 = .ok (.istore_n 3, 1) := by decide +kernel
theorem dX9_layBest_12 : decode cX9_layBest 12 = .ok (.iload_n 3, 1) := by decide +kernel
theorem dX9_layBest_13 : decode cX9_layBest 13 = .ok (.aload_n 0, 1) := by decide +kernel
theorem dX9_layBest_14 : decode cX9_layBest 14 = .ok (.getfield 7, 3) := by decide +kernel
theorem dX9_layBest_17 : decode cX9_layBest 17 = .ok (.if_icmp .ge 14, 3) := by decide +kernel
theorem dX9_layBest_20 : decode cX9_layBest 20 = .ok (.iload_n 2, 1) := by decide +kernel
theorem dX9_layBest_21 : decode cX9_layBest 21 = .ok (.bipush 6, 2) := by decide +kernel
theorem dX9_layBest_23 : decode cX9_layBest 23 = .ok (.imul, 1) := by decide +kernel
theorem dX9_layBest_24 : decode cX9_layBest 24 = .ok (.istore_n 2, 1) := by decide +kernel
theorem dX9_layBest_25 : decode cX9_layBest 25 = .ok (.iinc 3 1, 3) := by decide +kernel
theorem dX9_layBest_28 : decode cX9_layBest 28 = .ok (.goto (-16), 3) := by decide +kernel
theorem dX9_layBest_31 : decode cX9_layBest 31 = .ok (.iconst 0, 1) := by decide +kernel
theorem dX9_layBest_32 : decode cX9_layBest 32 = .ok (.istore_n 3, 1) := by decide +kernel
theorem dX9_layBest_33 : decode cX9_layBest 33 = .ok (.iconst 0, 1) := by decide +kernel
theorem dX9_layBest_34 : decode cX9_layBest 34 = .ok (.istore 4, 2) := by decide +kernel
theorem dX9_layBest_36 : decode cX9_layBest 36 = .ok (.iload 4, 2) := by decide +kernel
theorem dX9_layBest_38 : decode cX9_layBest 38 = .ok (.iload_n 2, 1) := by decide +kernel
theorem dX9_layBest_39 : decode cX9_layBest 39 = .ok (.if_icmp .ge 119, 3) := by decide +kernel
theorem dX9_layBest_42 : decode cX9_layBest 42 = .ok (.aload_n 0, 1) := by decide +kernel
theorem dX9_layBest_43 : decode cX9_layBest 43 = .ok (.iload 4, 2) := by decide +kernel
theorem dX9_layBest_45 : decode cX9_layBest 45 = .ok (.invokevirtual 414, 3) := by decide +kernel
theorem dX9_layBest_48 : decode cX9_layBest 48 = .ok (.ifCond .ne 6, 3) := by decide +kernel
theorem dX9_layBest_51 : decode cX9_layBest 51 = .ok (.goto 101, 3) := by decide +kernel
theorem dX9_layBest_54 : decode cX9_layBest 54 = .ok (.iload_n 1, 1) := by decide +kernel
theorem dX9_layBest_55 : decode cX9_layBest 55 = .ok (.ifCond .eq 10, 3) := by decide +kernel
theorem dX9_layBest_58 : decode cX9_layBest 58 = .ok (.aload_n 0, 1) := by decide +kernel
theorem dX9_layBest_59 : decode cX9_layBest 59 = .ok (.invokevirtual 367, 3) := by decide +kernel
theorem dX9_layBest_62 : decode cX9_layBest 62 = .ok (.goto 4, 3) := by decide +kernel
theorem dX9_layBest_65 : decode cX9_layBest 65 = .ok (.iconst 0, 1) := by decide +kernel
theorem dX9_layBest_66 : decode cX9_layBest 66 = .ok (.istore 5, 2) := by decide +kernel
theorem dX9_layBest_68 : decode cX9_layBest 68 = .ok (.aload_n 0, 1) := by decide +kernel
theorem dX9_layBest_69 : decode cX9_layBest 69 = .ok (.invokevirtual 364, 3) := by decide +kernel
theorem dX9_layBest_72 : decode cX9_layBest 72 = .ok (.istore 6, 2) := by decide +kernel
theorem dX9_layBest_74 : decode cX9_layBest 74 = .ok (.iload_n 3, 1) := by decide +kernel
theorem dX9_layBest_75 : decode cX9_layBest 75 = .ok (.ifCond .eq 33, 3) := by decide +kernel
theorem dX9_layBest_78 : decode cX9_layBest 78 = .ok (.iload 5, 2) := by decide +kernel
theorem dX9_layBest_80 : decode cX9_layBest 80 = .ok (.aload_n 0, 1) := by decide +kernel
theorem dX9_layBest_81 : decode cX9_layBest 81 = .ok (.getfield 123, 3) := by decide +kernel
theorem dX9_layBest_84 : decode cX9_layBest 84 = .ok (.if_icmp .gt 68, 3) := by decide +kernel
theorem dX9_layBest_87 : decode cX9_layBest 87 = .ok (.iload 5, 2) := by decide +kernel
theorem dX9_layBest_89 : decode cX9_layBest 89 = .ok (.aload_n 0, 1) := by decide +kernel
theorem dX9_layBest_90 : decode cX9_layBest 90 = .ok (.getfield 123, 3) := by decide +kernel
theorem dX9_layBest_93 : decode cX9_layBest 93 = .ok (.if_icmp .ne 15, 3) := by decide +kernel
theorem dX9_layBest_96 : decode cX9_layBest 96 = .ok (.iload 6, 2) := by decide +kernel
theorem dX9_layBest_98 : decode cX9_layBest 98 = .ok (.aload_n 0, 1) := by decide +kernel
theorem dX9_layBest_99 : decode cX9_layBest 99 = .ok (.getfield 126, 3) := by decide +kernel
theorem dX9_layBest_102 : decode cX9_layBest 102 = .ok (.if_icmp .gt 6, 3) := by decide +kernel
theorem dX9_layBest_105 : decode cX9_layBest 105 = .ok (.goto 47, 3) := by decide +kernel
theorem dX9_layBest_108 : decode cX9_layBest 108 = .ok (.iconst 1, 1) := by decide +kernel
theorem dX9_layBest_109 : decode cX9_layBest 109 = .ok (.istore_n 3, 1) := by decide +kernel
theorem dX9_layBest_110 : decode cX9_layBest 110 = .ok (.aload_n 0, 1) := by decide +kernel
theorem dX9_layBest_111 : decode cX9_layBest 111 = .ok (.iload 5, 2) := by decide +kernel
theorem dX9_layBest_113 : decode cX9_layBest 113 = .ok (.putfield 123, 3) := by decide +kernel
theorem dX9_layBest_116 : decode cX9_layBest 116 = .ok (.aload_n 0, 1) := by decide +kernel
theorem dX9_layBest_117 : decode cX9_layBest 117 = .ok (.iload 6, 2) := by decide +kernel
theorem dX9_layBest_119 : decode cX9_layBest 119 = .ok (.putfield 126, 3) := by decide +kernel
theorem dX9_layBest_122 : decode cX9_layBest 122 = .ok (.iconst 0, 1) := by decide +kernel
theorem dX9_layBest_123 : decode cX9_layBest 123 = .ok (.istore 7, 2) := by decide +kernel
theorem dX9_layBest_125 : decode cX9_layBest 125 = .ok (.iload 7, 2) := by decide +kernel
theorem dX9_layBest_127 : decode cX9_layBest 127 = .ok (.bipush 6, 2) := by decide +kernel
theorem dX9_layBest_129 : decode cX9_layBest 129 = .ok (.if_icmp .ge 23, 3) := by decide +kernel
theorem dX9_layBest_132 : decode cX9_layBest 132 = .ok (.aload_n 0, 1) := by decide +kernel
theorem dX9_layBest_133 : decode cX9_layBest 133 = .ok (.getfield 120, 3) := by decide +kernel
theorem dX9_layBest_136 : decode cX9_layBest 136 = .ok (.iload 7, 2) := by decide +kernel
theorem dX9_layBest_138 : decode cX9_layBest 138 = .ok (.aload_n 0, 1) := by decide +kernel
theorem dX9_layBest_139 : decode cX9_layBest 139 = .ok (.getfield 32, 3) := by decide +kernel
theorem dX9_layBest_142 : decode cX9_layBest 142 = .ok (.iload 7, 2) := by decide +kernel
theorem dX9_layBest_144 : decode cX9_layBest 144 = .ok (.iaload, 1) := by decide +kernel
theorem dX9_layBest_145 : decode cX9_layBest 145 = .ok (.iastore, 1) := by decide +kernel
theorem dX9_layBest_146 : decode cX9_layBest 146 = .ok (.iinc 7 1, 3) := by decide +kernel
theorem dX9_layBest_149 : decode cX9_layBest 149 = .ok (.goto (-24), 3) := by decide +kernel
theorem dX9_layBest_152 : decode cX9_layBest 152 = .ok (.iinc 4 1, 3) := by decide +kernel
theorem dX9_layBest_155 : decode cX9_layBest 155 = .ok (.goto (-119), 3) := by decide +kernel
theorem dX9_layBest_158 : decode cX9_layBest 158 = .ok (.aload_n 0, 1) := by decide +kernel
theorem dX9_layBest_159 : decode cX9_layBest 159 = .ok (.invokevirtual 411, 3) := by decide +kernel
theorem dX9_layBest_162 : decode cX9_layBest 162 = .ok (.return_, 1) := by decide +kernel
theorem dX9_best_0 : decode cX9_best 0 = .ok (.iload_n 1, 1) := by decide +kernel
theorem dX9_best_1 : decode cX9_best 1 = .ok (.ifCond .eq 24, 3) := by decide +kernel
theorem dX9_best_4 : decode cX9_best 4 = .ok (.aload_n 0, 1) := by decide +kernel
theorem dX9_best_5 : decode cX9_best 5 = .ok (.iload_n 1, 1) := by decide +kernel
theorem dX9_best_6 : decode cX9_best 6 = .ok (.bipush 10, 2) := by decide +kernel
theorem dX9_best_8 : decode cX9_best 8 = .ok (.bipush 9, 2) := by decide +kernel
theorem dX9_best_10 : decode cX9_best 10 = .ok (.aload_n 0, 1) := by decide +kernel
theorem dX9_best_11 : decode cX9_best 11 = .ok (.getfield 7, 3) := by decide +kernel
theorem dX9_best_14 : decode cX9_best 14 = .ok (.iadd, 1) := by decide +kernel
theorem dX9_best_15 : decode cX9_best 15 = .ok (.invokevirtual 252, 3) := by decide +kernel
theorem dX9_best_18 : decode cX9_best 18 = .ok (.ifCond .ne 7, 3) := by decide +kernel
theorem dX9_best_21 : decode cX9_best 21 = .ok (.sipush (-10001), 3) := by decide +kernel
theorem dX9_best_24 : decode cX9_best 24 = .ok (.ireturn, 1) := by decide +kernel
theorem dX9_best_25 : decode cX9_best 25 = .ok (.aload_n 0, 1) := by decide +kernel
theorem dX9_best_26 : decode cX9_best 26 = .ok (.iconst 0, 1) := by decide +kernel
theorem dX9_best_27 : decode cX9_best 27 = .ok (.invokevirtual 417, 3) := by decide +kernel
theorem dX9_best_30 : decode cX9_best 30 = .ok (.iload_n 1, 1) := by decide +kernel
theorem dX9_best_31 : decode cX9_best 31 = .ok (.ifCond .ne 10, 3) := by decide +kernel
theorem dX9_best_34 : decode cX9_best 34 = .ok (.aload_n 0, 1) := by decide +kernel
theorem dX9_best_35 : decode cX9_best 35 = .ok (.getfield 126, 3) := by decide +kernel
theorem dX9_best_38 : decode cX9_best 38 = .ok (.goto 12, 3) := by decide +kernel
theorem dX9_best_41 : decode cX9_best 41 = .ok (.aload_n 0, 1) := by decide +kernel
theorem dX9_best_42 : decode cX9_best 42 = .ok (.getfield 120, 3) := by decide +kernel
theorem dX9_best_45 : decode cX9_best 45 = .ok (.iload_n 1, 1) := by decide +kernel
theorem dX9_best_46 : decode cX9_best 46 = .ok (.bipush 10, 2) := by decide +kernel
theorem dX9_best_48 : decode cX9_best 48 = .ok (.isub, 1) := by decide +kernel
theorem dX9_best_49 : decode cX9_best 49 = .ok (.iaload, 1) := by decide +kernel
theorem dX9_best_50 : decode cX9_best 50 = .ok (.ireturn, 1) := by decide +kernel
theorem dX9_peace_0 : decode cX9_peace 0 = .ok (.aload_n 0, 1) := by decide +kernel
theorem dX9_peace_1 : decode cX9_peace 1 = .ok (.iload_n 1, 1) := by decide +kernel
theorem dX9_peace_2 : decode cX9_peace 2 = .ok (.iconst 0, 1) := by decide +kernel
theorem dX9_peace_3 : decode cX9_peace 3 = .ok (.iconst 1, 1) := by decide +kernel
theorem dX9_peace_4 : decode cX9_peace 4 = .ok (.invokevirtual 252, 3) := by decide +kernel
theorem dX9_peace_7 : decode cX9_peace 7 = .ok (.ifCond .ne 24, 3) := by decide +kernel
theorem dX9_peace_10 : decode cX9_peace 10 = .ok (.aload_n 0, 1) := by decide +kernel
theorem dX9_peace_11 : decode cX9_peace 11 = .ok (.iload_n 1, 1) := by decide +kernel
theorem dX9_peace_12 : decode cX9_peace 12 = .ok (.bipush 10, 2) := by decide +kernel
theorem dX9_peace_14 : decode cX9_peace 14 = .ok (.bipush 9, 2) := by decide +kernel
theorem dX9_peace_16 : decode cX9_peace 16 = .ok (.aload_n 0, 1) := by decide +kernel
theorem dX9_peace_17 : decode cX9_peace 17 = .ok (.getfield 7, 3) := by decide +kernel
theorem dX9_peace_20 : decode cX9_peace 20 = .ok (.iadd, 1) := by decide +kernel
theorem dX9_peace_21 : decode cX9_peace 21 = .ok (.invokevirtual 252, 3) := by decide +kernel
theorem dX9_peace_24 : decode cX9_peace 24 = .ok (.ifCond .ne 7, 3) := by decide +kernel
theorem dX9_peace_27 : decode cX9_peace 27 = .ok (.sipush (-10001), 3) := by decide +kernel
theorem dX9_peace_30 : decode cX9_peace 30 = .ok (.ireturn, 1) := by decide +kernel
theorem dX9_peace_31 : decode cX9_peace 31 = .ok (.aload_n 0, 1) := by decide +kernel
theorem dX9_peace_32 : decode cX9_peace 32 = .ok (.iconst 1, 1) := by decide +kernel
theorem dX9_peace_33 : decode cX9_peace 33 = .ok (.invokevirtual 417, 3) := by decide +kernel
theorem dX9_peace_36 : decode cX9_peace 36 = .ok (.iload_n 1, 1) := by decide +kernel
theorem dX9_peace_37 : decode cX9_peace 37 = .ok (.ifCond .ne 10, 3) := by decide +kernel
theorem dX9_peace_40 : decode cX9_peace 40 = .ok (.aload_n 0, 1) := by decide +kernel
theorem dX9_peace_41 : decode cX9_peace 41 = .ok (.getfield 123, 3) := by decide +kernel
theorem dX9_peace_44 : decode cX9_peace 44 = .ok (.goto 24, 3) := by decide +kernel
theorem dX9_peace_47 : decode cX9_peace 47 = .ok (.iload_n 1, 1) := by decide +kernel
theorem dX9_peace_48 : decode cX9_peace 48 = .ok (.iconst 1, 1) := by decide +kernel
theorem dX9_peace_49 : decode cX9_peace 49 = .ok (.if_icmp .ne 10, 3) := by decide +kernel
theorem dX9_peace_52 : decode cX9_peace 52 = .ok (.aload_n 0, 1) := by decide +kernel
theorem dX9_peace_53 : decode cX9_peace 53 = .ok (.getfield 126, 3) := by decide +kernel
theorem dX9_peace_56 : decode cX9_peace 56 = .ok (.goto 12, 3) := by decide +kernel
theorem dX9_peace_59 : decode cX9_peace 59 = .ok (.aload_n 0, 1) := by decide +kernel
theorem dX9_peace_60 : decode cX9_peace 60 = .ok (.getfield 120, 3) := by decide +kernel
theorem dX9_peace_63 : decode cX9_peace 63 = .ok (.iload_n 1, 1) := by decide +kernel
theorem dX9_peace_64 : decode cX9_peace 64 = .ok (.bipush 10, 2) := by decide +kernel
theorem dX9_peace_66 : decode cX9_peace 66 = .ok (.isub, 1) := by decide +kernel
theorem dX9_peace_67 : decode cX9_peace 67 = .ok (.iaload, 1) := by decide +kernel
theorem dX9_peace_68 : decode cX9_peace 68 = .ok (.ireturn, 1) := by decide +kernel
theorem dX9_change_0 : decode cX9_change 0 = .ok (.bipush (-5), 2) := by decide +kernel
theorem dX9_change_2 : decode cX9_change 2 = .ok (.istore_n 1, 1) := by decide +kernel
theorem dX9_change_3 : decode cX9_change 3 = .ok (.aload_n 0, 1) := by decide +kernel
theorem dX9_change_4 : decode cX9_change 4 = .ok (.invokevirtual 383, 3) := by decide +kernel
theorem dX9_change_7 : decode cX9_change 7 = .ok (.istore_n 2, 1) := by decide +kernel
theorem dX9_change_8 : decode cX9_change 8 = .ok (.iconst 0, 1) := by decide +kernel
theorem dX9_change_9 : decode cX9_change 9 = .ok (.istore_n 3, 1) := by decide +kernel
theorem dX9_change_10 : decode cX9_change 10 = .ok (.iload_n 3, 1) := by decide +kernel
theorem dX9_change_11 : decode cX9_change 11 = .ok (.aload_n 0, 1) := by decide +kernel
theorem dX9_change_12 : decode cX9_change 12 = .ok (.getfield 7, 3) := by decide +kernel
theorem dX9_change_15 : decode cX9_change 15 = .ok (.if_icmp .ge 75, 3) := by decide +kernel
theorem dX9_change_18 : decode cX9_change 18 = .ok (.iload_n 3, 1) := by decide +kernel
theorem dX9_change_19 : decode cX9_change 19 = .ok (.iconst 1, 1) := by decide +kernel
theorem dX9_change_20 : decode cX9_change 20 = .ok (.iadd, 1) := by decide +kernel
theorem dX9_change_21 : decode cX9_change 21 = .ok (.istore 4, 2) := by decide +kernel
theorem dX9_change_23 : decode cX9_change 23 = .ok (.iload 4, 2) := by decide +kernel
theorem dX9_change_25 : decode cX9_change 25 = .ok (.aload_n 0, 1) := by decide +kernel
theorem dX9_change_26 : decode cX9_change 26 = .ok (.getfield 7, 3) := by decide +kernel
theorem dX9_change_29 : decode cX9_change 29 = .ok (.if_icmp .ge 55, 3) := by decide +kernel
theorem dX9_change_32 : decode cX9_change 32 = .ok (.aload_n 0, 1) := by decide +kernel
theorem dX9_change_33 : decode cX9_change 33 = .ok (.invokevirtual 405, 3) := by decide +kernel
theorem dX9_change_36 : decode cX9_change 36 = .ok (.aload_n 0, 1) := by decide +kernel
theorem dX9_change_37 : decode cX9_change 37 = .ok (.iload_n 3, 1) := by decide +kernel
theorem dX9_change_38 : decode cX9_change 38 = .ok (.aload_n 0, 1) := by decide +kernel
theorem dX9_change_39 : decode cX9_change 39 = .ok (.getfield 32, 3) := by decide +kernel
theorem dX9_change_42 : decode cX9_change 42 = .ok (.iload 4, 2) := by decide +kernel
theorem dX9_change_44 : decode cX9_change 44 = .ok (.iaload, 1) := by decide +kernel
theorem dX9_change_45 : decode cX9_change 45 = .ok (.invokevirtual 271, 3) := by decide +kernel
theorem dX9_change_48 : decode cX9_change 48 = .ok (.aload_n 0, 1) := by decide +kernel
theorem dX9_change_49 : decode cX9_change 49 = .ok (.invokevirtual 364, 3) := by decide +kernel
theorem dX9_change_52 : decode cX9_change 52 = .ok (.istore 5, 2) := by decide +kernel
theorem dX9_change_54 : decode cX9_change 54 = .ok (.aload_n 0, 1) := by decide +kernel
theorem dX9_change_55 : decode cX9_change 55 = .ok (.invokevirtual 411, 3) := by decide +kernel
theorem dX9_change_58 : decode cX9_change 58 = .ok (.iload 5, 2) := by decide +kernel
theorem dX9_change_60 : decode cX9_change 60 = .ok (.iload_n 2, 1) := by decide +kernel
theorem dX9_change_61 : decode cX9_change 61 = .ok (.if_icmp .gt 6, 3) := by decide +kernel
theorem dX9_change_64 : decode cX9_change 64 = .ok (.goto 14, 3) := by decide +kernel
theorem dX9_change_67 : decode cX9_change 67 = .ok (.bipush 10, 2) := by decide +kernel
theorem dX9_change_69 : decode cX9_change 69 = .ok (.iload_n 3, 1) := by decide +kernel
theorem dX9_change_70 : decode cX9_change 70 = .ok (.imul, 1) := by decide +kernel
theorem dX9_change_71 : decode cX9_change 71 = .ok (.iload 4, 2) := by decide +kernel
theorem dX9_change_73 : decode cX9_change 73 = .ok (.iadd, 1) := by decide +kernel
theorem dX9_change_74 : decode cX9_change 74 = .ok (.istore_n 1, 1) := by decide +kernel
theorem dX9_change_75 : decode cX9_change 75 = .ok (.iload 5, 2) := by decide +kernel
theorem dX9_change_77 : decode cX9_change 77 = .ok (.istore_n 2, 1) := by decide +kernel
theorem dX9_change_78 : decode cX9_change 78 = .ok (.iinc 4 1, 3) := by decide +kernel
theorem dX9_change_81 : decode cX9_change 81 = .ok (.goto (-58), 3) := by decide +kernel
theorem dX9_change_84 : decode cX9_change 84 = .ok (.iinc 3 1, 3) := by decide +kernel
theorem dX9_change_87 : decode cX9_change 87 = .ok (.goto (-77), 3) := by decide +kernel
theorem dX9_change_90 : decode cX9_change 90 = .ok (.iload_n 1, 1) := by decide +kernel
theorem dX9_change_91 : decode cX9_change 91 = .ok (.ireturn, 1) := by decide +kernel
theorem dX9_seat_0 : decode cX9_seat 0 = .ok (.aload_n 0, 1) := by decide +kernel
theorem dX9_seat_1 : decode cX9_seat 1 = .ok (.iload_n 1, 1) := by decide +kernel
theorem dX9_seat_2 : decode cX9_seat 2 = .ok (.invokevirtual 260, 3) := by decide +kernel
theorem dX9_seat_5 : decode cX9_seat 5 = .ok (.ifCond .ne 5, 3) := by decide +kernel
theorem dX9_seat_8 : decode cX9_seat 8 = .ok (.iconst (-1), 1) := by decide +kernel
theorem dX9_seat_9 : decode cX9_seat 9 = .ok (.ireturn, 1) := by decide +kernel
theorem dX9_seat_10 : decode cX9_seat 10 = .ok (.aload_n 0, 1) := by decide +kernel
theorem dX9_seat_11 : decode cX9_seat 11 = .ok (.invokevirtual 358, 3) := by decide +kernel
theorem dX9_seat_14 : decode cX9_seat 14 = .ok (.bipush (-5), 2) := by decide +kernel
theorem dX9_seat_16 : decode cX9_seat 16 = .ok (.istore_n 2, 1) := by decide +kernel
theorem dX9_seat_17 : decode cX9_seat 17 = .ok (.iconst 0, 1) := by decide +kernel
theorem dX9_seat_18 : decode cX9_seat 18 = .ok (.istore_n 3, 1) := by decide +kernel
theorem dX9_seat_19 : decode cX9_seat 19 = .ok (.iconst 0, 1) := by decide +kernel
theorem dX9_seat_20 : decode cX9_seat 20 = .ok (.istore 4, 2) := by decide +kernel
theorem dX9_seat_22 : decode cX9_seat 22 = .ok (.iload 4, 2) := by decide +kernel
theorem dX9_seat_24 : decode cX9_seat 24 = .ok (.bipush 6, 2) := by decide +kernel
theorem dX9_seat_26 : decode cX9_seat 26 = .ok (.if_icmp .ge 50, 3) := by decide +kernel
theorem dX9_seat_29 : decode cX9_seat 29 = .ok (.aload_n 0, 1) := by decide +kernel
theorem dX9_seat_30 : decode cX9_seat 30 = .ok (.invokevirtual 405, 3) := by decide +kernel
theorem dX9_seat_33 : decode cX9_seat 33 = .ok (.aload_n 0, 1) := by decide +kernel
theorem dX9_seat_34 : decode cX9_seat 34 = .ok (.iload_n 1, 1) := by decide +kernel
theorem dX9_seat_35 : decode cX9_seat 35 = .ok (.iload 4, 2) := by decide +kernel
theorem dX9_seat_37 : decode cX9_seat 37 = .ok (.invokevirtual 271, 3) := by decide +kernel
theorem dX9_seat_40 : decode cX9_seat 40 = .ok (.aload_n 0, 1) := by decide +kernel
theorem dX9_seat_41 : decode cX9_seat 41 = .ok (.iload_n 1, 1) := by decide +kernel
theorem dX9_seat_42 : decode cX9_seat 42 = .ok (.invokevirtual 361, 3) := by decide +kernel
theorem dX9_seat_45 : decode cX9_seat 45 = .ok (.istore 5, 2) := by decide +kernel
theorem dX9_seat_47 : decode cX9_seat 47 = .ok (.aload_n 0, 1) := by decide +kernel
theorem dX9_seat_48 : decode cX9_seat 48 = .ok (.invokevirtual 411, 3) := by decide +kernel
theorem dX9_seat_51 : decode cX9_seat 51 = .ok (.iload_n 2, 1) := by decide +kernel
theorem dX9_seat_52 : decode cX9_seat 52 = .ok (.ifCond .lt 12, 3) := by decide +kernel
theorem dX9_seat_55 : decode cX9_seat 55 = .ok (.iload 5, 2) := by decide +kernel
theorem dX9_seat_57 : decode cX9_seat 57 = .ok (.iload_n 3, 1) := by decide +kernel
theorem dX9_seat_58 : decode cX9_seat 58 = .ok (.if_icmp .gt 6, 3) := by decide +kernel
theorem dX9_seat_61 : decode cX9_seat 61 = .ok (.goto 9, 3) := by decide +kernel
theorem dX9_seat_64 : decode cX9_seat 64 = .ok (.iload 4, 2) := by decide +kernel
theorem dX9_seat_66 : decode cX9_seat 66 = .ok (.istore_n 2, 1) := by decide +kernel
theorem dX9_seat_67 : decode cX9_seat 67 = .ok (.iload 5, 2) := by decide +kernel
theorem dX9_seat_69 : decode cX9_seat 69 = .ok (.istore_n 3, 1) := by decide +kernel
theorem dX9_seat_70 : decode cX9_seat 70 = .ok (.iinc 4 1, 3) := by decide +kernel
theorem dX9_seat_73 : decode cX9_seat 73 = .ok (.goto (-51), 3) := by decide +kernel
theorem dX9_seat_76 : decode cX9_seat 76 = .ok (.iload_n 2, 1) := by decide +kernel
theorem dX9_seat_77 : decode cX9_seat 77 = .ok (.ireturn, 1) := by decide +kernel
theorem dX9_see_0 : decode cX9_see 0 = .ok (.iload_n 1, 1) := by decide +kernel
theorem dX9_see_1 : decode cX9_see 1 = .ok (.iconst (-1), 1) := by decide +kernel
theorem dX9_see_2 : decode cX9_see 2 = .ok (.if_icmp .ne 10, 3) := by decide +kernel
theorem dX9_see_5 : decode cX9_see 5 = .ok (.aload_n 0, 1) := by decide +kernel
theorem dX9_see_6 : decode cX9_see 6 = .ok (.iconst 0, 1) := by decide +kernel
theorem dX9_see_7 : decode cX9_see 7 = .ok (.putfield 129, 3) := by decide +kernel
theorem dX9_see_10 : decode cX9_see 10 = .ok (.iconst 0, 1) := by decide +kernel
theorem dX9_see_11 : decode cX9_see 11 = .ok (.ireturn, 1) := by decide +kernel
theorem dX9_see_12 : decode cX9_see 12 = .ok (.aload_n 0, 1) := by decide +kernel
theorem dX9_see_13 : decode cX9_see 13 = .ok (.iload_n 1, 1) := by decide +kernel
theorem dX9_see_14 : decode cX9_see 14 = .ok (.invokevirtual 260, 3) := by decide +kernel
theorem dX9_see_17 : decode cX9_see 17 = .ok (.ifCond .ne 5, 3) := by decide +kernel
theorem dX9_see_20 : decode cX9_see 20 = .ok (.iconst (-1), 1) := by decide +kernel
theorem dX9_see_21 : decode cX9_see 21 = .ok (.ireturn, 1) := by decide +kernel
theorem dX9_see_22 : decode cX9_see 22 = .ok (.aload_n 0, 1) := by decide +kernel
theorem dX9_see_23 : decode cX9_see 23 = .ok (.iload_n 3, 1) := by decide +kernel
theorem dX9_see_24 : decode cX9_see 24 = .ok (.iconst 0, 1) := by decide +kernel
theorem dX9_see_25 : decode cX9_see 25 = .ok (.bipush 20, 2) := by decide +kernel
theorem dX9_see_27 : decode cX9_see 27 = .ok (.invokevirtual 252, 3) := by decide +kernel
theorem dX9_see_30 : decode cX9_see 30 = .ok (.ifCond .ne 6, 3) := by decide +kernel
theorem dX9_see_33 : decode cX9_see 33 = .ok (.bipush (-2), 2) := by decide +kernel
theorem dX9_see_35 : decode cX9_see 35 = .ok (.ireturn, 1) := by decide +kernel
theorem dX9_see_36 : decode cX9_see 36 = .ok (.aload_n 0, 1) := by decide +kernel
theorem dX9_see_37 : decode cX9_see 37 = .ok (.getfield 129, 3) := by decide +kernel
theorem dX9_see_40 : decode cX9_see 40 = .ok (.iconst 5, 1) := by decide +kernel
theorem dX9_see_41 : decode cX9_see 41 = .ok (.if_icmp .ne 6, 3) := by decide +kernel
theorem dX9_see_44 : decode cX9_see 44 = .ok (.bipush (-4), 2) := by decide +kernel
theorem dX9_see_46 : decode cX9_see 46 = .ok (.ireturn, 1) := by decide +kernel
theorem dX9_see_47 : decode cX9_see 47 = .ok (.aload_n 0, 1) := by decide +kernel
theorem dX9_see_48 : decode cX9_see 48 = .ok (.getfield 132, 3) := by decide +kernel
theorem dX9_see_51 : decode cX9_see 51 = .ok (.aload_n 0, 1) := by decide +kernel
theorem dX9_see_52 : decode cX9_see 52 = .ok (.getfield 129, 3) := by decide +kernel
theorem dX9_see_55 : decode cX9_see 55 = .ok (.iload_n 1, 1) := by decide +kernel
theorem dX9_see_56 : decode cX9_see 56 = .ok (.iastore, 1) := by decide +kernel
theorem dX9_see_57 : decode cX9_see 57 = .ok (.aload_n 0, 1) := by decide +kernel
theorem dX9_see_58 : decode cX9_see 58 = .ok (.getfield 138, 3) := by decide +kernel
theorem dX9_see_61 : decode cX9_see 61 = .ok (.aload_n 0, 1) := by decide +kernel
theorem dX9_see_62 : decode cX9_see 62 = .ok (.getfield 129, 3) := by decide +kernel
theorem dX9_see_65 : decode cX9_see 65 = .ok (.iload_n 2, 1) := by decide +kernel
theorem dX9_see_66 : decode cX9_see 66 = .ok (.bastore, 1) := by decide +kernel
theorem dX9_see_67 : decode cX9_see 67 = .ok (.aload_n 0, 1) := by decide +kernel
theorem dX9_see_68 : decode cX9_see 68 = .ok (.getfield 135, 3) := by decide +kernel
theorem dX9_see_71 : decode cX9_see 71 = .ok (.aload_n 0, 1) := by decide +kernel
theorem dX9_see_72 : decode cX9_see 72 = .ok (.getfield 129, 3) := by decide +kernel
theorem dX9_see_75 : decode cX9_see 75 = .ok (.iload_n 3, 1) := by decide +kernel
theorem dX9_see_76 : decode cX9_see 76 = .ok (.iastore, 1) := by decide +kernel
theorem dX9_see_77 : decode cX9_see 77 = .ok (.aload_n 0, 1) := by decide +kernel
theorem dX9_see_78 : decode cX9_see 78 = .ok (.dup, 1) := by decide +kernel
theorem dX9_see_79 : decode cX9_see 79 = .ok (.getfield 129, 3) := by decide +kernel
theorem dX9_see_82 : decode cX9_see 82 = .ok (.iconst 1, 1) := by decide +kernel
theorem dX9_see_83 : decode cX9_see 83 = .ok (.iadd, 1) := by decide +kernel
theorem dX9_see_84 : decode cX9_see 84 = .ok (.putfield 129, 3) := by decide +kernel
theorem dX9_see_87 : decode cX9_see 87 = .ok (.aload_n 0, 1) := by decide +kernel
theorem dX9_see_88 : decode cX9_see 88 = .ok (.getfield 129, 3) := by decide +kernel
theorem dX9_see_91 : decode cX9_see 91 = .ok (.ireturn, 1) := by decide +kernel
theorem dX9_isSeen_0 : decode cX9_isSeen 0 = .ok (.iconst 1, 1) := by decide +kernel
theorem dX9_isSeen_1 : decode cX9_isSeen 1 = .ok (.istore_n 1, 1) := by decide +kernel
theorem dX9_isSeen_2 : decode cX9_isSeen 2 = .ok (.iconst 0, 1) := by decide +kernel
theorem dX9_isSeen_3 : decode cX9_isSeen 3 = .ok (.istore_n 2, 1) := by decide +kernel
theorem dX9_isSeen_4 : decode cX9_isSeen 4 = .ok (.iload_n 2, 1) := by decide +kernel
theorem dX9_isSeen_5 : decode cX9_isSeen 5 = .ok (.aload_n 0, 1) := by decide +kernel
theorem dX9_isSeen_6 : decode cX9_isSeen 6 = .ok (.getfield 129, 3) := by decide +kernel
theorem dX9_isSeen_9 : decode cX9_isSeen 9 = .ok (.if_icmp .ge 60, 3) := by decide +kernel
theorem dX9_isSeen_12 : decode cX9_isSeen 12 = .ok (.iload_n 1, 1) := by decide +kernel
theorem dX9_isSeen_13 : decode cX9_isSeen 13 = .ok (.ifCond .eq 56, 3) := by decide +kernel
theorem dX9_isSeen_16 : decode cX9_isSeen 16 = .ok (.aload_n 0, 1) := by decide +kernel
theorem dX9_isSeen_17 : decode cX9_isSeen 17 = .ok (.invokevirtual 405, 3) := by decide +kernel
theorem dX9_isSeen_20 : decode cX9_isSeen 20 = .ok (.aload_n 0, 1) := by decide +kernel
theorem dX9_isSeen_21 : decode cX9_isSeen 21 = .ok (.aload_n 0, 1) := by decide +kernel
theorem dX9_isSeen_22 : decode cX9_isSeen 22 = .ok (.getfield 135, 3) := by decide +kernel
theorem dX9_isSeen_25 : decode cX9_isSeen 25 = .ok (.iload_n 2, 1) := by decide +kernel
theorem dX9_isSeen_26 : decode cX9_isSeen 26 = .ok (.iaload, 1) := by decide +kernel
theorem dX9_isSeen_27 : decode cX9_isSeen 27 = .ok (.invokevirtual 401, 3) := by decide +kernel
theorem dX9_isSeen_30 : decode cX9_isSeen 30 = .ok (.aload_n 0, 1) := by decide +kernel
theorem dX9_isSeen_31 : decode cX9_isSeen 31 = .ok (.aload_n 0, 1) := by decide +kernel
theorem dX9_isSeen_32 : decode cX9_isSeen 32 = .ok (.getfield 16, 3) := by decide +kernel
theorem dX9_isSeen_35 : decode cX9_isSeen 35 = .ok (.aload_n 0, 1) := by decide +kernel
theorem dX9_isSeen_36 : decode cX9_isSeen 36 = .ok (.getfield 132, 3) := by decide +kernel
theorem dX9_isSeen_39 : decode cX9_isSeen 39 = .ok (.iload_n 2, 1) := by decide +kernel
theorem dX9_isSeen_40 : decode cX9_isSeen 40 = .ok (.iaload, 1) := by decide +kernel
theorem dX9_isSeen_41 : decode cX9_isSeen 41 = .ok (.invokevirtual 248, 3) := by decide +kernel
theorem dX9_isSeen_44 : decode cX9_isSeen 44 = .ok (.aload_n 0, 1) := by decide +kernel
theorem dX9_isSeen_45 : decode cX9_isSeen 45 = .ok (.getfield 138, 3) := by decide +kernel
theorem dX9_isSeen_48 : decode cX9_isSeen 48 = .ok (.iload_n 2, 1) := by decide +kernel
theorem dX9_isSeen_49 : decode cX9_isSeen 49 = .ok (.baload, 1) := by decide +kernel
theorem dX9_isSeen_50 : decode cX9_isSeen 50 = .ok (.if_icmp .ne 7, 3) := by decide +kernel
theorem dX9_isSeen_53 : decode cX9_isSeen 53 = .ok (.iconst 1, 1) := by decide +kernel
theorem dX9_isSeen_54 : decode cX9_isSeen 54 = .ok (.goto 4, 3) := by decide +kernel
theorem dX9_isSeen_57 : decode cX9_isSeen 57 = .ok (.iconst 0, 1) := by decide +kernel
theorem dX9_isSeen_58 : decode cX9_isSeen 58 = .ok (.istore_n 1, 1) := by decide +kernel
theorem dX9_isSeen_59 : decode cX9_isSeen 59 = .ok (.aload_n 0, 1) := by decide +kernel
theorem dX9_isSeen_60 : decode cX9_isSeen 60 = .ok (.invokevirtual 411, 3) := by decide +kernel
theorem dX9_isSeen_63 : decode cX9_isSeen 63 = .ok (.iinc 2 1, 3) := by decide +kernel
theorem dX9_isSeen_66 : decode cX9_isSeen 66 = .ok (.goto (-62), 3) := by decide +kernel
theorem dX9_isSeen_69 : decode cX9_isSeen 69 = .ok (.iload_n 1, 1) := by decide +kernel
theorem dX9_isSeen_70 : decode cX9_isSeen 70 = .ok (.ireturn, 1) := by decide +kernel
theorem dX9_where_0 : decode cX9_where 0 = .ok (.aload_n 0, 1) := by decide +kernel
theorem dX9_where_1 : decode cX9_where 1 = .ok (.iload_n 1, 1) := by decide +kernel
theorem dX9_where_2 : decode cX9_where 2 = .ok (.invokevirtual 260, 3) := by decide +kernel
theorem dX9_where_5 : decode cX9_where 5 = .ok (.ifCond .ne 5, 3) := by decide +kernel
theorem dX9_where_8 : decode cX9_where 8 = .ok (.iconst (-1), 1) := by decide +kernel
theorem dX9_where_9 : decode cX9_where 9 = .ok (.ireturn, 1) := by decide +kernel
theorem dX9_where_10 : decode cX9_where 10 = .ok (.iconst 0, 1) := by decide +kernel
theorem dX9_where_11 : decode cX9_where 11 = .ok (.istore_n 2, 1) := by decide +kernel
theorem dX9_where_12 : decode cX9_where 12 = .ok (.iconst 0, 1) := by decide +kernel
theorem dX9_where_13 : decode cX9_where 13 = .ok (.istore_n 3, 1) := by decide +kernel
theorem dX9_where_14 : decode cX9_where 14 = .ok (.iload_n 3, 1) := by decide +kernel
theorem dX9_where_15 : decode cX9_where 15 = .ok (.bipush 6, 2) := by decide +kernel
theorem dX9_where_17 : decode cX9_where 17 = .ok (.if_icmp .ge 21, 3) := by decide +kernel
theorem dX9_where_20 : decode cX9_where 20 = .ok (.aload_n 0, 1) := by decide +kernel
theorem dX9_where_21 : decode cX9_where 21 = .ok (.getfield 141, 3) := by decide +kernel
theorem dX9_where_24 : decode cX9_where 24 = .ok (.iload_n 3, 1) := by decide +kernel
theorem dX9_where_25 : decode cX9_where 25 = .ok (.aload_n 0, 1) := by decide +kernel
theorem dX9_where_26 : decode cX9_where 26 = .ok (.getfield 32, 3) := by decide +kernel
theorem dX9_where_29 : decode cX9_where 29 = .ok (.iload_n 3, 1) := by decide +kernel
theorem dX9_where_30 : decode cX9_where 30 = .ok (.iaload, 1) := by decide +kernel
theorem dX9_where_31 : decode cX9_where 31 = .ok (.iastore, 1) := by decide +kernel
theorem dX9_where_32 : decode cX9_where 32 = .ok (.iinc 3 1, 3) := by decide +kernel
theorem dX9_where_35 : decode cX9_where 35 = .ok (.goto (-21), 3) := by decide +kernel
theorem dX9_where_38 : decode cX9_where 38 = .ok (.iconst 0, 1) := by decide +kernel
theorem dX9_where_39 : decode cX9_where 39 = .ok (.istore_n 3, 1) := by decide +kernel
theorem dX9_where_40 : decode cX9_where 40 = .ok (.iload_n 3, 1) := by decide +kernel
theorem dX9_where_41 : decode cX9_where 41 = .ok (.bipush 6, 2) := by decide +kernel
theorem dX9_where_43 : decode cX9_where 43 = .ok (.if_icmp .ge 62, 3) := by decide +kernel
theorem dX9_where_46 : decode cX9_where 46 = .ok (.aload_n 0, 1) := by decide +kernel
theorem dX9_where_47 : decode cX9_where 47 = .ok (.iload_n 1, 1) := by decide +kernel
theorem dX9_where_48 : decode cX9_where 48 = .ok (.iload_n 3, 1) := by decide +kernel
theorem dX9_where_49 : decode cX9_where 49 = .ok (.invokevirtual 271, 3) := by decide +kernel
theorem dX9_where_52 : decode cX9_where 52 = .ok (.iload_n 2, 1) := by decide +kernel
theorem dX9_where_53 : decode cX9_where 53 = .ok (.aload_n 0, 1) := by decide +kernel
theorem dX9_where_54 : decode cX9_where 54 = .ok (.invokevirtual 421, 3) := by decide +kernel
theorem dX9_where_57 : decode cX9_where 57 = .ok (.ifCond .eq 9, 3) := by decide +kernel
theorem dX9_where_60 : decode cX9_where 60 = .ok (.iconst 1, 1) := by decide +kernel
theorem dX9_where_61 : decode cX9_where 61 = .ok (.iload_n 3, 1) := by decide +kernel
theorem dX9_where_62 : decode cX9_where 62 = .ok (.ishl, 1) := by decide +kernel
theorem dX9_where_63 : decode cX9_where 63 = .ok (.goto 4, 3) := by decide +kernel
theorem dX9_where_66 : decode cX9_where 66 = .ok (.iconst 0, 1) := by decide +kernel
theorem dX9_where_67 : decode cX9_where 67 = .ok (.ior, 1) := by decide +kernel
theorem dX9_where_68 : decode cX9_where 68 = .ok (.istore_n 2, 1) := by decide +kernel
theorem dX9_where_69 : decode cX9_where 69 = .ok (.iconst 0, 1) := by decide +kernel
theorem dX9_where_70 : decode cX9_where 70 = .ok (.istore 4, 2) := by decide +kernel
theorem dX9_where_72 : decode cX9_where 72 = .ok (.iload 4, 2) := by decide +kernel
theorem dX9_where_74 : decode cX9_where 74 = .ok (.bipush 6, 2) := by decide +kernel
theorem dX9_where_76 : decode cX9_where 76 = .ok (.if_icmp .ge 23, 3) := by decide +kernel
theorem dX9_where_79 : decode cX9_where 79 = .ok (.aload_n 0, 1) := by decide +kernel
theorem dX9_where_80 : decode cX9_where 80 = .ok (.getfield 32, 3) := by decide +kernel
theorem dX9_where_83 : decode cX9_where 83 = .ok (.iload 4, 2) := by decide +kernel
theorem dX9_where_85 : decode cX9_where 85 = .ok (.aload_n 0, 1) := by decide +kernel
theorem dX9_where_86 : decode cX9_where 86 = .ok (.getfield 141, 3) := by decide +kernel
theorem dX9_where_89 : decode cX9_where 89 = .ok (.iload 4, 2) := by decide +kernel
theorem dX9_where_91 : decode cX9_where 91 = .ok (.iaload, 1) := by decide +kernel
theorem dX9_where_92 : decode cX9_where 92 = .ok (.iastore, 1) := by decide +kernel
theorem dX9_where_93 : decode cX9_where 93 = .ok (.iinc 4 1, 3) := by decide +kernel
theorem dX9_where_96 : decode cX9_where 96 = .ok (.goto (-24), 3) := by decide +kernel
theorem dX9_where_99 : decode cX9_where 99 = .ok (.iinc 3 1, 3) := by decide +kernel
theorem dX9_where_102 : decode cX9_where 102 = .ok (.goto (-62), 3) := by decide +kernel
theorem dX9_where_105 : decode cX9_where 105 = .ok (.iload_n 2, 1) := by decide +kernel
theorem dX9_where_106 : decode cX9_where 106 = .ok (.ireturn, 1) := by decide +kernel
theorem dX9_can_0 : decode cX9_can 0 = .ok (.aload_n 0, 1) := by decide +kernel
theorem dX9_can_1 : decode cX9_can 1 = .ok (.iload_n 1, 1) := by decide +kernel
theorem dX9_can_2 : decode cX9_can 2 = .ok (.invokevirtual 260, 3) := by decide +kernel
theorem dX9_can_5 : decode cX9_can 5 = .ok (.ifCond .eq 13, 3) := by decide +kernel
theorem dX9_can_8 : decode cX9_can 8 = .ok (.aload_n 0, 1) := by decide +kernel
theorem dX9_can_9 : decode cX9_can 9 = .ok (.iload_n 2, 1) := by decide +kernel
theorem dX9_can_10 : decode cX9_can 10 = .ok (.iconst 0, 1) := by decide +kernel
theorem dX9_can_11 : decode cX9_can 11 = .ok (.iconst 1, 1) := by decide +kernel
theorem dX9_can_12 : decode cX9_can 12 = .ok (.invokevirtual 252, 3) := by decide +kernel
theorem dX9_can_15 : decode cX9_can 15 = .ok (.ifCond .ne 5, 3) := by decide +kernel
theorem dX9_can_18 : decode cX9_can 18 = .ok (.iconst (-1), 1) := by decide +kernel
theorem dX9_can_19 : decode cX9_can 19 = .ok (.ireturn, 1) := by decide +kernel
theorem dX9_can_20 : decode cX9_can 20 = .ok (.aload_n 0, 1) := by decide +kernel
theorem dX9_can_21 : decode cX9_can 21 = .ok (.getfield 29, 3) := by decide +kernel
theorem dX9_can_24 : decode cX9_can 24 = .ok (.iload_n 1, 1) := by decide +kernel
theorem dX9_can_25 : decode cX9_can 25 = .ok (.iaload, 1) := by decide +kernel
theorem dX9_can_26 : decode cX9_can 26 = .ok (.istore_n 3, 1) := by decide +kernel
theorem dX9_can_27 : decode cX9_can 27 = .ok (.iconst 0, 1) := by decide +kernel
theorem dX9_can_28 : decode cX9_can 28 = .ok (.istore 4, 2) := by decide +kernel
theorem dX9_can_30 : decode cX9_can 30 = .ok (.bipush (-5), 2) := by decide +kernel
theorem dX9_can_32 : decode cX9_can 32 = .ok (.istore 5, 2) := by decide +kernel
theorem dX9_can_34 : decode cX9_can 34 = .ok (.bipush 9, 2) := by decide +kernel
theorem dX9_can_36 : decode cX9_can 36 = .ok (.istore 6, 2) := by decide +kernel
theorem dX9_can_38 : decode cX9_can 38 = .ok (.iload 6, 2) := by decide +kernel
theorem dX9_can_40 : decode cX9_can 40 = .ok (.ifCond .lt 34, 3) := by decide +kernel
theorem dX9_can_43 : decode cX9_can 43 = .ok (.aload_n 0, 1) := by decide +kernel
theorem dX9_can_44 : decode cX9_can 44 = .ok (.getfield 29, 3) := by decide +kernel
theorem dX9_can_47 : decode cX9_can 47 = .ok (.iload_n 1, 1) := by decide +kernel
theorem dX9_can_48 : decode cX9_can 48 = .ok (.iload 6, 2) := by decide +kernel
theorem dX9_can_50 : decode cX9_can 50 = .ok (.iastore, 1) := by decide +kernel
theorem dX9_can_51 : decode cX9_can 51 = .ok (.aload_n 0, 1) := by decide +kernel
theorem dX9_can_52 : decode cX9_can 52 = .ok (.invokevirtual 421, 3) := by decide +kernel
theorem dX9_can_55 : decode cX9_can 55 = .ok (.ifCond .ne 6, 3) := by decide +kernel
theorem dX9_can_58 : decode cX9_can 58 = .ok (.goto 10, 3) := by decide +kernel
theorem dX9_can_61 : decode cX9_can 61 = .ok (.iinc 4 1, 3) := by decide +kernel
theorem dX9_can_64 : decode cX9_can 64 = .ok (.iload 6, 2) := by decide +kernel
theorem dX9_can_66 : decode cX9_can 66 = .ok (.istore 5, 2) := by decide +kernel
theorem dX9_can_68 : decode cX9_can 68 = .ok (.iinc 6 (-1), 3) := by decide +kernel
theorem dX9_can_71 : decode cX9_can 71 = .ok (.goto (-33), 3) := by decide +kernel
theorem dX9_can_74 : decode cX9_can 74 = .ok (.aload_n 0, 1) := by decide +kernel
theorem dX9_can_75 : decode cX9_can 75 = .ok (.getfield 29, 3) := by decide +kernel
theorem dX9_can_78 : decode cX9_can 78 = .ok (.iload_n 1, 1) := by decide +kernel
theorem dX9_can_79 : decode cX9_can 79 = .ok (.iload_n 3, 1) := by decide +kernel
theorem dX9_can_80 : decode cX9_can 80 = .ok (.iastore, 1) := by decide +kernel
theorem dX9_can_81 : decode cX9_can 81 = .ok (.iload_n 2, 1) := by decide +kernel
theorem dX9_can_82 : decode cX9_can 82 = .ok (.ifCond .ne 8, 3) := by decide +kernel
theorem dX9_can_85 : decode cX9_can 85 = .ok (.iload 4, 2) := by decide +kernel
theorem dX9_can_87 : decode cX9_can 87 = .ok (.goto 5, 3) := by decide +kernel
theorem dX9_can_90 : decode cX9_can 90 = .ok (.iload 5, 2) := by decide +kernel
theorem dX9_can_92 : decode cX9_can 92 = .ok (.ireturn, 1) := by decide +kernel
theorem dX9_divisor_0 : decode cX9_divisor 0 = .ok (.iload_n 1, 1) := by decide +kernel
theorem dX9_divisor_1 : decode cX9_divisor 1 = .ok (.ifCond .ge 8, 3) := by decide +kernel
theorem dX9_divisor_4 : decode cX9_divisor 4 = .ok (.iload_n 1, 1) := by decide +kernel
theorem dX9_divisor_5 : decode cX9_divisor 5 = .ok (.ineg, 1) := by decide +kernel
theorem dX9_divisor_6 : decode cX9_divisor 6 = .ok (.goto 4, 3) := by decide +kernel
theorem dX9_divisor_9 : decode cX9_divisor 9 = .ok (.iload_n 1, 1) := by decide +kernel
theorem dX9_divisor_10 : decode cX9_divisor 10 = .ok (.istore_n 3, 1) := by decide +kernel
theorem dX9_divisor_11 : decode cX9_divisor 11 = .ok (.iload_n 2, 1) := by decide +kernel
theorem dX9_divisor_12 : decode cX9_divisor 12 = .ok (.istore 4, 2) := by decide +kernel
theorem dX9_divisor_14 : decode cX9_divisor 14 = .ok (.iload 4, 2) := by decide +kernel
theorem dX9_divisor_16 : decode cX9_divisor 16 = .ok (.ifCond .eq 19, 3) := by decide +kernel
theorem dX9_divisor_19 : decode cX9_divisor 19 = .ok (.iload_n 3, 1) := by decide +kernel
theorem dX9_divisor_20 : decode cX9_divisor 20 = .ok (.iload 4, 2) := by decide +kernel
theorem dX9_divisor_22 : decode cX9_divisor 22 = .ok (.irem, 1) := by decide +kernel
theorem dX9_divisor_23 : decode cX9_divisor 23 = .ok (.istore 5, 2) := by decide +kernel
theorem dX9_divisor_25 : decode cX9_divisor 25 = .ok (.iload 4, 2) := by decide +kernel
theorem dX9_divisor_27 : decode cX9_divisor 27 = .ok (.istore_n 3, 1) := by decide +kernel
theorem dX9_divisor_28 : decode cX9_divisor 28 = .ok (.iload 5, 2) := by decide +kernel
theorem dX9_divisor_30 : decode cX9_divisor 30 = .ok (.istore 4, 2) := by decide +kernel
theorem dX9_divisor_32 : decode cX9_divisor 32 = .ok (.goto (-18), 3) := by decide +kernel
theorem dX9_divisor_35 : decode cX9_divisor 35 = .ok (.iload_n 3, 1) := by decide +kernel
theorem dX9_divisor_36 : decode cX9_divisor 36 = .ok (.ireturn, 1) := by decide +kernel
theorem dX9_lowest_0 : decode cX9_lowest 0 = .ok (.aload_n 0, 1) := by decide +kernel
theorem dX9_lowest_1 : decode cX9_lowest 1 = .ok (.iload_n 1, 1) := by decide +kernel
theorem dX9_lowest_2 : decode cX9_lowest 2 = .ok (.iload_n 2, 1) := by decide +kernel
theorem dX9_lowest_3 : decode cX9_lowest 3 = .ok (.invokevirtual 424, 3) := by decide +kernel
theorem dX9_lowest_6 : decode cX9_lowest 6 = .ok (.istore 4, 2) := by decide +kernel
theorem dX9_lowest_8 : decode cX9_lowest 8 = .ok (.iload_n 3, 1) := by decide +kernel
theorem dX9_lowest_9 : decode cX9_lowest 9 = .ok (.ifCond .ne 11, 3) := by decide +kernel
theorem dX9_lowest_12 : decode cX9_lowest 12 = .ok (.iload_n 1, 1) := by decide +kernel
theorem dX9_lowest_13 : decode cX9_lowest 13 = .ok (.iload 4, 2) := by decide +kernel
theorem dX9_lowest_15 : decode cX9_lowest 15 = .ok (.idiv, 1) := by decide +kernel
theorem dX9_lowest_16 : decode cX9_lowest 16 = .ok (.i2l, 1) := by decide +kernel
theorem dX9_lowest_17 : decode cX9_lowest 17 = .ok (.goto 8, 3) := by decide +kernel
theorem dX9_lowest_20 : decode cX9_lowest 20 = .ok (.iload_n 2, 1) := by decide +kernel
theorem dX9_lowest_21 : decode cX9_lowest 21 = .ok (.iload 4, 2) := by decide +kernel
theorem dX9_lowest_23 : decode cX9_lowest 23 = .ok (.idiv, 1) := by decide +kernel
theorem dX9_lowest_24 : decode cX9_lowest 24 = .ok (.i2l, 1) := by decide +kernel
theorem dX9_lowest_25 : decode cX9_lowest 25 = .ok (.lreturn, 1) := by decide +kernel
theorem dX9_odds_0 : decode cX9_odds 0 = .ok (.aload_n 0, 1) := by decide +kernel
theorem dX9_odds_1 : decode cX9_odds 1 = .ok (.iload_n 1, 1) := by decide +kernel
theorem dX9_odds_2 : decode cX9_odds 2 = .ok (.iconst 0, 1) := by decide +kernel
theorem dX9_odds_3 : decode cX9_odds 3 = .ok (.sipush 999, 3) := by decide +kernel
theorem dX9_odds_6 : decode cX9_odds 6 = .ok (.invokevirtual 252, 3) := by decide +kernel
theorem dX9_odds_9 : decode cX9_odds 9 = .ok (.ifCond .eq 20, 3) := by decide +kernel
theorem dX9_odds_12 : decode cX9_odds 12 = .ok (.aload_n 0, 1) := by decide +kernel
theorem dX9_odds_13 : decode cX9_odds 13 = .ok (.iload_n 2, 1) := by decide +kernel
theorem dX9_odds_14 : decode cX9_odds 14 = .ok (.iconst 0, 1) := by decide +kernel
theorem dX9_odds_15 : decode cX9_odds 15 = .ok (.iconst 1, 1) := by decide +kernel
theorem dX9_odds_16 : decode cX9_odds 16 = .ok (.invokevirtual 252, 3) := by decide +kernel
theorem dX9_odds_19 : decode cX9_odds 19 = .ok (.ifCond .eq 10, 3) := by decide +kernel
theorem dX9_odds_22 : decode cX9_odds 22 = .ok (.aload_n 0, 1) := by decide +kernel
theorem dX9_odds_23 : decode cX9_odds 23 = .ok (.getfield 7, 3) := by decide +kernel
theorem dX9_odds_26 : decode cX9_odds 26 = .ok (.ifCond .ne 7, 3) := by decide +kernel
theorem dX9_odds_29 : decode cX9_odds 29 = .ok (.ldc2_w 427, 3) := by decide +kernel
theorem dX9_odds_32 : decode cX9_odds 32 = .ok (.lreturn, 1) := by decide +kernel
theorem dX9_odds_33 : decode cX9_odds 33 = .ok (.iconst 0, 1) := by decide +kernel
theorem dX9_odds_34 : decode cX9_odds 34 = .ok (.istore_n 3, 1) := by decide +kernel
theorem dX9_odds_35 : decode cX9_odds 35 = .ok (.aload_n 0, 1) := by decide +kernel
theorem dX9_odds_36 : decode cX9_odds 36 = .ok (.getfield 13, 3) := by decide +kernel
theorem dX9_odds_39 : decode cX9_odds 39 = .ok (.istore 4, 2) := by decide +kernel
theorem dX9_odds_41 : decode cX9_odds 41 = .ok (.iconst 0, 1) := by decide +kernel
theorem dX9_odds_42 : decode cX9_odds 42 = .ok (.istore 5, 2) := by decide +kernel
theorem dX9_odds_44 : decode cX9_odds 44 = .ok (.iload 5, 2) := by decide +kernel
theorem dX9_odds_46 : decode cX9_odds 46 = .ok (.aload_n 0, 1) := by decide +kernel
theorem dX9_odds_47 : decode cX9_odds 47 = .ok (.getfield 7, 3) := by decide +kernel
theorem dX9_odds_50 : decode cX9_odds 50 = .ok (.if_icmp .ge 38, 3) := by decide +kernel
theorem dX9_odds_53 : decode cX9_odds 53 = .ok (.aload_n 0, 1) := by decide +kernel
theorem dX9_odds_54 : decode cX9_odds 54 = .ok (.iload 5, 2) := by decide +kernel
theorem dX9_odds_56 : decode cX9_odds 56 = .ok (.iconst 1, 1) := by decide +kernel
theorem dX9_odds_57 : decode cX9_odds 57 = .ok (.invokevirtual 264, 3) := by decide +kernel
theorem dX9_odds_60 : decode cX9_odds 60 = .ok (.iload_n 3, 1) := by decide +kernel
theorem dX9_odds_61 : decode cX9_odds 61 = .ok (.aload_n 0, 1) := by decide +kernel
theorem dX9_odds_62 : decode cX9_odds 62 = .ok (.invokevirtual 383, 3) := by decide +kernel
theorem dX9_odds_65 : decode cX9_odds 65 = .ok (.iload_n 1, 1) := by decide +kernel
theorem dX9_odds_66 : decode cX9_odds 66 = .ok (.if_icmp .lt 7, 3) := by decide +kernel
theorem dX9_odds_69 : decode cX9_odds 69 = .ok (.iconst 1, 1) := by decide +kernel
theorem dX9_odds_70 : decode cX9_odds 70 = .ok (.goto 4, 3) := by decide +kernel
theorem dX9_odds_73 : decode cX9_odds 73 = .ok (.iconst 0, 1) := by decide +kernel
theorem dX9_odds_74 : decode cX9_odds 74 = .ok (.iadd, 1) := by decide +kernel
theorem dX9_odds_75 : decode cX9_odds 75 = .ok (.istore_n 3, 1) := by decide +kernel
theorem dX9_odds_76 : decode cX9_odds 76 = .ok (.aload_n 0, 1) := by decide +kernel
theorem dX9_odds_77 : decode cX9_odds 77 = .ok (.iload 4, 2) := by decide +kernel
theorem dX9_odds_79 : decode cX9_odds 79 = .ok (.putfield 13, 3) := by decide +kernel
theorem dX9_odds_82 : decode cX9_odds 82 = .ok (.iinc 5 1, 3) := by decide +kernel
theorem dX9_odds_85 : decode cX9_odds 85 = .ok (.goto (-41), 3) := by decide +kernel
theorem dX9_odds_88 : decode cX9_odds 88 = .ok (.aload_n 0, 1) := by decide +kernel
theorem dX9_odds_89 : decode cX9_odds 89 = .ok (.iload_n 3, 1) := by decide +kernel
theorem dX9_odds_90 : decode cX9_odds 90 = .ok (.aload_n 0, 1) := by decide +kernel
theorem dX9_odds_91 : decode cX9_odds 91 = .ok (.getfield 7, 3) := by decide +kernel
theorem dX9_odds_94 : decode cX9_odds 94 = .ok (.iload_n 2, 1) := by decide +kernel
theorem dX9_odds_95 : decode cX9_odds 95 = .ok (.invokevirtual 429, 3) := by decide +kernel
theorem dX9_odds_98 : decode cX9_odds 98 = .ok (.lreturn, 1) := by decide +kernel
theorem dX9_mean_0 : decode cX9_mean 0 = .ok (.aload_n 0, 1) := by decide +kernel
theorem dX9_mean_1 : decode cX9_mean 1 = .ok (.iload_n 1, 1) := by decide +kernel
theorem dX9_mean_2 : decode cX9_mean 2 = .ok (.iconst 0, 1) := by decide +kernel
theorem dX9_mean_3 : decode cX9_mean 3 = .ok (.iconst 1, 1) := by decide +kernel
theorem dX9_mean_4 : decode cX9_mean 4 = .ok (.invokevirtual 252, 3) := by decide +kernel
theorem dX9_mean_7 : decode cX9_mean 7 = .ok (.ifCond .eq 26, 3) := by decide +kernel
theorem dX9_mean_10 : decode cX9_mean 10 = .ok (.aload_n 0, 1) := by decide +kernel
theorem dX9_mean_11 : decode cX9_mean 11 = .ok (.getfield 7, 3) := by decide +kernel
theorem dX9_mean_14 : decode cX9_mean 14 = .ok (.ifCond .le 19, 3) := by decide +kernel
theorem dX9_mean_17 : decode cX9_mean 17 = .ok (.aload_n 0, 1) := by decide +kernel
theorem dX9_mean_18 : decode cX9_mean 18 = .ok (.aload_n 0, 1) := by decide +kernel
theorem dX9_mean_19 : decode cX9_mean 19 = .ok (.invokevirtual 383, 3) := by decide +kernel
theorem dX9_mean_22 : decode cX9_mean 22 = .ok (.aload_n 0, 1) := by decide +kernel
theorem dX9_mean_23 : decode cX9_mean 23 = .ok (.getfield 7, 3) := by decide +kernel
theorem dX9_mean_26 : decode cX9_mean 26 = .ok (.iload_n 1, 1) := by decide +kernel
theorem dX9_mean_27 : decode cX9_mean 27 = .ok (.invokevirtual 429, 3) := by decide +kernel
theorem dX9_mean_30 : decode cX9_mean 30 = .ok (.goto 6, 3) := by decide +kernel
theorem dX9_mean_33 : decode cX9_mean 33 = .ok (.ldc2_w 427, 3) := by decide +kernel
theorem dX9_mean_36 : decode cX9_mean 36 = .ok (.lreturn, 1) := by decide +kernel
theorem dX9_plan_0 : decode cX9_plan 0 = .ok (.iload_n 1, 1) := by decide +kernel
theorem dX9_plan_1 : decode cX9_plan 1 = .ok (.iconst (-1), 1) := by decide +kernel
theorem dX9_plan_2 : decode cX9_plan 2 = .ok (.if_icmp .ne 10, 3) := by decide +kernel
theorem dX9_plan_5 : decode cX9_plan 5 = .ok (.aload_n 0, 1) := by decide +kernel
theorem dX9_plan_6 : decode cX9_plan 6 = .ok (.iconst 0, 1) := by decide +kernel
theorem dX9_plan_7 : decode cX9_plan 7 = .ok (.putfield 144, 3) := by decide +kernel
theorem dX9_plan_10 : decode cX9_plan 10 = .ok (.iconst 0, 1) := by decide +kernel
theorem dX9_plan_11 : decode cX9_plan 11 = .ok (.ireturn, 1) := by decide +kernel
theorem dX9_plan_12 : decode cX9_plan 12 = .ok (.aload_n 0, 1) := by decide +kernel
theorem dX9_plan_13 : decode cX9_plan 13 = .ok (.iload_n 1, 1) := by decide +kernel
theorem dX9_plan_14 : decode cX9_plan 14 = .ok (.iconst 0, 1) := by decide +kernel
theorem dX9_plan_15 : decode cX9_plan 15 = .ok (.iconst 3, 1) := by decide +kernel
theorem dX9_plan_16 : decode cX9_plan 16 = .ok (.invokevirtual 252, 3) := by decide +kernel
theorem dX9_plan_19 : decode cX9_plan 19 = .ok (.ifCond .eq 34, 3) := by decide +kernel
theorem dX9_plan_22 : decode cX9_plan 22 = .ok (.aload_n 0, 1) := by decide +kernel
theorem dX9_plan_23 : decode cX9_plan 23 = .ok (.iload_n 1, 1) := by decide +kernel
theorem dX9_plan_24 : decode cX9_plan 24 = .ok (.iconst 1, 1) := by decide +kernel
theorem dX9_plan_25 : decode cX9_plan 25 = .ok (.iconst 2, 1) := by decide +kernel
theorem dX9_plan_26 : decode cX9_plan 26 = .ok (.invokevirtual 252, 3) := by decide +kernel
theorem dX9_plan_29 : decode cX9_plan 29 = .ok (.ifCond .eq 11, 3) := by decide +kernel
theorem dX9_plan_32 : decode cX9_plan 32 = .ok (.aload_n 0, 1) := by decide +kernel
theorem dX9_plan_33 : decode cX9_plan 33 = .ok (.iload_n 2, 1) := by decide +kernel
theorem dX9_plan_34 : decode cX9_plan 34 = .ok (.invokevirtual 260, 3) := by decide +kernel
theorem dX9_plan_37 : decode cX9_plan 37 = .ok (.ifCond .eq 16, 3) := by decide +kernel
theorem dX9_plan_40 : decode cX9_plan 40 = .ok (.iload_n 1, 1) := by decide +kernel
theorem dX9_plan_41 : decode cX9_plan 41 = .ok (.iconst 3, 1) := by decide +kernel
theorem dX9_plan_42 : decode cX9_plan 42 = .ok (.if_icmp .ne 13, 3) := by decide +kernel
theorem dX9_plan_45 : decode cX9_plan 45 = .ok (.aload_n 0, 1) := by decide +kernel
theorem dX9_plan_46 : decode cX9_plan 46 = .ok (.iload_n 2, 1) := by decide +kernel
theorem dX9_plan_47 : decode cX9_plan 47 = .ok (.invokevirtual 268, 3) := by decide +kernel
theorem dX9_plan_50 : decode cX9_plan 50 = .ok (.ifCond .ne 5, 3) := by decide +kernel
theorem dX9_plan_53 : decode cX9_plan 53 = .ok (.iconst (-1), 1) := by decide +kernel
theorem dX9_plan_54 : decode cX9_plan 54 = .ok (.ireturn, 1) := by decide +kernel
theorem dX9_plan_55 : decode cX9_plan 55 = .ok (.aload_n 0, 1) := by decide +kernel
theorem dX9_plan_56 : decode cX9_plan 56 = .ok (.getfield 144, 3) := by decide +kernel
theorem dX9_plan_59 : decode cX9_plan 59 = .ok (.bipush 10, 2) := by decide +kernel
theorem dX9_plan_61 : decode cX9_plan 61 = .ok (.if_icmp .ne 6, 3) := by decide +kernel
theorem dX9_plan_64 : decode cX9_plan 64 = .ok (.bipush (-4), 2) := by decide +kernel
theorem dX9_plan_66 : decode cX9_plan 66 = .ok (.ireturn, 1) := by decide +kernel
theorem dX9_plan_67 : decode cX9_plan 67 = .ok (.aload_n 0, 1) := by decide +kernel
theorem dX9_plan_68 : decode cX9_plan 68 = .ok (.getfield 150, 3) := by decide +kernel
theorem dX9_plan_71 : decode cX9_plan 71 = .ok (.aload_n 0, 1) := by decide +kernel
theorem dX9_plan_72 : decode cX9_plan 72 = .ok (.getfield 144, 3) := by decide +kernel
theorem dX9_plan_75 : decode cX9_plan 75 = .ok (.iload_n 1, 1) := by decide +kernel
theorem dX9_plan_76 : decode cX9_plan 76 = .ok (.iastore, 1) := by decide +kernel
theorem dX9_plan_77 : decode cX9_plan 77 = .ok (.aload_n 0, 1) := by decide +kernel
theorem dX9_plan_78 : decode cX9_plan 78 = .ok (.getfield 153, 3) := by decide +kernel
theorem dX9_plan_81 : decode cX9_plan 81 = .ok (.aload_n 0, 1) := by decide +kernel
theorem dX9_plan_82 : decode cX9_plan 82 = .ok (.getfield 144, 3) := by decide +kernel
theorem dX9_plan_85 : decode cX9_plan 85 = .ok (.iload_n 1, 1) := by decide +kernel
theorem dX9_plan_86 : decode cX9_plan 86 = .ok (.ifCond .le 7, 3) := by decide +kernel
theorem dX9_plan_89 : decode cX9_plan 89 = .ok (.iload_n 2, 1) := by decide +kernel
theorem dX9_plan_90 : decode cX9_plan 90 = .ok (.goto 4, 3) := by decide +kernel
theorem dX9_plan_93 : decode cX9_plan 93 = .ok (.iconst 0, 1) := by decide +kernel
theorem dX9_plan_94 : decode cX9_plan 94 = .ok (.iastore, 1) := by decide +kernel
theorem dX9_plan_95 : decode cX9_plan 95 = .ok (.aload_n 0, 1) := by decide +kernel
theorem dX9_plan_96 : decode cX9_plan 96 = .ok (.dup, 1) := by decide +kernel
theorem dX9_plan_97 : decode cX9_plan 97 = .ok (.getfield 144, 3) := by decide +kernel
theorem dX9_plan_100 : decode cX9_plan 100 = .ok (.iconst 1, 1) := by decide +kernel
theorem dX9_plan_101 : decode cX9_plan 101 = .ok (.iadd, 1) := by decide +kernel
theorem dX9_plan_102 : decode cX9_plan 102 = .ok (.putfield 144, 3) := by decide +kernel
theorem dX9_plan_105 : decode cX9_plan 105 = .ok (.aload_n 0, 1) := by decide +kernel
theorem dX9_plan_106 : decode cX9_plan 106 = .ok (.getfield 144, 3) := by decide +kernel
theorem dX9_plan_109 : decode cX9_plan 109 = .ok (.ireturn, 1) := by decide +kernel
theorem dX9_ends_0 : decode cX9_ends 0 = .ok (.aload_n 0, 1) := by decide +kernel
theorem dX9_ends_1 : decode cX9_ends 1 = .ok (.iload_n 1, 1) := by decide +kernel
theorem dX9_ends_2 : decode cX9_ends 2 = .ok (.iconst 0, 1) := by decide +kernel
theorem dX9_ends_3 : decode cX9_ends 3 = .ok (.iconst 1, 1) := by decide +kernel
theorem dX9_ends_4 : decode cX9_ends 4 = .ok (.invokevirtual 252, 3) := by decide +kernel
theorem dX9_ends_7 : decode cX9_ends 7 = .ok (.ifCond .ne 5, 3) := by decide +kernel
theorem dX9_ends_10 : decode cX9_ends 10 = .ok (.iconst (-1), 1) := by decide +kernel
theorem dX9_ends_11 : decode cX9_ends 11 = .ok (.ireturn, 1) := by decide +kernel
theorem dX9_ends_12 : decode cX9_ends 12 = .ok (.aload_n 0, 1) := by decide +kernel
theorem dX9_ends_13 : decode cX9_ends 13 = .ok (.invokevirtual 405, 3) := by decide +kernel
theorem dX9_ends_16 : decode cX9_ends 16 = .ok (.iconst 0, 1) := by decide +kernel
theorem dX9_ends_17 : decode cX9_ends 17 = .ok (.istore_n 2, 1) := by decide +kernel
theorem dX9_ends_18 : decode cX9_ends 18 = .ok (.iload_n 2, 1) := by decide +kernel
theorem dX9_ends_19 : decode cX9_ends 19 = .ok (.aload_n 0, 1) := by decide +kernel
theorem dX9_ends_20 : decode cX9_ends 20 = .ok (.getfield 144, 3) := by decide +kernel
theorem dX9_ends_23 : decode cX9_ends 23 = .ok (.if_icmp .ge 82, 3) := by decide +kernel
theorem dX9_ends_26 : decode cX9_ends 26 = .ok (.aload_n 0, 1) := by decide +kernel
theorem dX9_ends_27 : decode cX9_ends 27 = .ok (.getfield 150, 3) := by decide +kernel
theorem dX9_ends_30 : decode cX9_ends 30 = .ok (.iload_n 2, 1) := by decide +kernel
theorem dX9_ends_31 : decode cX9_ends 31 = .ok (.iaload, 1) := by decide +kernel
theorem dX9_ends_32 : decode cX9_ends 32 = .ok (.ifCond .ne 7, 3) := by decide +kernel
theorem dX9_ends_35 : decode cX9_ends 35 = .ok (.aload_n 0, 1) := by decide +kernel
theorem dX9_ends_36 : decode cX9_ends 36 = .ok (.invokevirtual 395, 3) := by decide +kernel
theorem dX9_ends_39 : decode cX9_ends 39 = .ok (.aload_n 0, 1) := by decide +kernel
theorem dX9_ends_40 : decode cX9_ends 40 = .ok (.aload_n 0, 1) := by decide +kernel
theorem dX9_ends_41 : decode cX9_ends 41 = .ok (.getfield 150, 3) := by decide +kernel
theorem dX9_ends_44 : decode cX9_ends 44 = .ok (.iload_n 2, 1) := by decide +kernel
theorem dX9_ends_45 : decode cX9_ends 45 = .ok (.iaload, 1) := by decide +kernel
theorem dX9_ends_46 : decode cX9_ends 46 = .ok (.iconst 1, 1) := by decide +kernel
theorem dX9_ends_47 : decode cX9_ends 47 = .ok (.iconst 2, 1) := by decide +kernel
theorem dX9_ends_48 : decode cX9_ends 48 = .ok (.invokevirtual 252, 3) := by decide +kernel
theorem dX9_ends_51 : decode cX9_ends 51 = .ok (.ifCond .eq 28, 3) := by decide +kernel
theorem dX9_ends_54 : decode cX9_ends 54 = .ok (.aload_n 0, 1) := by decide +kernel
theorem dX9_ends_55 : decode cX9_ends 55 = .ok (.aload_n 0, 1) := by decide +kernel
theorem dX9_ends_56 : decode cX9_ends 56 = .ok (.getfield 153, 3) := by decide +kernel
theorem dX9_ends_59 : decode cX9_ends 59 = .ok (.iload_n 2, 1) := by decide +kernel
theorem dX9_ends_60 : decode cX9_ends 60 = .ok (.iaload, 1) := by decide +kernel
theorem dX9_ends_61 : decode cX9_ends 61 = .ok (.aload_n 0, 1) := by decide +kernel
theorem dX9_ends_62 : decode cX9_ends 62 = .ok (.getfield 150, 3) := by decide +kernel
theorem dX9_ends_65 : decode cX9_ends 65 = .ok (.iload_n 2, 1) := by decide +kernel
theorem dX9_ends_66 : decode cX9_ends 66 = .ok (.iaload, 1) := by decide +kernel
theorem dX9_ends_67 : decode cX9_ends 67 = .ok (.iconst 1, 1) := by decide +kernel
theorem dX9_ends_68 : decode cX9_ends 68 = .ok (.if_icmp .ne 7, 3) := by decide +kernel
theorem dX9_ends_71 : decode cX9_ends 71 = .ok (.iconst 1, 1) := by decide +kernel
theorem dX9_ends_72 : decode cX9_ends 72 = .ok (.goto 4, 3) := by decide +kernel
theorem dX9_ends_75 : decode cX9_ends 75 = .ok (.iconst 0, 1) := by decide +kernel
theorem dX9_ends_76 : decode cX9_ends 76 = .ok (.invokevirtual 264, 3) := by decide +kernel
theorem dX9_ends_79 : decode cX9_ends 79 = .ok (.aload_n 0, 1) := by decide +kernel
theorem dX9_ends_80 : decode cX9_ends 80 = .ok (.getfield 150, 3) := by decide +kernel
theorem dX9_ends_83 : decode cX9_ends 83 = .ok (.iload_n 2, 1) := by decide +kernel
theorem dX9_ends_84 : decode cX9_ends 84 = .ok (.iaload, 1) := by decide +kernel
theorem dX9_ends_85 : decode cX9_ends 85 = .ok (.iconst 3, 1) := by decide +kernel
theorem dX9_ends_86 : decode cX9_ends 86 = .ok (.if_icmp .ne 13, 3) := by decide +kernel
theorem dX9_ends_89 : decode cX9_ends 89 = .ok (.aload_n 0, 1) := by decide +kernel
theorem dX9_ends_90 : decode cX9_ends 90 = .ok (.aload_n 0, 1) := by decide +kernel
theorem dX9_ends_91 : decode cX9_ends 91 = .ok (.getfield 153, 3) := by decide +kernel
theorem dX9_ends_94 : decode cX9_ends 94 = .ok (.iload_n 2, 1) := by decide +kernel
theorem dX9_ends_95 : decode cX9_ends 95 = .ok (.iaload, 1) := by decide +kernel
theorem dX9_ends_96 : decode cX9_ends 96 = .ok (.invokevirtual 278, 3) := by decide +kernel
theorem dX9_ends_99 : decode cX9_ends 99 = .ok (.iinc 2 1, 3) := by decide +kernel
theorem dX9_ends_102 : decode cX9_ends 102 = .ok (.goto (-84), 3) := by decide +kernel
theorem dX9_ends_105 : decode cX9_ends 105 = .ok (.iload_n 1, 1) := by decide +kernel
theorem dX9_ends_106 : decode cX9_ends 106 = .ok (.ifCond .ne 10, 3) := by decide +kernel
theorem dX9_ends_109 : decode cX9_ends 109 = .ok (.aload_n 0, 1) := by decide +kernel
theorem dX9_ends_110 : decode cX9_ends 110 = .ok (.getfield 16, 3) := by decide +kernel
theorem dX9_ends_113 : decode cX9_ends 113 = .ok (.goto 7, 3) := by decide +kernel
theorem dX9_ends_116 : decode cX9_ends 116 = .ok (.aload_n 0, 1) := by decide +kernel
theorem dX9_ends_117 : decode cX9_ends 117 = .ok (.invokevirtual 408, 3) := by decide +kernel
theorem dX9_ends_120 : decode cX9_ends 120 = .ok (.istore_n 2, 1) := by decide +kernel
theorem dX9_ends_121 : decode cX9_ends 121 = .ok (.aload_n 0, 1) := by decide +kernel
theorem dX9_ends_122 : decode cX9_ends 122 = .ok (.invokevirtual 411, 3) := by decide +kernel
theorem dX9_ends_125 : decode cX9_ends 125 = .ok (.iload_n 2, 1) := by decide +kernel
theorem dX9_ends_126 : decode cX9_ends 126 = .ok (.ireturn, 1) := by decide +kernel
theorem dX9_book_0 : decode cX9_book 0 = .ok (.iload_n 1, 1) := by decide +kernel
theorem dX9_book_1 : decode cX9_book 1 = .ok (.iconst (-1), 1) := by decide +kernel
theorem dX9_book_2 : decode cX9_book 2 = .ok (.if_icmp .ne 10, 3) := by decide +kernel
theorem dX9_book_5 : decode cX9_book 5 = .ok (.aload_n 0, 1) := by decide +kernel
theorem dX9_book_6 : decode cX9_book 6 = .ok (.iconst 0, 1) := by decide +kernel
theorem dX9_book_7 : decode cX9_book 7 = .ok (.putfield 147, 3) := by decide +kernel
theorem dX9_book_10 : decode cX9_book 10 = .ok (.iconst 0, 1) := by decide +kernel
theorem dX9_book_11 : decode cX9_book 11 = .ok (.ireturn, 1) := by decide +kernel
theorem dX9_book_12 : decode cX9_book 12 = .ok (.aload_n 0, 1) := by decide +kernel
theorem dX9_book_13 : decode cX9_book 13 = .ok (.iload_n 1, 1) := by decide +kernel
theorem dX9_book_14 : decode cX9_book 14 = .ok (.invokevirtual 260, 3) := by decide +kernel
theorem dX9_book_17 : decode cX9_book 17 = .ok (.ifCond .eq 11, 3) := by decide +kernel
theorem dX9_book_20 : decode cX9_book 20 = .ok (.aload_n 0, 1) := by decide +kernel
theorem dX9_book_21 : decode cX9_book 21 = .ok (.iload_n 2, 1) := by decide +kernel
theorem dX9_book_22 : decode cX9_book 22 = .ok (.invokevirtual 268, 3) := by decide +kernel
theorem dX9_book_25 : decode cX9_book 25 = .ok (.ifCond .ne 5, 3) := by decide +kernel
theorem dX9_book_28 : decode cX9_book 28 = .ok (.iconst (-1), 1) := by decide +kernel
theorem dX9_book_29 : decode cX9_book 29 = .ok (.ireturn, 1) := by decide +kernel
theorem dX9_book_30 : decode cX9_book 30 = .ok (.aload_n 0, 1) := by decide +kernel
theorem dX9_book_31 : decode cX9_book 31 = .ok (.getfield 147, 3) := by decide +kernel
theorem dX9_book_34 : decode cX9_book 34 = .ok (.bipush 8, 2) := by decide +kernel
theorem dX9_book_36 : decode cX9_book 36 = .ok (.if_icmp .ne 6, 3) := by decide +kernel
theorem dX9_book_39 : decode cX9_book 39 = .ok (.bipush (-4), 2) := by decide +kernel
theorem dX9_book_41 : decode cX9_book 41 = .ok (.ireturn, 1) := by decide +kernel
theorem dX9_book_42 : decode cX9_book 42 = .ok (.aload_n 0, 1) := by decide +kernel
theorem dX9_book_43 : decode cX9_book 43 = .ok (.getfield 156, 3) := by decide +kernel
theorem dX9_book_46 : decode cX9_book 46 = .ok (.aload_n 0, 1) := by decide +kernel
theorem dX9_book_47 : decode cX9_book 47 = .ok (.getfield 147, 3) := by decide +kernel
theorem dX9_book_50 : decode cX9_book 50 = .ok (.iload_n 1, 1) := by decide +kernel
theorem dX9_book_51 : decode cX9_book 51 = .ok (.iastore, 1) := by decide +kernel
theorem dX9_book_52 : decode cX9_book 52 = .ok (.aload_n 0, 1) := by decide +kernel
theorem dX9_book_53 : decode cX9_book 53 = .ok (.getfield 159, 3) := by decide +kernel
theorem dX9_book_56 : decode cX9_book 56 = .ok (.aload_n 0, 1) := by decide +kernel
theorem dX9_book_57 : decode cX9_book 57 = .ok (.getfield 147, 3) := by decide +kernel
theorem dX9_book_60 : decode cX9_book 60 = .ok (.iload_n 2, 1) := by decide +kernel
theorem dX9_book_61 : decode cX9_book 61 = .ok (.iastore, 1) := by decide +kernel
theorem dX9_book_62 : decode cX9_book 62 = .ok (.aload_n 0, 1) := by decide +kernel
theorem dX9_book_63 : decode cX9_book 63 = .ok (.dup, 1) := by decide +kernel
theorem dX9_book_64 : decode cX9_book 64 = .ok (.getfield 147, 3) := by decide +kernel
theorem dX9_book_67 : decode cX9_book 67 = .ok (.iconst 1, 1) := by decide +kernel
theorem dX9_book_68 : decode cX9_book 68 = .ok (.iadd, 1) := by decide +kernel
theorem dX9_book_69 : decode cX9_book 69 = .ok (.putfield 147, 3) := by decide +kernel
theorem dX9_book_72 : decode cX9_book 72 = .ok (.aload_n 0, 1) := by decide +kernel
theorem dX9_book_73 : decode cX9_book 73 = .ok (.getfield 147, 3) := by decide +kernel
theorem dX9_book_76 : decode cX9_book 76 = .ok (.ireturn, 1) := by decide +kernel
theorem dX9_looked_0 : decode cX9_looked 0 = .ok (.iconst 0, 1) := by decide +kernel
theorem dX9_looked_1 : decode cX9_looked 1 = .ok (.istore_n 1, 1) := by decide +kernel
theorem dX9_looked_2 : decode cX9_looked 2 = .ok (.iload_n 1, 1) := by decide +kernel
theorem dX9_looked_3 : decode cX9_looked 3 = .ok (.aload_n 0, 1) := by decide +kernel
theorem dX9_looked_4 : decode cX9_looked 4 = .ok (.getfield 147, 3) := by decide +kernel
theorem dX9_looked_7 : decode cX9_looked 7 = .ok (.if_icmp .ge 31, 3) := by decide +kernel
theorem dX9_looked_10 : decode cX9_looked 10 = .ok (.aload_n 0, 1) := by decide +kernel
theorem dX9_looked_11 : decode cX9_looked 11 = .ok (.getfield 32, 3) := by decide +kernel
theorem dX9_looked_14 : decode cX9_looked 14 = .ok (.aload_n 0, 1) := by decide +kernel
theorem dX9_looked_15 : decode cX9_looked 15 = .ok (.getfield 156, 3) := by decide +kernel
theorem dX9_looked_18 : decode cX9_looked 18 = .ok (.iload_n 1, 1) := by decide +kernel
theorem dX9_looked_19 : decode cX9_looked 19 = .ok (.iaload, 1) := by decide +kernel
theorem dX9_looked_20 : decode cX9_looked 20 = .ok (.iaload, 1) := by decide +kernel
theorem dX9_looked_21 : decode cX9_looked 21 = .ok (.aload_n 0, 1) := by decide +kernel
theorem dX9_looked_22 : decode cX9_looked 22 = .ok (.getfield 159, 3) := by decide +kernel
theorem dX9_looked_25 : decode cX9_looked 25 = .ok (.iload_n 1, 1) := by decide +kernel
theorem dX9_looked_26 : decode cX9_looked 26 = .ok (.iaload, 1) := by decide +kernel
theorem dX9_looked_27 : decode cX9_looked 27 = .ok (.if_icmp .eq 5, 3) := by decide +kernel
theorem dX9_looked_30 : decode cX9_looked 30 = .ok (.iload_n 1, 1) := by decide +kernel
theorem dX9_looked_31 : decode cX9_looked 31 = .ok (.ireturn, 1) := by decide +kernel
theorem dX9_looked_32 : decode cX9_looked 32 = .ok (.iinc 1 1, 3) := by decide +kernel
theorem dX9_looked_35 : decode cX9_looked 35 = .ok (.goto (-33), 3) := by decide +kernel
theorem dX9_looked_38 : decode cX9_looked 38 = .ok (.bipush (-5), 2) := by decide +kernel
theorem dX9_looked_40 : decode cX9_looked 40 = .ok (.ireturn, 1) := by decide +kernel
theorem dX9_judge_0 : decode cX9_judge 0 = .ok (.aload_n 0, 1) := by decide +kernel
theorem dX9_judge_1 : decode cX9_judge 1 = .ok (.iload_n 1, 1) := by decide +kernel
theorem dX9_judge_2 : decode cX9_judge 2 = .ok (.invokevirtual 433, 3) := by decide +kernel
theorem dX9_judge_5 : decode cX9_judge 5 = .ok (.ifCond .ne 5, 3) := by decide +kernel
theorem dX9_judge_8 : decode cX9_judge 8 = .ok (.iconst (-1), 1) := by decide +kernel
theorem dX9_judge_9 : decode cX9_judge 9 = .ok (.ireturn, 1) := by decide +kernel
theorem dX9_judge_10 : decode cX9_judge 10 = .ok (.aload_n 0, 1) := by decide +kernel
theorem dX9_judge_11 : decode cX9_judge 11 = .ok (.getfield 235, 3) := by decide +kernel
theorem dX9_judge_14 : decode cX9_judge 14 = .ok (.iload_n 1, 1) := by decide +kernel
theorem dX9_judge_15 : decode cX9_judge 15 = .ok (.iaload, 1) := by decide +kernel
theorem dX9_judge_16 : decode cX9_judge 16 = .ok (.ifCond .le 6, 3) := by decide +kernel
theorem dX9_judge_19 : decode cX9_judge 19 = .ok (.bipush (-12), 2) := by decide +kernel
theorem dX9_judge_21 : decode cX9_judge 21 = .ok (.ireturn, 1) := by decide +kernel
theorem dX9_judge_22 : decode cX9_judge 22 = .ok (.iconst 0, 1) := by decide +kernel
theorem dX9_judge_23 : decode cX9_judge 23 = .ok (.istore_n 3, 1) := by decide +kernel
theorem dX9_judge_24 : decode cX9_judge 24 = .ok (.iload_n 3, 1) := by decide +kernel
theorem dX9_judge_25 : decode cX9_judge 25 = .ok (.aload_n 0, 1) := by decide +kernel
theorem dX9_judge_26 : decode cX9_judge 26 = .ok (.getfield 7, 3) := by decide +kernel
theorem dX9_judge_29 : decode cX9_judge 29 = .ok (.if_icmp .ge 67, 3) := by decide +kernel
theorem dX9_judge_32 : decode cX9_judge 32 = .ok (.aload_n 0, 1) := by decide +kernel
theorem dX9_judge_33 : decode cX9_judge 33 = .ok (.getfield 235, 3) := by decide +kernel
theorem dX9_judge_36 : decode cX9_judge 36 = .ok (.iload_n 1, 1) := by decide +kernel
theorem dX9_judge_37 : decode cX9_judge 37 = .ok (.iaload, 1) := by decide +kernel
theorem dX9_judge_38 : decode cX9_judge 38 = .ok (.ifCond .lt 21, 3) := by decide +kernel
theorem dX9_judge_41 : decode cX9_judge 41 = .ok (.iload_n 2, 1) := by decide +kernel
theorem dX9_judge_42 : decode cX9_judge 42 = .ok (.ifCond .lt 17, 3) := by decide +kernel
theorem dX9_judge_45 : decode cX9_judge 45 = .ok (.iload_n 2, 1) := by decide +kernel
theorem dX9_judge_46 : decode cX9_judge 46 = .ok (.aload_n 0, 1) := by decide +kernel
theorem dX9_judge_47 : decode cX9_judge 47 = .ok (.getfield 238, 3) := by decide +kernel
theorem dX9_judge_50 : decode cX9_judge 50 = .ok (.iload_n 1, 1) := by decide +kernel
theorem dX9_judge_51 : decode cX9_judge 51 = .ok (.iaload, 1) := by decide +kernel
theorem dX9_judge_52 : decode cX9_judge 52 = .ok (.iload_n 3, 1) := by decide +kernel
theorem dX9_judge_53 : decode cX9_judge 53 = .ok (.isub, 1) := by decide +kernel
theorem dX9_judge_54 : decode cX9_judge 54 = .ok (.iconst 1, 1) := by decide +kernel
theorem dX9_judge_55 : decode cX9_judge 55 = .ok (.isub, 1) := by decide +kernel
theorem dX9_judge_56 : decode cX9_judge 56 = .ok (.if_icmp .le 8, 3) := by decide +kernel
theorem dX9_judge_59 : decode cX9_judge 59 = .ok (.bipush 100, 2) := by decide +kernel
theorem dX9_judge_61 : decode cX9_judge 61 = .ok (.iload_n 3, 1) := by decide +kernel
theorem dX9_judge_62 : decode cX9_judge 62 = .ok (.iadd, 1) := by decide +kernel
theorem dX9_judge_63 : decode cX9_judge 63 = .ok (.ireturn, 1) := by decide +kernel
theorem dX9_judge_64 : decode cX9_judge 64 = .ok (.aload_n 0, 1) := by decide +kernel
theorem dX9_judge_65 : decode cX9_judge 65 = .ok (.getfield 241, 3) := by decide +kernel
theorem dX9_judge_68 : decode cX9_judge 68 = .ok (.bipush 60, 2) := by decide +kernel
theorem dX9_judge_70 : decode cX9_judge 70 = .ok (.iload_n 1, 1) := by decide +kernel
theorem dX9_judge_71 : decode cX9_judge 71 = .ok (.imul, 1) := by decide +kernel
theorem dX9_judge_72 : decode cX9_judge 72 = .ok (.iload_n 2, 1) := by decide +kernel
theorem dX9_judge_73 : decode cX9_judge 73 = .ok (.iadd, 1) := by decide +kernel
theorem dX9_judge_74 : decode cX9_judge 74 = .ok (.iload_n 3, 1) := by decide +kernel
theorem dX9_judge_75 : decode cX9_judge 75 = .ok (.iadd, 1) := by decide +kernel
theorem dX9_judge_76 : decode cX9_judge 76 = .ok (.laload, 1) := by decide +kernel
theorem dX9_judge_77 : decode cX9_judge 77 = .ok (.aload_n 0, 1) := by decide +kernel
theorem dX9_judge_78 : decode cX9_judge 78 = .ok (.getfield 32, 3) := by decide +kernel
theorem dX9_judge_81 : decode cX9_judge 81 = .ok (.iload_n 3, 1) := by decide +kernel
theorem dX9_judge_82 : decode cX9_judge 82 = .ok (.iaload, 1) := by decide +kernel
theorem dX9_judge_83 : decode cX9_judge 83 = .ok (.i2l, 1) := by decide +kernel
theorem dX9_judge_84 : decode cX9_judge 84 = .ok (.lcmp, 1) := by decide +kernel
theorem dX9_judge_85 : decode cX9_judge 85 = .ok (.ifCond .eq 5, 3) := by decide +kernel
theorem dX9_judge_88 : decode cX9_judge 88 = .ok (.iload_n 3, 1) := by decide +kernel
theorem dX9_judge_89 : decode cX9_judge 89 = .ok (.ireturn, 1) := by decide +kernel
theorem dX9_judge_90 : decode cX9_judge 90 = .ok (.iinc 3 1, 3) := by decide +kernel
theorem dX9_judge_93 : decode cX9_judge 93 = .ok (.goto (-69), 3) := by decide +kernel
theorem dX9_judge_96 : decode cX9_judge 96 = .ok (.bipush (-5), 2) := by decide +kernel
theorem dX9_judge_98 : decode cX9_judge 98 = .ok (.ireturn, 1) := by decide +kernel
theorem dX9_image_0 : decode cX9_image 0 = .ok (.aload_n 0, 1) := by decide +kernel
theorem dX9_image_1 : decode cX9_image 1 = .ok (.iconst 1, 1) := by decide +kernel
theorem dX9_image_2 : decode cX9_image 2 = .ok (.putfield 162, 3) := by decide +kernel
theorem dX9_image_5 : decode cX9_image 5 = .ok (.aload_n 0, 1) := by decide +kernel
theorem dX9_image_6 : decode cX9_image 6 = .ok (.aload_n 0, 1) := by decide +kernel
theorem dX9_image_7 : decode cX9_image 7 = .ok (.getfield 44, 3) := by decide +kernel
theorem dX9_image_10 : decode cX9_image 10 = .ok (.putfield 166, 3) := by decide +kernel
theorem dX9_image_13 : decode cX9_image 13 = .ok (.aload_n 0, 1) := by decide +kernel
theorem dX9_image_14 : decode cX9_image 14 = .ok (.aload_n 0, 1) := by decide +kernel
theorem dX9_image_15 : decode cX9_image 15 = .ok (.getfield 7, 3) := by decide +kernel
theorem dX9_image_18 : decode cX9_image 18 = .ok (.putfield 169, 3) := by decide +kernel
theorem dX9_image_21 : decode cX9_image 21 = .ok (.aload_n 0, 1) := by decide +kernel
theorem dX9_image_22 : decode cX9_image 22 = .ok (.aload_n 0, 1) := by decide +kernel
theorem dX9_image_23 : decode cX9_image 23 = .ok (.getfield 13, 3) := by decide +kernel
theorem dX9_image_26 : decode cX9_image 26 = .ok (.putfield 172, 3) := by decide +kernel
theorem dX9_image_29 : decode cX9_image 29 = .ok (.aload_n 0, 1) := by decide +kernel
theorem dX9_image_30 : decode cX9_image 30 = .ok (.aload_n 0, 1) := by decide +kernel
theorem dX9_image_31 : decode cX9_image 31 = .ok (.getfield 16, 3) := by decide +kernel
theorem dX9_image_34 : decode cX9_image 34 = .ok (.putfield 175, 3) := by decide +kernel
theorem dX9_image_37 : decode cX9_image 37 = .ok (.aload_n 0, 1) := by decide +kernel
theorem dX9_image_38 : decode cX9_image 38 = .ok (.aload_n 0, 1) := by decide +kernel
theorem dX9_image_39 : decode cX9_image 39 = .ok (.getfield 19, 3) := by decide +kernel
theorem dX9_image_42 : decode cX9_image 42 = .ok (.putfield 178, 3) := by decide +kernel
theorem dX9_image_45 : decode cX9_image 45 = .ok (.aload_n 0, 1) := by decide +kernel
theorem dX9_image_46 : decode cX9_image 46 = .ok (.aload_n 0, 1) := by decide +kernel
theorem dX9_image_47 : decode cX9_image 47 = .ok (.getfield 22, 3) := by decide +kernel
theorem dX9_image_50 : decode cX9_image 50 = .ok (.putfield 181, 3) := by decide +kernel
theorem dX9_image_53 : decode cX9_image 53 = .ok (.aload_n 0, 1) := by decide +kernel
theorem dX9_image_54 : decode cX9_image 54 = .ok (.aload_n 0, 1) := by decide +kernel
theorem dX9_image_55 : decode cX9_image 55 = .ok (.getfield 129, 3) := by decide +kernel
theorem dX9_image_58 : decode cX9_image 58 = .ok (.putfield 184, 3) := by decide +kernel
theorem dX9_image_61 : decode cX9_image 61 = .ok (.aload_n 0, 1) := by decide +kernel
theorem dX9_image_62 : decode cX9_image 62 = .ok (.aload_n 0, 1) := by decide +kernel
theorem dX9_image_63 : decode cX9_image 63 = .ok (.getfield 144, 3) := by decide +kernel
theorem dX9_image_66 : decode cX9_image 66 = .ok (.putfield 187, 3) := by decide +kernel
theorem dX9_image_69 : decode cX9_image 69 = .ok (.aload_n 0, 1) := by decide +kernel
theorem dX9_image_70 : decode cX9_image 70 = .ok (.aload_n 0, 1) := by decide +kernel
theorem dX9_image_71 : decode cX9_image 71 = .ok (.getfield 147, 3) := by decide +kernel
theorem dX9_image_74 : decode cX9_image 74 = .ok (.putfield 190, 3) := by decide +kernel
theorem dX9_image_77 : decode cX9_image 77 = .ok (.iconst 0, 1) := by decide +kernel
theorem dX9_image_78 : decode cX9_image 78 = .ok (.istore_n 1, 1) := by decide +kernel
theorem dX9_image_79 : decode cX9_image 79 = .ok (.iload_n 1, 1) := by decide +kernel
theorem dX9_image_80 : decode cX9_image 80 = .ok (.bipush 6, 2) := by decide +kernel
theorem dX9_image_82 : decode cX9_image 82 = .ok (.if_icmp .ge 57, 3) := by decide +kernel
theorem dX9_image_85 : decode cX9_image 85 = .ok (.aload_n 0, 1) := by decide +kernel
theorem dX9_image_86 : decode cX9_image 86 = .ok (.getfield 193, 3) := by decide +kernel
theorem dX9_image_89 : decode cX9_image 89 = .ok (.iload_n 1, 1) := by decide +kernel
theorem dX9_image_90 : decode cX9_image 90 = .ok (.aload_n 0, 1) := by decide +kernel
theorem dX9_image_91 : decode cX9_image 91 = .ok (.getfield 25, 3) := by decide +kernel
theorem dX9_image_94 : decode cX9_image 94 = .ok (.iload_n 1, 1) := by decide +kernel
theorem dX9_image_95 : decode cX9_image 95 = .ok (.iaload, 1) := by decide +kernel
theorem dX9_image_96 : decode cX9_image 96 = .ok (.iastore, 1) := by decide +kernel
theorem dX9_image_97 : decode cX9_image 97 = .ok (.aload_n 0, 1) := by decide +kernel
theorem dX9_image_98 : decode cX9_image 98 = .ok (.getfield 196, 3) := by decide +kernel
theorem dX9_image_101 : decode cX9_image 101 = .ok (.iload_n 1, 1) := by decide +kernel
theorem dX9_image_102 : decode cX9_image 102 = .ok (.aload_n 0, 1) := by decide +kernel
theorem dX9_image_103 : decode cX9_image 103 = .ok (.getfield 29, 3) := by decide +kernel
theorem dX9_image_106 : decode cX9_image 106 = .ok (.iload_n 1, 1) := by decide +kernel
theorem dX9_image_107 : decode cX9_image 107 = .ok (.iaload, 1) := by decide +kernel
theorem dX9_image_108 : decode cX9_image 108 = .ok (.iastore, 1) := by decide +kernel
theorem dX9_image_109 : decode cX9_image 109 = .ok (.aload_n 0, 1) := by decide +kernel
theorem dX9_image_110 : decode cX9_image 110 = .ok (.getfield 199, 3) := by decide +kernel
theorem dX9_image_113 : decode cX9_image 113 = .ok (.iload_n 1, 1) := by decide +kernel
theorem dX9_image_114 : decode cX9_image 114 = .ok (.aload_n 0, 1) := by decide +kernel
theorem dX9_image_115 : decode cX9_image 115 = .ok (.getfield 32, 3) := by decide +kernel
theorem dX9_image_118 : decode cX9_image 118 = .ok (.iload_n 1, 1) := by decide +kernel
theorem dX9_image_119 : decode cX9_image 119 = .ok (.iaload, 1) := by decide +kernel
theorem dX9_image_120 : decode cX9_image 120 = .ok (.iastore, 1) := by decide +kernel
theorem dX9_image_121 : decode cX9_image 121 = .ok (.aload_n 0, 1) := by decide +kernel
theorem dX9_image_122 : decode cX9_image 122 = .ok (.getfield 202, 3) := by decide +kernel
theorem dX9_image_125 : decode cX9_image 125 = .ok (.iload_n 1, 1) := by decide +kernel
theorem dX9_image_126 : decode cX9_image 126 = .ok (.aload_n 0, 1) := by decide +kernel
theorem dX9_image_127 : decode cX9_image 127 = .ok (.getfield 35, 3) := by decide +kernel
theorem dX9_image_130 : decode cX9_image 130 = .ok (.iload_n 1, 1) := by decide +kernel
theorem dX9_image_131 : decode cX9_image 131 = .ok (.iaload, 1) := by decide +kernel
theorem dX9_image_132 : decode cX9_image 132 = .ok (.iastore, 1) := by decide +kernel
theorem dX9_image_133 : decode cX9_image 133 = .ok (.iinc 1 1, 3) := by decide +kernel
theorem dX9_image_136 : decode cX9_image 136 = .ok (.goto (-57), 3) := by decide +kernel
theorem dX9_image_139 : decode cX9_image 139 = .ok (.iconst 0, 1) := by decide +kernel
theorem dX9_image_140 : decode cX9_image 140 = .ok (.istore_n 1, 1) := by decide +kernel
theorem dX9_image_141 : decode cX9_image 141 = .ok (.iload_n 1, 1) := by decide +kernel
theorem dX9_image_142 : decode cX9_image 142 = .ok (.bipush 24, 2) := by decide +kernel
theorem dX9_image_144 : decode cX9_image 144 = .ok (.if_icmp .ge 21, 3) := by decide +kernel
theorem dX9_image_147 : decode cX9_image 147 = .ok (.aload_n 0, 1) := by decide +kernel
theorem dX9_image_148 : decode cX9_image 148 = .ok (.getfield 205, 3) := by decide +kernel
theorem dX9_image_151 : decode cX9_image 151 = .ok (.iload_n 1, 1) := by decide +kernel
theorem dX9_image_152 : decode cX9_image 152 = .ok (.aload_n 0, 1) := by decide +kernel
theorem dX9_image_153 : decode cX9_image 153 = .ok (.getfield 38, 3) := by decide +kernel
theorem dX9_image_156 : decode cX9_image 156 = .ok (.iload_n 1, 1) := by decide +kernel
theorem dX9_image_157 : decode cX9_image 157 = .ok (.iaload, 1) := by decide +kernel
theorem dX9_image_158 : decode cX9_image 158 = .ok (.iastore, 1) := by decide +kernel
theorem dX9_image_159 : decode cX9_image 159 = .ok (.iinc 1 1, 3) := by decide +kernel
theorem dX9_image_162 : decode cX9_image 162 = .ok (.goto (-21), 3) := by decide +kernel
theorem dX9_image_165 : decode cX9_image 165 = .ok (.iconst 0, 1) := by decide +kernel
theorem dX9_image_166 : decode cX9_image 166 = .ok (.istore_n 1, 1) := by decide +kernel
theorem dX9_image_167 : decode cX9_image 167 = .ok (.iload_n 1, 1) := by decide +kernel
theorem dX9_image_168 : decode cX9_image 168 = .ok (.iconst 5, 1) := by decide +kernel
theorem dX9_image_169 : decode cX9_image 169 = .ok (.if_icmp .ge 45, 3) := by decide +kernel
theorem dX9_image_172 : decode cX9_image 172 = .ok (.aload_n 0, 1) := by decide +kernel
theorem dX9_image_173 : decode cX9_image 173 = .ok (.getfield 208, 3) := by decide +kernel
theorem dX9_image_176 : decode cX9_image 176 = .ok (.iload_n 1, 1) := by decide +kernel
theorem dX9_image_177 : decode cX9_image 177 = .ok (.aload_n 0, 1) := by decide +kernel
theorem dX9_image_178 : decode cX9_image 178 = .ok (.getfield 132, 3) := by decide +kernel
theorem dX9_image_181 : decode cX9_image 181 = .ok (.iload_n 1, 1) := by decide +kernel
theorem dX9_image_182 : decode cX9_image 182 = .ok (.iaload, 1) := by decide +kernel
theorem dX9_image_183 : decode cX9_image 183 = .ok (.iastore, 1) := by decide +kernel
theorem dX9_image_184 : decode cX9_image 184 = .ok (.aload_n 0, 1) := by decide +kernel
theorem dX9_image_185 : decode cX9_image 185 = .ok (.getfield 226, 3) := by decide +kernel
theorem dX9_image_188 : decode cX9_image 188 = .ok (.iload_n 1, 1) := by decide +kernel
theorem dX9_image_189 : decode cX9_image 189 = .ok (.aload_n 0, 1) := by decide +kernel
theorem dX9_image_190 : decode cX9_image 190 = .ok (.getfield 138, 3) := by decide +kernel
theorem dX9_image_193 : decode cX9_image 193 = .ok (.iload_n 1, 1) := by decide +kernel
theorem dX9_image_194 : decode cX9_image 194 = .ok (.baload, 1) := by decide +kernel
theorem dX9_image_195 : decode cX9_image 195 = .ok (.bastore, 1) := by decide +kernel
theorem dX9_image_196 : decode cX9_image 196 = .ok (.aload_n 0, 1) := by decide +kernel
theorem dX9_image_197 : decode cX9_image 197 = .ok (.getfield 211, 3) := by decide +kernel
theorem dX9_image_200 : decode cX9_image 200 = .ok (.iload_n 1, 1) := by decide +kernel
theorem dX9_image_201 : decode cX9_image 201 = .ok (.aload_n 0, 1) := by decide +kernel
theorem dX9_image_202 : decode cX9_image 202 = .ok (.getfield 135, 3) := by decide +kernel
theorem dX9_image_205 : decode cX9_image 205 = .ok (.iload_n 1, 1) := by decide +kernel
theorem dX9_image_206 : decode cX9_image 206 = .ok (.iaload, 1) := by decide +kernel
theorem dX9_image_207 : decode cX9_image 207 = .ok (.iastore, 1) := by decide +kernel
theorem dX9_image_208 : decode cX9_image 208 = .ok (.iinc 1 1, 3) := by decide +kernel
theorem dX9_image_211 : decode cX9_image 211 = .ok (.goto (-44), 3) := by decide +kernel
theorem dX9_image_214 : decode cX9_image 214 = .ok (.iconst 0, 1) := by decide +kernel
theorem dX9_image_215 : decode cX9_image 215 = .ok (.istore_n 1, 1) := by decide +kernel
theorem dX9_image_216 : decode cX9_image 216 = .ok (.iload_n 1, 1) := by decide +kernel
theorem dX9_image_217 : decode cX9_image 217 = .ok (.bipush 10, 2) := by decide +kernel
theorem dX9_image_219 : decode cX9_image 219 = .ok (.if_icmp .ge 33, 3) := by decide +kernel
theorem dX9_image_222 : decode cX9_image 222 = .ok (.aload_n 0, 1) := by decide +kernel
theorem dX9_image_223 : decode cX9_image 223 = .ok (.getfield 214, 3) := by decide +kernel
theorem dX9_image_226 : decode cX9_image 226 = .ok (.iload_n 1, 1) := by decide +kernel
theorem dX9_image_227 : decode cX9_image 227 = .ok (.aload_n 0, 1) := by decide +kernel
theorem dX9_image_228 : decode cX9_image 228 = .ok (.getfield 150, 3) := by decide +kernel
theorem dX9_image_231 : decode cX9_image 231 = .ok (.iload_n 1, 1) := by decide +kernel
theorem dX9_image_232 : decode cX9_image 232 = .ok (.iaload, 1) := by decide +kernel
theorem dX9_image_233 : decode cX9_image 233 = .ok (.iastore, 1) := by decide +kernel
theorem dX9_image_234 : decode cX9_image 234 = .ok (.aload_n 0, 1) := by decide +kernel
theorem dX9_image_235 : decode cX9_image 235 = .ok (.getfield 217, 3) := by decide +kernel
theorem dX9_image_238 : decode cX9_image 238 = .ok (.iload_n 1, 1) := by decide +kernel
theorem dX9_image_239 : decode cX9_image 239 = .ok (.aload_n 0, 1) := by decide +kernel
theorem dX9_image_240 : decode cX9_image 240 = .ok (.getfield 153, 3) := by decide +kernel
theorem dX9_image_243 : decode cX9_image 243 = .ok (.iload_n 1, 1) := by decide +kernel
theorem dX9_image_244 : decode cX9_image 244 = .ok (.iaload, 1) := by decide +kernel
theorem dX9_image_245 : decode cX9_image 245 = .ok (.iastore, 1) := by decide +kernel
theorem dX9_image_246 : decode cX9_image 246 = .ok (.iinc 1 1, 3) := by decide +kernel
theorem dX9_image_249 : decode cX9_image 249 = .ok (.goto (-33), 3) := by decide +kernel
theorem dX9_image_252 : decode cX9_image 252 = .ok (.iconst 0, 1) := by decide +kernel
theorem dX9_image_253 : decode cX9_image 253 = .ok (.istore_n 1, 1) := by decide +kernel
theorem dX9_image_254 : decode cX9_image 254 = .ok (.iload_n 1, 1) := by decide +kernel
theorem dX9_image_255 : decode cX9_image 255 = .ok (.bipush 8, 2) := by decide +kernel
theorem dX9_image_257 : decode cX9_image 257 = .ok (.if_icmp .ge 33, 3) := by decide +kernel
theorem dX9_image_260 : decode cX9_image 260 = .ok (.aload_n 0, 1) := by decide +kernel
theorem dX9_image_261 : decode cX9_image 261 = .ok (.getfield 220, 3) := by decide +kernel
theorem dX9_image_264 : decode cX9_image 264 = .ok (.iload_n 1, 1) := by decide +kernel
theorem dX9_image_265 : decode cX9_image 265 = .ok (.aload_n 0, 1) := by decide +kernel
theorem dX9_image_266 : decode cX9_image 266 = .ok (.getfield 156, 3) := by decide +kernel
theorem dX9_image_269 : decode cX9_image 269 = .ok (.iload_n 1, 1) := by decide +kernel
theorem dX9_image_270 : decode cX9_image 270 = .ok (.iaload, 1) := by decide +kernel
theorem dX9_image_271 : decode cX9_image 271 = .ok (.iastore, 1) := by decide +kernel
theorem dX9_image_272 : decode cX9_image 272 = .ok (.aload_n 0, 1) := by decide +kernel
theorem dX9_image_273 : decode cX9_image 273 = .ok (.getfield 223, 3) := by decide +kernel
theorem dX9_image_276 : decode cX9_image 276 = .ok (.iload_n 1, 1) := by decide +kernel
theorem dX9_image_277 : decode cX9_image 277 = .ok (.aload_n 0, 1) := by decide +kernel
theorem dX9_image_278 : decode cX9_image 278 = .ok (.getfield 159, 3) := by decide +kernel
theorem dX9_image_281 : decode cX9_image 281 = .ok (.iload_n 1, 1) := by decide +kernel
theorem dX9_image_282 : decode cX9_image 282 = .ok (.iaload, 1) := by decide +kernel
theorem dX9_image_283 : decode cX9_image 283 = .ok (.iastore, 1) := by decide +kernel
theorem dX9_image_284 : decode cX9_image 284 = .ok (.iinc 1 1, 3) := by decide +kernel
theorem dX9_image_287 : decode cX9_image 287 = .ok (.goto (-33), 3) := by decide +kernel
theorem dX9_image_290 : decode cX9_image 290 = .ok (.aload_n 0, 1) := by decide +kernel
theorem dX9_image_291 : decode cX9_image 291 = .ok (.getfield 7, 3) := by decide +kernel
theorem dX9_image_294 : decode cX9_image 294 = .ok (.ireturn, 1) := by decide +kernel
theorem dX9_undo_0 : decode cX9_undo 0 = .ok (.aload_n 0, 1) := by decide +kernel
theorem dX9_undo_1 : decode cX9_undo 1 = .ok (.getfield 162, 3) := by decide +kernel
theorem dX9_undo_4 : decode cX9_undo 4 = .ok (.ifCond .ne 6, 3) := by decide +kernel
theorem dX9_undo_7 : decode cX9_undo 7 = .ok (.bipush (-3), 2) := by decide +kernel
theorem dX9_undo_9 : decode cX9_undo 9 = .ok (.ireturn, 1) := by decide +kernel
theorem dX9_undo_10 : decode cX9_undo 10 = .ok (.aload_n 0, 1) := by decide +kernel
theorem dX9_undo_11 : decode cX9_undo 11 = .ok (.aload_n 0, 1) := by decide +kernel
theorem dX9_undo_12 : decode cX9_undo 12 = .ok (.getfield 166, 3) := by decide +kernel
theorem dX9_undo_15 : decode cX9_undo 15 = .ok (.putfield 44, 3) := by decide +kernel
theorem dX9_undo_18 : decode cX9_undo 18 = .ok (.aload_n 0, 1) := by decide +kernel
theorem dX9_undo_19 : decode cX9_undo 19 = .ok (.aload_n 0, 1) := by decide +kernel
theorem dX9_undo_20 : decode cX9_undo 20 = .ok (.getfield 169, 3) := by decide +kernel
theorem dX9_undo_23 : decode cX9_undo 23 = .ok (.putfield 7, 3) := by decide +kernel
theorem dX9_undo_26 : decode cX9_undo 26 = .ok (.aload_n 0, 1) := by decide +kernel
theorem dX9_undo_27 : decode cX9_undo 27 = .ok (.aload_n 0, 1) := by decide +kernel
theorem dX9_undo_28 : decode cX9_undo 28 = .ok (.getfield 172, 3) := by decide +kernel
theorem dX9_undo_31 : decode cX9_undo 31 = .ok (.putfield 13, 3) := by decide +kernel
theorem dX9_undo_34 : decode cX9_undo 34 = .ok (.aload_n 0, 1) := by decide +kernel
theorem dX9_undo_35 : decode cX9_undo 35 = .ok (.aload_n 0, 1) := by decide +kernel
theorem dX9_undo_36 : decode cX9_undo 36 = .ok (.getfield 175, 3) := by decide +kernel
theorem dX9_undo_39 : decode cX9_undo 39 = .ok (.putfield 16, 3) := by decide +kernel
theorem dX9_undo_42 : decode cX9_undo 42 = .ok (.aload_n 0, 1) := by decide +kernel
theorem dX9_undo_43 : decode cX9_undo 43 = .ok (.aload_n 0, 1) := by decide +kernel
theorem dX9_undo_44 : decode cX9_undo 44 = .ok (.getfield 178, 3) := by decide +kernel
theorem dX9_undo_47 : decode cX9_undo 47 = .ok (.putfield 19, 3) := by decide +kernel
theorem dX9_undo_50 : decode cX9_undo 50 = .ok (.aload_n 0, 1) := by decide +kernel
theorem dX9_undo_51 : decode cX9_undo 51 = .ok (.aload_n 0, 1) := by decide +kernel
theorem dX9_undo_52 : decode cX9_undo 52 = .ok (.getfield 181, 3) := by decide +kernel
theorem dX9_undo_55 : decode cX9_undo 55 = .ok (.putfield 22, 3) := by decide +kernel
theorem dX9_undo_58 : decode cX9_undo 58 = .ok (.aload_n 0, 1) := by decide +kernel
theorem dX9_undo_59 : decode cX9_undo 59 = .ok (.aload_n 0, 1) := by decide +kernel
theorem dX9_undo_60 : decode cX9_undo 60 = .ok (.getfield 184, 3) := by decide +kernel
theorem dX9_undo_63 : decode cX9_undo 63 = .ok (.putfield 129, 3) := by decide +kernel
theorem dX9_undo_66 : decode cX9_undo 66 = .ok (.aload_n 0, 1) := by decide +kernel
theorem dX9_undo_67 : decode cX9_undo 67 = .ok (.aload_n 0, 1) := by decide +kernel
theorem dX9_undo_68 : decode cX9_undo 68 = .ok (.getfield 187, 3) := by decide +kernel
theorem dX9_undo_71 : decode cX9_undo 71 = .ok (.putfield 144, 3) := by decide +kernel
theorem dX9_undo_74 : decode cX9_undo 74 = .ok (.aload_n 0, 1) := by decide +kernel
theorem dX9_undo_75 : decode cX9_undo 75 = .ok (.aload_n 0, 1) := by decide +kernel
theorem dX9_undo_76 : decode cX9_undo 76 = .ok (.getfield 190, 3) := by decide +kernel
theorem dX9_undo_79 : decode cX9_undo 79 = .ok (.putfield 147, 3) := by decide +kernel
theorem dX9_undo_82 : decode cX9_undo 82 = .ok (.iconst 0, 1) := by decide +kernel
theorem dX9_undo_83 : decode cX9_undo 83 = .ok (.istore_n 1, 1) := by decide +kernel
theorem dX9_undo_84 : decode cX9_undo 84 = .ok (.iload_n 1, 1) := by decide +kernel
theorem dX9_undo_85 : decode cX9_undo 85 = .ok (.bipush 6, 2) := by decide +kernel
theorem dX9_undo_87 : decode cX9_undo 87 = .ok (.if_icmp .ge 57, 3) := by decide +kernel
theorem dX9_undo_90 : decode cX9_undo 90 = .ok (.aload_n 0, 1) := by decide +kernel
theorem dX9_undo_91 : decode cX9_undo 91 = .ok (.getfield 25, 3) := by decide +kernel
theorem dX9_undo_94 : decode cX9_undo 94 = .ok (.iload_n 1, 1) := by decide +kernel
theorem dX9_undo_95 : decode cX9_undo 95 = .ok (.aload_n 0, 1) := by decide +kernel
theorem dX9_undo_96 : decode cX9_undo 96 = .ok (.getfield 193, 3) := by decide +kernel
theorem dX9_undo_99 : decode cX9_undo 99 = .ok (.iload_n 1, 1) := by decide +kernel
theorem dX9_undo_100 : decode cX9_undo 100 = .ok (.iaload, 1) := by decide +kernel
theorem dX9_undo_101 : decode cX9_undo 101 = .ok (.iastore, 1) := by decide +kernel
theorem dX9_undo_102 : decode cX9_undo 102 = .ok (.aload_n 0, 1) := by decide +kernel
theorem dX9_undo_103 : decode cX9_undo 103 = .ok (.getfield 29, 3) := by decide +kernel
theorem dX9_undo_106 : decode cX9_undo 106 = .ok (.iload_n 1, 1) := by decide +kernel
theorem dX9_undo_107 : decode cX9_undo 107 = .ok (.aload_n 0, 1) := by decide +kernel
theorem dX9_undo_108 : decode cX9_undo 108 = .ok (.getfield 196, 3) := by decide +kernel
theorem dX9_undo_111 : decode cX9_undo 111 = .ok (.iload_n 1, 1) := by decide +kernel
theorem dX9_undo_112 : decode cX9_undo 112 = .ok (.iaload, 1) := by decide +kernel
theorem dX9_undo_113 : decode cX9_undo 113 = .ok (.iastore, 1) := by decide +kernel
theorem dX9_undo_114 : decode cX9_undo 114 = .ok (.aload_n 0, 1) := by decide +kernel
theorem dX9_undo_115 : decode cX9_undo 115 = .ok (.getfield 32, 3) := by decide +kernel
theorem dX9_undo_118 : decode cX9_undo 118 = .ok (.iload_n 1, 1) := by decide +kernel
theorem dX9_undo_119 : decode cX9_undo 119 = .ok (.aload_n 0, 1) := by decide +kernel
theorem dX9_undo_120 : decode cX9_undo 120 = .ok (.getfield 199, 3) := by decide +kernel
theorem dX9_undo_123 : decode cX9_undo 123 = .ok (.iload_n 1, 1) := by decide +kernel
theorem dX9_undo_124 : decode cX9_undo 124 = .ok (.iaload, 1) := by decide +kernel
theorem dX9_undo_125 : decode cX9_undo 125 = .ok (.iastore, 1) := by decide +kernel
theorem dX9_undo_126 : decode cX9_undo 126 = .ok (.aload_n 0, 1) := by decide +kernel
theorem dX9_undo_127 : decode cX9_undo 127 = .ok (.getfield 35, 3) := by decide +kernel
theorem dX9_undo_130 : decode cX9_undo 130 = .ok (.iload_n 1, 1) := by decide +kernel
theorem dX9_undo_131 : decode cX9_undo 131 = .ok (.aload_n 0, 1) := by decide +kernel
theorem dX9_undo_132 : decode cX9_undo 132 = .ok (.getfield 202, 3) := by decide +kernel
theorem dX9_undo_135 : decode cX9_undo 135 = .ok (.iload_n 1, 1) := by decide +kernel
theorem dX9_undo_136 : decode cX9_undo 136 = .ok (.iaload, 1) := by decide +kernel
theorem dX9_undo_137 : decode cX9_undo 137 = .ok (.iastore, 1) := by decide +kernel
theorem dX9_undo_138 : decode cX9_undo 138 = .ok (.iinc 1 1, 3) := by decide +kernel
theorem dX9_undo_141 : decode cX9_undo 141 = .ok (.goto (-57), 3) := by decide +kernel
theorem dX9_undo_144 : decode cX9_undo 144 = .ok (.iconst 0, 1) := by decide +kernel
theorem dX9_undo_145 : decode cX9_undo 145 = .ok (.istore_n 1, 1) := by decide +kernel
theorem dX9_undo_146 : decode cX9_undo 146 = .ok (.iload_n 1, 1) := by decide +kernel
theorem dX9_undo_147 : decode cX9_undo 147 = .ok (.bipush 24, 2) := by decide +kernel
theorem dX9_undo_149 : decode cX9_undo 149 = .ok (.if_icmp .ge 21, 3) := by decide +kernel
theorem dX9_undo_152 : decode cX9_undo 152 = .ok (.aload_n 0, 1) := by decide +kernel
theorem dX9_undo_153 : decode cX9_undo 153 = .ok (.getfield 38, 3) := by decide +kernel
theorem dX9_undo_156 : decode cX9_undo 156 = .ok (.iload_n 1, 1) := by decide +kernel
theorem dX9_undo_157 : decode cX9_undo 157 = .ok (.aload_n 0, 1) := by decide +kernel
theorem dX9_undo_158 : decode cX9_undo 158 = .ok (.getfield 205, 3) := by decide +kernel
theorem dX9_undo_161 : decode cX9_undo 161 = .ok (.iload_n 1, 1) := by decide +kernel
theorem dX9_undo_162 : decode cX9_undo 162 = .ok (.iaload, 1) := by decide +kernel
theorem dX9_undo_163 : decode cX9_undo 163 = .ok (.iastore, 1) := by decide +kernel
theorem dX9_undo_164 : decode cX9_undo 164 = .ok (.iinc 1 1, 3) := by decide +kernel
theorem dX9_undo_167 : decode cX9_undo 167 = .ok (.goto (-21), 3) := by decide +kernel
theorem dX9_undo_170 : decode cX9_undo 170 = .ok (.iconst 0, 1) := by decide +kernel
theorem dX9_undo_171 : decode cX9_undo 171 = .ok (.istore_n 1, 1) := by decide +kernel
theorem dX9_undo_172 : decode cX9_undo 172 = .ok (.iload_n 1, 1) := by decide +kernel
theorem dX9_undo_173 : decode cX9_undo 173 = .ok (.iconst 5, 1) := by decide +kernel
theorem dX9_undo_174 : decode cX9_undo 174 = .ok (.if_icmp .ge 45, 3) := by decide +kernel
theorem dX9_undo_177 : decode cX9_undo 177 = .ok (.aload_n 0, 1) := by decide +kernel
theorem dX9_undo_178 : decode cX9_undo 178 = .ok (.getfield 132, 3) := by decide +kernel
theorem dX9_undo_181 : decode cX9_undo 181 = .ok (.iload_n 1, 1) := by decide +kernel
theorem dX9_undo_182 : decode cX9_undo 182 = .ok (.aload_n 0, 1) := by decide +kernel
theorem dX9_undo_183 : decode cX9_undo 183 = .ok (.getfield 208, 3) := by decide +kernel
theorem dX9_undo_186 : decode cX9_undo 186 = .ok (.iload_n 1, 1) := by decide +kernel
theorem dX9_undo_187 : decode cX9_undo 187 = .ok (.iaload, 1) := by decide +kernel
theorem dX9_undo_188 : decode cX9_undo 188 = .ok (.iastore, 1) := by decide +kernel
theorem dX9_undo_189 : decode cX9_undo 189 = .ok (.aload_n 0, 1) := by decide +kernel
theorem dX9_undo_190 : decode cX9_undo 190 = .ok (.getfield 138, 3) := by decide +kernel
theorem dX9_undo_193 : decode cX9_undo 193 = .ok (.iload_n 1, 1) := by decide +kernel
theorem dX9_undo_194 : decode cX9_undo 194 = .ok (.aload_n 0, 1) := by decide +kernel
theorem dX9_undo_195 : decode cX9_undo 195 = .ok (.getfield 226, 3) := by decide +kernel
theorem dX9_undo_198 : decode cX9_undo 198 = .ok (.iload_n 1, 1) := by decide +kernel
theorem dX9_undo_199 : decode cX9_undo 199 = .ok (.baload, 1) := by decide +kernel
theorem dX9_undo_200 : decode cX9_undo 200 = .ok (.bastore, 1) := by decide +kernel
theorem dX9_undo_201 : decode cX9_undo 201 = .ok (.aload_n 0, 1) := by decide +kernel
theorem dX9_undo_202 : decode cX9_undo 202 = .ok (.getfield 135, 3) := by decide +kernel
theorem dX9_undo_205 : decode cX9_undo 205 = .ok (.iload_n 1, 1) := by decide +kernel
theorem dX9_undo_206 : decode cX9_undo 206 = .ok (.aload_n 0, 1) := by decide +kernel
theorem dX9_undo_207 : decode cX9_undo 207 = .ok (.getfield 211, 3) := by decide +kernel
theorem dX9_undo_210 : decode cX9_undo 210 = .ok (.iload_n 1, 1) := by decide +kernel
theorem dX9_undo_211 : decode cX9_undo 211 = .ok (.iaload, 1) := by decide +kernel
theorem dX9_undo_212 : decode cX9_undo 212 = .ok (.iastore, 1) := by decide +kernel
theorem dX9_undo_213 : decode cX9_undo 213 = .ok (.iinc 1 1, 3) := by decide +kernel
theorem dX9_undo_216 : decode cX9_undo 216 = .ok (.goto (-44), 3) := by decide +kernel
theorem dX9_undo_219 : decode cX9_undo 219 = .ok (.iconst 0, 1) := by decide +kernel
theorem dX9_undo_220 : decode cX9_undo 220 = .ok (.istore_n 1, 1) := by decide +kernel
theorem dX9_undo_221 : decode cX9_undo 221 = .ok (.iload_n 1, 1) := by decide +kernel
theorem dX9_undo_222 : decode cX9_undo 222 = .ok (.bipush 10, 2) := by decide +kernel
theorem dX9_undo_224 : decode cX9_undo 224 = .ok (.if_icmp .ge 33, 3) := by decide +kernel
theorem dX9_undo_227 : decode cX9_undo 227 = .ok (.aload_n 0, 1) := by decide +kernel
theorem dX9_undo_228 : decode cX9_undo 228 = .ok (.getfield 150, 3) := by decide +kernel
theorem dX9_undo_231 : decode cX9_undo 231 = .ok (.iload_n 1, 1) := by decide +kernel
theorem dX9_undo_232 : decode cX9_undo 232 = .ok (.aload_n 0, 1) := by decide +kernel
theorem dX9_undo_233 : decode cX9_undo 233 = .ok (.getfield 214, 3) := by decide +kernel
theorem dX9_undo_236 : decode cX9_undo 236 = .ok (.iload_n 1, 1) := by decide +kernel
theorem dX9_undo_237 : decode cX9_undo 237 = .ok (.iaload, 1) := by decide +kernel
theorem dX9_undo_238 : decode cX9_undo 238 = .ok (.iastore, 1) := by decide +kernel
theorem dX9_undo_239 : decode cX9_undo 239 = .ok (.aload_n 0, 1) := by decide +kernel
theorem dX9_undo_240 : decode cX9_undo 240 = .ok (.getfield 153, 3) := by decide +kernel
theorem dX9_undo_243 : decode cX9_undo 243 = .ok (.iload_n 1, 1) := by decide +kernel
theorem dX9_undo_244 : decode cX9_undo 244 = .ok (.aload_n 0, 1) := by decide +kernel
theorem dX9_undo_245 : decode cX9_undo 245 = .ok (.getfield 217, 3) := by decide +kernel
theorem dX9_undo_248 : decode cX9_undo 248 = .ok (.iload_n 1, 1) := by decide +kernel
theorem dX9_undo_249 : decode cX9_undo 249 = .ok (.iaload, 1) := by decide +kernel
theorem dX9_undo_250 : decode cX9_undo 250 = .ok (.iastore, 1) := by decide +kernel
theorem dX9_undo_251 : decode cX9_undo 251 = .ok (.iinc 1 1, 3) := by decide +kernel
theorem dX9_undo_254 : decode cX9_undo 254 = .ok (.goto (-33), 3) := by decide +kernel
theorem dX9_undo_257 : decode cX9_undo 257 = .ok (.iconst 0, 1) := by decide +kernel
theorem dX9_undo_258 : decode cX9_undo 258 = .ok (.istore_n 1, 1) := by decide +kernel
theorem dX9_undo_259 : decode cX9_undo 259 = .ok (.iload_n 1, 1) := by decide +kernel
theorem dX9_undo_260 : decode cX9_undo 260 = .ok (.bipush 8, 2) := by decide +kernel
theorem dX9_undo_262 : decode cX9_undo 262 = .ok (.if_icmp .ge 33, 3) := by decide +kernel
theorem dX9_undo_265 : decode cX9_undo 265 = .ok (.aload_n 0, 1) := by decide +kernel
theorem dX9_undo_266 : decode cX9_undo 266 = .ok (.getfield 156, 3) := by decide +kernel
theorem dX9_undo_269 : decode cX9_undo 269 = .ok (.iload_n 1, 1) := by decide +kernel
theorem dX9_undo_270 : decode cX9_undo 270 = .ok (.aload_n 0, 1) := by decide +kernel
theorem dX9_undo_271 : decode cX9_undo 271 = .ok (.getfield 220, 3) := by decide +kernel
theorem dX9_undo_274 : decode cX9_undo 274 = .ok (.iload_n 1, 1) := by decide +kernel
theorem dX9_undo_275 : decode cX9_undo 275 = .ok (.iaload, 1) := by decide +kernel
theorem dX9_undo_276 : decode cX9_undo 276 = .ok (.iastore, 1) := by decide +kernel
theorem dX9_undo_277 : decode cX9_undo 277 = .ok (.aload_n 0, 1) := by decide +kernel
theorem dX9_undo_278 : decode cX9_undo 278 = .ok (.getfield 159, 3) := by decide +kernel
theorem dX9_undo_281 : decode cX9_undo 281 = .ok (.iload_n 1, 1) := by decide +kernel
theorem dX9_undo_282 : decode cX9_undo 282 = .ok (.aload_n 0, 1) := by decide +kernel
theorem dX9_undo_283 : decode cX9_undo 283 = .ok (.getfield 223, 3) := by decide +kernel
theorem dX9_undo_286 : decode cX9_undo 286 = .ok (.iload_n 1, 1) := by decide +kernel
theorem dX9_undo_287 : decode cX9_undo 287 = .ok (.iaload, 1) := by decide +kernel
theorem dX9_undo_288 : decode cX9_undo 288 = .ok (.iastore, 1) := by decide +kernel
theorem dX9_undo_289 : decode cX9_undo 289 = .ok (.iinc 1 1, 3) := by decide +kernel
theorem dX9_undo_292 : decode cX9_undo 292 = .ok (.goto (-33), 3) := by decide +kernel
theorem dX9_undo_295 : decode cX9_undo 295 = .ok (.aload_n 0, 1) := by decide +kernel
theorem dX9_undo_296 : decode cX9_undo 296 = .ok (.getfield 7, 3) := by decide +kernel
theorem dX9_undo_299 : decode cX9_undo 299 = .ok (.ireturn, 1) := by decide +kernel
theorem dX9_body_0 : decode cX9_body 0 = .ok (.aload_n 0, 1) := by decide +kernel
theorem dX9_body_1 : decode cX9_body 1 = .ok (.getfield 229, 3) := by decide +kernel
theorem dX9_body_4 : decode cX9_body 4 = .ok (.bipush 20, 2) := by decide +kernel
theorem dX9_body_6 : decode cX9_body 6 = .ok (.if_icmp .ge 13, 3) := by decide +kernel
theorem dX9_body_9 : decode cX9_body 9 = .ok (.aload_n 0, 1) := by decide +kernel
theorem dX9_body_10 : decode cX9_body 10 = .ok (.getfield 232, 3) := by decide +kernel
theorem dX9_body_13 : decode cX9_body 13 = .ok (.aload_n 0, 1) := by decide +kernel
theorem dX9_body_14 : decode cX9_body 14 = .ok (.getfield 229, 3) := by decide +kernel
theorem dX9_body_17 : decode cX9_body 17 = .ok (.iload_n 1, 1) := by decide +kernel
theorem dX9_body_18 : decode cX9_body 18 = .ok (.iastore, 1) := by decide +kernel
theorem dX9_body_19 : decode cX9_body 19 = .ok (.aload_n 0, 1) := by decide +kernel
theorem dX9_body_20 : decode cX9_body 20 = .ok (.dup, 1) := by decide +kernel
theorem dX9_body_21 : decode cX9_body 21 = .ok (.getfield 229, 3) := by decide +kernel
theorem dX9_body_24 : decode cX9_body 24 = .ok (.iconst 1, 1) := by decide +kernel
theorem dX9_body_25 : decode cX9_body 25 = .ok (.iadd, 1) := by decide +kernel
theorem dX9_body_26 : decode cX9_body 26 = .ok (.putfield 229, 3) := by decide +kernel
theorem dX9_body_29 : decode cX9_body 29 = .ok (.return_, 1) := by decide +kernel
theorem dX9_guestSips_0 : decode cX9_guestSips 0 = .ok (.aload_n 0, 1) := by decide +kernel
theorem dX9_guestSips_1 : decode cX9_guestSips 1 = .ok (.bipush 10, 2) := by decide +kernel
theorem dX9_guestSips_3 : decode cX9_guestSips 3 = .ok (.invokevirtual 436, 3) := by decide +kernel
theorem dX9_guestSips_6 : decode cX9_guestSips 6 = .ok (.iload_n 2, 1) := by decide +kernel
theorem dX9_guestSips_7 : decode cX9_guestSips 7 = .ok (.iload_n 1, 1) := by decide +kernel
theorem dX9_guestSips_8 : decode cX9_guestSips 8 = .ok (.iadd, 1) := by decide +kernel
theorem dX9_guestSips_9 : decode cX9_guestSips 9 = .ok (.ireturn, 1) := by decide +kernel
theorem dX9_sipsAct_0 : decode cX9_sipsAct 0 = .ok (.aload_n 0, 1) := by decide +kernel
theorem dX9_sipsAct_1 : decode cX9_sipsAct 1 = .ok (.getfield 25, 3) := by decide +kernel
theorem dX9_sipsAct_4 : decode cX9_sipsAct 4 = .ok (.iload_n 1, 1) := by decide +kernel
theorem dX9_sipsAct_5 : decode cX9_sipsAct 5 = .ok (.iaload, 1) := by decide +kernel
theorem dX9_sipsAct_6 : decode cX9_sipsAct 6 = .ok (.tableswitch 83 2 6 #[34, 83, 49, 34, 63], 34) := by decide +kernel
theorem dX9_sipsAct_40 : decode cX9_sipsAct 40 = .ok (.aload_n 0, 1) := by decide +kernel
theorem dX9_sipsAct_41 : decode cX9_sipsAct 41 = .ok (.bipush 30, 2) := by decide +kernel
theorem dX9_sipsAct_43 : decode cX9_sipsAct 43 = .ok (.invokevirtual 436, 3) := by decide +kernel
theorem dX9_sipsAct_46 : decode cX9_sipsAct 46 = .ok (.aload_n 0, 1) := by decide +kernel
theorem dX9_sipsAct_47 : decode cX9_sipsAct 47 = .ok (.iload_n 1, 1) := by decide +kernel
theorem dX9_sipsAct_48 : decode cX9_sipsAct 48 = .ok (.iload_n 2, 1) := by decide +kernel
theorem dX9_sipsAct_49 : decode cX9_sipsAct 49 = .ok (.iconst 3, 1) := by decide +kernel
theorem dX9_sipsAct_50 : decode cX9_sipsAct 50 = .ok (.imul, 1) := by decide +kernel
theorem dX9_sipsAct_51 : decode cX9_sipsAct 51 = .ok (.invokevirtual 439, 3) := by decide +kernel
theorem dX9_sipsAct_54 : decode cX9_sipsAct 54 = .ok (.ireturn, 1) := by decide +kernel
theorem dX9_sipsAct_55 : decode cX9_sipsAct 55 = .ok (.aload_n 0, 1) := by decide +kernel
theorem dX9_sipsAct_56 : decode cX9_sipsAct 56 = .ok (.bipush 50, 2) := by decide +kernel
theorem dX9_sipsAct_58 : decode cX9_sipsAct 58 = .ok (.invokevirtual 436, 3) := by decide +kernel
theorem dX9_sipsAct_61 : decode cX9_sipsAct 61 = .ok (.aload_n 0, 1) := by decide +kernel
theorem dX9_sipsAct_62 : decode cX9_sipsAct 62 = .ok (.iload_n 1, 1) := by decide +kernel
theorem dX9_sipsAct_63 : decode cX9_sipsAct 63 = .ok (.iload_n 2, 1) := by decide +kernel
theorem dX9_sipsAct_64 : decode cX9_sipsAct 64 = .ok (.invokevirtual 439, 3) := by decide +kernel
theorem dX9_sipsAct_67 : decode cX9_sipsAct 67 = .ok (.ineg, 1) := by decide +kernel
theorem dX9_sipsAct_68 : decode cX9_sipsAct 68 = .ok (.ireturn, 1) := by decide +kernel
theorem dX9_sipsAct_69 : decode cX9_sipsAct 69 = .ok (.aload_n 0, 1) := by decide +kernel
theorem dX9_sipsAct_70 : decode cX9_sipsAct 70 = .ok (.bipush 71, 2) := by decide +kernel
theorem dX9_sipsAct_72 : decode cX9_sipsAct 72 = .ok (.invokevirtual 436, 3) := by decide +kernel
theorem dX9_sipsAct_75 : decode cX9_sipsAct 75 = .ok (.aload_n 0, 1) := by decide +kernel
theorem dX9_sipsAct_76 : decode cX9_sipsAct 76 = .ok (.iload_n 1, 1) := by decide +kernel
theorem dX9_sipsAct_77 : decode cX9_sipsAct 77 = .ok (.iload_n 2, 1) := by decide +kernel
theorem dX9_sipsAct_78 : decode cX9_sipsAct 78 = .ok (.invokevirtual 439, 3) := by decide +kernel
theorem dX9_sipsAct_81 : decode cX9_sipsAct 81 = .ok (.aload_n 0, 1) := by decide +kernel
theorem dX9_sipsAct_82 : decode cX9_sipsAct 82 = .ok (.getfield 29, 3) := by decide +kernel
theorem dX9_sipsAct_85 : decode cX9_sipsAct 85 = .ok (.iload_n 1, 1) := by decide +kernel
theorem dX9_sipsAct_86 : decode cX9_sipsAct 86 = .ok (.iaload, 1) := by decide +kernel
theorem dX9_sipsAct_87 : decode cX9_sipsAct 87 = .ok (.ixor, 1) := by decide +kernel
theorem dX9_sipsAct_88 : decode cX9_sipsAct 88 = .ok (.ireturn, 1) := by decide +kernel
theorem dX9_sipsAct_89 : decode cX9_sipsAct 89 = .ok (.aload_n 0, 1) := by decide +kernel
theorem dX9_sipsAct_90 : decode cX9_sipsAct 90 = .ok (.iload_n 1, 1) := by decide +kernel
theorem dX9_sipsAct_91 : decode cX9_sipsAct 91 = .ok (.iload_n 2, 1) := by decide +kernel
theorem dX9_sipsAct_92 : decode cX9_sipsAct 92 = .ok (.invokevirtual 439, 3) := by decide +kernel
theorem dX9_sipsAct_95 : decode cX9_sipsAct 95 = .ok (.ireturn, 1) := by decide +kernel
theorem dX9_guestChats_0 : decode cX9_guestChats 0 = .ok (.aload_n 0, 1) := by decide +kernel
theorem dX9_guestChats_1 : decode cX9_guestChats 1 = .ok (.bipush 11, 2) := by decide +kernel
theorem dX9_guestChats_3 : decode cX9_guestChats 3 = .ok (.invokevirtual 436, 3) := by decide +kernel
theorem dX9_guestChats_6 : decode cX9_guestChats 6 = .ok (.aload_n 0, 1) := by decide +kernel
theorem dX9_guestChats_7 : decode cX9_guestChats 7 = .ok (.iload_n 1, 1) := by decide +kernel
theorem dX9_guestChats_8 : decode cX9_guestChats 8 = .ok (.iload_n 2, 1) := by decide +kernel
theorem dX9_guestChats_9 : decode cX9_guestChats 9 = .ok (.invokevirtual 442, 3) := by decide +kernel
theorem dX9_guestChats_12 : decode cX9_guestChats 12 = .ok (.aload_n 0, 1) := by decide +kernel
theorem dX9_guestChats_13 : decode cX9_guestChats 13 = .ok (.getfield 29, 3) := by decide +kernel
theorem dX9_guestChats_16 : decode cX9_guestChats 16 = .ok (.iload_n 1, 1) := by decide +kernel
theorem dX9_guestChats_17 : decode cX9_guestChats 17 = .ok (.iaload, 1) := by decide +kernel
theorem dX9_guestChats_18 : decode cX9_guestChats 18 = .ok (.isub, 1) := by decide +kernel
theorem dX9_guestChats_19 : decode cX9_guestChats 19 = .ok (.ireturn, 1) := by decide +kernel
theorem dX9_wouldChats_0 : decode cX9_wouldChats 0 = .ok (.aload_n 0, 1) := by decide +kernel
theorem dX9_wouldChats_1 : decode cX9_wouldChats 1 = .ok (.bipush 20, 2) := by decide +kernel
theorem dX9_wouldChats_3 : decode cX9_wouldChats 3 = .ok (.invokevirtual 436, 3) := by decide +kernel
theorem dX9_wouldChats_6 : decode cX9_wouldChats 6 = .ok (.aload_n 0, 1) := by decide +kernel
theorem dX9_wouldChats_7 : decode cX9_wouldChats 7 = .ok (.iload_n 1, 1) := by decide +kernel
theorem dX9_wouldChats_8 : decode cX9_wouldChats 8 = .ok (.iload_n 2, 1) := by decide +kernel
theorem dX9_wouldChats_9 : decode cX9_wouldChats 9 = .ok (.invokevirtual 445, 3) := by decide +kernel
theorem dX9_wouldChats_12 : decode cX9_wouldChats 12 = .ok (.bipush 6, 2) := by decide +kernel
theorem dX9_wouldChats_14 : decode cX9_wouldChats 14 = .ok (.ixor, 1) := by decide +kernel
theorem dX9_wouldChats_15 : decode cX9_wouldChats 15 = .ok (.ireturn, 1) := by decide +kernel
theorem dX9_chatsAct_0 : decode cX9_chatsAct 0 = .ok (.aload_n 0, 1) := by decide +kernel
theorem dX9_chatsAct_1 : decode cX9_chatsAct 1 = .ok (.getfield 25, 3) := by decide +kernel
theorem dX9_chatsAct_4 : decode cX9_chatsAct 4 = .ok (.iload_n 1, 1) := by decide +kernel
theorem dX9_chatsAct_5 : decode cX9_chatsAct 5 = .ok (.iaload, 1) := by decide +kernel
theorem dX9_chatsAct_6 : decode cX9_chatsAct 6 = .ok (.lookupswitch 78 #[(1, 34), (4, 41), (6, 56)], 34) := by decide +kernel
theorem dX9_chatsAct_40 : decode cX9_chatsAct 40 = .ok (.aload_n 0, 1) := by decide +kernel
theorem dX9_chatsAct_41 : decode cX9_chatsAct 41 = .ok (.iload_n 1, 1) := by decide +kernel
theorem dX9_chatsAct_42 : decode cX9_chatsAct 42 = .ok (.iload_n 2, 1) := by decide +kernel
theorem dX9_chatsAct_43 : decode cX9_chatsAct 43 = .ok (.invokevirtual 448, 3) := by decide +kernel
theorem dX9_chatsAct_46 : decode cX9_chatsAct 46 = .ok (.ireturn, 1) := by decide +kernel
theorem dX9_chatsAct_47 : decode cX9_chatsAct 47 = .ok (.aload_n 0, 1) := by decide +kernel
theorem dX9_chatsAct_48 : decode cX9_chatsAct 48 = .ok (.bipush 51, 2) := by decide +kernel
theorem dX9_chatsAct_50 : decode cX9_chatsAct 50 = .ok (.invokevirtual 436, 3) := by decide +kernel
theorem dX9_chatsAct_53 : decode cX9_chatsAct 53 = .ok (.aload_n 0, 1) := by decide +kernel
theorem dX9_chatsAct_54 : decode cX9_chatsAct 54 = .ok (.iload_n 1, 1) := by decide +kernel
theorem dX9_chatsAct_55 : decode cX9_chatsAct 55 = .ok (.iload_n 2, 1) := by decide +kernel
theorem dX9_chatsAct_56 : decode cX9_chatsAct 56 = .ok (.iconst 1, 1) := by decide +kernel
theorem dX9_chatsAct_57 : decode cX9_chatsAct 57 = .ok (.iadd, 1) := by decide +kernel
theorem dX9_chatsAct_58 : decode cX9_chatsAct 58 = .ok (.invokevirtual 448, 3) := by decide +kernel
theorem dX9_chatsAct_61 : decode cX9_chatsAct 61 = .ok (.ireturn, 1) := by decide +kernel
theorem dX9_chatsAct_62 : decode cX9_chatsAct 62 = .ok (.aload_n 0, 1) := by decide +kernel
theorem dX9_chatsAct_63 : decode cX9_chatsAct 63 = .ok (.bipush 70, 2) := by decide +kernel
theorem dX9_chatsAct_65 : decode cX9_chatsAct 65 = .ok (.invokevirtual 436, 3) := by decide +kernel
theorem dX9_chatsAct_68 : decode cX9_chatsAct 68 = .ok (.aload_n 0, 1) := by decide +kernel
theorem dX9_chatsAct_69 : decode cX9_chatsAct 69 = .ok (.iload_n 1, 1) := by decide +kernel
theorem dX9_chatsAct_70 : decode cX9_chatsAct 70 = .ok (.iload_n 2, 1) := by decide +kernel
theorem dX9_chatsAct_71 : decode cX9_chatsAct 71 = .ok (.invokevirtual 445, 3) := by decide +kernel
theorem dX9_chatsAct_74 : decode cX9_chatsAct 74 = .ok (.istore_n 3, 1) := by decide +kernel
theorem dX9_chatsAct_75 : decode cX9_chatsAct 75 = .ok (.iload_n 3, 1) := by decide +kernel
theorem dX9_chatsAct_76 : decode cX9_chatsAct 76 = .ok (.aload_n 0, 1) := by decide +kernel
theorem dX9_chatsAct_77 : decode cX9_chatsAct 77 = .ok (.iload_n 1, 1) := by decide +kernel
theorem dX9_chatsAct_78 : decode cX9_chatsAct 78 = .ok (.iconst 2, 1) := by decide +kernel
theorem dX9_chatsAct_79 : decode cX9_chatsAct 79 = .ok (.invokevirtual 439, 3) := by decide +kernel
theorem dX9_chatsAct_82 : decode cX9_chatsAct 82 = .ok (.iadd, 1) := by decide +kernel
theorem dX9_chatsAct_83 : decode cX9_chatsAct 83 = .ok (.ireturn, 1) := by decide +kernel
theorem dX9_chatsAct_84 : decode cX9_chatsAct 84 = .ok (.aload_n 0, 1) := by decide +kernel
theorem dX9_chatsAct_85 : decode cX9_chatsAct 85 = .ok (.iload_n 1, 1) := by decide +kernel
theorem dX9_chatsAct_86 : decode cX9_chatsAct 86 = .ok (.iload_n 2, 1) := by decide +kernel
theorem dX9_chatsAct_87 : decode cX9_chatsAct 87 = .ok (.invokevirtual 445, 3) := by decide +kernel
theorem dX9_chatsAct_90 : decode cX9_chatsAct 90 = .ok (.ireturn, 1) := by decide +kernel
theorem dX9_guestTells_0 : decode cX9_guestTells 0 = .ok (.aload_n 0, 1) := by decide +kernel
theorem dX9_guestTells_1 : decode cX9_guestTells 1 = .ok (.bipush 12, 2) := by decide +kernel
theorem dX9_guestTells_3 : decode cX9_guestTells 3 = .ok (.invokevirtual 436, 3) := by decide +kernel
theorem dX9_guestTells_6 : decode cX9_guestTells 6 = .ok (.aload_n 0, 1) := by decide +kernel
theorem dX9_guestTells_7 : decode cX9_guestTells 7 = .ok (.iload_n 1, 1) := by decide +kernel
theorem dX9_guestTells_8 : decode cX9_guestTells 8 = .ok (.iload_n 2, 1) := by decide +kernel
theorem dX9_guestTells_9 : decode cX9_guestTells 9 = .ok (.invokevirtual 451, 3) := by decide +kernel
theorem dX9_guestTells_12 : decode cX9_guestTells 12 = .ok (.iconst 2, 1) := by decide +kernel
theorem dX9_guestTells_13 : decode cX9_guestTells 13 = .ok (.imul, 1) := by decide +kernel
theorem dX9_guestTells_14 : decode cX9_guestTells 14 = .ok (.ireturn, 1) := by decide +kernel
theorem dX9_tellsAct_0 : decode cX9_tellsAct 0 = .ok (.aload_n 0, 1) := by decide +kernel
theorem dX9_tellsAct_1 : decode cX9_tellsAct 1 = .ok (.getfield 25, 3) := by decide +kernel
theorem dX9_tellsAct_4 : decode cX9_tellsAct 4 = .ok (.iload_n 1, 1) := by decide +kernel
theorem dX9_tellsAct_5 : decode cX9_tellsAct 5 = .ok (.iaload, 1) := by decide +kernel
theorem dX9_tellsAct_6 : decode cX9_tellsAct 6 = .ok (.tableswitch 67 3 6 #[30, 67, 52, 30], 30) := by decide +kernel
theorem dX9_tellsAct_36 : decode cX9_tellsAct 36 = .ok (.aload_n 0, 1) := by decide +kernel
theorem dX9_tellsAct_37 : decode cX9_tellsAct 37 = .ok (.bipush 40, 2) := by decide +kernel
theorem dX9_tellsAct_39 : decode cX9_tellsAct 39 = .ok (.invokevirtual 436, 3) := by decide +kernel
theorem dX9_tellsAct_42 : decode cX9_tellsAct 42 = .ok (.aload_n 0, 1) := by decide +kernel
theorem dX9_tellsAct_43 : decode cX9_tellsAct 43 = .ok (.iload_n 1, 1) := by decide +kernel
theorem dX9_tellsAct_44 : decode cX9_tellsAct 44 = .ok (.iload_n 2, 1) := by decide +kernel
theorem dX9_tellsAct_45 : decode cX9_tellsAct 45 = .ok (.invokevirtual 454, 3) := by decide +kernel
theorem dX9_tellsAct_48 : decode cX9_tellsAct 48 = .ok (.istore_n 3, 1) := by decide +kernel
theorem dX9_tellsAct_49 : decode cX9_tellsAct 49 = .ok (.iload_n 3, 1) := by decide +kernel
theorem dX9_tellsAct_50 : decode cX9_tellsAct 50 = .ok (.aload_n 0, 1) := by decide +kernel
theorem dX9_tellsAct_51 : decode cX9_tellsAct 51 = .ok (.iload_n 1, 1) := by decide +kernel
theorem dX9_tellsAct_52 : decode cX9_tellsAct 52 = .ok (.iconst 1, 1) := by decide +kernel
theorem dX9_tellsAct_53 : decode cX9_tellsAct 53 = .ok (.invokevirtual 451, 3) := by decide +kernel
theorem dX9_tellsAct_56 : decode cX9_tellsAct 56 = .ok (.iadd, 1) := by decide +kernel
theorem dX9_tellsAct_57 : decode cX9_tellsAct 57 = .ok (.ireturn, 1) := by decide +kernel
theorem dX9_tellsAct_58 : decode cX9_tellsAct 58 = .ok (.aload_n 0, 1) := by decide +kernel
theorem dX9_tellsAct_59 : decode cX9_tellsAct 59 = .ok (.bipush 60, 2) := by decide +kernel
theorem dX9_tellsAct_61 : decode cX9_tellsAct 61 = .ok (.invokevirtual 436, 3) := by decide +kernel
theorem dX9_tellsAct_64 : decode cX9_tellsAct 64 = .ok (.aload_n 0, 1) := by decide +kernel
theorem dX9_tellsAct_65 : decode cX9_tellsAct 65 = .ok (.iload_n 1, 1) := by decide +kernel
theorem dX9_tellsAct_66 : decode cX9_tellsAct 66 = .ok (.iload_n 2, 1) := by decide +kernel
theorem dX9_tellsAct_67 : decode cX9_tellsAct 67 = .ok (.iload_n 1, 1) := by decide +kernel
theorem dX9_tellsAct_68 : decode cX9_tellsAct 68 = .ok (.isub, 1) := by decide +kernel
theorem dX9_tellsAct_69 : decode cX9_tellsAct 69 = .ok (.invokevirtual 454, 3) := by decide +kernel
theorem dX9_tellsAct_72 : decode cX9_tellsAct 72 = .ok (.ireturn, 1) := by decide +kernel
theorem dX9_tellsAct_73 : decode cX9_tellsAct 73 = .ok (.aload_n 0, 1) := by decide +kernel
theorem dX9_tellsAct_74 : decode cX9_tellsAct 74 = .ok (.iload_n 1, 1) := by decide +kernel
theorem dX9_tellsAct_75 : decode cX9_tellsAct 75 = .ok (.iload_n 2, 1) := by decide +kernel
theorem dX9_tellsAct_76 : decode cX9_tellsAct 76 = .ok (.invokevirtual 454, 3) := by decide +kernel
theorem dX9_tellsAct_79 : decode cX9_tellsAct 79 = .ok (.ireturn, 1) := by decide +kernel
theorem dX9_act_0 : decode cX9_act 0 = .ok (.aload_n 0, 1) := by decide +kernel
theorem dX9_act_1 : decode cX9_act 1 = .ok (.iconst 0, 1) := by decide +kernel
theorem dX9_act_2 : decode cX9_act 2 = .ok (.putfield 229, 3) := by decide +kernel
theorem dX9_act_5 : decode cX9_act 5 = .ok (.aload_n 0, 1) := by decide +kernel
theorem dX9_act_6 : decode cX9_act 6 = .ok (.iload_n 1, 1) := by decide +kernel
theorem dX9_act_7 : decode cX9_act 7 = .ok (.invokevirtual 260, 3) := by decide +kernel
theorem dX9_act_10 : decode cX9_act 10 = .ok (.ifCond .eq 13, 3) := by decide +kernel
theorem dX9_act_13 : decode cX9_act 13 = .ok (.aload_n 0, 1) := by decide +kernel
theorem dX9_act_14 : decode cX9_act 14 = .ok (.iload_n 2, 1) := by decide +kernel
theorem dX9_act_15 : decode cX9_act 15 = .ok (.iconst 0, 1) := by decide +kernel
theorem dX9_act_16 : decode cX9_act 16 = .ok (.iconst 2, 1) := by decide +kernel
theorem dX9_act_17 : decode cX9_act 17 = .ok (.invokevirtual 252, 3) := by decide +kernel
theorem dX9_act_20 : decode cX9_act 20 = .ok (.ifCond .ne 5, 3) := by decide +kernel
theorem dX9_act_23 : decode cX9_act 23 = .ok (.iconst 0, 1) := by decide +kernel
theorem dX9_act_24 : decode cX9_act 24 = .ok (.ireturn, 1) := by decide +kernel
theorem dX9_act_25 : decode cX9_act 25 = .ok (.iload_n 2, 1) := by decide +kernel
theorem dX9_act_26 : decode cX9_act 26 = .ok (.ifCond .ne 12, 3) := by decide +kernel
theorem dX9_act_29 : decode cX9_act 29 = .ok (.aload_n 0, 1) := by decide +kernel
theorem dX9_act_30 : decode cX9_act 30 = .ok (.iload_n 1, 1) := by decide +kernel
theorem dX9_act_31 : decode cX9_act 31 = .ok (.iload_n 3, 1) := by decide +kernel
theorem dX9_act_32 : decode cX9_act 32 = .ok (.invokevirtual 442, 3) := by decide +kernel
theorem dX9_act_35 : decode cX9_act 35 = .ok (.goto 23, 3) := by decide +kernel
theorem dX9_act_38 : decode cX9_act 38 = .ok (.iload_n 2, 1) := by decide +kernel
theorem dX9_act_39 : decode cX9_act 39 = .ok (.iconst 1, 1) := by decide +kernel
theorem dX9_act_40 : decode cX9_act 40 = .ok (.if_icmp .ne 12, 3) := by decide +kernel
theorem dX9_act_43 : decode cX9_act 43 = .ok (.aload_n 0, 1) := by decide +kernel
theorem dX9_act_44 : decode cX9_act 44 = .ok (.iload_n 1, 1) := by decide +kernel
theorem dX9_act_45 : decode cX9_act 45 = .ok (.iload_n 3, 1) := by decide +kernel
theorem dX9_act_46 : decode cX9_act 46 = .ok (.invokevirtual 451, 3) := by decide +kernel
theorem dX9_act_49 : decode cX9_act 49 = .ok (.goto 9, 3) := by decide +kernel
theorem dX9_act_52 : decode cX9_act 52 = .ok (.aload_n 0, 1) := by decide +kernel
theorem dX9_act_53 : decode cX9_act 53 = .ok (.iload_n 1, 1) := by decide +kernel
theorem dX9_act_54 : decode cX9_act 54 = .ok (.iload_n 3, 1) := by decide +kernel
theorem dX9_act_55 : decode cX9_act 55 = .ok (.invokevirtual 457, 3) := by decide +kernel
theorem dX9_act_58 : decode cX9_act 58 = .ok (.ireturn, 1) := by decide +kernel
theorem dX9_trace_0 : decode cX9_trace 0 = .ok (.aload_n 0, 1) := by decide +kernel
theorem dX9_trace_1 : decode cX9_trace 1 = .ok (.iload_n 1, 1) := by decide +kernel
theorem dX9_trace_2 : decode cX9_trace 2 = .ok (.iconst 0, 1) := by decide +kernel
theorem dX9_trace_3 : decode cX9_trace 3 = .ok (.bipush 19, 2) := by decide +kernel
theorem dX9_trace_5 : decode cX9_trace 5 = .ok (.invokevirtual 252, 3) := by decide +kernel
theorem dX9_trace_8 : decode cX9_trace 8 = .ok (.ifCond .eq 20, 3) := by decide +kernel
theorem dX9_trace_11 : decode cX9_trace 11 = .ok (.iload_n 1, 1) := by decide +kernel
theorem dX9_trace_12 : decode cX9_trace 12 = .ok (.aload_n 0, 1) := by decide +kernel
theorem dX9_trace_13 : decode cX9_trace 13 = .ok (.getfield 229, 3) := by decide +kernel
theorem dX9_trace_16 : decode cX9_trace 16 = .ok (.if_icmp .ge 12, 3) := by decide +kernel
theorem dX9_trace_19 : decode cX9_trace 19 = .ok (.aload_n 0, 1) := by decide +kernel
theorem dX9_trace_20 : decode cX9_trace 20 = .ok (.getfield 232, 3) := by decide +kernel
theorem dX9_trace_23 : decode cX9_trace 23 = .ok (.iload_n 1, 1) := by decide +kernel
theorem dX9_trace_24 : decode cX9_trace 24 = .ok (.iaload, 1) := by decide +kernel
theorem dX9_trace_25 : decode cX9_trace 25 = .ok (.goto 4, 3) := by decide +kernel
theorem dX9_trace_28 : decode cX9_trace 28 = .ok (.iconst (-1), 1) := by decide +kernel
theorem dX9_trace_29 : decode cX9_trace 29 = .ok (.ireturn, 1) := by decide +kernel
theorem dX9_taken_0 : decode cX9_taken 0 = .ok (.aload_n 0, 1) := by decide +kernel
theorem dX9_taken_1 : decode cX9_taken 1 = .ok (.iload_n 2, 1) := by decide +kernel
theorem dX9_taken_2 : decode cX9_taken 2 = .ok (.iconst 0, 1) := by decide +kernel
theorem dX9_taken_3 : decode cX9_taken 3 = .ok (.bipush 6, 2) := by decide +kernel
theorem dX9_taken_5 : decode cX9_taken 5 = .ok (.invokevirtual 252, 3) := by decide +kernel
theorem dX9_taken_8 : decode cX9_taken 8 = .ok (.ifCond .ne 6, 3) := by decide +kernel
theorem dX9_taken_11 : decode cX9_taken 11 = .ok (.bipush (-2), 2) := by decide +kernel
theorem dX9_taken_13 : decode cX9_taken 13 = .ok (.ireturn, 1) := by decide +kernel
theorem dX9_taken_14 : decode cX9_taken 14 = .ok (.aload_n 0, 1) := by decide +kernel
theorem dX9_taken_15 : decode cX9_taken 15 = .ok (.iload_n 1, 1) := by decide +kernel
theorem dX9_taken_16 : decode cX9_taken 16 = .ok (.invokevirtual 260, 3) := by decide +kernel
theorem dX9_taken_19 : decode cX9_taken 19 = .ok (.ifCond .ne 6, 3) := by decide +kernel
theorem dX9_taken_22 : decode cX9_taken 22 = .ok (.bipush (-11), 2) := by decide +kernel
theorem dX9_taken_24 : decode cX9_taken 24 = .ok (.ireturn, 1) := by decide +kernel
theorem dX9_taken_25 : decode cX9_taken 25 = .ok (.aload_n 0, 1) := by decide +kernel
theorem dX9_taken_26 : decode cX9_taken 26 = .ok (.getfield 25, 3) := by decide +kernel
theorem dX9_taken_29 : decode cX9_taken 29 = .ok (.iload_n 1, 1) := by decide +kernel
theorem dX9_taken_30 : decode cX9_taken 30 = .ok (.iaload, 1) := by decide +kernel
theorem dX9_taken_31 : decode cX9_taken 31 = .ok (.istore_n 3, 1) := by decide +kernel
theorem dX9_taken_32 : decode cX9_taken 32 = .ok (.iload_n 2, 1) := by decide +kernel
theorem dX9_taken_33 : decode cX9_taken 33 = .ok (.ifCond .eq 39, 3) := by decide +kernel
theorem dX9_taken_36 : decode cX9_taken 36 = .ok (.iload_n 3, 1) := by decide +kernel
theorem dX9_taken_37 : decode cX9_taken 37 = .ok (.iload_n 2, 1) := by decide +kernel
theorem dX9_taken_38 : decode cX9_taken 38 = .ok (.if_icmp .eq 34, 3) := by decide +kernel
theorem dX9_taken_41 : decode cX9_taken 41 = .ok (.iload_n 2, 1) := by decide +kernel
theorem dX9_taken_42 : decode cX9_taken 42 = .ok (.iconst 1, 1) := by decide +kernel
theorem dX9_taken_43 : decode cX9_taken 43 = .ok (.if_icmp .ne 8, 3) := by decide +kernel
theorem dX9_taken_46 : decode cX9_taken 46 = .ok (.iload_n 3, 1) := by decide +kernel
theorem dX9_taken_47 : decode cX9_taken 47 = .ok (.iconst 4, 1) := by decide +kernel
theorem dX9_taken_48 : decode cX9_taken 48 = .ok (.if_icmp .eq 24, 3) := by decide +kernel
theorem dX9_taken_51 : decode cX9_taken 51 = .ok (.iload_n 2, 1) := by decide +kernel
theorem dX9_taken_52 : decode cX9_taken 52 = .ok (.iconst 2, 1) := by decide +kernel
theorem dX9_taken_53 : decode cX9_taken 53 = .ok (.if_icmp .ne 8, 3) := by decide +kernel
theorem dX9_taken_56 : decode cX9_taken 56 = .ok (.iload_n 3, 1) := by decide +kernel
theorem dX9_taken_57 : decode cX9_taken 57 = .ok (.iconst 5, 1) := by decide +kernel
theorem dX9_taken_58 : decode cX9_taken 58 = .ok (.if_icmp .eq 14, 3) := by decide +kernel
theorem dX9_taken_61 : decode cX9_taken 61 = .ok (.iload_n 2, 1) := by decide +kernel
theorem dX9_taken_62 : decode cX9_taken 62 = .ok (.iconst 3, 1) := by decide +kernel
theorem dX9_taken_63 : decode cX9_taken 63 = .ok (.if_icmp .ne 13, 3) := by decide +kernel
theorem dX9_taken_66 : decode cX9_taken 66 = .ok (.iload_n 3, 1) := by decide +kernel
theorem dX9_taken_67 : decode cX9_taken 67 = .ok (.bipush 6, 2) := by decide +kernel
theorem dX9_taken_69 : decode cX9_taken 69 = .ok (.if_icmp .ne 7, 3) := by decide +kernel
theorem dX9_taken_72 : decode cX9_taken 72 = .ok (.iload_n 3, 1) := by decide +kernel
theorem dX9_taken_73 : decode cX9_taken 73 = .ok (.goto 5, 3) := by decide +kernel
theorem dX9_taken_76 : decode cX9_taken 76 = .ok (.bipush (-12), 2) := by decide +kernel
theorem dX9_taken_78 : decode cX9_taken 78 = .ok (.ireturn, 1) := by decide +kernel
theorem dX9_count_0 : decode cX9_count 0 = .ok (.iload_n 1, 1) := by decide +kernel
theorem dX9_count_1 : decode cX9_count 1 = .ok (.tableswitch 78 0 6 #[43, 48, 53, 58, 63, 68, 73], 43) := by decide +kernel
theorem dX9_count_44 : decode cX9_count 44 = .ok (.aload_n 0, 1) := by decide +kernel
theorem dX9_count_45 : decode cX9_count 45 = .ok (.getfield 7, 3) := by decide +kernel
theorem dX9_count_48 : decode cX9_count 48 = .ok (.ireturn, 1) := by decide +kernel
theorem dX9_count_49 : decode cX9_count 49 = .ok (.aload_n 0, 1) := by decide +kernel
theorem dX9_count_50 : decode cX9_count 50 = .ok (.getfield 41, 3) := by decide +kernel
theorem dX9_count_53 : decode cX9_count 53 = .ok (.ireturn, 1) := by decide +kernel
theorem dX9_count_54 : decode cX9_count 54 = .ok (.aload_n 0, 1) := by decide +kernel
theorem dX9_count_55 : decode cX9_count 55 = .ok (.getfield 129, 3) := by decide +kernel
theorem dX9_count_58 : decode cX9_count 58 = .ok (.ireturn, 1) := by decide +kernel
theorem dX9_count_59 : decode cX9_count 59 = .ok (.aload_n 0, 1) := by decide +kernel
theorem dX9_count_60 : decode cX9_count 60 = .ok (.getfield 144, 3) := by decide +kernel
theorem dX9_count_63 : decode cX9_count 63 = .ok (.ireturn, 1) := by decide +kernel
theorem dX9_count_64 : decode cX9_count 64 = .ok (.aload_n 0, 1) := by decide +kernel
theorem dX9_count_65 : decode cX9_count 65 = .ok (.getfield 147, 3) := by decide +kernel
theorem dX9_count_68 : decode cX9_count 68 = .ok (.ireturn, 1) := by decide +kernel
theorem dX9_count_69 : decode cX9_count 69 = .ok (.aload_n 0, 1) := by decide +kernel
theorem dX9_count_70 : decode cX9_count 70 = .ok (.getfield 47, 3) := by decide +kernel
theorem dX9_count_73 : decode cX9_count 73 = .ok (.ireturn, 1) := by decide +kernel
theorem dX9_count_74 : decode cX9_count 74 = .ok (.aload_n 0, 1) := by decide +kernel
theorem dX9_count_75 : decode cX9_count 75 = .ok (.getfield 229, 3) := by decide +kernel
theorem dX9_count_78 : decode cX9_count 78 = .ok (.ireturn, 1) := by decide +kernel
theorem dX9_count_79 : decode cX9_count 79 = .ok (.bipush (-2), 2) := by decide +kernel
theorem dX9_count_81 : decode cX9_count 81 = .ok (.ireturn, 1) := by decide +kernel
theorem dX9_isTape_0 : decode cX9_isTape 0 = .ok (.aload_n 0, 1) := by decide +kernel
theorem dX9_isTape_1 : decode cX9_isTape 1 = .ok (.iload_n 1, 1) := by decide +kernel
theorem dX9_isTape_2 : decode cX9_isTape 2 = .ok (.iconst 0, 1) := by decide +kernel
theorem dX9_isTape_3 : decode cX9_isTape 3 = .ok (.iconst 5, 1) := by decide +kernel
theorem dX9_isTape_4 : decode cX9_isTape 4 = .ok (.invokevirtual 252, 3) := by decide +kernel
theorem dX9_isTape_7 : decode cX9_isTape 7 = .ok (.ireturn, 1) := by decide +kernel
theorem dX9_tape_0 : decode cX9_tape 0 = .ok (.aload_n 0, 1) := by decide +kernel
theorem dX9_tape_1 : decode cX9_tape 1 = .ok (.iload_n 1, 1) := by decide +kernel
theorem dX9_tape_2 : decode cX9_tape 2 = .ok (.invokevirtual 433, 3) := by decide +kernel
theorem dX9_tape_5 : decode cX9_tape 5 = .ok (.ifCond .ne 5, 3) := by decide +kernel
theorem dX9_tape_8 : decode cX9_tape 8 = .ok (.iconst (-1), 1) := by decide +kernel
theorem dX9_tape_9 : decode cX9_tape 9 = .ok (.ireturn, 1) := by decide +kernel
theorem dX9_tape_10 : decode cX9_tape 10 = .ok (.aload_n 0, 1) := by decide +kernel
theorem dX9_tape_11 : decode cX9_tape 11 = .ok (.iload_n 2, 1) := by decide +kernel
theorem dX9_tape_12 : decode cX9_tape 12 = .ok (.iconst (-1), 1) := by decide +kernel
theorem dX9_tape_13 : decode cX9_tape 13 = .ok (.iconst 4, 1) := by decide +kernel
theorem dX9_tape_14 : decode cX9_tape 14 = .ok (.invokevirtual 252, 3) := by decide +kernel
theorem dX9_tape_17 : decode cX9_tape 17 = .ok (.ifCond .eq 13, 3) := by decide +kernel
theorem dX9_tape_20 : decode cX9_tape 20 = .ok (.iload_n 2, 1) := by decide +kernel
theorem dX9_tape_21 : decode cX9_tape 21 = .ok (.ifCond .lt 12, 3) := by decide +kernel
theorem dX9_tape_24 : decode cX9_tape 24 = .ok (.iload_n 3, 1) := by decide +kernel
theorem dX9_tape_25 : decode cX9_tape 25 = .ok (.bipush 60, 2) := by decide +kernel
theorem dX9_tape_27 : decode cX9_tape 27 = .ok (.if_icmp .le 6, 3) := by decide +kernel
theorem dX9_tape_30 : decode cX9_tape 30 = .ok (.bipush (-2), 2) := by decide +kernel
theorem dX9_tape_32 : decode cX9_tape 32 = .ok (.ireturn, 1) := by decide +kernel
theorem dX9_tape_33 : decode cX9_tape 33 = .ok (.iload_n 2, 1) := by decide +kernel
theorem dX9_tape_34 : decode cX9_tape 34 = .ok (.ifCond .lt 10, 3) := by decide +kernel
theorem dX9_tape_37 : decode cX9_tape 37 = .ok (.iload_n 3, 1) := by decide +kernel
theorem dX9_tape_38 : decode cX9_tape 38 = .ok (.ifCond .ge 6, 3) := by decide +kernel
theorem dX9_tape_41 : decode cX9_tape 41 = .ok (.bipush (-14), 2) := by decide +kernel
theorem dX9_tape_43 : decode cX9_tape 43 = .ok (.ireturn, 1) := by decide +kernel
theorem dX9_tape_44 : decode cX9_tape 44 = .ok (.aload_n 0, 1) := by decide +kernel
theorem dX9_tape_45 : decode cX9_tape 45 = .ok (.getfield 235, 3) := by decide +kernel
theorem dX9_tape_48 : decode cX9_tape 48 = .ok (.iload_n 1, 1) := by decide +kernel
theorem dX9_tape_49 : decode cX9_tape 49 = .ok (.iload_n 2, 1) := by decide +kernel
theorem dX9_tape_50 : decode cX9_tape 50 = .ok (.iastore, 1) := by decide +kernel
theorem dX9_tape_51 : decode cX9_tape 51 = .ok (.aload_n 0, 1) := by decide +kernel
theorem dX9_tape_52 : decode cX9_tape 52 = .ok (.getfield 238, 3) := by decide +kernel
theorem dX9_tape_55 : decode cX9_tape 55 = .ok (.iload_n 1, 1) := by decide +kernel
theorem dX9_tape_56 : decode cX9_tape 56 = .ok (.iload_n 2, 1) := by decide +kernel
theorem dX9_tape_57 : decode cX9_tape 57 = .ok (.ifCond .ge 7, 3) := by decide +kernel
theorem dX9_tape_60 : decode cX9_tape 60 = .ok (.iconst 0, 1) := by decide +kernel
theorem dX9_tape_61 : decode cX9_tape 61 = .ok (.goto 4, 3) := by decide +kernel
theorem dX9_tape_64 : decode cX9_tape 64 = .ok (.iload_n 3, 1) := by decide +kernel
theorem dX9_tape_65 : decode cX9_tape 65 = .ok (.iastore, 1) := by decide +kernel
theorem dX9_tape_66 : decode cX9_tape 66 = .ok (.iconst 0, 1) := by decide +kernel
theorem dX9_tape_67 : decode cX9_tape 67 = .ok (.istore 4, 2) := by decide +kernel
theorem dX9_tape_69 : decode cX9_tape 69 = .ok (.iload 4, 2) := by decide +kernel
theorem dX9_tape_71 : decode cX9_tape 71 = .ok (.bipush 60, 2) := by decide +kernel
theorem dX9_tape_73 : decode cX9_tape 73 = .ok (.if_icmp .ge 22, 3) := by decide +kernel
theorem dX9_tape_76 : decode cX9_tape 76 = .ok (.aload_n 0, 1) := by decide +kernel
theorem dX9_tape_77 : decode cX9_tape 77 = .ok (.getfield 241, 3) := by decide +kernel
theorem dX9_tape_80 : decode cX9_tape 80 = .ok (.bipush 60, 2) := by decide +kernel
theorem dX9_tape_82 : decode cX9_tape 82 = .ok (.iload_n 1, 1) := by decide +kernel
theorem dX9_tape_83 : decode cX9_tape 83 = .ok (.imul, 1) := by decide +kernel
theorem dX9_tape_84 : decode cX9_tape 84 = .ok (.iload 4, 2) := by decide +kernel
theorem dX9_tape_86 : decode cX9_tape 86 = .ok (.iadd, 1) := by decide +kernel
theorem dX9_tape_87 : decode cX9_tape 87 = .ok (.lconst 0, 1) := by decide +kernel
theorem dX9_tape_88 : decode cX9_tape 88 = .ok (.lastore, 1) := by decide +kernel
theorem dX9_tape_89 : decode cX9_tape 89 = .ok (.iinc 4 1, 3) := by decide +kernel
theorem dX9_tape_92 : decode cX9_tape 92 = .ok (.goto (-23), 3) := by decide +kernel
theorem dX9_tape_95 : decode cX9_tape 95 = .ok (.iconst 1, 1) := by decide +kernel
theorem dX9_tape_96 : decode cX9_tape 96 = .ok (.ireturn, 1) := by decide +kernel
theorem dX9_narrow_0 : decode cX9_narrow 0 = .ok (.iload_n 1, 1) := by decide +kernel
theorem dX9_narrow_1 : decode cX9_narrow 1 = .ok (.ifCond .ne 10, 3) := by decide +kernel
theorem dX9_narrow_4 : decode cX9_narrow 4 = .ok (.lload_n 2, 1) := by decide +kernel
theorem dX9_narrow_5 : decode cX9_narrow 5 = .ok (.l2i, 1) := by decide +kernel
theorem dX9_narrow_6 : decode cX9_narrow 6 = .ok (.i2b, 1) := by decide +kernel
theorem dX9_narrow_7 : decode cX9_narrow 7 = .ok (.i2l, 1) := by decide +kernel
theorem dX9_narrow_8 : decode cX9_narrow 8 = .ok (.goto 46, 3) := by decide +kernel
theorem dX9_narrow_11 : decode cX9_narrow 11 = .ok (.iload_n 1, 1) := by decide +kernel
theorem dX9_narrow_12 : decode cX9_narrow 12 = .ok (.iconst 1, 1) := by decide +kernel
theorem dX9_narrow_13 : decode cX9_narrow 13 = .ok (.if_icmp .ne 10, 3) := by decide +kernel
theorem dX9_narrow_16 : decode cX9_narrow 16 = .ok (.lload_n 2, 1) := by decide +kernel
theorem dX9_narrow_17 : decode cX9_narrow 17 = .ok (.l2i, 1) := by decide +kernel
theorem dX9_narrow_18 : decode cX9_narrow 18 = .ok (.i2s, 1) := by decide +kernel
theorem dX9_narrow_19 : decode cX9_narrow 19 = .ok (.i2l, 1) := by decide +kernel
theorem dX9_narrow_20 : decode cX9_narrow 20 = .ok (.goto 34, 3) := by decide +kernel
theorem dX9_narrow_23 : decode cX9_narrow 23 = .ok (.iload_n 1, 1) := by decide +kernel
theorem dX9_narrow_24 : decode cX9_narrow 24 = .ok (.iconst 2, 1) := by decide +kernel
theorem dX9_narrow_25 : decode cX9_narrow 25 = .ok (.if_icmp .ne 9, 3) := by decide +kernel
theorem dX9_narrow_28 : decode cX9_narrow 28 = .ok (.lload_n 2, 1) := by decide +kernel
theorem dX9_narrow_29 : decode cX9_narrow 29 = .ok (.l2i, 1) := by decide +kernel
theorem dX9_narrow_30 : decode cX9_narrow 30 = .ok (.i2l, 1) := by decide +kernel
theorem dX9_narrow_31 : decode cX9_narrow 31 = .ok (.goto 23, 3) := by decide +kernel
theorem dX9_narrow_34 : decode cX9_narrow 34 = .ok (.iload_n 1, 1) := by decide +kernel
theorem dX9_narrow_35 : decode cX9_narrow 35 = .ok (.iconst 4, 1) := by decide +kernel
theorem dX9_narrow_36 : decode cX9_narrow 36 = .ok (.if_icmp .ne 17, 3) := by decide +kernel
theorem dX9_narrow_39 : decode cX9_narrow 39 = .ok (.lload_n 2, 1) := by decide +kernel
theorem dX9_narrow_40 : decode cX9_narrow 40 = .ok (.lconst 0, 1) := by decide +kernel
theorem dX9_narrow_41 : decode cX9_narrow 41 = .ok (.lcmp, 1) := by decide +kernel
theorem dX9_narrow_42 : decode cX9_narrow 42 = .ok (.ifCond .eq 7, 3) := by decide +kernel
theorem dX9_narrow_45 : decode cX9_narrow 45 = .ok (.lconst 1, 1) := by decide +kernel
theorem dX9_narrow_46 : decode cX9_narrow 46 = .ok (.goto 8, 3) := by decide +kernel
theorem dX9_narrow_49 : decode cX9_narrow 49 = .ok (.lconst 0, 1) := by decide +kernel
theorem dX9_narrow_50 : decode cX9_narrow 50 = .ok (.goto 4, 3) := by decide +kernel
theorem dX9_narrow_53 : decode cX9_narrow 53 = .ok (.lload_n 2, 1) := by decide +kernel
theorem dX9_narrow_54 : decode cX9_narrow 54 = .ok (.lreturn, 1) := by decide +kernel
theorem dX9_item_0 : decode cX9_item 0 = .ok (.aload_n 0, 1) := by decide +kernel
theorem dX9_item_1 : decode cX9_item 1 = .ok (.iload_n 1, 1) := by decide +kernel
theorem dX9_item_2 : decode cX9_item 2 = .ok (.invokevirtual 433, 3) := by decide +kernel
theorem dX9_item_5 : decode cX9_item 5 = .ok (.ifCond .ne 5, 3) := by decide +kernel
theorem dX9_item_8 : decode cX9_item 8 = .ok (.iconst (-1), 1) := by decide +kernel
theorem dX9_item_9 : decode cX9_item 9 = .ok (.ireturn, 1) := by decide +kernel
theorem dX9_item_10 : decode cX9_item 10 = .ok (.aload_n 0, 1) := by decide +kernel
theorem dX9_item_11 : decode cX9_item 11 = .ok (.getfield 235, 3) := by decide +kernel
theorem dX9_item_14 : decode cX9_item 14 = .ok (.iload_n 1, 1) := by decide +kernel
theorem dX9_item_15 : decode cX9_item 15 = .ok (.iaload, 1) := by decide +kernel
theorem dX9_item_16 : decode cX9_item 16 = .ok (.ifCond .ge 6, 3) := by decide +kernel
theorem dX9_item_19 : decode cX9_item 19 = .ok (.bipush (-11), 2) := by decide +kernel
theorem dX9_item_21 : decode cX9_item 21 = .ok (.ireturn, 1) := by decide +kernel
theorem dX9_item_22 : decode cX9_item 22 = .ok (.aload_n 0, 1) := by decide +kernel
theorem dX9_item_23 : decode cX9_item 23 = .ok (.iload_n 2, 1) := by decide +kernel
theorem dX9_item_24 : decode cX9_item 24 = .ok (.iconst 0, 1) := by decide +kernel
theorem dX9_item_25 : decode cX9_item 25 = .ok (.aload_n 0, 1) := by decide +kernel
theorem dX9_item_26 : decode cX9_item 26 = .ok (.getfield 238, 3) := by decide +kernel
theorem dX9_item_29 : decode cX9_item 29 = .ok (.iload_n 1, 1) := by decide +kernel
theorem dX9_item_30 : decode cX9_item 30 = .ok (.iaload, 1) := by decide +kernel
theorem dX9_item_31 : decode cX9_item 31 = .ok (.iconst 1, 1) := by decide +kernel
theorem dX9_item_32 : decode cX9_item 32 = .ok (.isub, 1) := by decide +kernel
theorem dX9_item_33 : decode cX9_item 33 = .ok (.invokevirtual 252, 3) := by decide +kernel
theorem dX9_item_36 : decode cX9_item 36 = .ok (.ifCond .ne 6, 3) := by decide +kernel
theorem dX9_item_39 : decode cX9_item 39 = .ok (.bipush (-13), 2) := by decide +kernel
theorem dX9_item_41 : decode cX9_item 41 = .ok (.ireturn, 1) := by decide +kernel
theorem dX9_item_42 : decode cX9_item 42 = .ok (.aload_n 0, 1) := by decide +kernel
theorem dX9_item_43 : decode cX9_item 43 = .ok (.getfield 241, 3) := by decide +kernel
theorem dX9_item_46 : decode cX9_item 46 = .ok (.bipush 60, 2) := by decide +kernel
theorem dX9_item_48 : decode cX9_item 48 = .ok (.iload_n 1, 1) := by decide +kernel
theorem dX9_item_49 : decode cX9_item 49 = .ok (.imul, 1) := by decide +kernel
theorem dX9_item_50 : decode cX9_item 50 = .ok (.iload_n 2, 1) := by decide +kernel
theorem dX9_item_51 : decode cX9_item 51 = .ok (.iadd, 1) := by decide +kernel
theorem dX9_item_52 : decode cX9_item 52 = .ok (.aload_n 0, 1) := by decide +kernel
theorem dX9_item_53 : decode cX9_item 53 = .ok (.aload_n 0, 1) := by decide +kernel
theorem dX9_item_54 : decode cX9_item 54 = .ok (.getfield 235, 3) := by decide +kernel
theorem dX9_item_57 : decode cX9_item 57 = .ok (.iload_n 1, 1) := by decide +kernel
theorem dX9_item_58 : decode cX9_item 58 = .ok (.iaload, 1) := by decide +kernel
theorem dX9_item_59 : decode cX9_item 59 = .ok (.lload_n 3, 1) := by decide +kernel
theorem dX9_item_60 : decode cX9_item 60 = .ok (.invokevirtual 460, 3) := by decide +kernel
theorem dX9_item_63 : decode cX9_item 63 = .ok (.lastore, 1) := by decide +kernel
theorem dX9_item_64 : decode cX9_item 64 = .ok (.iconst 1, 1) := by decide +kernel
theorem dX9_item_65 : decode cX9_item 65 = .ok (.ireturn, 1) := by decide +kernel
theorem dX9_read_0 : decode cX9_read 0 = .ok (.aload_n 0, 1) := by decide +kernel
theorem dX9_read_1 : decode cX9_read 1 = .ok (.iload_n 1, 1) := by decide +kernel
theorem dX9_read_2 : decode cX9_read 2 = .ok (.invokevirtual 433, 3) := by decide +kernel
theorem dX9_read_5 : decode cX9_read 5 = .ok (.ifCond .eq 29, 3) := by decide +kernel
theorem dX9_read_8 : decode cX9_read 8 = .ok (.aload_n 0, 1) := by decide +kernel
theorem dX9_read_9 : decode cX9_read 9 = .ok (.getfield 235, 3) := by decide +kernel
theorem dX9_read_12 : decode cX9_read 12 = .ok (.iload_n 1, 1) := by decide +kernel
theorem dX9_read_13 : decode cX9_read 13 = .ok (.iaload, 1) := by decide +kernel
theorem dX9_read_14 : decode cX9_read 14 = .ok (.ifCond .lt 20, 3) := by decide +kernel
theorem dX9_read_17 : decode cX9_read 17 = .ok (.aload_n 0, 1) := by decide +kernel
theorem dX9_read_18 : decode cX9_read 18 = .ok (.iload_n 2, 1) := by decide +kernel
theorem dX9_read_19 : decode cX9_read 19 = .ok (.iconst 0, 1) := by decide +kernel
theorem dX9_read_20 : decode cX9_read 20 = .ok (.aload_n 0, 1) := by decide +kernel
theorem dX9_read_21 : decode cX9_read 21 = .ok (.getfield 238, 3) := by decide +kernel
theorem dX9_read_24 : decode cX9_read 24 = .ok (.iload_n 1, 1) := by decide +kernel
theorem dX9_read_25 : decode cX9_read 25 = .ok (.iaload, 1) := by decide +kernel
theorem dX9_read_26 : decode cX9_read 26 = .ok (.iconst 1, 1) := by decide +kernel
theorem dX9_read_27 : decode cX9_read 27 = .ok (.isub, 1) := by decide +kernel
theorem dX9_read_28 : decode cX9_read 28 = .ok (.invokevirtual 252, 3) := by decide +kernel
theorem dX9_read_31 : decode cX9_read 31 = .ok (.ifCond .ne 9, 3) := by decide +kernel
theorem dX9_read_34 : decode cX9_read 34 = .ok (.ldc2_w 427, 3) := by decide +kernel
theorem dX9_read_37 : decode cX9_read 37 = .ok (.goto 14, 3) := by decide +kernel
theorem dX9_read_40 : decode cX9_read 40 = .ok (.aload_n 0, 1) := by decide +kernel
theorem dX9_read_41 : decode cX9_read 41 = .ok (.getfield 241, 3) := by decide +kernel
theorem dX9_read_44 : decode cX9_read 44 = .ok (.bipush 60, 2) := by decide +kernel
theorem dX9_read_46 : decode cX9_read 46 = .ok (.iload_n 1, 1) := by decide +kernel
theorem dX9_read_47 : decode cX9_read 47 = .ok (.imul, 1) := by decide +kernel
theorem dX9_read_48 : decode cX9_read 48 = .ok (.iload_n 2, 1) := by decide +kernel
theorem dX9_read_49 : decode cX9_read 49 = .ok (.iadd, 1) := by decide +kernel
theorem dX9_read_50 : decode cX9_read 50 = .ok (.laload, 1) := by decide +kernel
theorem dX9_read_51 : decode cX9_read 51 = .ok (.lreturn, 1) := by decide +kernel
theorem dX9_shift_0 : decode cX9_shift 0 = .ok (.aload_n 0, 1) := by decide +kernel
theorem dX9_shift_1 : decode cX9_shift 1 = .ok (.iload_n 1, 1) := by decide +kernel
theorem dX9_shift_2 : decode cX9_shift 2 = .ok (.invokevirtual 433, 3) := by decide +kernel
theorem dX9_shift_5 : decode cX9_shift 5 = .ok (.ifCond .eq 11, 3) := by decide +kernel
theorem dX9_shift_8 : decode cX9_shift 8 = .ok (.aload_n 0, 1) := by decide +kernel
theorem dX9_shift_9 : decode cX9_shift 9 = .ok (.iload_n 3, 1) := by decide +kernel
theorem dX9_shift_10 : decode cX9_shift 10 = .ok (.invokevirtual 433, 3) := by decide +kernel
theorem dX9_shift_13 : decode cX9_shift 13 = .ok (.ifCond .ne 5, 3) := by decide +kernel
theorem dX9_shift_16 : decode cX9_shift 16 = .ok (.iconst (-1), 1) := by decide +kernel
theorem dX9_shift_17 : decode cX9_shift 17 = .ok (.ireturn, 1) := by decide +kernel
theorem dX9_shift_18 : decode cX9_shift 18 = .ok (.aload_n 0, 1) := by decide +kernel
theorem dX9_shift_19 : decode cX9_shift 19 = .ok (.getfield 235, 3) := by decide +kernel
theorem dX9_shift_22 : decode cX9_shift 22 = .ok (.iload_n 1, 1) := by decide +kernel
theorem dX9_shift_23 : decode cX9_shift 23 = .ok (.iaload, 1) := by decide +kernel
theorem dX9_shift_24 : decode cX9_shift 24 = .ok (.ifCond .lt 12, 3) := by decide +kernel
theorem dX9_shift_27 : decode cX9_shift 27 = .ok (.aload_n 0, 1) := by decide +kernel
theorem dX9_shift_28 : decode cX9_shift 28 = .ok (.getfield 235, 3) := by decide +kernel
theorem dX9_shift_31 : decode cX9_shift 31 = .ok (.iload_n 3, 1) := by decide +kernel
theorem dX9_shift_32 : decode cX9_shift 32 = .ok (.iaload, 1) := by decide +kernel
theorem dX9_shift_33 : decode cX9_shift 33 = .ok (.ifCond .ge 6, 3) := by decide +kernel
theorem dX9_shift_36 : decode cX9_shift 36 = .ok (.bipush (-11), 2) := by decide +kernel
theorem dX9_shift_38 : decode cX9_shift 38 = .ok (.ireturn, 1) := by decide +kernel
theorem dX9_shift_39 : decode cX9_shift 39 = .ok (.aload_n 0, 1) := by decide +kernel
theorem dX9_shift_40 : decode cX9_shift 40 = .ok (.getfield 235, 3) := by decide +kernel
theorem dX9_shift_43 : decode cX9_shift 43 = .ok (.iload_n 1, 1) := by decide +kernel
theorem dX9_shift_44 : decode cX9_shift 44 = .ok (.iaload, 1) := by decide +kernel
theorem dX9_shift_45 : decode cX9_shift 45 = .ok (.aload_n 0, 1) := by decide +kernel
theorem dX9_shift_46 : decode cX9_shift 46 = .ok (.getfield 235, 3) := by decide +kernel
theorem dX9_shift_49 : decode cX9_shift 49 = .ok (.iload_n 3, 1) := by decide +kernel
theorem dX9_shift_50 : decode cX9_shift 50 = .ok (.iaload, 1) := by decide +kernel
theorem dX9_shift_51 : decode cX9_shift 51 = .ok (.if_icmp .eq 6, 3) := by decide +kernel
theorem dX9_shift_54 : decode cX9_shift 54 = .ok (.bipush (-12), 2) := by decide +kernel
theorem dX9_shift_56 : decode cX9_shift 56 = .ok (.ireturn, 1) := by decide +kernel
theorem dX9_shift_57 : decode cX9_shift 57 = .ok (.iload 5, 2) := by decide +kernel
theorem dX9_shift_59 : decode cX9_shift 59 = .ok (.ifCond .lt 39, 3) := by decide +kernel
theorem dX9_shift_62 : decode cX9_shift 62 = .ok (.iload_n 2, 1) := by decide +kernel
theorem dX9_shift_63 : decode cX9_shift 63 = .ok (.ifCond .lt 35, 3) := by decide +kernel
theorem dX9_shift_66 : decode cX9_shift 66 = .ok (.iload 4, 2) := by decide +kernel
theorem dX9_shift_68 : decode cX9_shift 68 = .ok (.ifCond .lt 30, 3) := by decide +kernel
theorem dX9_shift_71 : decode cX9_shift 71 = .ok (.iload_n 2, 1) := by decide +kernel
theorem dX9_shift_72 : decode cX9_shift 72 = .ok (.aload_n 0, 1) := by decide +kernel
theorem dX9_shift_73 : decode cX9_shift 73 = .ok (.getfield 238, 3) := by decide +kernel
theorem dX9_shift_76 : decode cX9_shift 76 = .ok (.iload_n 1, 1) := by decide +kernel
theorem dX9_shift_77 : decode cX9_shift 77 = .ok (.iaload, 1) := by decide +kernel
theorem dX9_shift_78 : decode cX9_shift 78 = .ok (.iload 5, 2) := by decide +kernel
theorem dX9_shift_80 : decode cX9_shift 80 = .ok (.isub, 1) := by decide +kernel
theorem dX9_shift_81 : decode cX9_shift 81 = .ok (.if_icmp .gt 17, 3) := by decide +kernel
theorem dX9_shift_84 : decode cX9_shift 84 = .ok (.iload 4, 2) := by decide +kernel
theorem dX9_shift_86 : decode cX9_shift 86 = .ok (.aload_n 0, 1) := by decide +kernel
theorem dX9_shift_87 : decode cX9_shift 87 = .ok (.getfield 238, 3) := by decide +kernel
theorem dX9_shift_90 : decode cX9_shift 90 = .ok (.iload_n 3, 1) := by decide +kernel
theorem dX9_shift_91 : decode cX9_shift 91 = .ok (.iaload, 1) := by decide +kernel
theorem dX9_shift_92 : decode cX9_shift 92 = .ok (.iload 5, 2) := by decide +kernel
theorem dX9_shift_94 : decode cX9_shift 94 = .ok (.isub, 1) := by decide +kernel
theorem dX9_shift_95 : decode cX9_shift 95 = .ok (.if_icmp .le 6, 3) := by decide +kernel
theorem dX9_shift_98 : decode cX9_shift 98 = .ok (.bipush (-13), 2) := by decide +kernel
theorem dX9_shift_100 : decode cX9_shift 100 = .ok (.ireturn, 1) := by decide +kernel
theorem dX9_shift_101 : decode cX9_shift 101 = .ok (.iconst 0, 1) := by decide +kernel
theorem dX9_shift_102 : decode cX9_shift 102 = .ok (.istore 6, 2) := by decide +kernel
theorem dX9_shift_104 : decode cX9_shift 104 = .ok (.iload 6, 2) := by decide +kernel
theorem dX9_shift_106 : decode cX9_shift 106 = .ok (.iload 5, 2) := by decide +kernel
theorem dX9_shift_108 : decode cX9_shift 108 = .ok (.if_icmp .ge 30, 3) := by decide +kernel
theorem dX9_shift_111 : decode cX9_shift 111 = .ok (.aload_n 0, 1) := by decide +kernel
theorem dX9_shift_112 : decode cX9_shift 112 = .ok (.getfield 245, 3) := by decide +kernel
theorem dX9_shift_115 : decode cX9_shift 115 = .ok (.iload 6, 2) := by decide +kernel
theorem dX9_shift_117 : decode cX9_shift 117 = .ok (.aload_n 0, 1) := by decide +kernel
theorem dX9_shift_118 : decode cX9_shift 118 = .ok (.getfield 241, 3) := by decide +kernel
theorem dX9_shift_121 : decode cX9_shift 121 = .ok (.bipush 60, 2) := by decide +kernel
theorem dX9_shift_123 : decode cX9_shift 123 = .ok (.iload_n 1, 1) := by decide +kernel
theorem dX9_shift_124 : decode cX9_shift 124 = .ok (.imul, 1) := by decide +kernel
theorem dX9_shift_125 : decode cX9_shift 125 = .ok (.iload_n 2, 1) := by decide +kernel
theorem dX9_shift_126 : decode cX9_shift 126 = .ok (.iadd, 1) := by decide +kernel
theorem dX9_shift_127 : decode cX9_shift 127 = .ok (.iload 6, 2) := by decide +kernel
theorem dX9_shift_129 : decode cX9_shift 129 = .ok (.iadd, 1) := by decide +kernel
theorem dX9_shift_130 : decode cX9_shift 130 = .ok (.laload, 1) := by decide +kernel
theorem dX9_shift_131 : decode cX9_shift 131 = .ok (.lastore, 1) := by decide +kernel
theorem dX9_shift_132 : decode cX9_shift 132 = .ok (.iinc 6 1, 3) := by decide +kernel
theorem dX9_shift_135 : decode cX9_shift 135 = .ok (.goto (-31), 3) := by decide +kernel
theorem dX9_shift_138 : decode cX9_shift 138 = .ok (.iconst 0, 1) := by decide +kernel
theorem dX9_shift_139 : decode cX9_shift 139 = .ok (.istore 6, 2) := by decide +kernel
theorem dX9_shift_141 : decode cX9_shift 141 = .ok (.iload 6, 2) := by decide +kernel
theorem dX9_shift_143 : decode cX9_shift 143 = .ok (.iload 5, 2) := by decide +kernel
theorem dX9_shift_145 : decode cX9_shift 145 = .ok (.if_icmp .ge 31, 3) := by decide +kernel
theorem dX9_shift_148 : decode cX9_shift 148 = .ok (.aload_n 0, 1) := by decide +kernel
theorem dX9_shift_149 : decode cX9_shift 149 = .ok (.getfield 241, 3) := by decide +kernel
theorem dX9_shift_152 : decode cX9_shift 152 = .ok (.bipush 60, 2) := by decide +kernel
theorem dX9_shift_154 : decode cX9_shift 154 = .ok (.iload_n 3, 1) := by decide +kernel
theorem dX9_shift_155 : decode cX9_shift 155 = .ok (.imul, 1) := by decide +kernel
theorem dX9_shift_156 : decode cX9_shift 156 = .ok (.iload 4, 2) := by decide +kernel
theorem dX9_shift_158 : decode cX9_shift 158 = .ok (.iadd, 1) := by decide +kernel
theorem dX9_shift_159 : decode cX9_shift 159 = .ok (.iload 6, 2) := by decide +kernel
theorem dX9_shift_161 : decode cX9_shift 161 = .ok (.iadd, 1) := by decide +kernel
theorem dX9_shift_162 : decode cX9_shift 162 = .ok (.aload_n 0, 1) := by decide +kernel
theorem dX9_shift_163 : decode cX9_shift 163 = .ok (.getfield 245, 3) := by decide +kernel
theorem dX9_shift_166 : decode cX9_shift 166 = .ok (.iload 6, 2) := by decide +kernel
theorem dX9_shift_168 : decode cX9_shift 168 = .ok (.laload, 1) := by decide +kernel
theorem dX9_shift_169 : decode cX9_shift 169 = .ok (.lastore, 1) := by decide +kernel
theorem dX9_shift_170 : decode cX9_shift 170 = .ok (.iinc 6 1, 3) := by decide +kernel
theorem dX9_shift_173 : decode cX9_shift 173 = .ok (.goto (-32), 3) := by decide +kernel
theorem dX9_shift_176 : decode cX9_shift 176 = .ok (.iload 5, 2) := by decide +kernel
theorem dX9_shift_178 : decode cX9_shift 178 = .ok (.ireturn, 1) := by decide +kernel
