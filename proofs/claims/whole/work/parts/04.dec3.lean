theorem dX8_init_0 : decode cX8_init 0 = .ok (.aload_n 0, 1) := by decide +kernel
theorem dX8_init_1 : decode cX8_init 1 = .ok (.invokespecial 1, 3) := by decide +kernel
theorem dX8_init_4 : decode cX8_init 4 = .ok (.aload_n 0, 1) := by decide +kernel
theorem dX8_init_5 : decode cX8_init 5 = .ok (.iconst 0, 1) := by decide +kernel
theorem dX8_init_6 : decode cX8_init 6 = .ok (.putfield 7, 3) := by decide +kernel
theorem dX8_init_9 : decode cX8_init 9 = .ok (.aload_n 0, 1) := by decide +kernel
theorem dX8_init_10 : decode cX8_init 10 = .ok (.iconst 0, 1) := by decide +kernel
theorem dX8_init_11 : decode cX8_init 11 = .ok (.putfield 13, 3) := by decide +kernel
theorem dX8_init_14 : decode cX8_init 14 = .ok (.aload_n 0, 1) := by decide +kernel
theorem dX8_init_15 : decode cX8_init 15 = .ok (.iconst 0, 1) := by decide +kernel
theorem dX8_init_16 : decode cX8_init 16 = .ok (.putfield 16, 3) := by decide +kernel
theorem dX8_init_19 : decode cX8_init 19 = .ok (.aload_n 0, 1) := by decide +kernel
theorem dX8_init_20 : decode cX8_init 20 = .ok (.iconst 0, 1) := by decide +kernel
theorem dX8_init_21 : decode cX8_init 21 = .ok (.putfield 19, 3) := by decide +kernel
theorem dX8_init_24 : decode cX8_init 24 = .ok (.aload_n 0, 1) := by decide +kernel
theorem dX8_init_25 : decode cX8_init 25 = .ok (.iconst 0, 1) := by decide +kernel
theorem dX8_init_26 : decode cX8_init 26 = .ok (.putfield 22, 3) := by decide +kernel
theorem dX8_init_29 : decode cX8_init 29 = .ok (.aload_n 0, 1) := by decide +kernel
theorem dX8_init_30 : decode cX8_init 30 = .ok (.bipush 100, 2) := by decide +kernel
theorem dX8_init_32 : decode cX8_init 32 = .ok (.newarray .int, 2) := by decide +kernel
theorem dX8_init_34 : decode cX8_init 34 = .ok (.putfield 25, 3) := by decide +kernel
theorem dX8_init_37 : decode cX8_init 37 = .ok (.aload_n 0, 1) := by decide +kernel
theorem dX8_init_38 : decode cX8_init 38 = .ok (.bipush 72, 2) := by decide +kernel
theorem dX8_init_40 : decode cX8_init 40 = .ok (.newarray .int, 2) := by decide +kernel
theorem dX8_init_42 : decode cX8_init 42 = .ok (.putfield 29, 3) := by decide +kernel
theorem dX8_init_45 : decode cX8_init 45 = .ok (.aload_n 0, 1) := by decide +kernel
theorem dX8_init_46 : decode cX8_init 46 = .ok (.bipush 72, 2) := by decide +kernel
theorem dX8_init_48 : decode cX8_init 48 = .ok (.newarray .int, 2) := by decide +kernel
theorem dX8_init_50 : decode cX8_init 50 = .ok (.putfield 32, 3) := by decide +kernel
theorem dX8_init_53 : decode cX8_init 53 = .ok (.aload_n 0, 1) := by decide +kernel
theorem dX8_init_54 : decode cX8_init 54 = .ok (.bipush 6, 2) := by decide +kernel
theorem dX8_init_56 : decode cX8_init 56 = .ok (.newarray .int, 2) := by decide +kernel
theorem dX8_init_58 : decode cX8_init 58 = .ok (.putfield 35, 3) := by decide +kernel
theorem dX8_init_61 : decode cX8_init 61 = .ok (.aload_n 0, 1) := by decide +kernel
theorem dX8_init_62 : decode cX8_init 62 = .ok (.iconst 5, 1) := by decide +kernel
theorem dX8_init_63 : decode cX8_init 63 = .ok (.newarray .int, 2) := by decide +kernel
theorem dX8_init_65 : decode cX8_init 65 = .ok (.putfield 38, 3) := by decide +kernel
theorem dX8_init_68 : decode cX8_init 68 = .ok (.aload_n 0, 1) := by decide +kernel
theorem dX8_init_69 : decode cX8_init 69 = .ok (.bipush 40, 2) := by decide +kernel
theorem dX8_init_71 : decode cX8_init 71 = .ok (.newarray .int, 2) := by decide +kernel
theorem dX8_init_73 : decode cX8_init 73 = .ok (.putfield 41, 3) := by decide +kernel
theorem dX8_init_76 : decode cX8_init 76 = .ok (.aload_n 0, 1) := by decide +kernel
theorem dX8_init_77 : decode cX8_init 77 = .ok (.bipush 40, 2) := by decide +kernel
theorem dX8_init_79 : decode cX8_init 79 = .ok (.newarray .int, 2) := by decide +kernel
theorem dX8_init_81 : decode cX8_init 81 = .ok (.putfield 44, 3) := by decide +kernel
theorem dX8_init_84 : decode cX8_init 84 = .ok (.aload_n 0, 1) := by decide +kernel
theorem dX8_init_85 : decode cX8_init 85 = .ok (.bipush 40, 2) := by decide +kernel
theorem dX8_init_87 : decode cX8_init 87 = .ok (.newarray .int, 2) := by decide +kernel
theorem dX8_init_89 : decode cX8_init 89 = .ok (.putfield 47, 3) := by decide +kernel
theorem dX8_init_92 : decode cX8_init 92 = .ok (.aload_n 0, 1) := by decide +kernel
theorem dX8_init_93 : decode cX8_init 93 = .ok (.bipush 40, 2) := by decide +kernel
theorem dX8_init_95 : decode cX8_init 95 = .ok (.newarray .int, 2) := by decide +kernel
theorem dX8_init_97 : decode cX8_init 97 = .ok (.putfield 50, 3) := by decide +kernel
theorem dX8_init_100 : decode cX8_init 100 = .ok (.aload_n 0, 1) := by decide +kernel
theorem dX8_init_101 : decode cX8_init 101 = .ok (.sipush 500, 3) := by decide +kernel
theorem dX8_init_104 : decode cX8_init 104 = .ok (.newarray .int, 2) := by decide +kernel
theorem dX8_init_106 : decode cX8_init 106 = .ok (.putfield 53, 3) := by decide +kernel
theorem dX8_init_109 : decode cX8_init 109 = .ok (.aload_n 0, 1) := by decide +kernel
theorem dX8_init_110 : decode cX8_init 110 = .ok (.bipush 101, 2) := by decide +kernel
theorem dX8_init_112 : decode cX8_init 112 = .ok (.newarray .int, 2) := by decide +kernel
theorem dX8_init_114 : decode cX8_init 114 = .ok (.putfield 56, 3) := by decide +kernel
theorem dX8_init_117 : decode cX8_init 117 = .ok (.aload_n 0, 1) := by decide +kernel
theorem dX8_init_118 : decode cX8_init 118 = .ok (.iconst 0, 1) := by decide +kernel
theorem dX8_init_119 : decode cX8_init 119 = .ok (.putfield 59, 3) := by decide +kernel
theorem dX8_init_122 : decode cX8_init 122 = .ok (.aload_n 0, 1) := by decide +kernel
theorem dX8_init_123 : decode cX8_init 123 = .ok (.iconst 0, 1) := by decide +kernel
theorem dX8_init_124 : decode cX8_init 124 = .ok (.putfield 62, 3) := by decide +kernel
theorem dX8_init_127 : decode cX8_init 127 = .ok (.aload_n 0, 1) := by decide +kernel
theorem dX8_init_128 : decode cX8_init 128 = .ok (.iconst 0, 1) := by decide +kernel
theorem dX8_init_129 : decode cX8_init 129 = .ok (.putfield 65, 3) := by decide +kernel
theorem dX8_init_132 : decode cX8_init 132 = .ok (.aload_n 0, 1) := by decide +kernel
theorem dX8_init_133 : decode cX8_init 133 = .ok (.bipush 10, 2) := by decide +kernel
theorem dX8_init_135 : decode cX8_init 135 = .ok (.newarray .int, 2) := by decide +kernel
theorem dX8_init_137 : decode cX8_init 137 = .ok (.dup, 1) := by decide +kernel
theorem dX8_init_138 : decode cX8_init 138 = .ok (.iconst 0, 1) := by decide +kernel
theorem dX8_init_139 : decode cX8_init 139 = .ok (.iconst 5, 1) := by decide +kernel
theorem dX8_init_140 : decode cX8_init 140 = .ok (.iastore, 1) := by decide +kernel
theorem dX8_init_141 : decode cX8_init 141 = .ok (.dup, 1) := by decide +kernel
theorem dX8_init_142 : decode cX8_init 142 = .ok (.iconst 1, 1) := by decide +kernel
theorem dX8_init_143 : decode cX8_init 143 = .ok (.iconst 5, 1) := by decide +kernel
theorem dX8_init_144 : decode cX8_init 144 = .ok (.iastore, 1) := by decide +kernel
theorem dX8_init_145 : decode cX8_init 145 = .ok (.dup, 1) := by decide +kernel
theorem dX8_init_146 : decode cX8_init 146 = .ok (.iconst 2, 1) := by decide +kernel
theorem dX8_init_147 : decode cX8_init 147 = .ok (.iconst 5, 1) := by decide +kernel
theorem dX8_init_148 : decode cX8_init 148 = .ok (.iastore, 1) := by decide +kernel
theorem dX8_init_149 : decode cX8_init 149 = .ok (.dup, 1) := by decide +kernel
theorem dX8_init_150 : decode cX8_init 150 = .ok (.iconst 3, 1) := by decide +kernel
theorem dX8_init_151 : decode cX8_init 151 = .ok (.iconst 5, 1) := by decide +kernel
theorem dX8_init_152 : decode cX8_init 152 = .ok (.iastore, 1) := by decide +kernel
theorem dX8_init_153 : decode cX8_init 153 = .ok (.dup, 1) := by decide +kernel
theorem dX8_init_154 : decode cX8_init 154 = .ok (.iconst 4, 1) := by decide +kernel
theorem dX8_init_155 : decode cX8_init 155 = .ok (.iconst 5, 1) := by decide +kernel
theorem dX8_init_156 : decode cX8_init 156 = .ok (.iastore, 1) := by decide +kernel
theorem dX8_init_157 : decode cX8_init 157 = .ok (.dup, 1) := by decide +kernel
theorem dX8_init_158 : decode cX8_init 158 = .ok (.iconst 5, 1) := by decide +kernel
theorem dX8_init_159 : decode cX8_init 159 = .ok (.iconst 5, 1) := by decide +kernel
theorem dX8_init_160 : decode cX8_init 160 = .ok (.iastore, 1) := by decide +kernel
theorem dX8_init_161 : decode cX8_init 161 = .ok (.dup, 1) := by decide +kernel
theorem dX8_init_162 : decode cX8_init 162 = .ok (.bipush 6, 2) := by decide +kernel
theorem dX8_init_164 : decode cX8_init 164 = .ok (.iconst 5, 1) := by decide +kernel
theorem dX8_init_165 : decode cX8_init 165 = .ok (.iastore, 1) := by decide +kernel
theorem dX8_init_166 : decode cX8_init 166 = .ok (.dup, 1) := by decide +kernel
theorem dX8_init_167 : decode cX8_init 167 = .ok (.bipush 7, 2) := by decide +kernel
theorem dX8_init_169 : decode cX8_init 169 = .ok (.iconst 5, 1) := by decide +kernel
theorem dX8_init_170 : decode cX8_init 170 = .ok (.iastore, 1) := by decide +kernel
theorem dX8_init_171 : decode cX8_init 171 = .ok (.dup, 1) := by decide +kernel
theorem dX8_init_172 : decode cX8_init 172 = .ok (.bipush 8, 2) := by decide +kernel
theorem dX8_init_174 : decode cX8_init 174 = .ok (.iconst 5, 1) := by decide +kernel
theorem dX8_init_175 : decode cX8_init 175 = .ok (.iastore, 1) := by decide +kernel
theorem dX8_init_176 : decode cX8_init 176 = .ok (.dup, 1) := by decide +kernel
theorem dX8_init_177 : decode cX8_init 177 = .ok (.bipush 9, 2) := by decide +kernel
theorem dX8_init_179 : decode cX8_init 179 = .ok (.iconst 5, 1) := by decide +kernel
theorem dX8_init_180 : decode cX8_init 180 = .ok (.iastore, 1) := by decide +kernel
theorem dX8_init_181 : decode cX8_init 181 = .ok (.putfield 68, 3) := by decide +kernel
theorem dX8_init_184 : decode cX8_init 184 = .ok (.aload_n 0, 1) := by decide +kernel
theorem dX8_init_185 : decode cX8_init 185 = .ok (.bipush 12, 2) := by decide +kernel
theorem dX8_init_187 : decode cX8_init 187 = .ok (.newarray .int, 2) := by decide +kernel
theorem dX8_init_189 : decode cX8_init 189 = .ok (.putfield 71, 3) := by decide +kernel
theorem dX8_init_192 : decode cX8_init 192 = .ok (.aload_n 0, 1) := by decide +kernel
theorem dX8_init_193 : decode cX8_init 193 = .ok (.bipush 12, 2) := by decide +kernel
theorem dX8_init_195 : decode cX8_init 195 = .ok (.newarray .int, 2) := by decide +kernel
theorem dX8_init_197 : decode cX8_init 197 = .ok (.putfield 74, 3) := by decide +kernel
theorem dX8_init_200 : decode cX8_init 200 = .ok (.aload_n 0, 1) := by decide +kernel
theorem dX8_init_201 : decode cX8_init 201 = .ok (.bipush 12, 2) := by decide +kernel
theorem dX8_init_203 : decode cX8_init 203 = .ok (.newarray .int, 2) := by decide +kernel
theorem dX8_init_205 : decode cX8_init 205 = .ok (.putfield 77, 3) := by decide +kernel
theorem dX8_init_208 : decode cX8_init 208 = .ok (.aload_n 0, 1) := by decide +kernel
theorem dX8_init_209 : decode cX8_init 209 = .ok (.bipush 12, 2) := by decide +kernel
theorem dX8_init_211 : decode cX8_init 211 = .ok (.newarray .int, 2) := by decide +kernel
theorem dX8_init_213 : decode cX8_init 213 = .ok (.putfield 80, 3) := by decide +kernel
theorem dX8_init_216 : decode cX8_init 216 = .ok (.aload_n 0, 1) := by decide +kernel
theorem dX8_init_217 : decode cX8_init 217 = .ok (.bipush 12, 2) := by decide +kernel
theorem dX8_init_219 : decode cX8_init 219 = .ok (.newarray .int, 2) := by decide +kernel
theorem dX8_init_221 : decode cX8_init 221 = .ok (.putfield 83, 3) := by decide +kernel
theorem dX8_init_224 : decode cX8_init 224 = .ok (.aload_n 0, 1) := by decide +kernel
theorem dX8_init_225 : decode cX8_init 225 = .ok (.bipush 12, 2) := by decide +kernel
theorem dX8_init_227 : decode cX8_init 227 = .ok (.newarray .int, 2) := by decide +kernel
theorem dX8_init_229 : decode cX8_init 229 = .ok (.putfield 86, 3) := by decide +kernel
theorem dX8_init_232 : decode cX8_init 232 = .ok (.aload_n 0, 1) := by decide +kernel
theorem dX8_init_233 : decode cX8_init 233 = .ok (.bipush 12, 2) := by decide +kernel
theorem dX8_init_235 : decode cX8_init 235 = .ok (.newarray .int, 2) := by decide +kernel
theorem dX8_init_237 : decode cX8_init 237 = .ok (.putfield 89, 3) := by decide +kernel
theorem dX8_init_240 : decode cX8_init 240 = .ok (.aload_n 0, 1) := by decide +kernel
theorem dX8_init_241 : decode cX8_init 241 = .ok (.iconst 0, 1) := by decide +kernel
theorem dX8_init_242 : decode cX8_init 242 = .ok (.putfield 92, 3) := by decide +kernel
theorem dX8_init_245 : decode cX8_init 245 = .ok (.aload_n 0, 1) := by decide +kernel
theorem dX8_init_246 : decode cX8_init 246 = .ok (.iconst 0, 1) := by decide +kernel
theorem dX8_init_247 : decode cX8_init 247 = .ok (.putfield 95, 3) := by decide +kernel
theorem dX8_init_250 : decode cX8_init 250 = .ok (.aload_n 0, 1) := by decide +kernel
theorem dX8_init_251 : decode cX8_init 251 = .ok (.iconst 0, 1) := by decide +kernel
theorem dX8_init_252 : decode cX8_init 252 = .ok (.putfield 98, 3) := by decide +kernel
theorem dX8_init_255 : decode cX8_init 255 = .ok (.aload_n 0, 1) := by decide +kernel
theorem dX8_init_256 : decode cX8_init 256 = .ok (.iconst 0, 1) := by decide +kernel
theorem dX8_init_257 : decode cX8_init 257 = .ok (.putfield 101, 3) := by decide +kernel
theorem dX8_init_260 : decode cX8_init 260 = .ok (.aload_n 0, 1) := by decide +kernel
theorem dX8_init_261 : decode cX8_init 261 = .ok (.bipush 100, 2) := by decide +kernel
theorem dX8_init_263 : decode cX8_init 263 = .ok (.newarray .boolean, 2) := by decide +kernel
theorem dX8_init_265 : decode cX8_init 265 = .ok (.putfield 104, 3) := by decide +kernel
theorem dX8_init_268 : decode cX8_init 268 = .ok (.aload_n 0, 1) := by decide +kernel
theorem dX8_init_269 : decode cX8_init 269 = .ok (.bipush 12, 2) := by decide +kernel
theorem dX8_init_271 : decode cX8_init 271 = .ok (.newarray .long, 2) := by decide +kernel
theorem dX8_init_273 : decode cX8_init 273 = .ok (.putfield 108, 3) := by decide +kernel
theorem dX8_init_276 : decode cX8_init 276 = .ok (.aload_n 0, 1) := by decide +kernel
theorem dX8_init_277 : decode cX8_init 277 = .ok (.iconst (-1), 1) := by decide +kernel
theorem dX8_init_278 : decode cX8_init 278 = .ok (.putfield 112, 3) := by decide +kernel
theorem dX8_init_281 : decode cX8_init 281 = .ok (.aload_n 0, 1) := by decide +kernel
theorem dX8_init_282 : decode cX8_init 282 = .ok (.sipush 4096, 3) := by decide +kernel
theorem dX8_init_285 : decode cX8_init 285 = .ok (.newarray .boolean, 2) := by decide +kernel
theorem dX8_init_287 : decode cX8_init 287 = .ok (.putfield 115, 3) := by decide +kernel
theorem dX8_init_290 : decode cX8_init 290 = .ok (.aload_n 0, 1) := by decide +kernel
theorem dX8_init_291 : decode cX8_init 291 = .ok (.iconst (-1), 1) := by decide +kernel
theorem dX8_init_292 : decode cX8_init 292 = .ok (.putfield 118, 3) := by decide +kernel
theorem dX8_init_295 : decode cX8_init 295 = .ok (.aload_n 0, 1) := by decide +kernel
theorem dX8_init_296 : decode cX8_init 296 = .ok (.iconst (-1), 1) := by decide +kernel
theorem dX8_init_297 : decode cX8_init 297 = .ok (.putfield 121, 3) := by decide +kernel
theorem dX8_init_300 : decode cX8_init 300 = .ok (.aload_n 0, 1) := by decide +kernel
theorem dX8_init_301 : decode cX8_init 301 = .ok (.iconst 0, 1) := by decide +kernel
theorem dX8_init_302 : decode cX8_init 302 = .ok (.putfield 124, 3) := by decide +kernel
theorem dX8_init_305 : decode cX8_init 305 = .ok (.aload_n 0, 1) := by decide +kernel
theorem dX8_init_306 : decode cX8_init 306 = .ok (.bipush 20, 2) := by decide +kernel
theorem dX8_init_308 : decode cX8_init 308 = .ok (.newarray .int, 2) := by decide +kernel
theorem dX8_init_310 : decode cX8_init 310 = .ok (.putfield 127, 3) := by decide +kernel
theorem dX8_init_313 : decode cX8_init 313 = .ok (.aload_n 0, 1) := by decide +kernel
theorem dX8_init_314 : decode cX8_init 314 = .ok (.bipush 6, 2) := by decide +kernel
theorem dX8_init_316 : decode cX8_init 316 = .ok (.newarray .int, 2) := by decide +kernel
theorem dX8_init_318 : decode cX8_init 318 = .ok (.dup, 1) := by decide +kernel
theorem dX8_init_319 : decode cX8_init 319 = .ok (.iconst 0, 1) := by decide +kernel
theorem dX8_init_320 : decode cX8_init 320 = .ok (.iconst (-1), 1) := by decide +kernel
theorem dX8_init_321 : decode cX8_init 321 = .ok (.iastore, 1) := by decide +kernel
theorem dX8_init_322 : decode cX8_init 322 = .ok (.dup, 1) := by decide +kernel
theorem dX8_init_323 : decode cX8_init 323 = .ok (.iconst 1, 1) := by decide +kernel
theorem dX8_init_324 : decode cX8_init 324 = .ok (.iconst (-1), 1) := by decide +kernel
theorem dX8_init_325 : decode cX8_init 325 = .ok (.iastore, 1) := by decide +kernel
theorem dX8_init_326 : decode cX8_init 326 = .ok (.dup, 1) := by decide +kernel
theorem dX8_init_327 : decode cX8_init 327 = .ok (.iconst 2, 1) := by decide +kernel
theorem dX8_init_328 : decode cX8_init 328 = .ok (.iconst (-1), 1) := by decide +kernel
theorem dX8_init_329 : decode cX8_init 329 = .ok (.iastore, 1) := by decide +kernel
theorem dX8_init_330 : decode cX8_init 330 = .ok (.dup, 1) := by decide +kernel
theorem dX8_init_331 : decode cX8_init 331 = .ok (.iconst 3, 1) := by decide +kernel
theorem dX8_init_332 : decode cX8_init 332 = .ok (.iconst (-1), 1) := by decide +kernel
theorem dX8_init_333 : decode cX8_init 333 = .ok (.iastore, 1) := by decide +kernel
theorem dX8_init_334 : decode cX8_init 334 = .ok (.dup, 1) := by decide +kernel
theorem dX8_init_335 : decode cX8_init 335 = .ok (.iconst 4, 1) := by decide +kernel
theorem dX8_init_336 : decode cX8_init 336 = .ok (.iconst (-1), 1) := by decide +kernel
theorem dX8_init_337 : decode cX8_init 337 = .ok (.iastore, 1) := by decide +kernel
theorem dX8_init_338 : decode cX8_init 338 = .ok (.dup, 1) := by decide +kernel
theorem dX8_init_339 : decode cX8_init 339 = .ok (.iconst 5, 1) := by decide +kernel
theorem dX8_init_340 : decode cX8_init 340 = .ok (.iconst (-1), 1) := by decide +kernel
theorem dX8_init_341 : decode cX8_init 341 = .ok (.iastore, 1) := by decide +kernel
theorem dX8_init_342 : decode cX8_init 342 = .ok (.putfield 130, 3) := by decide +kernel
theorem dX8_init_345 : decode cX8_init 345 = .ok (.aload_n 0, 1) := by decide +kernel
theorem dX8_init_346 : decode cX8_init 346 = .ok (.bipush 6, 2) := by decide +kernel
theorem dX8_init_348 : decode cX8_init 348 = .ok (.newarray .int, 2) := by decide +kernel
theorem dX8_init_350 : decode cX8_init 350 = .ok (.putfield 133, 3) := by decide +kernel
theorem dX8_init_353 : decode cX8_init 353 = .ok (.aload_n 0, 1) := by decide +kernel
theorem dX8_init_354 : decode cX8_init 354 = .ok (.sipush 360, 3) := by decide +kernel
theorem dX8_init_357 : decode cX8_init 357 = .ok (.newarray .long, 2) := by decide +kernel
theorem dX8_init_359 : decode cX8_init 359 = .ok (.putfield 136, 3) := by decide +kernel
theorem dX8_init_362 : decode cX8_init 362 = .ok (.aload_n 0, 1) := by decide +kernel
theorem dX8_init_363 : decode cX8_init 363 = .ok (.bipush 60, 2) := by decide +kernel
theorem dX8_init_365 : decode cX8_init 365 = .ok (.newarray .long, 2) := by decide +kernel
theorem dX8_init_367 : decode cX8_init 367 = .ok (.putfield 139, 3) := by decide +kernel
theorem dX8_init_370 : decode cX8_init 370 = .ok (.return_, 1) := by decide +kernel
theorem dX8_in_0 : decode cX8_in 0 = .ok (.iload_n 1, 1) := by decide +kernel
theorem dX8_in_1 : decode cX8_in 1 = .ok (.iload_n 2, 1) := by decide +kernel
theorem dX8_in_2 : decode cX8_in 2 = .ok (.if_icmp .lt 12, 3) := by decide +kernel
theorem dX8_in_5 : decode cX8_in 5 = .ok (.iload_n 1, 1) := by decide +kernel
theorem dX8_in_6 : decode cX8_in 6 = .ok (.iload_n 3, 1) := by decide +kernel
theorem dX8_in_7 : decode cX8_in 7 = .ok (.if_icmp .gt 7, 3) := by decide +kernel
theorem dX8_in_10 : decode cX8_in 10 = .ok (.iconst 1, 1) := by decide +kernel
theorem dX8_in_11 : decode cX8_in 11 = .ok (.goto 4, 3) := by decide +kernel
theorem dX8_in_14 : decode cX8_in 14 = .ok (.iconst 0, 1) := by decide +kernel
theorem dX8_in_15 : decode cX8_in 15 = .ok (.ireturn, 1) := by decide +kernel
theorem dX8_has_0 : decode cX8_has 0 = .ok (.iload_n 1, 1) := by decide +kernel
theorem dX8_has_1 : decode cX8_has 1 = .ok (.iload_n 2, 1) := by decide +kernel
theorem dX8_has_2 : decode cX8_has 2 = .ok (.ishr, 1) := by decide +kernel
theorem dX8_has_3 : decode cX8_has 3 = .ok (.iconst 1, 1) := by decide +kernel
theorem dX8_has_4 : decode cX8_has 4 = .ok (.iand, 1) := by decide +kernel
theorem dX8_has_5 : decode cX8_has 5 = .ok (.iconst 1, 1) := by decide +kernel
theorem dX8_has_6 : decode cX8_has 6 = .ok (.if_icmp .ne 7, 3) := by decide +kernel
theorem dX8_has_9 : decode cX8_has 9 = .ok (.iconst 1, 1) := by decide +kernel
theorem dX8_has_10 : decode cX8_has 10 = .ok (.goto 4, 3) := by decide +kernel
theorem dX8_has_13 : decode cX8_has 13 = .ok (.iconst 0, 1) := by decide +kernel
theorem dX8_has_14 : decode cX8_has 14 = .ok (.ireturn, 1) := by decide +kernel
theorem dX8_ones_0 : decode cX8_ones 0 = .ok (.iconst 0, 1) := by decide +kernel
theorem dX8_ones_1 : decode cX8_ones 1 = .ok (.istore_n 2, 1) := by decide +kernel
theorem dX8_ones_2 : decode cX8_ones 2 = .ok (.iload_n 1, 1) := by decide +kernel
theorem dX8_ones_3 : decode cX8_ones 3 = .ok (.istore_n 3, 1) := by decide +kernel
theorem dX8_ones_4 : decode cX8_ones 4 = .ok (.iload_n 3, 1) := by decide +kernel
theorem dX8_ones_5 : decode cX8_ones 5 = .ok (.ifCond .eq 15, 3) := by decide +kernel
theorem dX8_ones_8 : decode cX8_ones 8 = .ok (.iinc 2 1, 3) := by decide +kernel
theorem dX8_ones_11 : decode cX8_ones 11 = .ok (.iload_n 3, 1) := by decide +kernel
theorem dX8_ones_12 : decode cX8_ones 12 = .ok (.iload_n 3, 1) := by decide +kernel
theorem dX8_ones_13 : decode cX8_ones 13 = .ok (.iconst 1, 1) := by decide +kernel
theorem dX8_ones_14 : decode cX8_ones 14 = .ok (.isub, 1) := by decide +kernel
theorem dX8_ones_15 : decode cX8_ones 15 = .ok (.iand, 1) := by decide +kernel
theorem dX8_ones_16 : decode cX8_ones 16 = .ok (.istore_n 3, 1) := by decide +kernel
theorem dX8_ones_17 : decode cX8_ones 17 = .ok (.goto (-13), 3) := by decide +kernel
theorem dX8_ones_20 : decode cX8_ones 20 = .ok (.iload_n 2, 1) := by decide +kernel
theorem dX8_ones_21 : decode cX8_ones 21 = .ok (.ireturn, 1) := by decide +kernel
theorem dX8_isBargain_0 : decode cX8_isBargain 0 = .ok (.aload_n 0, 1) := by decide +kernel
theorem dX8_isBargain_1 : decode cX8_isBargain 1 = .ok (.iload_n 1, 1) := by decide +kernel
theorem dX8_isBargain_2 : decode cX8_isBargain 2 = .ok (.iconst 0, 1) := by decide +kernel
theorem dX8_isBargain_3 : decode cX8_isBargain 3 = .ok (.aload_n 0, 1) := by decide +kernel
theorem dX8_isBargain_4 : decode cX8_isBargain 4 = .ok (.getfield 7, 3) := by decide +kernel
theorem dX8_isBargain_7 : decode cX8_isBargain 7 = .ok (.iconst 1, 1) := by decide +kernel
theorem dX8_isBargain_8 : decode cX8_isBargain 8 = .ok (.isub, 1) := by decide +kernel
theorem dX8_isBargain_9 : decode cX8_isBargain 9 = .ok (.invokevirtual 142, 3) := by decide +kernel
theorem dX8_isBargain_12 : decode cX8_isBargain 12 = .ok (.ireturn, 1) := by decide +kernel
theorem dX8_isLaw_0 : decode cX8_isLaw 0 = .ok (.aload_n 0, 1) := by decide +kernel
theorem dX8_isLaw_1 : decode cX8_isLaw 1 = .ok (.iload_n 1, 1) := by decide +kernel
theorem dX8_isLaw_2 : decode cX8_isLaw 2 = .ok (.iconst 0, 1) := by decide +kernel
theorem dX8_isLaw_3 : decode cX8_isLaw 3 = .ok (.aload_n 0, 1) := by decide +kernel
theorem dX8_isLaw_4 : decode cX8_isLaw 4 = .ok (.getfield 13, 3) := by decide +kernel
theorem dX8_isLaw_7 : decode cX8_isLaw 7 = .ok (.iconst 1, 1) := by decide +kernel
theorem dX8_isLaw_8 : decode cX8_isLaw 8 = .ok (.isub, 1) := by decide +kernel
theorem dX8_isLaw_9 : decode cX8_isLaw 9 = .ok (.invokevirtual 142, 3) := by decide +kernel
theorem dX8_isLaw_12 : decode cX8_isLaw 12 = .ok (.ireturn, 1) := by decide +kernel
theorem dX8_isKind_0 : decode cX8_isKind 0 = .ok (.aload_n 0, 1) := by decide +kernel
theorem dX8_isKind_1 : decode cX8_isKind 1 = .ok (.iload_n 1, 1) := by decide +kernel
theorem dX8_isKind_2 : decode cX8_isKind 2 = .ok (.iconst 0, 1) := by decide +kernel
theorem dX8_isKind_3 : decode cX8_isKind 3 = .ok (.bipush 6, 2) := by decide +kernel
theorem dX8_isKind_5 : decode cX8_isKind 5 = .ok (.invokevirtual 142, 3) := by decide +kernel
theorem dX8_isKind_8 : decode cX8_isKind 8 = .ok (.ireturn, 1) := by decide +kernel
theorem dX8_isSet_0 : decode cX8_isSet 0 = .ok (.aload_n 0, 1) := by decide +kernel
theorem dX8_isSet_1 : decode cX8_isSet 1 = .ok (.iload_n 2, 1) := by decide +kernel
theorem dX8_isSet_2 : decode cX8_isSet 2 = .ok (.iconst 0, 1) := by decide +kernel
theorem dX8_isSet_3 : decode cX8_isSet 3 = .ok (.iconst 1, 1) := by decide +kernel
theorem dX8_isSet_4 : decode cX8_isSet 4 = .ok (.aload_n 0, 1) := by decide +kernel
theorem dX8_isSet_5 : decode cX8_isSet 5 = .ok (.getfield 35, 3) := by decide +kernel
theorem dX8_isSet_8 : decode cX8_isSet 8 = .ok (.iload_n 1, 1) := by decide +kernel
theorem dX8_isSet_9 : decode cX8_isSet 9 = .ok (.iaload, 1) := by decide +kernel
theorem dX8_isSet_10 : decode cX8_isSet 10 = .ok (.ishl, 1) := by decide +kernel
theorem dX8_isSet_11 : decode cX8_isSet 11 = .ok (.iconst 1, 1) := by decide +kernel
theorem dX8_isSet_12 : decode cX8_isSet 12 = .ok (.isub, 1) := by decide +kernel
theorem dX8_isSet_13 : decode cX8_isSet 13 = .ok (.invokevirtual 142, 3) := by decide +kernel
theorem dX8_isSet_16 : decode cX8_isSet 16 = .ok (.ireturn, 1) := by decide +kernel
theorem dX8_feed_0 : decode cX8_feed 0 = .ok (.aload_n 0, 1) := by decide +kernel
theorem dX8_feed_1 : decode cX8_feed 1 = .ok (.iload_n 2, 1) := by decide +kernel
theorem dX8_feed_2 : decode cX8_feed 2 = .ok (.iconst 0, 1) := by decide +kernel
theorem dX8_feed_3 : decode cX8_feed 3 = .ok (.iconst 4, 1) := by decide +kernel
theorem dX8_feed_4 : decode cX8_feed 4 = .ok (.invokevirtual 142, 3) := by decide +kernel
theorem dX8_feed_7 : decode cX8_feed 7 = .ok (.ifCond .ne 6, 3) := by decide +kernel
theorem dX8_feed_10 : decode cX8_feed 10 = .ok (.bipush (-2), 2) := by decide +kernel
theorem dX8_feed_12 : decode cX8_feed 12 = .ok (.ireturn, 1) := by decide +kernel
theorem dX8_feed_13 : decode cX8_feed 13 = .ok (.aload_n 0, 1) := by decide +kernel
theorem dX8_feed_14 : decode cX8_feed 14 = .ok (.getfield 16, 3) := by decide +kernel
theorem dX8_feed_17 : decode cX8_feed 17 = .ok (.iload_n 2, 1) := by decide +kernel
theorem dX8_feed_18 : decode cX8_feed 18 = .ok (.iadd, 1) := by decide +kernel
theorem dX8_feed_19 : decode cX8_feed 19 = .ok (.bipush 100, 2) := by decide +kernel
theorem dX8_feed_21 : decode cX8_feed 21 = .ok (.if_icmp .le 6, 3) := by decide +kernel
theorem dX8_feed_24 : decode cX8_feed 24 = .ok (.bipush (-4), 2) := by decide +kernel
theorem dX8_feed_26 : decode cX8_feed 26 = .ok (.ireturn, 1) := by decide +kernel
theorem dX8_feed_27 : decode cX8_feed 27 = .ok (.iload_n 2, 1) := by decide +kernel
theorem dX8_feed_28 : decode cX8_feed 28 = .ok (.iconst 1, 1) := by decide +kernel
theorem dX8_feed_29 : decode cX8_feed 29 = .ok (.isub, 1) := by decide +kernel
theorem dX8_feed_30 : decode cX8_feed 30 = .ok (.istore_n 3, 1) := by decide +kernel
theorem dX8_feed_31 : decode cX8_feed 31 = .ok (.iload_n 3, 1) := by decide +kernel
theorem dX8_feed_32 : decode cX8_feed 32 = .ok (.ifCond .lt 35, 3) := by decide +kernel
theorem dX8_feed_35 : decode cX8_feed 35 = .ok (.aload_n 0, 1) := by decide +kernel
theorem dX8_feed_36 : decode cX8_feed 36 = .ok (.getfield 25, 3) := by decide +kernel
theorem dX8_feed_39 : decode cX8_feed 39 = .ok (.aload_n 0, 1) := by decide +kernel
theorem dX8_feed_40 : decode cX8_feed 40 = .ok (.getfield 16, 3) := by decide +kernel
theorem dX8_feed_43 : decode cX8_feed 43 = .ok (.iload_n 1, 1) := by decide +kernel
theorem dX8_feed_44 : decode cX8_feed 44 = .ok (.bipush 8, 2) := by decide +kernel
theorem dX8_feed_46 : decode cX8_feed 46 = .ok (.iload_n 3, 1) := by decide +kernel
theorem dX8_feed_47 : decode cX8_feed 47 = .ok (.imul, 1) := by decide +kernel
theorem dX8_feed_48 : decode cX8_feed 48 = .ok (.ishr, 1) := by decide +kernel
theorem dX8_feed_49 : decode cX8_feed 49 = .ok (.i2b, 1) := by decide +kernel
theorem dX8_feed_50 : decode cX8_feed 50 = .ok (.iastore, 1) := by decide +kernel
theorem dX8_feed_51 : decode cX8_feed 51 = .ok (.aload_n 0, 1) := by decide +kernel
theorem dX8_feed_52 : decode cX8_feed 52 = .ok (.dup, 1) := by decide +kernel
theorem dX8_feed_53 : decode cX8_feed 53 = .ok (.getfield 16, 3) := by decide +kernel
theorem dX8_feed_56 : decode cX8_feed 56 = .ok (.iconst 1, 1) := by decide +kernel
theorem dX8_feed_57 : decode cX8_feed 57 = .ok (.iadd, 1) := by decide +kernel
theorem dX8_feed_58 : decode cX8_feed 58 = .ok (.putfield 16, 3) := by decide +kernel
theorem dX8_feed_61 : decode cX8_feed 61 = .ok (.iinc 3 (-1), 3) := by decide +kernel
theorem dX8_feed_64 : decode cX8_feed 64 = .ok (.goto (-33), 3) := by decide +kernel
theorem dX8_feed_67 : decode cX8_feed 67 = .ok (.aload_n 0, 1) := by decide +kernel
theorem dX8_feed_68 : decode cX8_feed 68 = .ok (.getfield 16, 3) := by decide +kernel
theorem dX8_feed_71 : decode cX8_feed 71 = .ok (.ireturn, 1) := by decide +kernel
theorem dX8_next_0 : decode cX8_next 0 = .ok (.aload_n 0, 1) := by decide +kernel
theorem dX8_next_1 : decode cX8_next 1 = .ok (.getfield 19, 3) := by decide +kernel
theorem dX8_next_4 : decode cX8_next 4 = .ok (.aload_n 0, 1) := by decide +kernel
theorem dX8_next_5 : decode cX8_next 5 = .ok (.getfield 16, 3) := by decide +kernel
theorem dX8_next_8 : decode cX8_next 8 = .ok (.if_icmp .ge 15, 3) := by decide +kernel
theorem dX8_next_11 : decode cX8_next 11 = .ok (.aload_n 0, 1) := by decide +kernel
theorem dX8_next_12 : decode cX8_next 12 = .ok (.getfield 25, 3) := by decide +kernel
theorem dX8_next_15 : decode cX8_next 15 = .ok (.aload_n 0, 1) := by decide +kernel
theorem dX8_next_16 : decode cX8_next 16 = .ok (.getfield 19, 3) := by decide +kernel
theorem dX8_next_19 : decode cX8_next 19 = .ok (.iaload, 1) := by decide +kernel
theorem dX8_next_20 : decode cX8_next 20 = .ok (.goto 4, 3) := by decide +kernel
theorem dX8_next_23 : decode cX8_next 23 = .ok (.iconst (-1), 1) := by decide +kernel
theorem dX8_next_24 : decode cX8_next 24 = .ok (.ireturn, 1) := by decide +kernel
theorem dX8_takes_0 : decode cX8_takes 0 = .ok (.aload_n 0, 1) := by decide +kernel
theorem dX8_takes_1 : decode cX8_takes 1 = .ok (.invokevirtual 146, 3) := by decide +kernel
theorem dX8_takes_4 : decode cX8_takes 4 = .ok (.iload_n 1, 1) := by decide +kernel
theorem dX8_takes_5 : decode cX8_takes 5 = .ok (.if_icmp .eq 5, 3) := by decide +kernel
theorem dX8_takes_8 : decode cX8_takes 8 = .ok (.iconst 0, 1) := by decide +kernel
theorem dX8_takes_9 : decode cX8_takes 9 = .ok (.ireturn, 1) := by decide +kernel
theorem dX8_takes_10 : decode cX8_takes 10 = .ok (.aload_n 0, 1) := by decide +kernel
theorem dX8_takes_11 : decode cX8_takes 11 = .ok (.dup, 1) := by decide +kernel
theorem dX8_takes_12 : decode cX8_takes 12 = .ok (.getfield 19, 3) := by decide +kernel
theorem dX8_takes_15 : decode cX8_takes 15 = .ok (.iconst 1, 1) := by decide +kernel
theorem dX8_takes_16 : decode cX8_takes 16 = .ok (.iadd, 1) := by decide +kernel
theorem dX8_takes_17 : decode cX8_takes 17 = .ok (.putfield 19, 3) := by decide +kernel
theorem dX8_takes_20 : decode cX8_takes 20 = .ok (.iconst 1, 1) := by decide +kernel
theorem dX8_takes_21 : decode cX8_takes 21 = .ok (.ireturn, 1) := by decide +kernel
theorem dX8_isDigit_0 : decode cX8_isDigit 0 = .ok (.aload_n 0, 1) := by decide +kernel
theorem dX8_isDigit_1 : decode cX8_isDigit 1 = .ok (.aload_n 0, 1) := by decide +kernel
theorem dX8_isDigit_2 : decode cX8_isDigit 2 = .ok (.invokevirtual 146, 3) := by decide +kernel
theorem dX8_isDigit_5 : decode cX8_isDigit 5 = .ok (.bipush 48, 2) := by decide +kernel
theorem dX8_isDigit_7 : decode cX8_isDigit 7 = .ok (.bipush 57, 2) := by decide +kernel
theorem dX8_isDigit_9 : decode cX8_isDigit 9 = .ok (.invokevirtual 142, 3) := by decide +kernel
theorem dX8_isDigit_12 : decode cX8_isDigit 12 = .ok (.ireturn, 1) := by decide +kernel
theorem dX8_isBare_0 : decode cX8_isBare 0 = .ok (.iload_n 1, 1) := by decide +kernel
theorem dX8_isBare_1 : decode cX8_isBare 1 = .ok (.bipush 97, 2) := by decide +kernel
theorem dX8_isBare_3 : decode cX8_isBare 3 = .ok (.if_icmp .eq 45, 3) := by decide +kernel
theorem dX8_isBare_6 : decode cX8_isBare 6 = .ok (.iload_n 1, 1) := by decide +kernel
theorem dX8_isBare_7 : decode cX8_isBare 7 = .ok (.bipush 98, 2) := by decide +kernel
theorem dX8_isBare_9 : decode cX8_isBare 9 = .ok (.if_icmp .eq 39, 3) := by decide +kernel
theorem dX8_isBare_12 : decode cX8_isBare 12 = .ok (.iload_n 1, 1) := by decide +kernel
theorem dX8_isBare_13 : decode cX8_isBare 13 = .ok (.bipush 109, 2) := by decide +kernel
theorem dX8_isBare_15 : decode cX8_isBare 15 = .ok (.if_icmp .eq 33, 3) := by decide +kernel
theorem dX8_isBare_18 : decode cX8_isBare 18 = .ok (.iload_n 1, 1) := by decide +kernel
theorem dX8_isBare_19 : decode cX8_isBare 19 = .ok (.bipush 121, 2) := by decide +kernel
theorem dX8_isBare_21 : decode cX8_isBare 21 = .ok (.if_icmp .eq 27, 3) := by decide +kernel
theorem dX8_isBare_24 : decode cX8_isBare 24 = .ok (.iload_n 1, 1) := by decide +kernel
theorem dX8_isBare_25 : decode cX8_isBare 25 = .ok (.bipush 110, 2) := by decide +kernel
theorem dX8_isBare_27 : decode cX8_isBare 27 = .ok (.if_icmp .eq 21, 3) := by decide +kernel
theorem dX8_isBare_30 : decode cX8_isBare 30 = .ok (.iload_n 1, 1) := by decide +kernel
theorem dX8_isBare_31 : decode cX8_isBare 31 = .ok (.bipush 38, 2) := by decide +kernel
theorem dX8_isBare_33 : decode cX8_isBare 33 = .ok (.if_icmp .eq 15, 3) := by decide +kernel
theorem dX8_isBare_36 : decode cX8_isBare 36 = .ok (.iload_n 1, 1) := by decide +kernel
theorem dX8_isBare_37 : decode cX8_isBare 37 = .ok (.bipush 44, 2) := by decide +kernel
theorem dX8_isBare_39 : decode cX8_isBare 39 = .ok (.if_icmp .eq 9, 3) := by decide +kernel
theorem dX8_isBare_42 : decode cX8_isBare 42 = .ok (.iload_n 1, 1) := by decide +kernel
theorem dX8_isBare_43 : decode cX8_isBare 43 = .ok (.bipush 59, 2) := by decide +kernel
theorem dX8_isBare_45 : decode cX8_isBare 45 = .ok (.if_icmp .ne 7, 3) := by decide +kernel
theorem dX8_isBare_48 : decode cX8_isBare 48 = .ok (.iconst 1, 1) := by decide +kernel
theorem dX8_isBare_49 : decode cX8_isBare 49 = .ok (.goto 4, 3) := by decide +kernel
theorem dX8_isBare_52 : decode cX8_isBare 52 = .ok (.iconst 0, 1) := by decide +kernel
theorem dX8_isBare_53 : decode cX8_isBare 53 = .ok (.ireturn, 1) := by decide +kernel
theorem dX8_isFigured_0 : decode cX8_isFigured 0 = .ok (.iload_n 1, 1) := by decide +kernel
theorem dX8_isFigured_1 : decode cX8_isFigured 1 = .ok (.bipush 119, 2) := by decide +kernel
theorem dX8_isFigured_3 : decode cX8_isFigured 3 = .ok (.if_icmp .eq 21, 3) := by decide +kernel
theorem dX8_isFigured_6 : decode cX8_isFigured 6 = .ok (.iload_n 1, 1) := by decide +kernel
theorem dX8_isFigured_7 : decode cX8_isFigured 7 = .ok (.bipush 105, 2) := by decide +kernel
theorem dX8_isFigured_9 : decode cX8_isFigured 9 = .ok (.if_icmp .eq 15, 3) := by decide +kernel
theorem dX8_isFigured_12 : decode cX8_isFigured 12 = .ok (.iload_n 1, 1) := by decide +kernel
theorem dX8_isFigured_13 : decode cX8_isFigured 13 = .ok (.bipush 102, 2) := by decide +kernel
theorem dX8_isFigured_15 : decode cX8_isFigured 15 = .ok (.if_icmp .eq 9, 3) := by decide +kernel
theorem dX8_isFigured_18 : decode cX8_isFigured 18 = .ok (.iload_n 1, 1) := by decide +kernel
theorem dX8_isFigured_19 : decode cX8_isFigured 19 = .ok (.bipush 112, 2) := by decide +kernel
theorem dX8_isFigured_21 : decode cX8_isFigured 21 = .ok (.if_icmp .ne 7, 3) := by decide +kernel
theorem dX8_isFigured_24 : decode cX8_isFigured 24 = .ok (.iconst 1, 1) := by decide +kernel
theorem dX8_isFigured_25 : decode cX8_isFigured 25 = .ok (.goto 4, 3) := by decide +kernel
theorem dX8_isFigured_28 : decode cX8_isFigured 28 = .ok (.iconst 0, 1) := by decide +kernel
theorem dX8_isFigured_29 : decode cX8_isFigured 29 = .ok (.ireturn, 1) := by decide +kernel
theorem dX8_goesWords_0 : decode cX8_goesWords 0 = .ok (.aload_n 0, 1) := by decide +kernel
theorem dX8_goesWords_1 : decode cX8_goesWords 1 = .ok (.iconst 0, 1) := by decide +kernel
theorem dX8_goesWords_2 : decode cX8_goesWords 2 = .ok (.putfield 19, 3) := by decide +kernel
theorem dX8_goesWords_5 : decode cX8_goesWords 5 = .ok (.aload_n 0, 1) := by decide +kernel
theorem dX8_goesWords_6 : decode cX8_goesWords 6 = .ok (.getfield 35, 3) := by decide +kernel
theorem dX8_goesWords_9 : decode cX8_goesWords 9 = .ok (.iload_n 1, 1) := by decide +kernel
theorem dX8_goesWords_10 : decode cX8_goesWords 10 = .ok (.iconst 0, 1) := by decide +kernel
theorem dX8_goesWords_11 : decode cX8_goesWords 11 = .ok (.iastore, 1) := by decide +kernel
theorem dX8_goesWords_12 : decode cX8_goesWords 12 = .ok (.aload_n 0, 1) := by decide +kernel
theorem dX8_goesWords_13 : decode cX8_goesWords 13 = .ok (.invokevirtual 146, 3) := by decide +kernel
theorem dX8_goesWords_16 : decode cX8_goesWords 16 = .ok (.istore_n 2, 1) := by decide +kernel
theorem dX8_goesWords_17 : decode cX8_goesWords 17 = .ok (.aload_n 0, 1) := by decide +kernel
theorem dX8_goesWords_18 : decode cX8_goesWords 18 = .ok (.getfield 35, 3) := by decide +kernel
theorem dX8_goesWords_21 : decode cX8_goesWords 21 = .ok (.iload_n 1, 1) := by decide +kernel
theorem dX8_goesWords_22 : decode cX8_goesWords 22 = .ok (.iaload, 1) := by decide +kernel
theorem dX8_goesWords_23 : decode cX8_goesWords 23 = .ok (.bipush 12, 2) := by decide +kernel
theorem dX8_goesWords_25 : decode cX8_goesWords 25 = .ok (.if_icmp .eq 19, 3) := by decide +kernel
theorem dX8_goesWords_28 : decode cX8_goesWords 28 = .ok (.aload_n 0, 1) := by decide +kernel
theorem dX8_goesWords_29 : decode cX8_goesWords 29 = .ok (.iload_n 2, 1) := by decide +kernel
theorem dX8_goesWords_30 : decode cX8_goesWords 30 = .ok (.invokevirtual 150, 3) := by decide +kernel
theorem dX8_goesWords_33 : decode cX8_goesWords 33 = .ok (.ifCond .ne 13, 3) := by decide +kernel
theorem dX8_goesWords_36 : decode cX8_goesWords 36 = .ok (.aload_n 0, 1) := by decide +kernel
theorem dX8_goesWords_37 : decode cX8_goesWords 37 = .ok (.iload_n 2, 1) := by decide +kernel
theorem dX8_goesWords_38 : decode cX8_goesWords 38 = .ok (.invokevirtual 154, 3) := by decide +kernel
theorem dX8_goesWords_41 : decode cX8_goesWords 41 = .ok (.ifCond .ne 5, 3) := by decide +kernel
theorem dX8_goesWords_44 : decode cX8_goesWords 44 = .ok (.iconst 0, 1) := by decide +kernel
theorem dX8_goesWords_45 : decode cX8_goesWords 45 = .ok (.ireturn, 1) := by decide +kernel
theorem dX8_goesWords_46 : decode cX8_goesWords 46 = .ok (.aload_n 0, 1) := by decide +kernel
theorem dX8_goesWords_47 : decode cX8_goesWords 47 = .ok (.dup, 1) := by decide +kernel
theorem dX8_goesWords_48 : decode cX8_goesWords 48 = .ok (.getfield 19, 3) := by decide +kernel
theorem dX8_goesWords_51 : decode cX8_goesWords 51 = .ok (.iconst 1, 1) := by decide +kernel
theorem dX8_goesWords_52 : decode cX8_goesWords 52 = .ok (.iadd, 1) := by decide +kernel
theorem dX8_goesWords_53 : decode cX8_goesWords 53 = .ok (.putfield 19, 3) := by decide +kernel
theorem dX8_goesWords_56 : decode cX8_goesWords 56 = .ok (.aload_n 0, 1) := by decide +kernel
theorem dX8_goesWords_57 : decode cX8_goesWords 57 = .ok (.iload_n 2, 1) := by decide +kernel
theorem dX8_goesWords_58 : decode cX8_goesWords 58 = .ok (.invokevirtual 154, 3) := by decide +kernel
theorem dX8_goesWords_61 : decode cX8_goesWords 61 = .ok (.ifCond .eq 12, 3) := by decide +kernel
theorem dX8_goesWords_64 : decode cX8_goesWords 64 = .ok (.aload_n 0, 1) := by decide +kernel
theorem dX8_goesWords_65 : decode cX8_goesWords 65 = .ok (.invokevirtual 157, 3) := by decide +kernel
theorem dX8_goesWords_68 : decode cX8_goesWords 68 = .ok (.ifCond .ne 5, 3) := by decide +kernel
theorem dX8_goesWords_71 : decode cX8_goesWords 71 = .ok (.iconst 0, 1) := by decide +kernel
theorem dX8_goesWords_72 : decode cX8_goesWords 72 = .ok (.ireturn, 1) := by decide +kernel
theorem dX8_goesWords_73 : decode cX8_goesWords 73 = .ok (.bipush 12, 2) := by decide +kernel
theorem dX8_goesWords_75 : decode cX8_goesWords 75 = .ok (.iload_n 1, 1) := by decide +kernel
theorem dX8_goesWords_76 : decode cX8_goesWords 76 = .ok (.imul, 1) := by decide +kernel
theorem dX8_goesWords_77 : decode cX8_goesWords 77 = .ok (.aload_n 0, 1) := by decide +kernel
theorem dX8_goesWords_78 : decode cX8_goesWords 78 = .ok (.getfield 35, 3) := by decide +kernel
theorem dX8_goesWords_81 : decode cX8_goesWords 81 = .ok (.iload_n 1, 1) := by decide +kernel
theorem dX8_goesWords_82 : decode cX8_goesWords 82 = .ok (.iaload, 1) := by decide +kernel
theorem dX8_goesWords_83 : decode cX8_goesWords 83 = .ok (.iadd, 1) := by decide +kernel
theorem dX8_goesWords_84 : decode cX8_goesWords 84 = .ok (.istore_n 3, 1) := by decide +kernel
theorem dX8_goesWords_85 : decode cX8_goesWords 85 = .ok (.aload_n 0, 1) := by decide +kernel
theorem dX8_goesWords_86 : decode cX8_goesWords 86 = .ok (.getfield 29, 3) := by decide +kernel
theorem dX8_goesWords_89 : decode cX8_goesWords 89 = .ok (.iload_n 3, 1) := by decide +kernel
theorem dX8_goesWords_90 : decode cX8_goesWords 90 = .ok (.iload_n 2, 1) := by decide +kernel
theorem dX8_goesWords_91 : decode cX8_goesWords 91 = .ok (.iastore, 1) := by decide +kernel
theorem dX8_goesWords_92 : decode cX8_goesWords 92 = .ok (.aload_n 0, 1) := by decide +kernel
theorem dX8_goesWords_93 : decode cX8_goesWords 93 = .ok (.getfield 32, 3) := by decide +kernel
theorem dX8_goesWords_96 : decode cX8_goesWords 96 = .ok (.iload_n 3, 1) := by decide +kernel
theorem dX8_goesWords_97 : decode cX8_goesWords 97 = .ok (.aload_n 0, 1) := by decide +kernel
theorem dX8_goesWords_98 : decode cX8_goesWords 98 = .ok (.iload_n 2, 1) := by decide +kernel
theorem dX8_goesWords_99 : decode cX8_goesWords 99 = .ok (.invokevirtual 154, 3) := by decide +kernel
theorem dX8_goesWords_102 : decode cX8_goesWords 102 = .ok (.ifCond .eq 13, 3) := by decide +kernel
theorem dX8_goesWords_105 : decode cX8_goesWords 105 = .ok (.aload_n 0, 1) := by decide +kernel
theorem dX8_goesWords_106 : decode cX8_goesWords 106 = .ok (.invokevirtual 146, 3) := by decide +kernel
theorem dX8_goesWords_109 : decode cX8_goesWords 109 = .ok (.bipush 48, 2) := by decide +kernel
theorem dX8_goesWords_111 : decode cX8_goesWords 111 = .ok (.isub, 1) := by decide +kernel
theorem dX8_goesWords_112 : decode cX8_goesWords 112 = .ok (.goto 4, 3) := by decide +kernel
theorem dX8_goesWords_115 : decode cX8_goesWords 115 = .ok (.iconst 0, 1) := by decide +kernel
theorem dX8_goesWords_116 : decode cX8_goesWords 116 = .ok (.iastore, 1) := by decide +kernel
theorem dX8_goesWords_117 : decode cX8_goesWords 117 = .ok (.aload_n 0, 1) := by decide +kernel
theorem dX8_goesWords_118 : decode cX8_goesWords 118 = .ok (.dup, 1) := by decide +kernel
theorem dX8_goesWords_119 : decode cX8_goesWords 119 = .ok (.getfield 19, 3) := by decide +kernel
theorem dX8_goesWords_122 : decode cX8_goesWords 122 = .ok (.aload_n 0, 1) := by decide +kernel
theorem dX8_goesWords_123 : decode cX8_goesWords 123 = .ok (.iload_n 2, 1) := by decide +kernel
theorem dX8_goesWords_124 : decode cX8_goesWords 124 = .ok (.invokevirtual 154, 3) := by decide +kernel
theorem dX8_goesWords_127 : decode cX8_goesWords 127 = .ok (.ifCond .eq 7, 3) := by decide +kernel
theorem dX8_goesWords_130 : decode cX8_goesWords 130 = .ok (.iconst 1, 1) := by decide +kernel
theorem dX8_goesWords_131 : decode cX8_goesWords 131 = .ok (.goto 4, 3) := by decide +kernel
theorem dX8_goesWords_134 : decode cX8_goesWords 134 = .ok (.iconst 0, 1) := by decide +kernel
theorem dX8_goesWords_135 : decode cX8_goesWords 135 = .ok (.iadd, 1) := by decide +kernel
theorem dX8_goesWords_136 : decode cX8_goesWords 136 = .ok (.putfield 19, 3) := by decide +kernel
theorem dX8_goesWords_139 : decode cX8_goesWords 139 = .ok (.aload_n 0, 1) := by decide +kernel
theorem dX8_goesWords_140 : decode cX8_goesWords 140 = .ok (.getfield 35, 3) := by decide +kernel
theorem dX8_goesWords_143 : decode cX8_goesWords 143 = .ok (.iload_n 1, 1) := by decide +kernel
theorem dX8_goesWords_144 : decode cX8_goesWords 144 = .ok (.dup2, 1) := by decide +kernel
theorem dX8_goesWords_145 : decode cX8_goesWords 145 = .ok (.iaload, 1) := by decide +kernel
theorem dX8_goesWords_146 : decode cX8_goesWords 146 = .ok (.iconst 1, 1) := by decide +kernel
theorem dX8_goesWords_147 : decode cX8_goesWords 147 = .ok (.iadd, 1) := by decide +kernel
theorem dX8_goesWords_148 : decode cX8_goesWords 148 = .ok (.iastore, 1) := by decide +kernel
theorem dX8_goesWords_149 : decode cX8_goesWords 149 = .ok (.aload_n 0, 1) := by decide +kernel
theorem dX8_goesWords_150 : decode cX8_goesWords 150 = .ok (.getfield 19, 3) := by decide +kernel
theorem dX8_goesWords_153 : decode cX8_goesWords 153 = .ok (.aload_n 0, 1) := by decide +kernel
theorem dX8_goesWords_154 : decode cX8_goesWords 154 = .ok (.getfield 16, 3) := by decide +kernel
theorem dX8_goesWords_157 : decode cX8_goesWords 157 = .ok (.if_icmp .lt (-145), 3) := by decide +kernel
theorem dX8_goesWords_160 : decode cX8_goesWords 160 = .ok (.iconst 1, 1) := by decide +kernel
theorem dX8_goesWords_161 : decode cX8_goesWords 161 = .ok (.ireturn, 1) := by decide +kernel
theorem dX8_takesWord_0 : decode cX8_takesWord 0 = .ok (.iload_n 2, 1) := by decide +kernel
theorem dX8_takesWord_1 : decode cX8_takesWord 1 = .ok (.iconst 1, 1) := by decide +kernel
theorem dX8_takesWord_2 : decode cX8_takesWord 2 = .ok (.isub, 1) := by decide +kernel
theorem dX8_takesWord_3 : decode cX8_takesWord 3 = .ok (.istore_n 3, 1) := by decide +kernel
theorem dX8_takesWord_4 : decode cX8_takesWord 4 = .ok (.iload_n 3, 1) := by decide +kernel
theorem dX8_takesWord_5 : decode cX8_takesWord 5 = .ok (.ifCond .lt 29, 3) := by decide +kernel
theorem dX8_takesWord_8 : decode cX8_takesWord 8 = .ok (.aload_n 0, 1) := by decide +kernel
theorem dX8_takesWord_9 : decode cX8_takesWord 9 = .ok (.bipush 96, 2) := by decide +kernel
theorem dX8_takesWord_11 : decode cX8_takesWord 11 = .ok (.iload_n 1, 1) := by decide +kernel
theorem dX8_takesWord_12 : decode cX8_takesWord 12 = .ok (.iconst 5, 1) := by decide +kernel
theorem dX8_takesWord_13 : decode cX8_takesWord 13 = .ok (.iload_n 3, 1) := by decide +kernel
theorem dX8_takesWord_14 : decode cX8_takesWord 14 = .ok (.imul, 1) := by decide +kernel
theorem dX8_takesWord_15 : decode cX8_takesWord 15 = .ok (.ishr, 1) := by decide +kernel
theorem dX8_takesWord_16 : decode cX8_takesWord 16 = .ok (.bipush 31, 2) := by decide +kernel
theorem dX8_takesWord_18 : decode cX8_takesWord 18 = .ok (.iand, 1) := by decide +kernel
theorem dX8_takesWord_19 : decode cX8_takesWord 19 = .ok (.iadd, 1) := by decide +kernel
theorem dX8_takesWord_20 : decode cX8_takesWord 20 = .ok (.invokevirtual 161, 3) := by decide +kernel
theorem dX8_takesWord_23 : decode cX8_takesWord 23 = .ok (.ifCond .ne 5, 3) := by decide +kernel
theorem dX8_takesWord_26 : decode cX8_takesWord 26 = .ok (.iconst 0, 1) := by decide +kernel
theorem dX8_takesWord_27 : decode cX8_takesWord 27 = .ok (.ireturn, 1) := by decide +kernel
theorem dX8_takesWord_28 : decode cX8_takesWord 28 = .ok (.iinc 3 (-1), 3) := by decide +kernel
theorem dX8_takesWord_31 : decode cX8_takesWord 31 = .ok (.goto (-27), 3) := by decide +kernel
theorem dX8_takesWord_34 : decode cX8_takesWord 34 = .ok (.iconst 1, 1) := by decide +kernel
theorem dX8_takesWord_35 : decode cX8_takesWord 35 = .ok (.ireturn, 1) := by decide +kernel
theorem dX8_takesNumber_0 : decode cX8_takesNumber 0 = .ok (.aload_n 0, 1) := by decide +kernel
theorem dX8_takesNumber_1 : decode cX8_takesNumber 1 = .ok (.invokevirtual 157, 3) := by decide +kernel
theorem dX8_takesNumber_4 : decode cX8_takesNumber 4 = .ok (.ifCond .ne 5, 3) := by decide +kernel
theorem dX8_takesNumber_7 : decode cX8_takesNumber 7 = .ok (.iconst 0, 1) := by decide +kernel
theorem dX8_takesNumber_8 : decode cX8_takesNumber 8 = .ok (.ireturn, 1) := by decide +kernel
theorem dX8_takesNumber_9 : decode cX8_takesNumber 9 = .ok (.aload_n 0, 1) := by decide +kernel
theorem dX8_takesNumber_10 : decode cX8_takesNumber 10 = .ok (.iconst 0, 1) := by decide +kernel
theorem dX8_takesNumber_11 : decode cX8_takesNumber 11 = .ok (.putfield 22, 3) := by decide +kernel
theorem dX8_takesNumber_14 : decode cX8_takesNumber 14 = .ok (.iconst 0, 1) := by decide +kernel
theorem dX8_takesNumber_15 : decode cX8_takesNumber 15 = .ok (.istore_n 1, 1) := by decide +kernel
theorem dX8_takesNumber_16 : decode cX8_takesNumber 16 = .ok (.iload_n 1, 1) := by decide +kernel
theorem dX8_takesNumber_17 : decode cX8_takesNumber 17 = .ok (.iconst 3, 1) := by decide +kernel
theorem dX8_takesNumber_18 : decode cX8_takesNumber 18 = .ok (.if_icmp .ge 45, 3) := by decide +kernel
theorem dX8_takesNumber_21 : decode cX8_takesNumber 21 = .ok (.aload_n 0, 1) := by decide +kernel
theorem dX8_takesNumber_22 : decode cX8_takesNumber 22 = .ok (.invokevirtual 157, 3) := by decide +kernel
theorem dX8_takesNumber_25 : decode cX8_takesNumber 25 = .ok (.ifCond .eq 38, 3) := by decide +kernel
theorem dX8_takesNumber_28 : decode cX8_takesNumber 28 = .ok (.aload_n 0, 1) := by decide +kernel
theorem dX8_takesNumber_29 : decode cX8_takesNumber 29 = .ok (.bipush 10, 2) := by decide +kernel
theorem dX8_takesNumber_31 : decode cX8_takesNumber 31 = .ok (.aload_n 0, 1) := by decide +kernel
theorem dX8_takesNumber_32 : decode cX8_takesNumber 32 = .ok (.getfield 22, 3) := by decide +kernel
theorem dX8_takesNumber_35 : decode cX8_takesNumber 35 = .ok (.imul, 1) := by decide +kernel
theorem dX8_takesNumber_36 : decode cX8_takesNumber 36 = .ok (.aload_n 0, 1) := by decide +kernel
theorem dX8_takesNumber_37 : decode cX8_takesNumber 37 = .ok (.invokevirtual 146, 3) := by decide +kernel
theorem dX8_takesNumber_40 : decode cX8_takesNumber 40 = .ok (.iadd, 1) := by decide +kernel
theorem dX8_takesNumber_41 : decode cX8_takesNumber 41 = .ok (.bipush 48, 2) := by decide +kernel
theorem dX8_takesNumber_43 : decode cX8_takesNumber 43 = .ok (.isub, 1) := by decide +kernel
theorem dX8_takesNumber_44 : decode cX8_takesNumber 44 = .ok (.putfield 22, 3) := by decide +kernel
theorem dX8_takesNumber_47 : decode cX8_takesNumber 47 = .ok (.aload_n 0, 1) := by decide +kernel
theorem dX8_takesNumber_48 : decode cX8_takesNumber 48 = .ok (.dup, 1) := by decide +kernel
theorem dX8_takesNumber_49 : decode cX8_takesNumber 49 = .ok (.getfield 19, 3) := by decide +kernel
theorem dX8_takesNumber_52 : decode cX8_takesNumber 52 = .ok (.iconst 1, 1) := by decide +kernel
theorem dX8_takesNumber_53 : decode cX8_takesNumber 53 = .ok (.iadd, 1) := by decide +kernel
theorem dX8_takesNumber_54 : decode cX8_takesNumber 54 = .ok (.putfield 19, 3) := by decide +kernel
theorem dX8_takesNumber_57 : decode cX8_takesNumber 57 = .ok (.iinc 1 1, 3) := by decide +kernel
theorem dX8_takesNumber_60 : decode cX8_takesNumber 60 = .ok (.goto (-44), 3) := by decide +kernel
theorem dX8_takesNumber_63 : decode cX8_takesNumber 63 = .ok (.iconst 1, 1) := by decide +kernel
theorem dX8_takesNumber_64 : decode cX8_takesNumber 64 = .ok (.ireturn, 1) := by decide +kernel
theorem dX8_put_0 : decode cX8_put 0 = .ok (.aload_n 0, 1) := by decide +kernel
theorem dX8_put_1 : decode cX8_put 1 = .ok (.getfield 53, 3) := by decide +kernel
theorem dX8_put_4 : decode cX8_put 4 = .ok (.aload_n 0, 1) := by decide +kernel
theorem dX8_put_5 : decode cX8_put 5 = .ok (.getfield 59, 3) := by decide +kernel
theorem dX8_put_8 : decode cX8_put 8 = .ok (.iload_n 1, 1) := by decide +kernel
theorem dX8_put_9 : decode cX8_put 9 = .ok (.iastore, 1) := by decide +kernel
theorem dX8_put_10 : decode cX8_put 10 = .ok (.aload_n 0, 1) := by decide +kernel
theorem dX8_put_11 : decode cX8_put 11 = .ok (.dup, 1) := by decide +kernel
theorem dX8_put_12 : decode cX8_put 12 = .ok (.getfield 59, 3) := by decide +kernel
theorem dX8_put_15 : decode cX8_put 15 = .ok (.iconst 1, 1) := by decide +kernel
theorem dX8_put_16 : decode cX8_put 16 = .ok (.iadd, 1) := by decide +kernel
theorem dX8_put_17 : decode cX8_put 17 = .ok (.putfield 59, 3) := by decide +kernel
theorem dX8_put_20 : decode cX8_put 20 = .ok (.return_, 1) := by decide +kernel
theorem dX8_whole_0 : decode cX8_whole 0 = .ok (.aload_n 0, 1) := by decide +kernel
theorem dX8_whole_1 : decode cX8_whole 1 = .ok (.getfield 62, 3) := by decide +kernel
theorem dX8_whole_4 : decode cX8_whole 4 = .ok (.ifCond .le 48, 3) := by decide +kernel
theorem dX8_whole_7 : decode cX8_whole 7 = .ok (.aload_n 0, 1) := by decide +kernel
theorem dX8_whole_8 : decode cX8_whole 8 = .ok (.getfield 56, 3) := by decide +kernel
theorem dX8_whole_11 : decode cX8_whole 11 = .ok (.aload_n 0, 1) := by decide +kernel
theorem dX8_whole_12 : decode cX8_whole 12 = .ok (.getfield 62, 3) := by decide +kernel
theorem dX8_whole_15 : decode cX8_whole 15 = .ok (.iconst 1, 1) := by decide +kernel
theorem dX8_whole_16 : decode cX8_whole 16 = .ok (.isub, 1) := by decide +kernel
theorem dX8_whole_17 : decode cX8_whole 17 = .ok (.iaload, 1) := by decide +kernel
theorem dX8_whole_18 : decode cX8_whole 18 = .ok (.bipush 33, 2) := by decide +kernel
theorem dX8_whole_20 : decode cX8_whole 20 = .ok (.if_icmp .ne 32, 3) := by decide +kernel
theorem dX8_whole_23 : decode cX8_whole 23 = .ok (.aload_n 0, 1) := by decide +kernel
theorem dX8_whole_24 : decode cX8_whole 24 = .ok (.bipush (-33), 2) := by decide +kernel
theorem dX8_whole_26 : decode cX8_whole 26 = .ok (.invokevirtual 164, 3) := by decide +kernel
theorem dX8_whole_29 : decode cX8_whole 29 = .ok (.aload_n 0, 1) := by decide +kernel
theorem dX8_whole_30 : decode cX8_whole 30 = .ok (.dup, 1) := by decide +kernel
theorem dX8_whole_31 : decode cX8_whole 31 = .ok (.getfield 62, 3) := by decide +kernel
theorem dX8_whole_34 : decode cX8_whole 34 = .ok (.iconst 1, 1) := by decide +kernel
theorem dX8_whole_35 : decode cX8_whole 35 = .ok (.isub, 1) := by decide +kernel
theorem dX8_whole_36 : decode cX8_whole 36 = .ok (.putfield 62, 3) := by decide +kernel
theorem dX8_whole_39 : decode cX8_whole 39 = .ok (.aload_n 0, 1) := by decide +kernel
theorem dX8_whole_40 : decode cX8_whole 40 = .ok (.dup, 1) := by decide +kernel
theorem dX8_whole_41 : decode cX8_whole 41 = .ok (.getfield 65, 3) := by decide +kernel
theorem dX8_whole_44 : decode cX8_whole 44 = .ok (.iconst 1, 1) := by decide +kernel
theorem dX8_whole_45 : decode cX8_whole 45 = .ok (.isub, 1) := by decide +kernel
theorem dX8_whole_46 : decode cX8_whole 46 = .ok (.putfield 65, 3) := by decide +kernel
theorem dX8_whole_49 : decode cX8_whole 49 = .ok (.goto (-49), 3) := by decide +kernel
theorem dX8_whole_52 : decode cX8_whole 52 = .ok (.return_, 1) := by decide +kernel
theorem dX8_settle_0 : decode cX8_settle 0 = .ok (.aload_n 0, 1) := by decide +kernel
theorem dX8_settle_1 : decode cX8_settle 1 = .ok (.getfield 62, 3) := by decide +kernel
theorem dX8_settle_4 : decode cX8_settle 4 = .ok (.ifCond .le 68, 3) := by decide +kernel
theorem dX8_settle_7 : decode cX8_settle 7 = .ok (.aload_n 0, 1) := by decide +kernel
theorem dX8_settle_8 : decode cX8_settle 8 = .ok (.getfield 56, 3) := by decide +kernel
theorem dX8_settle_11 : decode cX8_settle 11 = .ok (.aload_n 0, 1) := by decide +kernel
theorem dX8_settle_12 : decode cX8_settle 12 = .ok (.getfield 62, 3) := by decide +kernel
theorem dX8_settle_15 : decode cX8_settle 15 = .ok (.iconst 1, 1) := by decide +kernel
theorem dX8_settle_16 : decode cX8_settle 16 = .ok (.isub, 1) := by decide +kernel
theorem dX8_settle_17 : decode cX8_settle 17 = .ok (.iaload, 1) := by decide +kernel
theorem dX8_settle_18 : decode cX8_settle 18 = .ok (.bipush 38, 2) := by decide +kernel
theorem dX8_settle_20 : decode cX8_settle 20 = .ok (.if_icmp .eq 25, 3) := by decide +kernel
theorem dX8_settle_23 : decode cX8_settle 23 = .ok (.aload_n 0, 1) := by decide +kernel
theorem dX8_settle_24 : decode cX8_settle 24 = .ok (.getfield 56, 3) := by decide +kernel
theorem dX8_settle_27 : decode cX8_settle 27 = .ok (.aload_n 0, 1) := by decide +kernel
theorem dX8_settle_28 : decode cX8_settle 28 = .ok (.getfield 62, 3) := by decide +kernel
theorem dX8_settle_31 : decode cX8_settle 31 = .ok (.iconst 1, 1) := by decide +kernel
theorem dX8_settle_32 : decode cX8_settle 32 = .ok (.isub, 1) := by decide +kernel
theorem dX8_settle_33 : decode cX8_settle 33 = .ok (.iaload, 1) := by decide +kernel
theorem dX8_settle_34 : decode cX8_settle 34 = .ok (.bipush 124, 2) := by decide +kernel
theorem dX8_settle_36 : decode cX8_settle 36 = .ok (.if_icmp .ne 36, 3) := by decide +kernel
theorem dX8_settle_39 : decode cX8_settle 39 = .ok (.iload_n 1, 1) := by decide +kernel
theorem dX8_settle_40 : decode cX8_settle 40 = .ok (.bipush 38, 2) := by decide +kernel
theorem dX8_settle_42 : decode cX8_settle 42 = .ok (.if_icmp .eq 30, 3) := by decide +kernel
theorem dX8_settle_45 : decode cX8_settle 45 = .ok (.aload_n 0, 1) := by decide +kernel
theorem dX8_settle_46 : decode cX8_settle 46 = .ok (.dup, 1) := by decide +kernel
theorem dX8_settle_47 : decode cX8_settle 47 = .ok (.getfield 62, 3) := by decide +kernel
theorem dX8_settle_50 : decode cX8_settle 50 = .ok (.iconst 1, 1) := by decide +kernel
theorem dX8_settle_51 : decode cX8_settle 51 = .ok (.isub, 1) := by decide +kernel
theorem dX8_settle_52 : decode cX8_settle 52 = .ok (.putfield 62, 3) := by decide +kernel
theorem dX8_settle_55 : decode cX8_settle 55 = .ok (.aload_n 0, 1) := by decide +kernel
theorem dX8_settle_56 : decode cX8_settle 56 = .ok (.aload_n 0, 1) := by decide +kernel
theorem dX8_settle_57 : decode cX8_settle 57 = .ok (.getfield 56, 3) := by decide +kernel
theorem dX8_settle_60 : decode cX8_settle 60 = .ok (.aload_n 0, 1) := by decide +kernel
theorem dX8_settle_61 : decode cX8_settle 61 = .ok (.getfield 62, 3) := by decide +kernel
theorem dX8_settle_64 : decode cX8_settle 64 = .ok (.iaload, 1) := by decide +kernel
theorem dX8_settle_65 : decode cX8_settle 65 = .ok (.ineg, 1) := by decide +kernel
theorem dX8_settle_66 : decode cX8_settle 66 = .ok (.invokevirtual 164, 3) := by decide +kernel
theorem dX8_settle_69 : decode cX8_settle 69 = .ok (.goto (-69), 3) := by decide +kernel
theorem dX8_settle_72 : decode cX8_settle 72 = .ok (.return_, 1) := by decide +kernel
theorem dX8_place_0 : decode cX8_place 0 = .ok (.iload_n 1, 1) := by decide +kernel
theorem dX8_place_1 : decode cX8_place 1 = .ok (.tableswitch 102 102 119 #[97, 102, 102, 95, 102, 102, 102, 102, 91, 102, 99, 102, 102, 102, 93, 102, 89, 87], 87) := by decide +kernel
theorem dX8_place_88 : decode cX8_place 88 = .ok (.iconst 0, 1) := by decide +kernel
theorem dX8_place_89 : decode cX8_place 89 = .ok (.ireturn, 1) := by decide +kernel
theorem dX8_place_90 : decode cX8_place 90 = .ok (.iconst 1, 1) := by decide +kernel
theorem dX8_place_91 : decode cX8_place 91 = .ok (.ireturn, 1) := by decide +kernel
theorem dX8_place_92 : decode cX8_place 92 = .ok (.iconst 2, 1) := by decide +kernel
theorem dX8_place_93 : decode cX8_place 93 = .ok (.ireturn, 1) := by decide +kernel
theorem dX8_place_94 : decode cX8_place 94 = .ok (.iconst 3, 1) := by decide +kernel
theorem dX8_place_95 : decode cX8_place 95 = .ok (.ireturn, 1) := by decide +kernel
theorem dX8_place_96 : decode cX8_place 96 = .ok (.iconst 4, 1) := by decide +kernel
theorem dX8_place_97 : decode cX8_place 97 = .ok (.ireturn, 1) := by decide +kernel
theorem dX8_place_98 : decode cX8_place 98 = .ok (.iconst 5, 1) := by decide +kernel
theorem dX8_place_99 : decode cX8_place 99 = .ok (.ireturn, 1) := by decide +kernel
theorem dX8_place_100 : decode cX8_place 100 = .ok (.bipush 6, 2) := by decide +kernel
theorem dX8_place_102 : decode cX8_place 102 = .ok (.ireturn, 1) := by decide +kernel
theorem dX8_place_103 : decode cX8_place 103 = .ok (.iconst (-1), 1) := by decide +kernel
theorem dX8_place_104 : decode cX8_place 104 = .ok (.ireturn, 1) := by decide +kernel
theorem dX8_takesTest_0 : decode cX8_takesTest 0 = .ok (.aload_n 0, 1) := by decide +kernel
theorem dX8_takesTest_1 : decode cX8_takesTest 1 = .ok (.aload_n 0, 1) := by decide +kernel
theorem dX8_takesTest_2 : decode cX8_takesTest 2 = .ok (.invokevirtual 146, 3) := by decide +kernel
theorem dX8_takesTest_5 : decode cX8_takesTest 5 = .ok (.invokevirtual 168, 3) := by decide +kernel
theorem dX8_takesTest_8 : decode cX8_takesTest 8 = .ok (.istore_n 1, 1) := by decide +kernel
theorem dX8_takesTest_9 : decode cX8_takesTest 9 = .ok (.iload_n 1, 1) := by decide +kernel
theorem dX8_takesTest_10 : decode cX8_takesTest 10 = .ok (.ifCond .ge 5, 3) := by decide +kernel
theorem dX8_takesTest_13 : decode cX8_takesTest 13 = .ok (.iconst 0, 1) := by decide +kernel
theorem dX8_takesTest_14 : decode cX8_takesTest 14 = .ok (.ireturn, 1) := by decide +kernel
theorem dX8_takesTest_15 : decode cX8_takesTest 15 = .ok (.aload_n 0, 1) := by decide +kernel
theorem dX8_takesTest_16 : decode cX8_takesTest 16 = .ok (.dup, 1) := by decide +kernel
theorem dX8_takesTest_17 : decode cX8_takesTest 17 = .ok (.getfield 19, 3) := by decide +kernel
theorem dX8_takesTest_20 : decode cX8_takesTest 20 = .ok (.iconst 1, 1) := by decide +kernel
theorem dX8_takesTest_21 : decode cX8_takesTest 21 = .ok (.iadd, 1) := by decide +kernel
theorem dX8_takesTest_22 : decode cX8_takesTest 22 = .ok (.putfield 19, 3) := by decide +kernel
theorem dX8_takesTest_25 : decode cX8_takesTest 25 = .ok (.aload_n 0, 1) := by decide +kernel
theorem dX8_takesTest_26 : decode cX8_takesTest 26 = .ok (.invokevirtual 146, 3) := by decide +kernel
theorem dX8_takesTest_29 : decode cX8_takesTest 29 = .ok (.istore_n 2, 1) := by decide +kernel
theorem dX8_takesTest_30 : decode cX8_takesTest 30 = .ok (.aload_n 0, 1) := by decide +kernel
theorem dX8_takesTest_31 : decode cX8_takesTest 31 = .ok (.iload_n 2, 1) := by decide +kernel
theorem dX8_takesTest_32 : decode cX8_takesTest 32 = .ok (.bipush 60, 2) := by decide +kernel
theorem dX8_takesTest_34 : decode cX8_takesTest 34 = .ok (.bipush 62, 2) := by decide +kernel
theorem dX8_takesTest_36 : decode cX8_takesTest 36 = .ok (.invokevirtual 142, 3) := by decide +kernel
theorem dX8_takesTest_39 : decode cX8_takesTest 39 = .ok (.ifCond .ne 5, 3) := by decide +kernel
theorem dX8_takesTest_42 : decode cX8_takesTest 42 = .ok (.iconst 0, 1) := by decide +kernel
theorem dX8_takesTest_43 : decode cX8_takesTest 43 = .ok (.ireturn, 1) := by decide +kernel
theorem dX8_takesTest_44 : decode cX8_takesTest 44 = .ok (.aload_n 0, 1) := by decide +kernel
theorem dX8_takesTest_45 : decode cX8_takesTest 45 = .ok (.dup, 1) := by decide +kernel
theorem dX8_takesTest_46 : decode cX8_takesTest 46 = .ok (.getfield 19, 3) := by decide +kernel
theorem dX8_takesTest_49 : decode cX8_takesTest 49 = .ok (.iconst 1, 1) := by decide +kernel
theorem dX8_takesTest_50 : decode cX8_takesTest 50 = .ok (.iadd, 1) := by decide +kernel
theorem dX8_takesTest_51 : decode cX8_takesTest 51 = .ok (.putfield 19, 3) := by decide +kernel
theorem dX8_takesTest_54 : decode cX8_takesTest 54 = .ok (.aload_n 0, 1) := by decide +kernel
theorem dX8_takesTest_55 : decode cX8_takesTest 55 = .ok (.invokevirtual 172, 3) := by decide +kernel
theorem dX8_takesTest_58 : decode cX8_takesTest 58 = .ok (.ifCond .ne 5, 3) := by decide +kernel
theorem dX8_takesTest_61 : decode cX8_takesTest 61 = .ok (.iconst 0, 1) := by decide +kernel
theorem dX8_takesTest_62 : decode cX8_takesTest 62 = .ok (.ireturn, 1) := by decide +kernel
theorem dX8_takesTest_63 : decode cX8_takesTest 63 = .ok (.aload_n 0, 1) := by decide +kernel
theorem dX8_takesTest_64 : decode cX8_takesTest 64 = .ok (.sipush 10000, 3) := by decide +kernel
theorem dX8_takesTest_67 : decode cX8_takesTest 67 = .ok (.iload_n 1, 1) := by decide +kernel
theorem dX8_takesTest_68 : decode cX8_takesTest 68 = .ok (.imul, 1) := by decide +kernel
theorem dX8_takesTest_69 : decode cX8_takesTest 69 = .ok (.sipush 1000, 3) := by decide +kernel
theorem dX8_takesTest_72 : decode cX8_takesTest 72 = .ok (.iload_n 2, 1) := by decide +kernel
theorem dX8_takesTest_73 : decode cX8_takesTest 73 = .ok (.bipush 60, 2) := by decide +kernel
theorem dX8_takesTest_75 : decode cX8_takesTest 75 = .ok (.isub, 1) := by decide +kernel
theorem dX8_takesTest_76 : decode cX8_takesTest 76 = .ok (.imul, 1) := by decide +kernel
theorem dX8_takesTest_77 : decode cX8_takesTest 77 = .ok (.iadd, 1) := by decide +kernel
theorem dX8_takesTest_78 : decode cX8_takesTest 78 = .ok (.aload_n 0, 1) := by decide +kernel
theorem dX8_takesTest_79 : decode cX8_takesTest 79 = .ok (.getfield 22, 3) := by decide +kernel
theorem dX8_takesTest_82 : decode cX8_takesTest 82 = .ok (.iadd, 1) := by decide +kernel
theorem dX8_takesTest_83 : decode cX8_takesTest 83 = .ok (.invokevirtual 164, 3) := by decide +kernel
theorem dX8_takesTest_86 : decode cX8_takesTest 86 = .ok (.aload_n 0, 1) := by decide +kernel
theorem dX8_takesTest_87 : decode cX8_takesTest 87 = .ok (.invokevirtual 175, 3) := by decide +kernel
theorem dX8_takesTest_90 : decode cX8_takesTest 90 = .ok (.iconst 1, 1) := by decide +kernel
theorem dX8_takesTest_91 : decode cX8_takesTest 91 = .ok (.ireturn, 1) := by decide +kernel
theorem dX8_takesE_0 : decode cX8_takesE 0 = .ok (.aload_n 0, 1) := by decide +kernel
theorem dX8_takesE_1 : decode cX8_takesE 1 = .ok (.iconst 0, 1) := by decide +kernel
theorem dX8_takesE_2 : decode cX8_takesE 2 = .ok (.putfield 62, 3) := by decide +kernel
theorem dX8_takesE_5 : decode cX8_takesE 5 = .ok (.aload_n 0, 1) := by decide +kernel
theorem dX8_takesE_6 : decode cX8_takesE 6 = .ok (.iconst 0, 1) := by decide +kernel
theorem dX8_takesE_7 : decode cX8_takesE 7 = .ok (.putfield 65, 3) := by decide +kernel
theorem dX8_takesE_10 : decode cX8_takesE 10 = .ok (.aload_n 0, 1) := by decide +kernel
theorem dX8_takesE_11 : decode cX8_takesE 11 = .ok (.getfield 47, 3) := by decide +kernel
theorem dX8_takesE_14 : decode cX8_takesE 14 = .ok (.iload_n 1, 1) := by decide +kernel
theorem dX8_takesE_15 : decode cX8_takesE 15 = .ok (.aload_n 0, 1) := by decide +kernel
theorem dX8_takesE_16 : decode cX8_takesE 16 = .ok (.getfield 59, 3) := by decide +kernel
theorem dX8_takesE_19 : decode cX8_takesE 19 = .ok (.iastore, 1) := by decide +kernel
theorem dX8_takesE_20 : decode cX8_takesE 20 = .ok (.iconst 1, 1) := by decide +kernel
theorem dX8_takesE_21 : decode cX8_takesE 21 = .ok (.istore_n 2, 1) := by decide +kernel
theorem dX8_takesE_22 : decode cX8_takesE 22 = .ok (.aload_n 0, 1) := by decide +kernel
theorem dX8_takesE_23 : decode cX8_takesE 23 = .ok (.invokevirtual 146, 3) := by decide +kernel
theorem dX8_takesE_26 : decode cX8_takesE 26 = .ok (.istore_n 3, 1) := by decide +kernel
theorem dX8_takesE_27 : decode cX8_takesE 27 = .ok (.iload_n 2, 1) := by decide +kernel
theorem dX8_takesE_28 : decode cX8_takesE 28 = .ok (.ifCond .eq 82, 3) := by decide +kernel
theorem dX8_takesE_31 : decode cX8_takesE 31 = .ok (.iload_n 3, 1) := by decide +kernel
theorem dX8_takesE_32 : decode cX8_takesE 32 = .ok (.bipush 33, 2) := by decide +kernel
theorem dX8_takesE_34 : decode cX8_takesE 34 = .ok (.if_icmp .eq 9, 3) := by decide +kernel
theorem dX8_takesE_37 : decode cX8_takesE 37 = .ok (.iload_n 3, 1) := by decide +kernel
theorem dX8_takesE_38 : decode cX8_takesE 38 = .ok (.bipush 40, 2) := by decide +kernel
theorem dX8_takesE_40 : decode cX8_takesE 40 = .ok (.if_icmp .ne 56, 3) := by decide +kernel
theorem dX8_takesE_43 : decode cX8_takesE 43 = .ok (.aload_n 0, 1) := by decide +kernel
theorem dX8_takesE_44 : decode cX8_takesE 44 = .ok (.getfield 65, 3) := by decide +kernel
theorem dX8_takesE_47 : decode cX8_takesE 47 = .ok (.iconst 4, 1) := by decide +kernel
theorem dX8_takesE_48 : decode cX8_takesE 48 = .ok (.if_icmp .ne 5, 3) := by decide +kernel
theorem dX8_takesE_51 : decode cX8_takesE 51 = .ok (.iconst 0, 1) := by decide +kernel
theorem dX8_takesE_52 : decode cX8_takesE 52 = .ok (.ireturn, 1) := by decide +kernel
theorem dX8_takesE_53 : decode cX8_takesE 53 = .ok (.aload_n 0, 1) := by decide +kernel
theorem dX8_takesE_54 : decode cX8_takesE 54 = .ok (.dup, 1) := by decide +kernel
theorem dX8_takesE_55 : decode cX8_takesE 55 = .ok (.getfield 65, 3) := by decide +kernel
theorem dX8_takesE_58 : decode cX8_takesE 58 = .ok (.iconst 1, 1) := by decide +kernel
theorem dX8_takesE_59 : decode cX8_takesE 59 = .ok (.iadd, 1) := by decide +kernel
theorem dX8_takesE_60 : decode cX8_takesE 60 = .ok (.putfield 65, 3) := by decide +kernel
theorem dX8_takesE_63 : decode cX8_takesE 63 = .ok (.aload_n 0, 1) := by decide +kernel
theorem dX8_takesE_64 : decode cX8_takesE 64 = .ok (.getfield 56, 3) := by decide +kernel
theorem dX8_takesE_67 : decode cX8_takesE 67 = .ok (.aload_n 0, 1) := by decide +kernel
theorem dX8_takesE_68 : decode cX8_takesE 68 = .ok (.getfield 62, 3) := by decide +kernel
theorem dX8_takesE_71 : decode cX8_takesE 71 = .ok (.iload_n 3, 1) := by decide +kernel
theorem dX8_takesE_72 : decode cX8_takesE 72 = .ok (.iastore, 1) := by decide +kernel
theorem dX8_takesE_73 : decode cX8_takesE 73 = .ok (.aload_n 0, 1) := by decide +kernel
theorem dX8_takesE_74 : decode cX8_takesE 74 = .ok (.dup, 1) := by decide +kernel
theorem dX8_takesE_75 : decode cX8_takesE 75 = .ok (.getfield 62, 3) := by decide +kernel
theorem dX8_takesE_78 : decode cX8_takesE 78 = .ok (.iconst 1, 1) := by decide +kernel
theorem dX8_takesE_79 : decode cX8_takesE 79 = .ok (.iadd, 1) := by decide +kernel
theorem dX8_takesE_80 : decode cX8_takesE 80 = .ok (.putfield 62, 3) := by decide +kernel
theorem dX8_takesE_83 : decode cX8_takesE 83 = .ok (.aload_n 0, 1) := by decide +kernel
theorem dX8_takesE_84 : decode cX8_takesE 84 = .ok (.dup, 1) := by decide +kernel
theorem dX8_takesE_85 : decode cX8_takesE 85 = .ok (.getfield 19, 3) := by decide +kernel
theorem dX8_takesE_88 : decode cX8_takesE 88 = .ok (.iconst 1, 1) := by decide +kernel
theorem dX8_takesE_89 : decode cX8_takesE 89 = .ok (.iadd, 1) := by decide +kernel
theorem dX8_takesE_90 : decode cX8_takesE 90 = .ok (.putfield 19, 3) := by decide +kernel
theorem dX8_takesE_93 : decode cX8_takesE 93 = .ok (.goto (-71), 3) := by decide +kernel
theorem dX8_takesE_96 : decode cX8_takesE 96 = .ok (.aload_n 0, 1) := by decide +kernel
theorem dX8_takesE_97 : decode cX8_takesE 97 = .ok (.invokevirtual 178, 3) := by decide +kernel
theorem dX8_takesE_100 : decode cX8_takesE 100 = .ok (.ifCond .eq 8, 3) := by decide +kernel
theorem dX8_takesE_103 : decode cX8_takesE 103 = .ok (.iconst 0, 1) := by decide +kernel
theorem dX8_takesE_104 : decode cX8_takesE 104 = .ok (.istore_n 2, 1) := by decide +kernel
theorem dX8_takesE_105 : decode cX8_takesE 105 = .ok (.goto (-83), 3) := by decide +kernel
theorem dX8_takesE_108 : decode cX8_takesE 108 = .ok (.iconst 0, 1) := by decide +kernel
theorem dX8_takesE_109 : decode cX8_takesE 109 = .ok (.ireturn, 1) := by decide +kernel
theorem dX8_takesE_110 : decode cX8_takesE 110 = .ok (.iload_n 3, 1) := by decide +kernel
theorem dX8_takesE_111 : decode cX8_takesE 111 = .ok (.bipush 38, 2) := by decide +kernel
theorem dX8_takesE_113 : decode cX8_takesE 113 = .ok (.if_icmp .eq 9, 3) := by decide +kernel
theorem dX8_takesE_116 : decode cX8_takesE 116 = .ok (.iload_n 3, 1) := by decide +kernel
theorem dX8_takesE_117 : decode cX8_takesE 117 = .ok (.bipush 124, 2) := by decide +kernel
theorem dX8_takesE_119 : decode cX8_takesE 119 = .ok (.if_icmp .ne 43, 3) := by decide +kernel
theorem dX8_takesE_122 : decode cX8_takesE 122 = .ok (.aload_n 0, 1) := by decide +kernel
theorem dX8_takesE_123 : decode cX8_takesE 123 = .ok (.iload_n 3, 1) := by decide +kernel
theorem dX8_takesE_124 : decode cX8_takesE 124 = .ok (.invokevirtual 181, 3) := by decide +kernel
theorem dX8_takesE_127 : decode cX8_takesE 127 = .ok (.aload_n 0, 1) := by decide +kernel
theorem dX8_takesE_128 : decode cX8_takesE 128 = .ok (.getfield 56, 3) := by decide +kernel
theorem dX8_takesE_131 : decode cX8_takesE 131 = .ok (.aload_n 0, 1) := by decide +kernel
theorem dX8_takesE_132 : decode cX8_takesE 132 = .ok (.getfield 62, 3) := by decide +kernel
theorem dX8_takesE_135 : decode cX8_takesE 135 = .ok (.iload_n 3, 1) := by decide +kernel
theorem dX8_takesE_136 : decode cX8_takesE 136 = .ok (.iastore, 1) := by decide +kernel
theorem dX8_takesE_137 : decode cX8_takesE 137 = .ok (.aload_n 0, 1) := by decide +kernel
theorem dX8_takesE_138 : decode cX8_takesE 138 = .ok (.dup, 1) := by decide +kernel
theorem dX8_takesE_139 : decode cX8_takesE 139 = .ok (.getfield 62, 3) := by decide +kernel
theorem dX8_takesE_142 : decode cX8_takesE 142 = .ok (.iconst 1, 1) := by decide +kernel
theorem dX8_takesE_143 : decode cX8_takesE 143 = .ok (.iadd, 1) := by decide +kernel
theorem dX8_takesE_144 : decode cX8_takesE 144 = .ok (.putfield 62, 3) := by decide +kernel
theorem dX8_takesE_147 : decode cX8_takesE 147 = .ok (.iconst 1, 1) := by decide +kernel
theorem dX8_takesE_148 : decode cX8_takesE 148 = .ok (.istore_n 2, 1) := by decide +kernel
theorem dX8_takesE_149 : decode cX8_takesE 149 = .ok (.aload_n 0, 1) := by decide +kernel
theorem dX8_takesE_150 : decode cX8_takesE 150 = .ok (.dup, 1) := by decide +kernel
theorem dX8_takesE_151 : decode cX8_takesE 151 = .ok (.getfield 19, 3) := by decide +kernel
theorem dX8_takesE_154 : decode cX8_takesE 154 = .ok (.iconst 1, 1) := by decide +kernel
theorem dX8_takesE_155 : decode cX8_takesE 155 = .ok (.iadd, 1) := by decide +kernel
theorem dX8_takesE_156 : decode cX8_takesE 156 = .ok (.putfield 19, 3) := by decide +kernel
theorem dX8_takesE_159 : decode cX8_takesE 159 = .ok (.goto (-137), 3) := by decide +kernel
theorem dX8_takesE_162 : decode cX8_takesE 162 = .ok (.aload_n 0, 1) := by decide +kernel
theorem dX8_takesE_163 : decode cX8_takesE 163 = .ok (.bipush 124, 2) := by decide +kernel
theorem dX8_takesE_165 : decode cX8_takesE 165 = .ok (.invokevirtual 181, 3) := by decide +kernel
theorem dX8_takesE_168 : decode cX8_takesE 168 = .ok (.aload_n 0, 1) := by decide +kernel
theorem dX8_takesE_169 : decode cX8_takesE 169 = .ok (.getfield 50, 3) := by decide +kernel
theorem dX8_takesE_172 : decode cX8_takesE 172 = .ok (.iload_n 1, 1) := by decide +kernel
theorem dX8_takesE_173 : decode cX8_takesE 173 = .ok (.aload_n 0, 1) := by decide +kernel
theorem dX8_takesE_174 : decode cX8_takesE 174 = .ok (.getfield 59, 3) := by decide +kernel
theorem dX8_takesE_177 : decode cX8_takesE 177 = .ok (.iastore, 1) := by decide +kernel
theorem dX8_takesE_178 : decode cX8_takesE 178 = .ok (.aload_n 0, 1) := by decide +kernel
theorem dX8_takesE_179 : decode cX8_takesE 179 = .ok (.getfield 62, 3) := by decide +kernel
theorem dX8_takesE_182 : decode cX8_takesE 182 = .ok (.ifCond .ne 5, 3) := by decide +kernel
theorem dX8_takesE_185 : decode cX8_takesE 185 = .ok (.iconst 1, 1) := by decide +kernel
theorem dX8_takesE_186 : decode cX8_takesE 186 = .ok (.ireturn, 1) := by decide +kernel
theorem dX8_takesE_187 : decode cX8_takesE 187 = .ok (.iload_n 3, 1) := by decide +kernel
theorem dX8_takesE_188 : decode cX8_takesE 188 = .ok (.bipush 41, 2) := by decide +kernel
theorem dX8_takesE_190 : decode cX8_takesE 190 = .ok (.if_icmp .eq 5, 3) := by decide +kernel
theorem dX8_takesE_193 : decode cX8_takesE 193 = .ok (.iconst 0, 1) := by decide +kernel
theorem dX8_takesE_194 : decode cX8_takesE 194 = .ok (.ireturn, 1) := by decide +kernel
theorem dX8_takesE_195 : decode cX8_takesE 195 = .ok (.aload_n 0, 1) := by decide +kernel
theorem dX8_takesE_196 : decode cX8_takesE 196 = .ok (.dup, 1) := by decide +kernel
theorem dX8_takesE_197 : decode cX8_takesE 197 = .ok (.getfield 62, 3) := by decide +kernel
theorem dX8_takesE_200 : decode cX8_takesE 200 = .ok (.iconst 1, 1) := by decide +kernel
theorem dX8_takesE_201 : decode cX8_takesE 201 = .ok (.isub, 1) := by decide +kernel
theorem dX8_takesE_202 : decode cX8_takesE 202 = .ok (.putfield 62, 3) := by decide +kernel
theorem dX8_takesE_205 : decode cX8_takesE 205 = .ok (.aload_n 0, 1) := by decide +kernel
theorem dX8_takesE_206 : decode cX8_takesE 206 = .ok (.dup, 1) := by decide +kernel
theorem dX8_takesE_207 : decode cX8_takesE 207 = .ok (.getfield 65, 3) := by decide +kernel
theorem dX8_takesE_210 : decode cX8_takesE 210 = .ok (.iconst 1, 1) := by decide +kernel
theorem dX8_takesE_211 : decode cX8_takesE 211 = .ok (.isub, 1) := by decide +kernel
theorem dX8_takesE_212 : decode cX8_takesE 212 = .ok (.putfield 65, 3) := by decide +kernel
theorem dX8_takesE_215 : decode cX8_takesE 215 = .ok (.aload_n 0, 1) := by decide +kernel
theorem dX8_takesE_216 : decode cX8_takesE 216 = .ok (.dup, 1) := by decide +kernel
theorem dX8_takesE_217 : decode cX8_takesE 217 = .ok (.getfield 19, 3) := by decide +kernel
theorem dX8_takesE_220 : decode cX8_takesE 220 = .ok (.iconst 1, 1) := by decide +kernel
theorem dX8_takesE_221 : decode cX8_takesE 221 = .ok (.iadd, 1) := by decide +kernel
theorem dX8_takesE_222 : decode cX8_takesE 222 = .ok (.putfield 19, 3) := by decide +kernel
theorem dX8_takesE_225 : decode cX8_takesE 225 = .ok (.aload_n 0, 1) := by decide +kernel
theorem dX8_takesE_226 : decode cX8_takesE 226 = .ok (.invokevirtual 175, 3) := by decide +kernel
theorem dX8_takesE_229 : decode cX8_takesE 229 = .ok (.goto (-207), 3) := by decide +kernel
theorem dX8_takesClause_0 : decode cX8_takesClause 0 = .ok (.aload_n 0, 1) := by decide +kernel
theorem dX8_takesClause_1 : decode cX8_takesClause 1 = .ok (.invokevirtual 146, 3) := by decide +kernel
theorem dX8_takesClause_4 : decode cX8_takesClause 4 = .ok (.lookupswitch 139 #[(98, 36), (103, 77), (109, 92)], 36) := by decide +kernel
theorem dX8_takesClause_40 : decode cX8_takesClause 40 = .ok (.aload_n 0, 1) := by decide +kernel
theorem dX8_takesClause_41 : decode cX8_takesClause 41 = .ok (.getfield 41, 3) := by decide +kernel
theorem dX8_takesClause_44 : decode cX8_takesClause 44 = .ok (.iload_n 1, 1) := by decide +kernel
theorem dX8_takesClause_45 : decode cX8_takesClause 45 = .ok (.iconst 0, 1) := by decide +kernel
theorem dX8_takesClause_46 : decode cX8_takesClause 46 = .ok (.iastore, 1) := by decide +kernel
theorem dX8_takesClause_47 : decode cX8_takesClause 47 = .ok (.aload_n 0, 1) := by decide +kernel
theorem dX8_takesClause_48 : decode cX8_takesClause 48 = .ok (.sipush 2098, 3) := by decide +kernel
theorem dX8_takesClause_51 : decode cX8_takesClause 51 = .ok (.iconst 3, 1) := by decide +kernel
theorem dX8_takesClause_52 : decode cX8_takesClause 52 = .ok (.invokevirtual 184, 3) := by decide +kernel
theorem dX8_takesClause_55 : decode cX8_takesClause 55 = .ok (.ifCond .eq 24, 3) := by decide +kernel
theorem dX8_takesClause_58 : decode cX8_takesClause 58 = .ok (.aload_n 0, 1) := by decide +kernel
theorem dX8_takesClause_59 : decode cX8_takesClause 59 = .ok (.bipush 32, 2) := by decide +kernel
theorem dX8_takesClause_61 : decode cX8_takesClause 61 = .ok (.invokevirtual 161, 3) := by decide +kernel
theorem dX8_takesClause_64 : decode cX8_takesClause 64 = .ok (.ifCond .eq 15, 3) := by decide +kernel
theorem dX8_takesClause_67 : decode cX8_takesClause 67 = .ok (.aload_n 0, 1) := by decide +kernel
theorem dX8_takesClause_68 : decode cX8_takesClause 68 = .ok (.iload_n 1, 1) := by decide +kernel
theorem dX8_takesClause_69 : decode cX8_takesClause 69 = .ok (.invokevirtual 188, 3) := by decide +kernel
theorem dX8_takesClause_72 : decode cX8_takesClause 72 = .ok (.ifCond .eq 7, 3) := by decide +kernel
theorem dX8_takesClause_75 : decode cX8_takesClause 75 = .ok (.iconst 1, 1) := by decide +kernel
theorem dX8_takesClause_76 : decode cX8_takesClause 76 = .ok (.goto 4, 3) := by decide +kernel
theorem dX8_takesClause_79 : decode cX8_takesClause 79 = .ok (.iconst 0, 1) := by decide +kernel
theorem dX8_takesClause_80 : decode cX8_takesClause 80 = .ok (.ireturn, 1) := by decide +kernel
theorem dX8_takesClause_81 : decode cX8_takesClause 81 = .ok (.aload_n 0, 1) := by decide +kernel
theorem dX8_takesClause_82 : decode cX8_takesClause 82 = .ok (.getfield 41, 3) := by decide +kernel
theorem dX8_takesClause_85 : decode cX8_takesClause 85 = .ok (.iload_n 1, 1) := by decide +kernel
theorem dX8_takesClause_86 : decode cX8_takesClause 86 = .ok (.iconst 1, 1) := by decide +kernel
theorem dX8_takesClause_87 : decode cX8_takesClause 87 = .ok (.iastore, 1) := by decide +kernel
theorem dX8_takesClause_88 : decode cX8_takesClause 88 = .ok (.aload_n 0, 1) := by decide +kernel
theorem dX8_takesClause_89 : decode cX8_takesClause 89 = .ok (.ldc 191, 2) := by decide +kernel
theorem dX8_takesClause_91 : decode cX8_takesClause 91 = .ok (.iconst 4, 1) := by decide +kernel
theorem dX8_takesClause_92 : decode cX8_takesClause 92 = .ok (.invokevirtual 184, 3) := by decide +kernel
theorem dX8_takesClause_95 : decode cX8_takesClause 95 = .ok (.ireturn, 1) := by decide +kernel
theorem dX8_takesClause_96 : decode cX8_takesClause 96 = .ok (.aload_n 0, 1) := by decide +kernel
theorem dX8_takesClause_97 : decode cX8_takesClause 97 = .ok (.getfield 41, 3) := by decide +kernel
theorem dX8_takesClause_100 : decode cX8_takesClause 100 = .ok (.iload_n 1, 1) := by decide +kernel
theorem dX8_takesClause_101 : decode cX8_takesClause 101 = .ok (.iconst 2, 1) := by decide +kernel
theorem dX8_takesClause_102 : decode cX8_takesClause 102 = .ok (.iastore, 1) := by decide +kernel
theorem dX8_takesClause_103 : decode cX8_takesClause 103 = .ok (.aload_n 0, 1) := by decide +kernel
theorem dX8_takesClause_104 : decode cX8_takesClause 104 = .ok (.ldc 192, 2) := by decide +kernel
theorem dX8_takesClause_106 : decode cX8_takesClause 106 = .ok (.iconst 4, 1) := by decide +kernel
theorem dX8_takesClause_107 : decode cX8_takesClause 107 = .ok (.invokevirtual 184, 3) := by decide +kernel
theorem dX8_takesClause_110 : decode cX8_takesClause 110 = .ok (.ifCond .eq 19, 3) := by decide +kernel
theorem dX8_takesClause_113 : decode cX8_takesClause 113 = .ok (.aload_n 0, 1) := by decide +kernel
theorem dX8_takesClause_114 : decode cX8_takesClause 114 = .ok (.bipush 32, 2) := by decide +kernel
theorem dX8_takesClause_116 : decode cX8_takesClause 116 = .ok (.invokevirtual 161, 3) := by decide +kernel
theorem dX8_takesClause_119 : decode cX8_takesClause 119 = .ok (.ifCond .eq 10, 3) := by decide +kernel
theorem dX8_takesClause_122 : decode cX8_takesClause 122 = .ok (.aload_n 0, 1) := by decide +kernel
theorem dX8_takesClause_123 : decode cX8_takesClause 123 = .ok (.invokevirtual 172, 3) := by decide +kernel
theorem dX8_takesClause_126 : decode cX8_takesClause 126 = .ok (.ifCond .ne 5, 3) := by decide +kernel
theorem dX8_takesClause_129 : decode cX8_takesClause 129 = .ok (.iconst 0, 1) := by decide +kernel
theorem dX8_takesClause_130 : decode cX8_takesClause 130 = .ok (.ireturn, 1) := by decide +kernel
theorem dX8_takesClause_131 : decode cX8_takesClause 131 = .ok (.aload_n 0, 1) := by decide +kernel
theorem dX8_takesClause_132 : decode cX8_takesClause 132 = .ok (.getfield 44, 3) := by decide +kernel
theorem dX8_takesClause_135 : decode cX8_takesClause 135 = .ok (.iload_n 1, 1) := by decide +kernel
theorem dX8_takesClause_136 : decode cX8_takesClause 136 = .ok (.aload_n 0, 1) := by decide +kernel
theorem dX8_takesClause_137 : decode cX8_takesClause 137 = .ok (.getfield 22, 3) := by decide +kernel
theorem dX8_takesClause_140 : decode cX8_takesClause 140 = .ok (.iastore, 1) := by decide +kernel
theorem dX8_takesClause_141 : decode cX8_takesClause 141 = .ok (.iconst 1, 1) := by decide +kernel
theorem dX8_takesClause_142 : decode cX8_takesClause 142 = .ok (.ireturn, 1) := by decide +kernel
theorem dX8_takesClause_143 : decode cX8_takesClause 143 = .ok (.aload_n 0, 1) := by decide +kernel
theorem dX8_takesClause_144 : decode cX8_takesClause 144 = .ok (.getfield 41, 3) := by decide +kernel
theorem dX8_takesClause_147 : decode cX8_takesClause 147 = .ok (.iload_n 1, 1) := by decide +kernel
theorem dX8_takesClause_148 : decode cX8_takesClause 148 = .ok (.iconst 3, 1) := by decide +kernel
theorem dX8_takesClause_149 : decode cX8_takesClause 149 = .ok (.iastore, 1) := by decide +kernel
theorem dX8_takesClause_150 : decode cX8_takesClause 150 = .ok (.aload_n 0, 1) := by decide +kernel
theorem dX8_takesClause_151 : decode cX8_takesClause 151 = .ok (.ldc 193, 2) := by decide +kernel
theorem dX8_takesClause_153 : decode cX8_takesClause 153 = .ok (.iconst 5, 1) := by decide +kernel
theorem dX8_takesClause_154 : decode cX8_takesClause 154 = .ok (.invokevirtual 184, 3) := by decide +kernel
theorem dX8_takesClause_157 : decode cX8_takesClause 157 = .ok (.ireturn, 1) := by decide +kernel
theorem dX8_goesLaw_0 : decode cX8_goesLaw 0 = .ok (.aload_n 0, 1) := by decide +kernel
theorem dX8_goesLaw_1 : decode cX8_goesLaw 1 = .ok (.iconst 0, 1) := by decide +kernel
theorem dX8_goesLaw_2 : decode cX8_goesLaw 2 = .ok (.putfield 19, 3) := by decide +kernel
theorem dX8_goesLaw_5 : decode cX8_goesLaw 5 = .ok (.aload_n 0, 1) := by decide +kernel
theorem dX8_goesLaw_6 : decode cX8_goesLaw 6 = .ok (.bipush 100, 2) := by decide +kernel
theorem dX8_goesLaw_8 : decode cX8_goesLaw 8 = .ok (.iload_n 1, 1) := by decide +kernel
theorem dX8_goesLaw_9 : decode cX8_goesLaw 9 = .ok (.imul, 1) := by decide +kernel
theorem dX8_goesLaw_10 : decode cX8_goesLaw 10 = .ok (.putfield 59, 3) := by decide +kernel
theorem dX8_goesLaw_13 : decode cX8_goesLaw 13 = .ok (.iconst 0, 1) := by decide +kernel
theorem dX8_goesLaw_14 : decode cX8_goesLaw 14 = .ok (.istore_n 2, 1) := by decide +kernel
theorem dX8_goesLaw_15 : decode cX8_goesLaw 15 = .ok (.aload_n 0, 1) := by decide +kernel
theorem dX8_goesLaw_16 : decode cX8_goesLaw 16 = .ok (.bipush 8, 2) := by decide +kernel
theorem dX8_goesLaw_18 : decode cX8_goesLaw 18 = .ok (.iload_n 1, 1) := by decide +kernel
theorem dX8_goesLaw_19 : decode cX8_goesLaw 19 = .ok (.imul, 1) := by decide +kernel
theorem dX8_goesLaw_20 : decode cX8_goesLaw 20 = .ok (.iload_n 2, 1) := by decide +kernel
theorem dX8_goesLaw_21 : decode cX8_goesLaw 21 = .ok (.iadd, 1) := by decide +kernel
theorem dX8_goesLaw_22 : decode cX8_goesLaw 22 = .ok (.invokevirtual 194, 3) := by decide +kernel
theorem dX8_goesLaw_25 : decode cX8_goesLaw 25 = .ok (.ifCond .ne 5, 3) := by decide +kernel
theorem dX8_goesLaw_28 : decode cX8_goesLaw 28 = .ok (.iconst 0, 1) := by decide +kernel
theorem dX8_goesLaw_29 : decode cX8_goesLaw 29 = .ok (.ireturn, 1) := by decide +kernel
theorem dX8_goesLaw_30 : decode cX8_goesLaw 30 = .ok (.iinc 2 1, 3) := by decide +kernel
theorem dX8_goesLaw_33 : decode cX8_goesLaw 33 = .ok (.aload_n 0, 1) := by decide +kernel
theorem dX8_goesLaw_34 : decode cX8_goesLaw 34 = .ok (.getfield 38, 3) := by decide +kernel
theorem dX8_goesLaw_37 : decode cX8_goesLaw 37 = .ok (.iload_n 1, 1) := by decide +kernel
theorem dX8_goesLaw_38 : decode cX8_goesLaw 38 = .ok (.iload_n 2, 1) := by decide +kernel
theorem dX8_goesLaw_39 : decode cX8_goesLaw 39 = .ok (.iastore, 1) := by decide +kernel
theorem dX8_goesLaw_40 : decode cX8_goesLaw 40 = .ok (.aload_n 0, 1) := by decide +kernel
theorem dX8_goesLaw_41 : decode cX8_goesLaw 41 = .ok (.getfield 19, 3) := by decide +kernel
theorem dX8_goesLaw_44 : decode cX8_goesLaw 44 = .ok (.aload_n 0, 1) := by decide +kernel
theorem dX8_goesLaw_45 : decode cX8_goesLaw 45 = .ok (.getfield 16, 3) := by decide +kernel
theorem dX8_goesLaw_48 : decode cX8_goesLaw 48 = .ok (.if_icmp .ne 5, 3) := by decide +kernel
theorem dX8_goesLaw_51 : decode cX8_goesLaw 51 = .ok (.iconst 1, 1) := by decide +kernel
theorem dX8_goesLaw_52 : decode cX8_goesLaw 52 = .ok (.ireturn, 1) := by decide +kernel
theorem dX8_goesLaw_53 : decode cX8_goesLaw 53 = .ok (.iload_n 2, 1) := by decide +kernel
theorem dX8_goesLaw_54 : decode cX8_goesLaw 54 = .ok (.bipush 8, 2) := by decide +kernel
theorem dX8_goesLaw_56 : decode cX8_goesLaw 56 = .ok (.if_icmp .eq 12, 3) := by decide +kernel
theorem dX8_goesLaw_59 : decode cX8_goesLaw 59 = .ok (.aload_n 0, 1) := by decide +kernel
theorem dX8_goesLaw_60 : decode cX8_goesLaw 60 = .ok (.bipush 59, 2) := by decide +kernel
theorem dX8_goesLaw_62 : decode cX8_goesLaw 62 = .ok (.invokevirtual 161, 3) := by decide +kernel
theorem dX8_goesLaw_65 : decode cX8_goesLaw 65 = .ok (.ifCond .ne (-50), 3) := by decide +kernel
theorem dX8_goesLaw_68 : decode cX8_goesLaw 68 = .ok (.iconst 0, 1) := by decide +kernel
theorem dX8_goesLaw_69 : decode cX8_goesLaw 69 = .ok (.ireturn, 1) := by decide +kernel
theorem dX8_text_0 : decode cX8_text 0 = .ok (.aload_n 0, 1) := by decide +kernel
theorem dX8_text_1 : decode cX8_text 1 = .ok (.iload_n 1, 1) := by decide +kernel
theorem dX8_text_2 : decode cX8_text 2 = .ok (.iconst 0, 1) := by decide +kernel
theorem dX8_text_3 : decode cX8_text 3 = .ok (.iconst 1, 1) := by decide +kernel
theorem dX8_text_4 : decode cX8_text 4 = .ok (.invokevirtual 142, 3) := by decide +kernel
theorem dX8_text_7 : decode cX8_text 7 = .ok (.ifCond .ne 5, 3) := by decide +kernel
theorem dX8_text_10 : decode cX8_text 10 = .ok (.iconst (-1), 1) := by decide +kernel
theorem dX8_text_11 : decode cX8_text 11 = .ok (.ireturn, 1) := by decide +kernel
theorem dX8_text_12 : decode cX8_text 12 = .ok (.iload_n 1, 1) := by decide +kernel
theorem dX8_text_13 : decode cX8_text 13 = .ok (.ifCond .ne 15, 3) := by decide +kernel
theorem dX8_text_16 : decode cX8_text 16 = .ok (.aload_n 0, 1) := by decide +kernel
theorem dX8_text_17 : decode cX8_text 17 = .ok (.getfield 7, 3) := by decide +kernel
theorem dX8_text_20 : decode cX8_text 20 = .ok (.bipush 6, 2) := by decide +kernel
theorem dX8_text_22 : decode cX8_text 22 = .ok (.if_icmp .ne 17, 3) := by decide +kernel
theorem dX8_text_25 : decode cX8_text 25 = .ok (.goto 11, 3) := by decide +kernel
theorem dX8_text_28 : decode cX8_text 28 = .ok (.aload_n 0, 1) := by decide +kernel
theorem dX8_text_29 : decode cX8_text 29 = .ok (.getfield 13, 3) := by decide +kernel
theorem dX8_text_32 : decode cX8_text 32 = .ok (.iconst 5, 1) := by decide +kernel
theorem dX8_text_33 : decode cX8_text 33 = .ok (.if_icmp .ne 6, 3) := by decide +kernel
theorem dX8_text_36 : decode cX8_text 36 = .ok (.bipush (-4), 2) := by decide +kernel
theorem dX8_text_38 : decode cX8_text 38 = .ok (.ireturn, 1) := by decide +kernel
theorem dX8_text_39 : decode cX8_text 39 = .ok (.iload_n 1, 1) := by decide +kernel
theorem dX8_text_40 : decode cX8_text 40 = .ok (.ifCond .ne 14, 3) := by decide +kernel
theorem dX8_text_43 : decode cX8_text 43 = .ok (.aload_n 0, 1) := by decide +kernel
theorem dX8_text_44 : decode cX8_text 44 = .ok (.aload_n 0, 1) := by decide +kernel
theorem dX8_text_45 : decode cX8_text 45 = .ok (.getfield 7, 3) := by decide +kernel
theorem dX8_text_48 : decode cX8_text 48 = .ok (.invokevirtual 197, 3) := by decide +kernel
theorem dX8_text_51 : decode cX8_text 51 = .ok (.goto 11, 3) := by decide +kernel
theorem dX8_text_54 : decode cX8_text 54 = .ok (.aload_n 0, 1) := by decide +kernel
theorem dX8_text_55 : decode cX8_text 55 = .ok (.aload_n 0, 1) := by decide +kernel
theorem dX8_text_56 : decode cX8_text 56 = .ok (.getfield 13, 3) := by decide +kernel
theorem dX8_text_59 : decode cX8_text 59 = .ok (.invokevirtual 200, 3) := by decide +kernel
theorem dX8_text_62 : decode cX8_text 62 = .ok (.istore_n 2, 1) := by decide +kernel
theorem dX8_text_63 : decode cX8_text 63 = .ok (.aload_n 0, 1) := by decide +kernel
theorem dX8_text_64 : decode cX8_text 64 = .ok (.iconst 0, 1) := by decide +kernel
theorem dX8_text_65 : decode cX8_text 65 = .ok (.putfield 16, 3) := by decide +kernel
theorem dX8_text_68 : decode cX8_text 68 = .ok (.iload_n 2, 1) := by decide +kernel
theorem dX8_text_69 : decode cX8_text 69 = .ok (.ifCond .ne 11, 3) := by decide +kernel
theorem dX8_text_72 : decode cX8_text 72 = .ok (.bipush (-10), 2) := by decide +kernel
theorem dX8_text_74 : decode cX8_text 74 = .ok (.aload_n 0, 1) := by decide +kernel
theorem dX8_text_75 : decode cX8_text 75 = .ok (.getfield 19, 3) := by decide +kernel
theorem dX8_text_78 : decode cX8_text 78 = .ok (.isub, 1) := by decide +kernel
theorem dX8_text_79 : decode cX8_text 79 = .ok (.ireturn, 1) := by decide +kernel
theorem dX8_text_80 : decode cX8_text 80 = .ok (.aload_n 0, 1) := by decide +kernel
theorem dX8_text_81 : decode cX8_text 81 = .ok (.dup, 1) := by decide +kernel
theorem dX8_text_82 : decode cX8_text 82 = .ok (.getfield 7, 3) := by decide +kernel
theorem dX8_text_85 : decode cX8_text 85 = .ok (.iload_n 1, 1) := by decide +kernel
theorem dX8_text_86 : decode cX8_text 86 = .ok (.ifCond .ne 7, 3) := by decide +kernel
theorem dX8_text_89 : decode cX8_text 89 = .ok (.iconst 1, 1) := by decide +kernel
theorem dX8_text_90 : decode cX8_text 90 = .ok (.goto 4, 3) := by decide +kernel
theorem dX8_text_93 : decode cX8_text 93 = .ok (.iconst 0, 1) := by decide +kernel
theorem dX8_text_94 : decode cX8_text 94 = .ok (.iadd, 1) := by decide +kernel
theorem dX8_text_95 : decode cX8_text 95 = .ok (.putfield 7, 3) := by decide +kernel
theorem dX8_text_98 : decode cX8_text 98 = .ok (.aload_n 0, 1) := by decide +kernel
theorem dX8_text_99 : decode cX8_text 99 = .ok (.dup, 1) := by decide +kernel
theorem dX8_text_100 : decode cX8_text 100 = .ok (.getfield 13, 3) := by decide +kernel
theorem dX8_text_103 : decode cX8_text 103 = .ok (.iload_n 1, 1) := by decide +kernel
theorem dX8_text_104 : decode cX8_text 104 = .ok (.iadd, 1) := by decide +kernel
theorem dX8_text_105 : decode cX8_text 105 = .ok (.putfield 13, 3) := by decide +kernel
theorem dX8_text_108 : decode cX8_text 108 = .ok (.iload_n 1, 1) := by decide +kernel
theorem dX8_text_109 : decode cX8_text 109 = .ok (.ifCond .ne 12, 3) := by decide +kernel
theorem dX8_text_112 : decode cX8_text 112 = .ok (.aload_n 0, 1) := by decide +kernel
theorem dX8_text_113 : decode cX8_text 113 = .ok (.getfield 7, 3) := by decide +kernel
theorem dX8_text_116 : decode cX8_text 116 = .ok (.iconst 1, 1) := by decide +kernel
theorem dX8_text_117 : decode cX8_text 117 = .ok (.isub, 1) := by decide +kernel
theorem dX8_text_118 : decode cX8_text 118 = .ok (.goto 9, 3) := by decide +kernel
theorem dX8_text_121 : decode cX8_text 121 = .ok (.aload_n 0, 1) := by decide +kernel
theorem dX8_text_122 : decode cX8_text 122 = .ok (.getfield 13, 3) := by decide +kernel
theorem dX8_text_125 : decode cX8_text 125 = .ok (.iconst 1, 1) := by decide +kernel
theorem dX8_text_126 : decode cX8_text 126 = .ok (.isub, 1) := by decide +kernel
theorem dX8_text_127 : decode cX8_text 127 = .ok (.ireturn, 1) := by decide +kernel
theorem dX8_word_0 : decode cX8_word 0 = .ok (.aload_n 0, 1) := by decide +kernel
theorem dX8_word_1 : decode cX8_word 1 = .ok (.iload_n 1, 1) := by decide +kernel
theorem dX8_word_2 : decode cX8_word 2 = .ok (.invokevirtual 203, 3) := by decide +kernel
theorem dX8_word_5 : decode cX8_word 5 = .ok (.ifCond .eq 20, 3) := by decide +kernel
theorem dX8_word_8 : decode cX8_word 8 = .ok (.aload_n 0, 1) := by decide +kernel
theorem dX8_word_9 : decode cX8_word 9 = .ok (.iload_n 2, 1) := by decide +kernel
theorem dX8_word_10 : decode cX8_word 10 = .ok (.iconst (-1), 1) := by decide +kernel
theorem dX8_word_11 : decode cX8_word 11 = .ok (.aload_n 0, 1) := by decide +kernel
theorem dX8_word_12 : decode cX8_word 12 = .ok (.getfield 35, 3) := by decide +kernel
theorem dX8_word_15 : decode cX8_word 15 = .ok (.iload_n 1, 1) := by decide +kernel
theorem dX8_word_16 : decode cX8_word 16 = .ok (.iaload, 1) := by decide +kernel
theorem dX8_word_17 : decode cX8_word 17 = .ok (.iconst 1, 1) := by decide +kernel
theorem dX8_word_18 : decode cX8_word 18 = .ok (.isub, 1) := by decide +kernel
theorem dX8_word_19 : decode cX8_word 19 = .ok (.invokevirtual 142, 3) := by decide +kernel
theorem dX8_word_22 : decode cX8_word 22 = .ok (.ifCond .ne 5, 3) := by decide +kernel
theorem dX8_word_25 : decode cX8_word 25 = .ok (.iconst (-1), 1) := by decide +kernel
theorem dX8_word_26 : decode cX8_word 26 = .ok (.ireturn, 1) := by decide +kernel
theorem dX8_word_27 : decode cX8_word 27 = .ok (.iload_n 2, 1) := by decide +kernel
theorem dX8_word_28 : decode cX8_word 28 = .ok (.ifCond .ge 12, 3) := by decide +kernel
theorem dX8_word_31 : decode cX8_word 31 = .ok (.aload_n 0, 1) := by decide +kernel
theorem dX8_word_32 : decode cX8_word 32 = .ok (.getfield 35, 3) := by decide +kernel
theorem dX8_word_35 : decode cX8_word 35 = .ok (.iload_n 1, 1) := by decide +kernel
theorem dX8_word_36 : decode cX8_word 36 = .ok (.iaload, 1) := by decide +kernel
theorem dX8_word_37 : decode cX8_word 37 = .ok (.goto 29, 3) := by decide +kernel
theorem dX8_word_40 : decode cX8_word 40 = .ok (.bipush 100, 2) := by decide +kernel
theorem dX8_word_42 : decode cX8_word 42 = .ok (.aload_n 0, 1) := by decide +kernel
theorem dX8_word_43 : decode cX8_word 43 = .ok (.getfield 29, 3) := by decide +kernel
theorem dX8_word_46 : decode cX8_word 46 = .ok (.bipush 12, 2) := by decide +kernel
theorem dX8_word_48 : decode cX8_word 48 = .ok (.iload_n 1, 1) := by decide +kernel
theorem dX8_word_49 : decode cX8_word 49 = .ok (.imul, 1) := by decide +kernel
theorem dX8_word_50 : decode cX8_word 50 = .ok (.iload_n 2, 1) := by decide +kernel
theorem dX8_word_51 : decode cX8_word 51 = .ok (.iadd, 1) := by decide +kernel
theorem dX8_word_52 : decode cX8_word 52 = .ok (.iaload, 1) := by decide +kernel
theorem dX8_word_53 : decode cX8_word 53 = .ok (.imul, 1) := by decide +kernel
theorem dX8_word_54 : decode cX8_word 54 = .ok (.aload_n 0, 1) := by decide +kernel
theorem dX8_word_55 : decode cX8_word 55 = .ok (.getfield 32, 3) := by decide +kernel
theorem dX8_word_58 : decode cX8_word 58 = .ok (.bipush 12, 2) := by decide +kernel
theorem dX8_word_60 : decode cX8_word 60 = .ok (.iload_n 1, 1) := by decide +kernel
theorem dX8_word_61 : decode cX8_word 61 = .ok (.imul, 1) := by decide +kernel
theorem dX8_word_62 : decode cX8_word 62 = .ok (.iload_n 2, 1) := by decide +kernel
theorem dX8_word_63 : decode cX8_word 63 = .ok (.iadd, 1) := by decide +kernel
theorem dX8_word_64 : decode cX8_word 64 = .ok (.iaload, 1) := by decide +kernel
theorem dX8_word_65 : decode cX8_word 65 = .ok (.iadd, 1) := by decide +kernel
theorem dX8_word_66 : decode cX8_word 66 = .ok (.ireturn, 1) := by decide +kernel
theorem dX8_price_0 : decode cX8_price 0 = .ok (.aload_n 0, 1) := by decide +kernel
theorem dX8_price_1 : decode cX8_price 1 = .ok (.iload_n 1, 1) := by decide +kernel
theorem dX8_price_2 : decode cX8_price 2 = .ok (.iconst 0, 1) := by decide +kernel
theorem dX8_price_3 : decode cX8_price 3 = .ok (.bipush 9, 2) := by decide +kernel
theorem dX8_price_5 : decode cX8_price 5 = .ok (.invokevirtual 142, 3) := by decide +kernel
theorem dX8_price_8 : decode cX8_price 8 = .ok (.ifCond .ne 5, 3) := by decide +kernel
theorem dX8_price_11 : decode cX8_price 11 = .ok (.iconst (-1), 1) := by decide +kernel
theorem dX8_price_12 : decode cX8_price 12 = .ok (.ireturn, 1) := by decide +kernel
theorem dX8_price_13 : decode cX8_price 13 = .ok (.aload_n 0, 1) := by decide +kernel
theorem dX8_price_14 : decode cX8_price 14 = .ok (.iload_n 2, 1) := by decide +kernel
theorem dX8_price_15 : decode cX8_price 15 = .ok (.iconst 0, 1) := by decide +kernel
theorem dX8_price_16 : decode cX8_price 16 = .ok (.bipush 99, 2) := by decide +kernel
theorem dX8_price_18 : decode cX8_price 18 = .ok (.invokevirtual 142, 3) := by decide +kernel
theorem dX8_price_21 : decode cX8_price 21 = .ok (.ifCond .ne 6, 3) := by decide +kernel
theorem dX8_price_24 : decode cX8_price 24 = .ok (.bipush (-2), 2) := by decide +kernel
theorem dX8_price_26 : decode cX8_price 26 = .ok (.ireturn, 1) := by decide +kernel
theorem dX8_price_27 : decode cX8_price 27 = .ok (.aload_n 0, 1) := by decide +kernel
theorem dX8_price_28 : decode cX8_price 28 = .ok (.getfield 68, 3) := by decide +kernel
theorem dX8_price_31 : decode cX8_price 31 = .ok (.iload_n 1, 1) := by decide +kernel
theorem dX8_price_32 : decode cX8_price 32 = .ok (.iaload, 1) := by decide +kernel
theorem dX8_price_33 : decode cX8_price 33 = .ok (.istore_n 3, 1) := by decide +kernel
theorem dX8_price_34 : decode cX8_price 34 = .ok (.aload_n 0, 1) := by decide +kernel
theorem dX8_price_35 : decode cX8_price 35 = .ok (.getfield 68, 3) := by decide +kernel
theorem dX8_price_38 : decode cX8_price 38 = .ok (.iload_n 1, 1) := by decide +kernel
theorem dX8_price_39 : decode cX8_price 39 = .ok (.iload_n 2, 1) := by decide +kernel
theorem dX8_price_40 : decode cX8_price 40 = .ok (.iastore, 1) := by decide +kernel
theorem dX8_price_41 : decode cX8_price 41 = .ok (.iload_n 3, 1) := by decide +kernel
theorem dX8_price_42 : decode cX8_price 42 = .ok (.ireturn, 1) := by decide +kernel
theorem dX8_ahead_0 : decode cX8_ahead 0 = .ok (.aload_n 0, 1) := by decide +kernel
theorem dX8_ahead_1 : decode cX8_ahead 1 = .ok (.getfield 98, 3) := by decide +kernel
theorem dX8_ahead_4 : decode cX8_ahead 4 = .ok (.aload_n 0, 1) := by decide +kernel
theorem dX8_ahead_5 : decode cX8_ahead 5 = .ok (.getfield 92, 3) := by decide +kernel
theorem dX8_ahead_8 : decode cX8_ahead 8 = .ok (.if_icmp .ge 25, 3) := by decide +kernel
theorem dX8_ahead_11 : decode cX8_ahead 11 = .ok (.aload_n 0, 1) := by decide +kernel
theorem dX8_ahead_12 : decode cX8_ahead 12 = .ok (.getfield 29, 3) := by decide +kernel
theorem dX8_ahead_15 : decode cX8_ahead 15 = .ok (.aload_n 0, 1) := by decide +kernel
theorem dX8_ahead_16 : decode cX8_ahead 16 = .ok (.getfield 101, 3) := by decide +kernel
theorem dX8_ahead_19 : decode cX8_ahead 19 = .ok (.aload_n 0, 1) := by decide +kernel
theorem dX8_ahead_20 : decode cX8_ahead 20 = .ok (.getfield 71, 3) := by decide +kernel
theorem dX8_ahead_23 : decode cX8_ahead 23 = .ok (.aload_n 0, 1) := by decide +kernel
theorem dX8_ahead_24 : decode cX8_ahead 24 = .ok (.getfield 98, 3) := by decide +kernel
theorem dX8_ahead_27 : decode cX8_ahead 27 = .ok (.iaload, 1) := by decide +kernel
theorem dX8_ahead_28 : decode cX8_ahead 28 = .ok (.iadd, 1) := by decide +kernel
theorem dX8_ahead_29 : decode cX8_ahead 29 = .ok (.iaload, 1) := by decide +kernel
theorem dX8_ahead_30 : decode cX8_ahead 30 = .ok (.goto 4, 3) := by decide +kernel
theorem dX8_ahead_33 : decode cX8_ahead 33 = .ok (.iconst (-1), 1) := by decide +kernel
theorem dX8_ahead_34 : decode cX8_ahead 34 = .ok (.ireturn, 1) := by decide +kernel
theorem dX8_figureNow_0 : decode cX8_figureNow 0 = .ok (.aload_n 0, 1) := by decide +kernel
theorem dX8_figureNow_1 : decode cX8_figureNow 1 = .ok (.getfield 32, 3) := by decide +kernel
theorem dX8_figureNow_4 : decode cX8_figureNow 4 = .ok (.aload_n 0, 1) := by decide +kernel
theorem dX8_figureNow_5 : decode cX8_figureNow 5 = .ok (.getfield 101, 3) := by decide +kernel
theorem dX8_figureNow_8 : decode cX8_figureNow 8 = .ok (.aload_n 0, 1) := by decide +kernel
theorem dX8_figureNow_9 : decode cX8_figureNow 9 = .ok (.getfield 71, 3) := by decide +kernel
theorem dX8_figureNow_12 : decode cX8_figureNow 12 = .ok (.aload_n 0, 1) := by decide +kernel
theorem dX8_figureNow_13 : decode cX8_figureNow 13 = .ok (.getfield 98, 3) := by decide +kernel
theorem dX8_figureNow_16 : decode cX8_figureNow 16 = .ok (.iaload, 1) := by decide +kernel
theorem dX8_figureNow_17 : decode cX8_figureNow 17 = .ok (.iadd, 1) := by decide +kernel
theorem dX8_figureNow_18 : decode cX8_figureNow 18 = .ok (.iaload, 1) := by decide +kernel
theorem dX8_figureNow_19 : decode cX8_figureNow 19 = .ok (.istore_n 1, 1) := by decide +kernel
theorem dX8_figureNow_20 : decode cX8_figureNow 20 = .ok (.aload_n 0, 1) := by decide +kernel
theorem dX8_figureNow_21 : decode cX8_figureNow 21 = .ok (.dup, 1) := by decide +kernel
theorem dX8_figureNow_22 : decode cX8_figureNow 22 = .ok (.getfield 98, 3) := by decide +kernel
theorem dX8_figureNow_25 : decode cX8_figureNow 25 = .ok (.iconst 1, 1) := by decide +kernel
theorem dX8_figureNow_26 : decode cX8_figureNow 26 = .ok (.iadd, 1) := by decide +kernel
theorem dX8_figureNow_27 : decode cX8_figureNow 27 = .ok (.putfield 98, 3) := by decide +kernel
theorem dX8_figureNow_30 : decode cX8_figureNow 30 = .ok (.iload_n 1, 1) := by decide +kernel
theorem dX8_figureNow_31 : decode cX8_figureNow 31 = .ok (.ireturn, 1) := by decide +kernel
theorem dX8_duty_0 : decode cX8_duty 0 = .ok (.aload_n 0, 1) := by decide +kernel
theorem dX8_duty_1 : decode cX8_duty 1 = .ok (.getfield 74, 3) := by decide +kernel
theorem dX8_duty_4 : decode cX8_duty 4 = .ok (.aload_n 0, 1) := by decide +kernel
theorem dX8_duty_5 : decode cX8_duty 5 = .ok (.getfield 95, 3) := by decide +kernel
theorem dX8_duty_8 : decode cX8_duty 8 = .ok (.iload_n 1, 1) := by decide +kernel
theorem dX8_duty_9 : decode cX8_duty 9 = .ok (.iastore, 1) := by decide +kernel
theorem dX8_duty_10 : decode cX8_duty 10 = .ok (.aload_n 0, 1) := by decide +kernel
theorem dX8_duty_11 : decode cX8_duty 11 = .ok (.getfield 77, 3) := by decide +kernel
theorem dX8_duty_14 : decode cX8_duty 14 = .ok (.aload_n 0, 1) := by decide +kernel
theorem dX8_duty_15 : decode cX8_duty 15 = .ok (.getfield 95, 3) := by decide +kernel
theorem dX8_duty_18 : decode cX8_duty 18 = .ok (.iload_n 2, 1) := by decide +kernel
theorem dX8_duty_19 : decode cX8_duty 19 = .ok (.iastore, 1) := by decide +kernel
theorem dX8_duty_20 : decode cX8_duty 20 = .ok (.aload_n 0, 1) := by decide +kernel
theorem dX8_duty_21 : decode cX8_duty 21 = .ok (.getfield 80, 3) := by decide +kernel
theorem dX8_duty_24 : decode cX8_duty 24 = .ok (.aload_n 0, 1) := by decide +kernel
theorem dX8_duty_25 : decode cX8_duty 25 = .ok (.getfield 95, 3) := by decide +kernel
theorem dX8_duty_28 : decode cX8_duty 28 = .ok (.iload_n 3, 1) := by decide +kernel
theorem dX8_duty_29 : decode cX8_duty 29 = .ok (.iastore, 1) := by decide +kernel
theorem dX8_duty_30 : decode cX8_duty 30 = .ok (.aload_n 0, 1) := by decide +kernel
theorem dX8_duty_31 : decode cX8_duty 31 = .ok (.getfield 83, 3) := by decide +kernel
theorem dX8_duty_34 : decode cX8_duty 34 = .ok (.aload_n 0, 1) := by decide +kernel
theorem dX8_duty_35 : decode cX8_duty 35 = .ok (.getfield 95, 3) := by decide +kernel
theorem dX8_duty_38 : decode cX8_duty 38 = .ok (.iload 4, 2) := by decide +kernel
theorem dX8_duty_40 : decode cX8_duty 40 = .ok (.iastore, 1) := by decide +kernel
theorem dX8_duty_41 : decode cX8_duty 41 = .ok (.aload_n 0, 1) := by decide +kernel
theorem dX8_duty_42 : decode cX8_duty 42 = .ok (.getfield 86, 3) := by decide +kernel
theorem dX8_duty_45 : decode cX8_duty 45 = .ok (.aload_n 0, 1) := by decide +kernel
theorem dX8_duty_46 : decode cX8_duty 46 = .ok (.getfield 95, 3) := by decide +kernel
theorem dX8_duty_49 : decode cX8_duty 49 = .ok (.iconst 0, 1) := by decide +kernel
theorem dX8_duty_50 : decode cX8_duty 50 = .ok (.iastore, 1) := by decide +kernel
theorem dX8_duty_51 : decode cX8_duty 51 = .ok (.aload_n 0, 1) := by decide +kernel
theorem dX8_duty_52 : decode cX8_duty 52 = .ok (.getfield 89, 3) := by decide +kernel
theorem dX8_duty_55 : decode cX8_duty 55 = .ok (.aload_n 0, 1) := by decide +kernel
theorem dX8_duty_56 : decode cX8_duty 56 = .ok (.getfield 95, 3) := by decide +kernel
theorem dX8_duty_59 : decode cX8_duty 59 = .ok (.iconst 0, 1) := by decide +kernel
theorem dX8_duty_60 : decode cX8_duty 60 = .ok (.iastore, 1) := by decide +kernel
theorem dX8_duty_61 : decode cX8_duty 61 = .ok (.aload_n 0, 1) := by decide +kernel
theorem dX8_duty_62 : decode cX8_duty 62 = .ok (.dup, 1) := by decide +kernel
theorem dX8_duty_63 : decode cX8_duty 63 = .ok (.getfield 95, 3) := by decide +kernel
theorem dX8_duty_66 : decode cX8_duty 66 = .ok (.iconst 1, 1) := by decide +kernel
theorem dX8_duty_67 : decode cX8_duty 67 = .ok (.iadd, 1) := by decide +kernel
theorem dX8_duty_68 : decode cX8_duty 68 = .ok (.putfield 95, 3) := by decide +kernel
theorem dX8_duty_71 : decode cX8_duty 71 = .ok (.return_, 1) := by decide +kernel
theorem dX8_readsThings_0 : decode cX8_readsThings 0 = .ok (.iconst 1, 1) := by decide +kernel
theorem dX8_readsThings_1 : decode cX8_readsThings 1 = .ok (.istore 4, 2) := by decide +kernel
theorem dX8_readsThings_3 : decode cX8_readsThings 3 = .ok (.iconst 0, 1) := by decide +kernel
theorem dX8_readsThings_4 : decode cX8_readsThings 4 = .ok (.istore 5, 2) := by decide +kernel
theorem dX8_readsThings_6 : decode cX8_readsThings 6 = .ok (.iload 4, 2) := by decide +kernel
theorem dX8_readsThings_8 : decode cX8_readsThings 8 = .ok (.ifCond .eq 93, 3) := by decide +kernel
theorem dX8_readsThings_11 : decode cX8_readsThings 11 = .ok (.aload_n 0, 1) := by decide +kernel
theorem dX8_readsThings_12 : decode cX8_readsThings 12 = .ok (.invokevirtual 206, 3) := by decide +kernel
theorem dX8_readsThings_15 : decode cX8_readsThings 15 = .ok (.bipush 119, 2) := by decide +kernel
theorem dX8_readsThings_17 : decode cX8_readsThings 17 = .ok (.if_icmp .eq 5, 3) := by decide +kernel
theorem dX8_readsThings_20 : decode cX8_readsThings 20 = .ok (.iconst 0, 1) := by decide +kernel
theorem dX8_readsThings_21 : decode cX8_readsThings 21 = .ok (.ireturn, 1) := by decide +kernel
theorem dX8_readsThings_22 : decode cX8_readsThings 22 = .ok (.aload_n 0, 1) := by decide +kernel
theorem dX8_readsThings_23 : decode cX8_readsThings 23 = .ok (.iload_n 1, 1) := by decide +kernel
theorem dX8_readsThings_24 : decode cX8_readsThings 24 = .ok (.iload_n 2, 1) := by decide +kernel
theorem dX8_readsThings_25 : decode cX8_readsThings 25 = .ok (.iload_n 3, 1) := by decide +kernel
theorem dX8_readsThings_26 : decode cX8_readsThings 26 = .ok (.aload_n 0, 1) := by decide +kernel
theorem dX8_readsThings_27 : decode cX8_readsThings 27 = .ok (.invokevirtual 209, 3) := by decide +kernel
theorem dX8_readsThings_30 : decode cX8_readsThings 30 = .ok (.invokevirtual 212, 3) := by decide +kernel
theorem dX8_readsThings_33 : decode cX8_readsThings 33 = .ok (.iload 5, 2) := by decide +kernel
theorem dX8_readsThings_35 : decode cX8_readsThings 35 = .ok (.ifCond .ne 25, 3) := by decide +kernel
theorem dX8_readsThings_38 : decode cX8_readsThings 38 = .ok (.aload_n 0, 1) := by decide +kernel
theorem dX8_readsThings_39 : decode cX8_readsThings 39 = .ok (.invokevirtual 206, 3) := by decide +kernel
theorem dX8_readsThings_42 : decode cX8_readsThings 42 = .ok (.bipush 44, 2) := by decide +kernel
theorem dX8_readsThings_44 : decode cX8_readsThings 44 = .ok (.if_icmp .eq 12, 3) := by decide +kernel
theorem dX8_readsThings_47 : decode cX8_readsThings 47 = .ok (.aload_n 0, 1) := by decide +kernel
theorem dX8_readsThings_48 : decode cX8_readsThings 48 = .ok (.invokevirtual 206, 3) := by decide +kernel
theorem dX8_readsThings_51 : decode cX8_readsThings 51 = .ok (.bipush 38, 2) := by decide +kernel
theorem dX8_readsThings_53 : decode cX8_readsThings 53 = .ok (.if_icmp .ne 7, 3) := by decide +kernel
theorem dX8_readsThings_56 : decode cX8_readsThings 56 = .ok (.iconst 1, 1) := by decide +kernel
theorem dX8_readsThings_57 : decode cX8_readsThings 57 = .ok (.goto 4, 3) := by decide +kernel
theorem dX8_readsThings_60 : decode cX8_readsThings 60 = .ok (.iconst 0, 1) := by decide +kernel
theorem dX8_readsThings_61 : decode cX8_readsThings 61 = .ok (.istore 4, 2) := by decide +kernel
theorem dX8_readsThings_63 : decode cX8_readsThings 63 = .ok (.aload_n 0, 1) := by decide +kernel
theorem dX8_readsThings_64 : decode cX8_readsThings 64 = .ok (.invokevirtual 206, 3) := by decide +kernel
theorem dX8_readsThings_67 : decode cX8_readsThings 67 = .ok (.bipush 38, 2) := by decide +kernel
theorem dX8_readsThings_69 : decode cX8_readsThings 69 = .ok (.if_icmp .ne 7, 3) := by decide +kernel
theorem dX8_readsThings_72 : decode cX8_readsThings 72 = .ok (.iconst 1, 1) := by decide +kernel
theorem dX8_readsThings_73 : decode cX8_readsThings 73 = .ok (.goto 4, 3) := by decide +kernel
theorem dX8_readsThings_76 : decode cX8_readsThings 76 = .ok (.iconst 0, 1) := by decide +kernel
theorem dX8_readsThings_77 : decode cX8_readsThings 77 = .ok (.istore 5, 2) := by decide +kernel
theorem dX8_readsThings_79 : decode cX8_readsThings 79 = .ok (.aload_n 0, 1) := by decide +kernel
theorem dX8_readsThings_80 : decode cX8_readsThings 80 = .ok (.dup, 1) := by decide +kernel
theorem dX8_readsThings_81 : decode cX8_readsThings 81 = .ok (.getfield 98, 3) := by decide +kernel
theorem dX8_readsThings_84 : decode cX8_readsThings 84 = .ok (.iload 4, 2) := by decide +kernel
theorem dX8_readsThings_86 : decode cX8_readsThings 86 = .ok (.ifCond .eq 7, 3) := by decide +kernel
theorem dX8_readsThings_89 : decode cX8_readsThings 89 = .ok (.iconst 1, 1) := by decide +kernel
theorem dX8_readsThings_90 : decode cX8_readsThings 90 = .ok (.goto 4, 3) := by decide +kernel
theorem dX8_readsThings_93 : decode cX8_readsThings 93 = .ok (.iconst 0, 1) := by decide +kernel
theorem dX8_readsThings_94 : decode cX8_readsThings 94 = .ok (.iadd, 1) := by decide +kernel
theorem dX8_readsThings_95 : decode cX8_readsThings 95 = .ok (.putfield 98, 3) := by decide +kernel
theorem dX8_readsThings_98 : decode cX8_readsThings 98 = .ok (.goto (-92), 3) := by decide +kernel
theorem dX8_readsThings_101 : decode cX8_readsThings 101 = .ok (.iconst 1, 1) := by decide +kernel
theorem dX8_readsThings_102 : decode cX8_readsThings 102 = .ok (.ireturn, 1) := by decide +kernel
theorem dX8_readsClause_0 : decode cX8_readsClause 0 = .ok (.aload_n 0, 1) := by decide +kernel
theorem dX8_readsClause_1 : decode cX8_readsClause 1 = .ok (.invokevirtual 206, 3) := by decide +kernel
theorem dX8_readsClause_4 : decode cX8_readsClause 4 = .ok (.bipush 97, 2) := by decide +kernel
theorem dX8_readsClause_6 : decode cX8_readsClause 6 = .ok (.isub, 1) := by decide +kernel
theorem dX8_readsClause_7 : decode cX8_readsClause 7 = .ok (.istore_n 1, 1) := by decide +kernel
theorem dX8_readsClause_8 : decode cX8_readsClause 8 = .ok (.aload_n 0, 1) := by decide +kernel
theorem dX8_readsClause_9 : decode cX8_readsClause 9 = .ok (.iload_n 1, 1) := by decide +kernel
theorem dX8_readsClause_10 : decode cX8_readsClause 10 = .ok (.iconst 0, 1) := by decide +kernel
theorem dX8_readsClause_11 : decode cX8_readsClause 11 = .ok (.iconst 1, 1) := by decide +kernel
theorem dX8_readsClause_12 : decode cX8_readsClause 12 = .ok (.invokevirtual 142, 3) := by decide +kernel
theorem dX8_readsClause_15 : decode cX8_readsClause 15 = .ok (.ifCond .ne 5, 3) := by decide +kernel
theorem dX8_readsClause_18 : decode cX8_readsClause 18 = .ok (.iconst 0, 1) := by decide +kernel
theorem dX8_readsClause_19 : decode cX8_readsClause 19 = .ok (.ireturn, 1) := by decide +kernel
theorem dX8_readsClause_20 : decode cX8_readsClause 20 = .ok (.aload_n 0, 1) := by decide +kernel
theorem dX8_readsClause_21 : decode cX8_readsClause 21 = .ok (.dup, 1) := by decide +kernel
theorem dX8_readsClause_22 : decode cX8_readsClause 22 = .ok (.getfield 98, 3) := by decide +kernel
theorem dX8_readsClause_25 : decode cX8_readsClause 25 = .ok (.iconst 1, 1) := by decide +kernel
theorem dX8_readsClause_26 : decode cX8_readsClause 26 = .ok (.iadd, 1) := by decide +kernel
theorem dX8_readsClause_27 : decode cX8_readsClause 27 = .ok (.putfield 98, 3) := by decide +kernel
theorem dX8_readsClause_30 : decode cX8_readsClause 30 = .ok (.aload_n 0, 1) := by decide +kernel
theorem dX8_readsClause_31 : decode cX8_readsClause 31 = .ok (.invokevirtual 206, 3) := by decide +kernel
theorem dX8_readsClause_34 : decode cX8_readsClause 34 = .ok (.bipush 109, 2) := by decide +kernel
theorem dX8_readsClause_36 : decode cX8_readsClause 36 = .ok (.if_icmp .eq 14, 3) := by decide +kernel
theorem dX8_readsClause_39 : decode cX8_readsClause 39 = .ok (.aload_n 0, 1) := by decide +kernel
theorem dX8_readsClause_40 : decode cX8_readsClause 40 = .ok (.invokevirtual 206, 3) := by decide +kernel
theorem dX8_readsClause_43 : decode cX8_readsClause 43 = .ok (.bipush 121, 2) := by decide +kernel
theorem dX8_readsClause_45 : decode cX8_readsClause 45 = .ok (.if_icmp .eq 5, 3) := by decide +kernel
theorem dX8_readsClause_48 : decode cX8_readsClause 48 = .ok (.iconst 0, 1) := by decide +kernel
theorem dX8_readsClause_49 : decode cX8_readsClause 49 = .ok (.ireturn, 1) := by decide +kernel
theorem dX8_readsClause_50 : decode cX8_readsClause 50 = .ok (.aload_n 0, 1) := by decide +kernel
theorem dX8_readsClause_51 : decode cX8_readsClause 51 = .ok (.invokevirtual 206, 3) := by decide +kernel
theorem dX8_readsClause_54 : decode cX8_readsClause 54 = .ok (.bipush 109, 2) := by decide +kernel
theorem dX8_readsClause_56 : decode cX8_readsClause 56 = .ok (.if_icmp .ne 7, 3) := by decide +kernel
theorem dX8_readsClause_59 : decode cX8_readsClause 59 = .ok (.iconst 1, 1) := by decide +kernel
theorem dX8_readsClause_60 : decode cX8_readsClause 60 = .ok (.goto 4, 3) := by decide +kernel
theorem dX8_readsClause_63 : decode cX8_readsClause 63 = .ok (.iconst 0, 1) := by decide +kernel
theorem dX8_readsClause_64 : decode cX8_readsClause 64 = .ok (.istore_n 2, 1) := by decide +kernel
theorem dX8_readsClause_65 : decode cX8_readsClause 65 = .ok (.aload_n 0, 1) := by decide +kernel
theorem dX8_readsClause_66 : decode cX8_readsClause 66 = .ok (.dup, 1) := by decide +kernel
theorem dX8_readsClause_67 : decode cX8_readsClause 67 = .ok (.getfield 98, 3) := by decide +kernel
theorem dX8_readsClause_70 : decode cX8_readsClause 70 = .ok (.iconst 1, 1) := by decide +kernel
theorem dX8_readsClause_71 : decode cX8_readsClause 71 = .ok (.iadd, 1) := by decide +kernel
theorem dX8_readsClause_72 : decode cX8_readsClause 72 = .ok (.putfield 98, 3) := by decide +kernel
theorem dX8_readsClause_75 : decode cX8_readsClause 75 = .ok (.aload_n 0, 1) := by decide +kernel
theorem dX8_readsClause_76 : decode cX8_readsClause 76 = .ok (.invokevirtual 206, 3) := by decide +kernel
theorem dX8_readsClause_79 : decode cX8_readsClause 79 = .ok (.bipush 112, 2) := by decide +kernel
theorem dX8_readsClause_81 : decode cX8_readsClause 81 = .ok (.if_icmp .ne 19, 3) := by decide +kernel
theorem dX8_readsClause_84 : decode cX8_readsClause 84 = .ok (.aload_n 0, 1) := by decide +kernel
theorem dX8_readsClause_85 : decode cX8_readsClause 85 = .ok (.iload_n 1, 1) := by decide +kernel
theorem dX8_readsClause_86 : decode cX8_readsClause 86 = .ok (.iload_n 2, 1) := by decide +kernel
theorem dX8_readsClause_87 : decode cX8_readsClause 87 = .ok (.iconst 0, 1) := by decide +kernel
theorem dX8_readsClause_88 : decode cX8_readsClause 88 = .ok (.bipush 10, 2) := by decide +kernel
theorem dX8_readsClause_90 : decode cX8_readsClause 90 = .ok (.aload_n 0, 1) := by decide +kernel
theorem dX8_readsClause_91 : decode cX8_readsClause 91 = .ok (.invokevirtual 209, 3) := by decide +kernel
theorem dX8_readsClause_94 : decode cX8_readsClause 94 = .ok (.iadd, 1) := by decide +kernel
theorem dX8_readsClause_95 : decode cX8_readsClause 95 = .ok (.invokevirtual 212, 3) := by decide +kernel
theorem dX8_readsClause_98 : decode cX8_readsClause 98 = .ok (.iconst 1, 1) := by decide +kernel
theorem dX8_readsClause_99 : decode cX8_readsClause 99 = .ok (.ireturn, 1) := by decide +kernel
theorem dX8_readsClause_100 : decode cX8_readsClause 100 = .ok (.aload_n 0, 1) := by decide +kernel
theorem dX8_readsClause_101 : decode cX8_readsClause 101 = .ok (.invokevirtual 206, 3) := by decide +kernel
theorem dX8_readsClause_104 : decode cX8_readsClause 104 = .ok (.bipush 110, 2) := by decide +kernel
theorem dX8_readsClause_106 : decode cX8_readsClause 106 = .ok (.if_icmp .ne 7, 3) := by decide +kernel
theorem dX8_readsClause_109 : decode cX8_readsClause 109 = .ok (.iconst 1, 1) := by decide +kernel
theorem dX8_readsClause_110 : decode cX8_readsClause 110 = .ok (.goto 4, 3) := by decide +kernel
theorem dX8_readsClause_113 : decode cX8_readsClause 113 = .ok (.iconst 0, 1) := by decide +kernel
theorem dX8_readsClause_114 : decode cX8_readsClause 114 = .ok (.istore_n 3, 1) := by decide +kernel
theorem dX8_readsClause_115 : decode cX8_readsClause 115 = .ok (.aload_n 0, 1) := by decide +kernel
theorem dX8_readsClause_116 : decode cX8_readsClause 116 = .ok (.dup, 1) := by decide +kernel
theorem dX8_readsClause_117 : decode cX8_readsClause 117 = .ok (.getfield 98, 3) := by decide +kernel
theorem dX8_readsClause_120 : decode cX8_readsClause 120 = .ok (.iload_n 3, 1) := by decide +kernel
theorem dX8_readsClause_121 : decode cX8_readsClause 121 = .ok (.iadd, 1) := by decide +kernel
theorem dX8_readsClause_122 : decode cX8_readsClause 122 = .ok (.putfield 98, 3) := by decide +kernel
theorem dX8_readsClause_125 : decode cX8_readsClause 125 = .ok (.aload_n 0, 1) := by decide +kernel
theorem dX8_readsClause_126 : decode cX8_readsClause 126 = .ok (.getfield 95, 3) := by decide +kernel
theorem dX8_readsClause_129 : decode cX8_readsClause 129 = .ok (.istore 4, 2) := by decide +kernel
theorem dX8_readsClause_131 : decode cX8_readsClause 131 = .ok (.aload_n 0, 1) := by decide +kernel
theorem dX8_readsClause_132 : decode cX8_readsClause 132 = .ok (.iload_n 1, 1) := by decide +kernel
theorem dX8_readsClause_133 : decode cX8_readsClause 133 = .ok (.iload_n 2, 1) := by decide +kernel
theorem dX8_readsClause_134 : decode cX8_readsClause 134 = .ok (.iload_n 3, 1) := by decide +kernel
theorem dX8_readsClause_135 : decode cX8_readsClause 135 = .ok (.invokevirtual 216, 3) := by decide +kernel
theorem dX8_readsClause_138 : decode cX8_readsClause 138 = .ok (.ifCond .ne 5, 3) := by decide +kernel
theorem dX8_readsClause_141 : decode cX8_readsClause 141 = .ok (.iconst 0, 1) := by decide +kernel
theorem dX8_readsClause_142 : decode cX8_readsClause 142 = .ok (.ireturn, 1) := by decide +kernel
theorem dX8_readsClause_143 : decode cX8_readsClause 143 = .ok (.aload_n 0, 1) := by decide +kernel
theorem dX8_readsClause_144 : decode cX8_readsClause 144 = .ok (.invokevirtual 206, 3) := by decide +kernel
theorem dX8_readsClause_147 : decode cX8_readsClause 147 = .ok (.bipush 105, 2) := by decide +kernel
theorem dX8_readsClause_149 : decode cX8_readsClause 149 = .ok (.if_icmp .ne 10, 3) := by decide +kernel
theorem dX8_readsClause_152 : decode cX8_readsClause 152 = .ok (.aload_n 0, 1) := by decide +kernel
theorem dX8_readsClause_153 : decode cX8_readsClause 153 = .ok (.invokevirtual 209, 3) := by decide +kernel
theorem dX8_readsClause_156 : decode cX8_readsClause 156 = .ok (.goto 5, 3) := by decide +kernel
theorem dX8_readsClause_159 : decode cX8_readsClause 159 = .ok (.bipush 10, 2) := by decide +kernel
theorem dX8_readsClause_161 : decode cX8_readsClause 161 = .ok (.istore 5, 2) := by decide +kernel
theorem dX8_readsClause_163 : decode cX8_readsClause 163 = .ok (.aload_n 0, 1) := by decide +kernel
theorem dX8_readsClause_164 : decode cX8_readsClause 164 = .ok (.invokevirtual 206, 3) := by decide +kernel
theorem dX8_readsClause_167 : decode cX8_readsClause 167 = .ok (.bipush 102, 2) := by decide +kernel
theorem dX8_readsClause_169 : decode cX8_readsClause 169 = .ok (.if_icmp .ne 10, 3) := by decide +kernel
theorem dX8_readsClause_172 : decode cX8_readsClause 172 = .ok (.aload_n 0, 1) := by decide +kernel
theorem dX8_readsClause_173 : decode cX8_readsClause 173 = .ok (.invokevirtual 209, 3) := by decide +kernel
theorem dX8_readsClause_176 : decode cX8_readsClause 176 = .ok (.goto 5, 3) := by decide +kernel
theorem dX8_readsClause_179 : decode cX8_readsClause 179 = .ok (.bipush 10, 2) := by decide +kernel
theorem dX8_readsClause_181 : decode cX8_readsClause 181 = .ok (.istore 6, 2) := by decide +kernel
theorem dX8_readsClause_183 : decode cX8_readsClause 183 = .ok (.iload 4, 2) := by decide +kernel
theorem dX8_readsClause_185 : decode cX8_readsClause 185 = .ok (.istore 7, 2) := by decide +kernel
theorem dX8_readsClause_187 : decode cX8_readsClause 187 = .ok (.iload 7, 2) := by decide +kernel
theorem dX8_readsClause_189 : decode cX8_readsClause 189 = .ok (.aload_n 0, 1) := by decide +kernel
theorem dX8_readsClause_190 : decode cX8_readsClause 190 = .ok (.getfield 95, 3) := by decide +kernel
theorem dX8_readsClause_193 : decode cX8_readsClause 193 = .ok (.if_icmp .ge 27, 3) := by decide +kernel
theorem dX8_readsClause_196 : decode cX8_readsClause 196 = .ok (.aload_n 0, 1) := by decide +kernel
theorem dX8_readsClause_197 : decode cX8_readsClause 197 = .ok (.getfield 86, 3) := by decide +kernel
theorem dX8_readsClause_200 : decode cX8_readsClause 200 = .ok (.iload 7, 2) := by decide +kernel
theorem dX8_readsClause_202 : decode cX8_readsClause 202 = .ok (.iload 5, 2) := by decide +kernel
theorem dX8_readsClause_204 : decode cX8_readsClause 204 = .ok (.iastore, 1) := by decide +kernel
theorem dX8_readsClause_205 : decode cX8_readsClause 205 = .ok (.aload_n 0, 1) := by decide +kernel
theorem dX8_readsClause_206 : decode cX8_readsClause 206 = .ok (.getfield 89, 3) := by decide +kernel
theorem dX8_readsClause_209 : decode cX8_readsClause 209 = .ok (.iload 7, 2) := by decide +kernel
theorem dX8_readsClause_211 : decode cX8_readsClause 211 = .ok (.iload 6, 2) := by decide +kernel
theorem dX8_readsClause_213 : decode cX8_readsClause 213 = .ok (.iastore, 1) := by decide +kernel
theorem dX8_readsClause_214 : decode cX8_readsClause 214 = .ok (.iinc 7 1, 3) := by decide +kernel
theorem dX8_readsClause_217 : decode cX8_readsClause 217 = .ok (.goto (-30), 3) := by decide +kernel
theorem dX8_readsClause_220 : decode cX8_readsClause 220 = .ok (.iconst 1, 1) := by decide +kernel
theorem dX8_readsClause_221 : decode cX8_readsClause 221 = .ok (.ireturn, 1) := by decide +kernel
theorem dX8_readsLeft_0 : decode cX8_readsLeft 0 = .ok (.aload_n 0, 1) := by decide +kernel
theorem dX8_readsLeft_1 : decode cX8_readsLeft 1 = .ok (.bipush 12, 2) := by decide +kernel
theorem dX8_readsLeft_3 : decode cX8_readsLeft 3 = .ok (.iload_n 1, 1) := by decide +kernel
theorem dX8_readsLeft_4 : decode cX8_readsLeft 4 = .ok (.imul, 1) := by decide +kernel
theorem dX8_readsLeft_5 : decode cX8_readsLeft 5 = .ok (.putfield 101, 3) := by decide +kernel
theorem dX8_readsLeft_8 : decode cX8_readsLeft 8 = .ok (.aload_n 0, 1) := by decide +kernel
theorem dX8_readsLeft_9 : decode cX8_readsLeft 9 = .ok (.iconst 0, 1) := by decide +kernel
theorem dX8_readsLeft_10 : decode cX8_readsLeft 10 = .ok (.putfield 92, 3) := by decide +kernel
theorem dX8_readsLeft_13 : decode cX8_readsLeft 13 = .ok (.iconst 0, 1) := by decide +kernel
theorem dX8_readsLeft_14 : decode cX8_readsLeft 14 = .ok (.istore_n 3, 1) := by decide +kernel
theorem dX8_readsLeft_15 : decode cX8_readsLeft 15 = .ok (.iload_n 3, 1) := by decide +kernel
theorem dX8_readsLeft_16 : decode cX8_readsLeft 16 = .ok (.aload_n 0, 1) := by decide +kernel
theorem dX8_readsLeft_17 : decode cX8_readsLeft 17 = .ok (.getfield 35, 3) := by decide +kernel
theorem dX8_readsLeft_20 : decode cX8_readsLeft 20 = .ok (.iload_n 1, 1) := by decide +kernel
theorem dX8_readsLeft_21 : decode cX8_readsLeft 21 = .ok (.iaload, 1) := by decide +kernel
theorem dX8_readsLeft_22 : decode cX8_readsLeft 22 = .ok (.if_icmp .ge 41, 3) := by decide +kernel
theorem dX8_readsLeft_25 : decode cX8_readsLeft 25 = .ok (.aload_n 0, 1) := by decide +kernel
theorem dX8_readsLeft_26 : decode cX8_readsLeft 26 = .ok (.iload_n 2, 1) := by decide +kernel
theorem dX8_readsLeft_27 : decode cX8_readsLeft 27 = .ok (.iload_n 3, 1) := by decide +kernel
theorem dX8_readsLeft_28 : decode cX8_readsLeft 28 = .ok (.invokevirtual 219, 3) := by decide +kernel
theorem dX8_readsLeft_31 : decode cX8_readsLeft 31 = .ok (.ifCond .eq 6, 3) := by decide +kernel
theorem dX8_readsLeft_34 : decode cX8_readsLeft 34 = .ok (.goto 23, 3) := by decide +kernel
theorem dX8_readsLeft_37 : decode cX8_readsLeft 37 = .ok (.aload_n 0, 1) := by decide +kernel
theorem dX8_readsLeft_38 : decode cX8_readsLeft 38 = .ok (.getfield 71, 3) := by decide +kernel
theorem dX8_readsLeft_41 : decode cX8_readsLeft 41 = .ok (.aload_n 0, 1) := by decide +kernel
theorem dX8_readsLeft_42 : decode cX8_readsLeft 42 = .ok (.getfield 92, 3) := by decide +kernel
theorem dX8_readsLeft_45 : decode cX8_readsLeft 45 = .ok (.iload_n 3, 1) := by decide +kernel
theorem dX8_readsLeft_46 : decode cX8_readsLeft 46 = .ok (.iastore, 1) := by decide +kernel
theorem dX8_readsLeft_47 : decode cX8_readsLeft 47 = .ok (.aload_n 0, 1) := by decide +kernel
theorem dX8_readsLeft_48 : decode cX8_readsLeft 48 = .ok (.dup, 1) := by decide +kernel
theorem dX8_readsLeft_49 : decode cX8_readsLeft 49 = .ok (.getfield 92, 3) := by decide +kernel
theorem dX8_readsLeft_52 : decode cX8_readsLeft 52 = .ok (.iconst 1, 1) := by decide +kernel
theorem dX8_readsLeft_53 : decode cX8_readsLeft 53 = .ok (.iadd, 1) := by decide +kernel
theorem dX8_readsLeft_54 : decode cX8_readsLeft 54 = .ok (.putfield 92, 3) := by decide +kernel
theorem dX8_readsLeft_57 : decode cX8_readsLeft 57 = .ok (.iinc 3 1, 3) := by decide +kernel
theorem dX8_readsLeft_60 : decode cX8_readsLeft 60 = .ok (.goto (-45), 3) := by decide +kernel
theorem dX8_readsLeft_63 : decode cX8_readsLeft 63 = .ok (.aload_n 0, 1) := by decide +kernel
theorem dX8_readsLeft_64 : decode cX8_readsLeft 64 = .ok (.iconst 0, 1) := by decide +kernel
theorem dX8_readsLeft_65 : decode cX8_readsLeft 65 = .ok (.putfield 95, 3) := by decide +kernel
theorem dX8_readsLeft_68 : decode cX8_readsLeft 68 = .ok (.aload_n 0, 1) := by decide +kernel
theorem dX8_readsLeft_69 : decode cX8_readsLeft 69 = .ok (.iconst 0, 1) := by decide +kernel
theorem dX8_readsLeft_70 : decode cX8_readsLeft 70 = .ok (.putfield 98, 3) := by decide +kernel
theorem dX8_readsLeft_73 : decode cX8_readsLeft 73 = .ok (.aload_n 0, 1) := by decide +kernel
theorem dX8_readsLeft_74 : decode cX8_readsLeft 74 = .ok (.invokevirtual 222, 3) := by decide +kernel
theorem dX8_readsLeft_77 : decode cX8_readsLeft 77 = .ok (.ifCond .ne 5, 3) := by decide +kernel
theorem dX8_readsLeft_80 : decode cX8_readsLeft 80 = .ok (.iconst 0, 1) := by decide +kernel
theorem dX8_readsLeft_81 : decode cX8_readsLeft 81 = .ok (.ireturn, 1) := by decide +kernel
theorem dX8_readsLeft_82 : decode cX8_readsLeft 82 = .ok (.aload_n 0, 1) := by decide +kernel
theorem dX8_readsLeft_83 : decode cX8_readsLeft 83 = .ok (.getfield 98, 3) := by decide +kernel
theorem dX8_readsLeft_86 : decode cX8_readsLeft 86 = .ok (.aload_n 0, 1) := by decide +kernel
theorem dX8_readsLeft_87 : decode cX8_readsLeft 87 = .ok (.getfield 92, 3) := by decide +kernel
theorem dX8_readsLeft_90 : decode cX8_readsLeft 90 = .ok (.if_icmp .ne 5, 3) := by decide +kernel
theorem dX8_readsLeft_93 : decode cX8_readsLeft 93 = .ok (.iconst 1, 1) := by decide +kernel
theorem dX8_readsLeft_94 : decode cX8_readsLeft 94 = .ok (.ireturn, 1) := by decide +kernel
theorem dX8_readsLeft_95 : decode cX8_readsLeft 95 = .ok (.aload_n 0, 1) := by decide +kernel
theorem dX8_readsLeft_96 : decode cX8_readsLeft 96 = .ok (.invokevirtual 206, 3) := by decide +kernel
theorem dX8_readsLeft_99 : decode cX8_readsLeft 99 = .ok (.bipush 59, 2) := by decide +kernel
theorem dX8_readsLeft_101 : decode cX8_readsLeft 101 = .ok (.if_icmp .eq 5, 3) := by decide +kernel
theorem dX8_readsLeft_104 : decode cX8_readsLeft 104 = .ok (.iconst 0, 1) := by decide +kernel
theorem dX8_readsLeft_105 : decode cX8_readsLeft 105 = .ok (.ireturn, 1) := by decide +kernel
theorem dX8_readsLeft_106 : decode cX8_readsLeft 106 = .ok (.aload_n 0, 1) := by decide +kernel
theorem dX8_readsLeft_107 : decode cX8_readsLeft 107 = .ok (.dup, 1) := by decide +kernel
theorem dX8_readsLeft_108 : decode cX8_readsLeft 108 = .ok (.getfield 98, 3) := by decide +kernel
theorem dX8_readsLeft_111 : decode cX8_readsLeft 111 = .ok (.iconst 1, 1) := by decide +kernel
theorem dX8_readsLeft_112 : decode cX8_readsLeft 112 = .ok (.iadd, 1) := by decide +kernel
theorem dX8_readsLeft_113 : decode cX8_readsLeft 113 = .ok (.putfield 98, 3) := by decide +kernel
theorem dX8_readsLeft_116 : decode cX8_readsLeft 116 = .ok (.goto (-43), 3) := by decide +kernel
theorem dX8_dutyOf_0 : decode cX8_dutyOf 0 = .ok (.aload_n 0, 1) := by decide +kernel
theorem dX8_dutyOf_1 : decode cX8_dutyOf 1 = .ok (.getfield 74, 3) := by decide +kernel
theorem dX8_dutyOf_4 : decode cX8_dutyOf 4 = .ok (.iload_n 1, 1) := by decide +kernel
theorem dX8_dutyOf_5 : decode cX8_dutyOf 5 = .ok (.iaload, 1) := by decide +kernel
theorem dX8_dutyOf_6 : decode cX8_dutyOf 6 = .ok (.i2l, 1) := by decide +kernel
theorem dX8_dutyOf_7 : decode cX8_dutyOf 7 = .ok (.lstore_n 2, 1) := by decide +kernel
theorem dX8_dutyOf_8 : decode cX8_dutyOf 8 = .ok (.ldc2_w 225, 3) := by decide +kernel
theorem dX8_dutyOf_11 : decode cX8_dutyOf 11 = .ok (.lload_n 2, 1) := by decide +kernel
theorem dX8_dutyOf_12 : decode cX8_dutyOf 12 = .ok (.lmul, 1) := by decide +kernel
theorem dX8_dutyOf_13 : decode cX8_dutyOf 13 = .ok (.aload_n 0, 1) := by decide +kernel
theorem dX8_dutyOf_14 : decode cX8_dutyOf 14 = .ok (.getfield 77, 3) := by decide +kernel
theorem dX8_dutyOf_17 : decode cX8_dutyOf 17 = .ok (.iload_n 1, 1) := by decide +kernel
theorem dX8_dutyOf_18 : decode cX8_dutyOf 18 = .ok (.iaload, 1) := by decide +kernel
theorem dX8_dutyOf_19 : decode cX8_dutyOf 19 = .ok (.i2l, 1) := by decide +kernel
theorem dX8_dutyOf_20 : decode cX8_dutyOf 20 = .ok (.ladd, 1) := by decide +kernel
theorem dX8_dutyOf_21 : decode cX8_dutyOf 21 = .ok (.lstore_n 2, 1) := by decide +kernel
theorem dX8_dutyOf_22 : decode cX8_dutyOf 22 = .ok (.ldc2_w 225, 3) := by decide +kernel
theorem dX8_dutyOf_25 : decode cX8_dutyOf 25 = .ok (.lload_n 2, 1) := by decide +kernel
theorem dX8_dutyOf_26 : decode cX8_dutyOf 26 = .ok (.lmul, 1) := by decide +kernel
theorem dX8_dutyOf_27 : decode cX8_dutyOf 27 = .ok (.aload_n 0, 1) := by decide +kernel
theorem dX8_dutyOf_28 : decode cX8_dutyOf 28 = .ok (.getfield 80, 3) := by decide +kernel
theorem dX8_dutyOf_31 : decode cX8_dutyOf 31 = .ok (.iload_n 1, 1) := by decide +kernel
theorem dX8_dutyOf_32 : decode cX8_dutyOf 32 = .ok (.iaload, 1) := by decide +kernel
theorem dX8_dutyOf_33 : decode cX8_dutyOf 33 = .ok (.i2l, 1) := by decide +kernel
theorem dX8_dutyOf_34 : decode cX8_dutyOf 34 = .ok (.ladd, 1) := by decide +kernel
theorem dX8_dutyOf_35 : decode cX8_dutyOf 35 = .ok (.lstore_n 2, 1) := by decide +kernel
theorem dX8_dutyOf_36 : decode cX8_dutyOf 36 = .ok (.ldc2_w 225, 3) := by decide +kernel
theorem dX8_dutyOf_39 : decode cX8_dutyOf 39 = .ok (.lload_n 2, 1) := by decide +kernel
theorem dX8_dutyOf_40 : decode cX8_dutyOf 40 = .ok (.lmul, 1) := by decide +kernel
theorem dX8_dutyOf_41 : decode cX8_dutyOf 41 = .ok (.aload_n 0, 1) := by decide +kernel
theorem dX8_dutyOf_42 : decode cX8_dutyOf 42 = .ok (.getfield 83, 3) := by decide +kernel
theorem dX8_dutyOf_45 : decode cX8_dutyOf 45 = .ok (.iload_n 1, 1) := by decide +kernel
theorem dX8_dutyOf_46 : decode cX8_dutyOf 46 = .ok (.iaload, 1) := by decide +kernel
theorem dX8_dutyOf_47 : decode cX8_dutyOf 47 = .ok (.i2l, 1) := by decide +kernel
theorem dX8_dutyOf_48 : decode cX8_dutyOf 48 = .ok (.ladd, 1) := by decide +kernel
theorem dX8_dutyOf_49 : decode cX8_dutyOf 49 = .ok (.lstore_n 2, 1) := by decide +kernel
theorem dX8_dutyOf_50 : decode cX8_dutyOf 50 = .ok (.ldc2_w 225, 3) := by decide +kernel
theorem dX8_dutyOf_53 : decode cX8_dutyOf 53 = .ok (.lload_n 2, 1) := by decide +kernel
theorem dX8_dutyOf_54 : decode cX8_dutyOf 54 = .ok (.lmul, 1) := by decide +kernel
theorem dX8_dutyOf_55 : decode cX8_dutyOf 55 = .ok (.aload_n 0, 1) := by decide +kernel
theorem dX8_dutyOf_56 : decode cX8_dutyOf 56 = .ok (.getfield 86, 3) := by decide +kernel
theorem dX8_dutyOf_59 : decode cX8_dutyOf 59 = .ok (.iload_n 1, 1) := by decide +kernel
theorem dX8_dutyOf_60 : decode cX8_dutyOf 60 = .ok (.iaload, 1) := by decide +kernel
theorem dX8_dutyOf_61 : decode cX8_dutyOf 61 = .ok (.i2l, 1) := by decide +kernel
theorem dX8_dutyOf_62 : decode cX8_dutyOf 62 = .ok (.ladd, 1) := by decide +kernel
theorem dX8_dutyOf_63 : decode cX8_dutyOf 63 = .ok (.lstore_n 2, 1) := by decide +kernel
theorem dX8_dutyOf_64 : decode cX8_dutyOf 64 = .ok (.ldc2_w 225, 3) := by decide +kernel
theorem dX8_dutyOf_67 : decode cX8_dutyOf 67 = .ok (.lload_n 2, 1) := by decide +kernel
theorem dX8_dutyOf_68 : decode cX8_dutyOf 68 = .ok (.lmul, 1) := by decide +kernel
theorem dX8_dutyOf_69 : decode cX8_dutyOf 69 = .ok (.aload_n 0, 1) := by decide +kernel
theorem dX8_dutyOf_70 : decode cX8_dutyOf 70 = .ok (.getfield 89, 3) := by decide +kernel
theorem dX8_dutyOf_73 : decode cX8_dutyOf 73 = .ok (.iload_n 1, 1) := by decide +kernel
theorem dX8_dutyOf_74 : decode cX8_dutyOf 74 = .ok (.iaload, 1) := by decide +kernel
theorem dX8_dutyOf_75 : decode cX8_dutyOf 75 = .ok (.i2l, 1) := by decide +kernel
theorem dX8_dutyOf_76 : decode cX8_dutyOf 76 = .ok (.ladd, 1) := by decide +kernel
theorem dX8_dutyOf_77 : decode cX8_dutyOf 77 = .ok (.lreturn, 1) := by decide +kernel
theorem dX8_reads_0 : decode cX8_reads 0 = .ok (.aload_n 0, 1) := by decide +kernel
theorem dX8_reads_1 : decode cX8_reads 1 = .ok (.iload_n 1, 1) := by decide +kernel
theorem dX8_reads_2 : decode cX8_reads 2 = .ok (.invokevirtual 203, 3) := by decide +kernel
theorem dX8_reads_5 : decode cX8_reads 5 = .ok (.ifCond .ne 5, 3) := by decide +kernel
theorem dX8_reads_8 : decode cX8_reads 8 = .ok (.iconst (-1), 1) := by decide +kernel
theorem dX8_reads_9 : decode cX8_reads 9 = .ok (.ireturn, 1) := by decide +kernel
theorem dX8_reads_10 : decode cX8_reads 10 = .ok (.aload_n 0, 1) := by decide +kernel
theorem dX8_reads_11 : decode cX8_reads 11 = .ok (.iload_n 1, 1) := by decide +kernel
theorem dX8_reads_12 : decode cX8_reads 12 = .ok (.iload_n 2, 1) := by decide +kernel
theorem dX8_reads_13 : decode cX8_reads 13 = .ok (.invokevirtual 227, 3) := by decide +kernel
theorem dX8_reads_16 : decode cX8_reads 16 = .ok (.ifCond .ne 6, 3) := by decide +kernel
theorem dX8_reads_19 : decode cX8_reads 19 = .ok (.bipush (-2), 2) := by decide +kernel
theorem dX8_reads_21 : decode cX8_reads 21 = .ok (.ireturn, 1) := by decide +kernel
theorem dX8_reads_22 : decode cX8_reads 22 = .ok (.aload_n 0, 1) := by decide +kernel
theorem dX8_reads_23 : decode cX8_reads 23 = .ok (.iload_n 1, 1) := by decide +kernel
theorem dX8_reads_24 : decode cX8_reads 24 = .ok (.iload_n 2, 1) := by decide +kernel
theorem dX8_reads_25 : decode cX8_reads 25 = .ok (.invokevirtual 230, 3) := by decide +kernel
theorem dX8_reads_28 : decode cX8_reads 28 = .ok (.ifCond .eq 7, 3) := by decide +kernel
theorem dX8_reads_31 : decode cX8_reads 31 = .ok (.iconst 1, 1) := by decide +kernel
theorem dX8_reads_32 : decode cX8_reads 32 = .ok (.goto 4, 3) := by decide +kernel
theorem dX8_reads_35 : decode cX8_reads 35 = .ok (.iconst 0, 1) := by decide +kernel
theorem dX8_reads_36 : decode cX8_reads 36 = .ok (.ireturn, 1) := by decide +kernel
theorem dX8_means_0 : decode cX8_means 0 = .ok (.aload_n 0, 1) := by decide +kernel
theorem dX8_means_1 : decode cX8_means 1 = .ok (.iload_n 1, 1) := by decide +kernel
theorem dX8_means_2 : decode cX8_means 2 = .ok (.invokevirtual 203, 3) := by decide +kernel
theorem dX8_means_5 : decode cX8_means 5 = .ok (.ifCond .eq 36, 3) := by decide +kernel
theorem dX8_means_8 : decode cX8_means 8 = .ok (.aload_n 0, 1) := by decide +kernel
theorem dX8_means_9 : decode cX8_means 9 = .ok (.iload_n 1, 1) := by decide +kernel
theorem dX8_means_10 : decode cX8_means 10 = .ok (.iload_n 2, 1) := by decide +kernel
theorem dX8_means_11 : decode cX8_means 11 = .ok (.invokevirtual 227, 3) := by decide +kernel
theorem dX8_means_14 : decode cX8_means 14 = .ok (.ifCond .eq 27, 3) := by decide +kernel
theorem dX8_means_17 : decode cX8_means 17 = .ok (.aload_n 0, 1) := by decide +kernel
theorem dX8_means_18 : decode cX8_means 18 = .ok (.iload_n 1, 1) := by decide +kernel
theorem dX8_means_19 : decode cX8_means 19 = .ok (.iload_n 2, 1) := by decide +kernel
theorem dX8_means_20 : decode cX8_means 20 = .ok (.invokevirtual 230, 3) := by decide +kernel
theorem dX8_means_23 : decode cX8_means 23 = .ok (.ifCond .eq 18, 3) := by decide +kernel
theorem dX8_means_26 : decode cX8_means 26 = .ok (.aload_n 0, 1) := by decide +kernel
theorem dX8_means_27 : decode cX8_means 27 = .ok (.iload_n 3, 1) := by decide +kernel
theorem dX8_means_28 : decode cX8_means 28 = .ok (.iconst (-1), 1) := by decide +kernel
theorem dX8_means_29 : decode cX8_means 29 = .ok (.aload_n 0, 1) := by decide +kernel
theorem dX8_means_30 : decode cX8_means 30 = .ok (.getfield 95, 3) := by decide +kernel
theorem dX8_means_33 : decode cX8_means 33 = .ok (.iconst 1, 1) := by decide +kernel
theorem dX8_means_34 : decode cX8_means 34 = .ok (.isub, 1) := by decide +kernel
theorem dX8_means_35 : decode cX8_means 35 = .ok (.invokevirtual 142, 3) := by decide +kernel
theorem dX8_means_38 : decode cX8_means 38 = .ok (.ifCond .ne 7, 3) := by decide +kernel
theorem dX8_means_41 : decode cX8_means 41 = .ok (.ldc2_w 233, 3) := by decide +kernel
theorem dX8_means_44 : decode cX8_means 44 = .ok (.lreturn, 1) := by decide +kernel
theorem dX8_means_45 : decode cX8_means 45 = .ok (.iload_n 3, 1) := by decide +kernel
theorem dX8_means_46 : decode cX8_means 46 = .ok (.ifCond .ge 11, 3) := by decide +kernel
theorem dX8_means_49 : decode cX8_means 49 = .ok (.aload_n 0, 1) := by decide +kernel
theorem dX8_means_50 : decode cX8_means 50 = .ok (.getfield 95, 3) := by decide +kernel
theorem dX8_means_53 : decode cX8_means 53 = .ok (.i2l, 1) := by decide +kernel
theorem dX8_means_54 : decode cX8_means 54 = .ok (.goto 8, 3) := by decide +kernel
theorem dX8_means_57 : decode cX8_means 57 = .ok (.aload_n 0, 1) := by decide +kernel
theorem dX8_means_58 : decode cX8_means 58 = .ok (.iload_n 3, 1) := by decide +kernel
theorem dX8_means_59 : decode cX8_means 59 = .ok (.invokevirtual 235, 3) := by decide +kernel
theorem dX8_means_62 : decode cX8_means 62 = .ok (.lreturn, 1) := by decide +kernel
theorem dX8_paidTo_0 : decode cX8_paidTo 0 = .ok (.iconst 0, 1) := by decide +kernel
theorem dX8_paidTo_1 : decode cX8_paidTo 1 = .ok (.istore_n 2, 1) := by decide +kernel
theorem dX8_paidTo_2 : decode cX8_paidTo 2 = .ok (.iconst 0, 1) := by decide +kernel
theorem dX8_paidTo_3 : decode cX8_paidTo 3 = .ok (.istore_n 3, 1) := by decide +kernel
theorem dX8_paidTo_4 : decode cX8_paidTo 4 = .ok (.iload_n 3, 1) := by decide +kernel
theorem dX8_paidTo_5 : decode cX8_paidTo 5 = .ok (.aload_n 0, 1) := by decide +kernel
theorem dX8_paidTo_6 : decode cX8_paidTo 6 = .ok (.getfield 95, 3) := by decide +kernel
theorem dX8_paidTo_9 : decode cX8_paidTo 9 = .ok (.if_icmp .ge 56, 3) := by decide +kernel
theorem dX8_paidTo_12 : decode cX8_paidTo 12 = .ok (.iload_n 2, 1) := by decide +kernel
theorem dX8_paidTo_13 : decode cX8_paidTo 13 = .ok (.aload_n 0, 1) := by decide +kernel
theorem dX8_paidTo_14 : decode cX8_paidTo 14 = .ok (.getfield 83, 3) := by decide +kernel
theorem dX8_paidTo_17 : decode cX8_paidTo 17 = .ok (.iload_n 3, 1) := by decide +kernel
theorem dX8_paidTo_18 : decode cX8_paidTo 18 = .ok (.iaload, 1) := by decide +kernel
theorem dX8_paidTo_19 : decode cX8_paidTo 19 = .ok (.bipush 10, 2) := by decide +kernel
theorem dX8_paidTo_21 : decode cX8_paidTo 21 = .ok (.if_icmp .lt 35, 3) := by decide +kernel
theorem dX8_paidTo_24 : decode cX8_paidTo 24 = .ok (.aload_n 0, 1) := by decide +kernel
theorem dX8_paidTo_25 : decode cX8_paidTo 25 = .ok (.getfield 74, 3) := by decide +kernel
theorem dX8_paidTo_28 : decode cX8_paidTo 28 = .ok (.iload_n 3, 1) := by decide +kernel
theorem dX8_paidTo_29 : decode cX8_paidTo 29 = .ok (.iaload, 1) := by decide +kernel
theorem dX8_paidTo_30 : decode cX8_paidTo 30 = .ok (.iload_n 1, 1) := by decide +kernel
theorem dX8_paidTo_31 : decode cX8_paidTo 31 = .ok (.if_icmp .eq 25, 3) := by decide +kernel
theorem dX8_paidTo_34 : decode cX8_paidTo 34 = .ok (.aload_n 0, 1) := by decide +kernel
theorem dX8_paidTo_35 : decode cX8_paidTo 35 = .ok (.getfield 77, 3) := by decide +kernel
theorem dX8_paidTo_38 : decode cX8_paidTo 38 = .ok (.iload_n 3, 1) := by decide +kernel
theorem dX8_paidTo_39 : decode cX8_paidTo 39 = .ok (.iaload, 1) := by decide +kernel
theorem dX8_paidTo_40 : decode cX8_paidTo 40 = .ok (.iconst 1, 1) := by decide +kernel
theorem dX8_paidTo_41 : decode cX8_paidTo 41 = .ok (.if_icmp .ne 15, 3) := by decide +kernel
theorem dX8_paidTo_44 : decode cX8_paidTo 44 = .ok (.aload_n 0, 1) := by decide +kernel
theorem dX8_paidTo_45 : decode cX8_paidTo 45 = .ok (.getfield 83, 3) := by decide +kernel
theorem dX8_paidTo_48 : decode cX8_paidTo 48 = .ok (.iload_n 3, 1) := by decide +kernel
theorem dX8_paidTo_49 : decode cX8_paidTo 49 = .ok (.iaload, 1) := by decide +kernel
theorem dX8_paidTo_50 : decode cX8_paidTo 50 = .ok (.bipush 10, 2) := by decide +kernel
theorem dX8_paidTo_52 : decode cX8_paidTo 52 = .ok (.isub, 1) := by decide +kernel
theorem dX8_paidTo_53 : decode cX8_paidTo 53 = .ok (.goto 4, 3) := by decide +kernel
theorem dX8_paidTo_56 : decode cX8_paidTo 56 = .ok (.iconst 0, 1) := by decide +kernel
theorem dX8_paidTo_57 : decode cX8_paidTo 57 = .ok (.iadd, 1) := by decide +kernel
theorem dX8_paidTo_58 : decode cX8_paidTo 58 = .ok (.istore_n 2, 1) := by decide +kernel
theorem dX8_paidTo_59 : decode cX8_paidTo 59 = .ok (.iinc 3 1, 3) := by decide +kernel
theorem dX8_paidTo_62 : decode cX8_paidTo 62 = .ok (.goto (-58), 3) := by decide +kernel
theorem dX8_paidTo_65 : decode cX8_paidTo 65 = .ok (.iload_n 2, 1) := by decide +kernel
theorem dX8_paidTo_66 : decode cX8_paidTo 66 = .ok (.ireturn, 1) := by decide +kernel
theorem dX8_factOf_0 : decode cX8_factOf 0 = .ok (.iload_n 1, 1) := by decide +kernel
theorem dX8_factOf_1 : decode cX8_factOf 1 = .ok (.tableswitch 81 0 5 #[39, 46, 53, 60, 67, 74], 39) := by decide +kernel
theorem dX8_factOf_40 : decode cX8_factOf 40 = .ok (.aload_n 0, 1) := by decide +kernel
theorem dX8_factOf_41 : decode cX8_factOf 41 = .ok (.getfield 74, 3) := by decide +kernel
theorem dX8_factOf_44 : decode cX8_factOf 44 = .ok (.iload_n 2, 1) := by decide +kernel
theorem dX8_factOf_45 : decode cX8_factOf 45 = .ok (.iaload, 1) := by decide +kernel
theorem dX8_factOf_46 : decode cX8_factOf 46 = .ok (.ireturn, 1) := by decide +kernel
theorem dX8_factOf_47 : decode cX8_factOf 47 = .ok (.aload_n 0, 1) := by decide +kernel
theorem dX8_factOf_48 : decode cX8_factOf 48 = .ok (.getfield 77, 3) := by decide +kernel
theorem dX8_factOf_51 : decode cX8_factOf 51 = .ok (.iload_n 2, 1) := by decide +kernel
theorem dX8_factOf_52 : decode cX8_factOf 52 = .ok (.iaload, 1) := by decide +kernel
theorem dX8_factOf_53 : decode cX8_factOf 53 = .ok (.ireturn, 1) := by decide +kernel
theorem dX8_factOf_54 : decode cX8_factOf 54 = .ok (.aload_n 0, 1) := by decide +kernel
theorem dX8_factOf_55 : decode cX8_factOf 55 = .ok (.getfield 80, 3) := by decide +kernel
theorem dX8_factOf_58 : decode cX8_factOf 58 = .ok (.iload_n 2, 1) := by decide +kernel
theorem dX8_factOf_59 : decode cX8_factOf 59 = .ok (.iaload, 1) := by decide +kernel
theorem dX8_factOf_60 : decode cX8_factOf 60 = .ok (.ireturn, 1) := by decide +kernel
theorem dX8_factOf_61 : decode cX8_factOf 61 = .ok (.aload_n 0, 1) := by decide +kernel
theorem dX8_factOf_62 : decode cX8_factOf 62 = .ok (.getfield 83, 3) := by decide +kernel
theorem dX8_factOf_65 : decode cX8_factOf 65 = .ok (.iload_n 2, 1) := by decide +kernel
theorem dX8_factOf_66 : decode cX8_factOf 66 = .ok (.iaload, 1) := by decide +kernel
theorem dX8_factOf_67 : decode cX8_factOf 67 = .ok (.ireturn, 1) := by decide +kernel
theorem dX8_factOf_68 : decode cX8_factOf 68 = .ok (.aload_n 0, 1) := by decide +kernel
theorem dX8_factOf_69 : decode cX8_factOf 69 = .ok (.getfield 86, 3) := by decide +kernel
theorem dX8_factOf_72 : decode cX8_factOf 72 = .ok (.iload_n 2, 1) := by decide +kernel
theorem dX8_factOf_73 : decode cX8_factOf 73 = .ok (.iaload, 1) := by decide +kernel
theorem dX8_factOf_74 : decode cX8_factOf 74 = .ok (.ireturn, 1) := by decide +kernel
theorem dX8_factOf_75 : decode cX8_factOf 75 = .ok (.aload_n 0, 1) := by decide +kernel
theorem dX8_factOf_76 : decode cX8_factOf 76 = .ok (.getfield 89, 3) := by decide +kernel
theorem dX8_factOf_79 : decode cX8_factOf 79 = .ok (.iload_n 2, 1) := by decide +kernel
theorem dX8_factOf_80 : decode cX8_factOf 80 = .ok (.iaload, 1) := by decide +kernel
theorem dX8_factOf_81 : decode cX8_factOf 81 = .ok (.ireturn, 1) := by decide +kernel
theorem dX8_factOf_82 : decode cX8_factOf 82 = .ok (.aload_n 0, 1) := by decide +kernel
theorem dX8_factOf_83 : decode cX8_factOf 83 = .ok (.aload_n 0, 1) := by decide +kernel
theorem dX8_factOf_84 : decode cX8_factOf 84 = .ok (.getfield 74, 3) := by decide +kernel
theorem dX8_factOf_87 : decode cX8_factOf 87 = .ok (.iload_n 2, 1) := by decide +kernel
theorem dX8_factOf_88 : decode cX8_factOf 88 = .ok (.iaload, 1) := by decide +kernel
theorem dX8_factOf_89 : decode cX8_factOf 89 = .ok (.invokevirtual 239, 3) := by decide +kernel
theorem dX8_factOf_92 : decode cX8_factOf 92 = .ok (.ireturn, 1) := by decide +kernel
theorem dX8_holds_0 : decode cX8_holds 0 = .ok (.iconst 0, 1) := by decide +kernel
theorem dX8_holds_1 : decode cX8_holds 1 = .ok (.istore_n 3, 1) := by decide +kernel
theorem dX8_holds_2 : decode cX8_holds 2 = .ok (.aload_n 0, 1) := by decide +kernel
theorem dX8_holds_3 : decode cX8_holds 3 = .ok (.getfield 47, 3) := by decide +kernel
theorem dX8_holds_6 : decode cX8_holds 6 = .ok (.iload_n 1, 1) := by decide +kernel
theorem dX8_holds_7 : decode cX8_holds 7 = .ok (.iaload, 1) := by decide +kernel
theorem dX8_holds_8 : decode cX8_holds 8 = .ok (.istore 4, 2) := by decide +kernel
theorem dX8_holds_10 : decode cX8_holds 10 = .ok (.iload 4, 2) := by decide +kernel
theorem dX8_holds_12 : decode cX8_holds 12 = .ok (.aload_n 0, 1) := by decide +kernel
theorem dX8_holds_13 : decode cX8_holds 13 = .ok (.getfield 50, 3) := by decide +kernel
theorem dX8_holds_16 : decode cX8_holds 16 = .ok (.iload_n 1, 1) := by decide +kernel
theorem dX8_holds_17 : decode cX8_holds 17 = .ok (.iaload, 1) := by decide +kernel
theorem dX8_holds_18 : decode cX8_holds 18 = .ok (.if_icmp .ge 229, 3) := by decide +kernel
theorem dX8_holds_21 : decode cX8_holds 21 = .ok (.aload_n 0, 1) := by decide +kernel
theorem dX8_holds_22 : decode cX8_holds 22 = .ok (.getfield 53, 3) := by decide +kernel
theorem dX8_holds_25 : decode cX8_holds 25 = .ok (.iload 4, 2) := by decide +kernel
theorem dX8_holds_27 : decode cX8_holds 27 = .ok (.iaload, 1) := by decide +kernel
theorem dX8_holds_28 : decode cX8_holds 28 = .ok (.istore 5, 2) := by decide +kernel
theorem dX8_holds_30 : decode cX8_holds 30 = .ok (.iload 5, 2) := by decide +kernel
theorem dX8_holds_32 : decode cX8_holds 32 = .ok (.bipush (-33), 2) := by decide +kernel
theorem dX8_holds_34 : decode cX8_holds 34 = .ok (.if_icmp .ne 30, 3) := by decide +kernel
theorem dX8_holds_37 : decode cX8_holds 37 = .ok (.aload_n 0, 1) := by decide +kernel
theorem dX8_holds_38 : decode cX8_holds 38 = .ok (.getfield 104, 3) := by decide +kernel
theorem dX8_holds_41 : decode cX8_holds 41 = .ok (.iload_n 3, 1) := by decide +kernel
theorem dX8_holds_42 : decode cX8_holds 42 = .ok (.iconst 1, 1) := by decide +kernel
theorem dX8_holds_43 : decode cX8_holds 43 = .ok (.isub, 1) := by decide +kernel
theorem dX8_holds_44 : decode cX8_holds 44 = .ok (.aload_n 0, 1) := by decide +kernel
theorem dX8_holds_45 : decode cX8_holds 45 = .ok (.getfield 104, 3) := by decide +kernel
theorem dX8_holds_48 : decode cX8_holds 48 = .ok (.iload_n 3, 1) := by decide +kernel
theorem dX8_holds_49 : decode cX8_holds 49 = .ok (.iconst 1, 1) := by decide +kernel
theorem dX8_holds_50 : decode cX8_holds 50 = .ok (.isub, 1) := by decide +kernel
theorem dX8_holds_51 : decode cX8_holds 51 = .ok (.baload, 1) := by decide +kernel
theorem dX8_holds_52 : decode cX8_holds 52 = .ok (.ifCond .ne 7, 3) := by decide +kernel
theorem dX8_holds_55 : decode cX8_holds 55 = .ok (.iconst 1, 1) := by decide +kernel
theorem dX8_holds_56 : decode cX8_holds 56 = .ok (.goto 4, 3) := by decide +kernel
theorem dX8_holds_59 : decode cX8_holds 59 = .ok (.iconst 0, 1) := by decide +kernel
theorem dX8_holds_60 : decode cX8_holds 60 = .ok (.bastore, 1) := by decide +kernel
theorem dX8_holds_61 : decode cX8_holds 61 = .ok (.goto 180, 3) := by decide +kernel
theorem dX8_holds_64 : decode cX8_holds 64 = .ok (.iload 5, 2) := by decide +kernel
theorem dX8_holds_66 : decode cX8_holds 66 = .ok (.ifCond .ge 77, 3) := by decide +kernel
theorem dX8_holds_69 : decode cX8_holds 69 = .ok (.iinc 3 (-1), 3) := by decide +kernel
theorem dX8_holds_72 : decode cX8_holds 72 = .ok (.aload_n 0, 1) := by decide +kernel
theorem dX8_holds_73 : decode cX8_holds 73 = .ok (.getfield 104, 3) := by decide +kernel
theorem dX8_holds_76 : decode cX8_holds 76 = .ok (.iload_n 3, 1) := by decide +kernel
theorem dX8_holds_77 : decode cX8_holds 77 = .ok (.iconst 1, 1) := by decide +kernel
theorem dX8_holds_78 : decode cX8_holds 78 = .ok (.isub, 1) := by decide +kernel
theorem dX8_holds_79 : decode cX8_holds 79 = .ok (.iload 5, 2) := by decide +kernel
theorem dX8_holds_81 : decode cX8_holds 81 = .ok (.bipush (-38), 2) := by decide +kernel
theorem dX8_holds_83 : decode cX8_holds 83 = .ok (.if_icmp .ne 31, 3) := by decide +kernel
theorem dX8_holds_86 : decode cX8_holds 86 = .ok (.aload_n 0, 1) := by decide +kernel
theorem dX8_holds_87 : decode cX8_holds 87 = .ok (.getfield 104, 3) := by decide +kernel
theorem dX8_holds_90 : decode cX8_holds 90 = .ok (.iload_n 3, 1) := by decide +kernel
theorem dX8_holds_91 : decode cX8_holds 91 = .ok (.iconst 1, 1) := by decide +kernel
theorem dX8_holds_92 : decode cX8_holds 92 = .ok (.isub, 1) := by decide +kernel
theorem dX8_holds_93 : decode cX8_holds 93 = .ok (.baload, 1) := by decide +kernel
theorem dX8_holds_94 : decode cX8_holds 94 = .ok (.ifCond .eq 16, 3) := by decide +kernel
theorem dX8_holds_97 : decode cX8_holds 97 = .ok (.aload_n 0, 1) := by decide +kernel
theorem dX8_holds_98 : decode cX8_holds 98 = .ok (.getfield 104, 3) := by decide +kernel
theorem dX8_holds_101 : decode cX8_holds 101 = .ok (.iload_n 3, 1) := by decide +kernel
theorem dX8_holds_102 : decode cX8_holds 102 = .ok (.baload, 1) := by decide +kernel
theorem dX8_holds_103 : decode cX8_holds 103 = .ok (.ifCond .eq 7, 3) := by decide +kernel
theorem dX8_holds_106 : decode cX8_holds 106 = .ok (.iconst 1, 1) := by decide +kernel
theorem dX8_holds_107 : decode cX8_holds 107 = .ok (.goto 32, 3) := by decide +kernel
theorem dX8_holds_110 : decode cX8_holds 110 = .ok (.iconst 0, 1) := by decide +kernel
theorem dX8_holds_111 : decode cX8_holds 111 = .ok (.goto 28, 3) := by decide +kernel
theorem dX8_holds_114 : decode cX8_holds 114 = .ok (.aload_n 0, 1) := by decide +kernel
theorem dX8_holds_115 : decode cX8_holds 115 = .ok (.getfield 104, 3) := by decide +kernel
theorem dX8_holds_118 : decode cX8_holds 118 = .ok (.iload_n 3, 1) := by decide +kernel
theorem dX8_holds_119 : decode cX8_holds 119 = .ok (.iconst 1, 1) := by decide +kernel
theorem dX8_holds_120 : decode cX8_holds 120 = .ok (.isub, 1) := by decide +kernel
theorem dX8_holds_121 : decode cX8_holds 121 = .ok (.baload, 1) := by decide +kernel
theorem dX8_holds_122 : decode cX8_holds 122 = .ok (.ifCond .ne 12, 3) := by decide +kernel
theorem dX8_holds_125 : decode cX8_holds 125 = .ok (.aload_n 0, 1) := by decide +kernel
theorem dX8_holds_126 : decode cX8_holds 126 = .ok (.getfield 104, 3) := by decide +kernel
theorem dX8_holds_129 : decode cX8_holds 129 = .ok (.iload_n 3, 1) := by decide +kernel
theorem dX8_holds_130 : decode cX8_holds 130 = .ok (.baload, 1) := by decide +kernel
theorem dX8_holds_131 : decode cX8_holds 131 = .ok (.ifCond .eq 7, 3) := by decide +kernel
theorem dX8_holds_134 : decode cX8_holds 134 = .ok (.iconst 1, 1) := by decide +kernel
theorem dX8_holds_135 : decode cX8_holds 135 = .ok (.goto 4, 3) := by decide +kernel
theorem dX8_holds_138 : decode cX8_holds 138 = .ok (.iconst 0, 1) := by decide +kernel
theorem dX8_holds_139 : decode cX8_holds 139 = .ok (.bastore, 1) := by decide +kernel
theorem dX8_holds_140 : decode cX8_holds 140 = .ok (.goto 101, 3) := by decide +kernel
theorem dX8_holds_143 : decode cX8_holds 143 = .ok (.aload_n 0, 1) := by decide +kernel
theorem dX8_holds_144 : decode cX8_holds 144 = .ok (.iload 5, 2) := by decide +kernel
theorem dX8_holds_146 : decode cX8_holds 146 = .ok (.sipush 10000, 3) := by decide +kernel
theorem dX8_holds_149 : decode cX8_holds 149 = .ok (.idiv, 1) := by decide +kernel
theorem dX8_holds_150 : decode cX8_holds 150 = .ok (.iload_n 2, 1) := by decide +kernel
theorem dX8_holds_151 : decode cX8_holds 151 = .ok (.invokevirtual 242, 3) := by decide +kernel
theorem dX8_holds_154 : decode cX8_holds 154 = .ok (.istore 6, 2) := by decide +kernel
theorem dX8_holds_156 : decode cX8_holds 156 = .ok (.iload 5, 2) := by decide +kernel
theorem dX8_holds_158 : decode cX8_holds 158 = .ok (.sipush 1000, 3) := by decide +kernel
theorem dX8_holds_161 : decode cX8_holds 161 = .ok (.idiv, 1) := by decide +kernel
theorem dX8_holds_162 : decode cX8_holds 162 = .ok (.bipush 10, 2) := by decide +kernel
theorem dX8_holds_164 : decode cX8_holds 164 = .ok (.irem, 1) := by decide +kernel
theorem dX8_holds_165 : decode cX8_holds 165 = .ok (.istore 7, 2) := by decide +kernel
theorem dX8_holds_167 : decode cX8_holds 167 = .ok (.aload_n 0, 1) := by decide +kernel
theorem dX8_holds_168 : decode cX8_holds 168 = .ok (.getfield 104, 3) := by decide +kernel
theorem dX8_holds_171 : decode cX8_holds 171 = .ok (.iload_n 3, 1) := by decide +kernel
theorem dX8_holds_172 : decode cX8_holds 172 = .ok (.iload 7, 2) := by decide +kernel
theorem dX8_holds_174 : decode cX8_holds 174 = .ok (.ifCond .ne 22, 3) := by decide +kernel
theorem dX8_holds_177 : decode cX8_holds 177 = .ok (.iload 6, 2) := by decide +kernel
theorem dX8_holds_179 : decode cX8_holds 179 = .ok (.iload 5, 2) := by decide +kernel
theorem dX8_holds_181 : decode cX8_holds 181 = .ok (.sipush 1000, 3) := by decide +kernel
theorem dX8_holds_184 : decode cX8_holds 184 = .ok (.irem, 1) := by decide +kernel
theorem dX8_holds_185 : decode cX8_holds 185 = .ok (.if_icmp .ge 7, 3) := by decide +kernel
theorem dX8_holds_188 : decode cX8_holds 188 = .ok (.iconst 1, 1) := by decide +kernel
theorem dX8_holds_189 : decode cX8_holds 189 = .ok (.goto 48, 3) := by decide +kernel
theorem dX8_holds_192 : decode cX8_holds 192 = .ok (.iconst 0, 1) := by decide +kernel
theorem dX8_holds_193 : decode cX8_holds 193 = .ok (.goto 44, 3) := by decide +kernel
theorem dX8_holds_196 : decode cX8_holds 196 = .ok (.iload 7, 2) := by decide +kernel
theorem dX8_holds_198 : decode cX8_holds 198 = .ok (.iconst 1, 1) := by decide +kernel
theorem dX8_holds_199 : decode cX8_holds 199 = .ok (.if_icmp .ne 22, 3) := by decide +kernel
theorem dX8_holds_202 : decode cX8_holds 202 = .ok (.iload 6, 2) := by decide +kernel
theorem dX8_holds_204 : decode cX8_holds 204 = .ok (.iload 5, 2) := by decide +kernel
theorem dX8_holds_206 : decode cX8_holds 206 = .ok (.sipush 1000, 3) := by decide +kernel
theorem dX8_holds_209 : decode cX8_holds 209 = .ok (.irem, 1) := by decide +kernel
theorem dX8_holds_210 : decode cX8_holds 210 = .ok (.if_icmp .ne 7, 3) := by decide +kernel
theorem dX8_holds_213 : decode cX8_holds 213 = .ok (.iconst 1, 1) := by decide +kernel
theorem dX8_holds_214 : decode cX8_holds 214 = .ok (.goto 23, 3) := by decide +kernel
theorem dX8_holds_217 : decode cX8_holds 217 = .ok (.iconst 0, 1) := by decide +kernel
theorem dX8_holds_218 : decode cX8_holds 218 = .ok (.goto 19, 3) := by decide +kernel
theorem dX8_holds_221 : decode cX8_holds 221 = .ok (.iload 6, 2) := by decide +kernel
theorem dX8_holds_223 : decode cX8_holds 223 = .ok (.iload 5, 2) := by decide +kernel
theorem dX8_holds_225 : decode cX8_holds 225 = .ok (.sipush 1000, 3) := by decide +kernel
theorem dX8_holds_228 : decode cX8_holds 228 = .ok (.irem, 1) := by decide +kernel
theorem dX8_holds_229 : decode cX8_holds 229 = .ok (.if_icmp .le 7, 3) := by decide +kernel
theorem dX8_holds_232 : decode cX8_holds 232 = .ok (.iconst 1, 1) := by decide +kernel
theorem dX8_holds_233 : decode cX8_holds 233 = .ok (.goto 4, 3) := by decide +kernel
theorem dX8_holds_236 : decode cX8_holds 236 = .ok (.iconst 0, 1) := by decide +kernel
theorem dX8_holds_237 : decode cX8_holds 237 = .ok (.bastore, 1) := by decide +kernel
theorem dX8_holds_238 : decode cX8_holds 238 = .ok (.iinc 3 1, 3) := by decide +kernel
theorem dX8_holds_241 : decode cX8_holds 241 = .ok (.iinc 4 1, 3) := by decide +kernel
theorem dX8_holds_244 : decode cX8_holds 244 = .ok (.goto (-234), 3) := by decide +kernel
theorem dX8_holds_247 : decode cX8_holds 247 = .ok (.aload_n 0, 1) := by decide +kernel
theorem dX8_holds_248 : decode cX8_holds 248 = .ok (.getfield 104, 3) := by decide +kernel
theorem dX8_holds_251 : decode cX8_holds 251 = .ok (.iconst 0, 1) := by decide +kernel
theorem dX8_holds_252 : decode cX8_holds 252 = .ok (.baload, 1) := by decide +kernel
theorem dX8_holds_253 : decode cX8_holds 253 = .ok (.ireturn, 1) := by decide +kernel
theorem dX8_isBarred_0 : decode cX8_isBarred 0 = .ok (.bipush 8, 2) := by decide +kernel
theorem dX8_isBarred_2 : decode cX8_isBarred 2 = .ok (.iload_n 1, 1) := by decide +kernel
theorem dX8_isBarred_3 : decode cX8_isBarred 3 = .ok (.imul, 1) := by decide +kernel
theorem dX8_isBarred_4 : decode cX8_isBarred 4 = .ok (.istore_n 3, 1) := by decide +kernel
theorem dX8_isBarred_5 : decode cX8_isBarred 5 = .ok (.iload_n 3, 1) := by decide +kernel
theorem dX8_isBarred_6 : decode cX8_isBarred 6 = .ok (.bipush 8, 2) := by decide +kernel
theorem dX8_isBarred_8 : decode cX8_isBarred 8 = .ok (.iload_n 1, 1) := by decide +kernel
theorem dX8_isBarred_9 : decode cX8_isBarred 9 = .ok (.imul, 1) := by decide +kernel
theorem dX8_isBarred_10 : decode cX8_isBarred 10 = .ok (.aload_n 0, 1) := by decide +kernel
theorem dX8_isBarred_11 : decode cX8_isBarred 11 = .ok (.getfield 38, 3) := by decide +kernel
theorem dX8_isBarred_14 : decode cX8_isBarred 14 = .ok (.iload_n 1, 1) := by decide +kernel
theorem dX8_isBarred_15 : decode cX8_isBarred 15 = .ok (.iaload, 1) := by decide +kernel
theorem dX8_isBarred_16 : decode cX8_isBarred 16 = .ok (.iadd, 1) := by decide +kernel
theorem dX8_isBarred_17 : decode cX8_isBarred 17 = .ok (.if_icmp .ge 29, 3) := by decide +kernel
theorem dX8_isBarred_20 : decode cX8_isBarred 20 = .ok (.aload_n 0, 1) := by decide +kernel
theorem dX8_isBarred_21 : decode cX8_isBarred 21 = .ok (.getfield 41, 3) := by decide +kernel
theorem dX8_isBarred_24 : decode cX8_isBarred 24 = .ok (.iload_n 3, 1) := by decide +kernel
theorem dX8_isBarred_25 : decode cX8_isBarred 25 = .ok (.iaload, 1) := by decide +kernel
theorem dX8_isBarred_26 : decode cX8_isBarred 26 = .ok (.ifCond .ne 14, 3) := by decide +kernel
theorem dX8_isBarred_29 : decode cX8_isBarred 29 = .ok (.aload_n 0, 1) := by decide +kernel
theorem dX8_isBarred_30 : decode cX8_isBarred 30 = .ok (.iload_n 3, 1) := by decide +kernel
theorem dX8_isBarred_31 : decode cX8_isBarred 31 = .ok (.iload_n 2, 1) := by decide +kernel
theorem dX8_isBarred_32 : decode cX8_isBarred 32 = .ok (.invokevirtual 246, 3) := by decide +kernel
theorem dX8_isBarred_35 : decode cX8_isBarred 35 = .ok (.ifCond .eq 5, 3) := by decide +kernel
theorem dX8_isBarred_38 : decode cX8_isBarred 38 = .ok (.iconst 1, 1) := by decide +kernel
theorem dX8_isBarred_39 : decode cX8_isBarred 39 = .ok (.ireturn, 1) := by decide +kernel
theorem dX8_isBarred_40 : decode cX8_isBarred 40 = .ok (.iinc 3 1, 3) := by decide +kernel
theorem dX8_isBarred_43 : decode cX8_isBarred 43 = .ok (.goto (-38), 3) := by decide +kernel
theorem dX8_isBarred_46 : decode cX8_isBarred 46 = .ok (.iconst 0, 1) := by decide +kernel
theorem dX8_isBarred_47 : decode cX8_isBarred 47 = .ok (.ireturn, 1) := by decide +kernel
theorem dX8_gives_0 : decode cX8_gives 0 = .ok (.iconst 0, 1) := by decide +kernel
theorem dX8_gives_1 : decode cX8_gives 1 = .ok (.istore_n 2, 1) := by decide +kernel
theorem dX8_gives_2 : decode cX8_gives 2 = .ok (.iload_n 2, 1) := by decide +kernel
theorem dX8_gives_3 : decode cX8_gives 3 = .ok (.aload_n 0, 1) := by decide +kernel
theorem dX8_gives_4 : decode cX8_gives 4 = .ok (.getfield 95, 3) := by decide +kernel
theorem dX8_gives_7 : decode cX8_gives 7 = .ok (.if_icmp .ge 40, 3) := by decide +kernel
theorem dX8_gives_10 : decode cX8_gives 10 = .ok (.aload_n 0, 1) := by decide +kernel
theorem dX8_gives_11 : decode cX8_gives 11 = .ok (.getfield 74, 3) := by decide +kernel
theorem dX8_gives_14 : decode cX8_gives 14 = .ok (.iload_n 2, 1) := by decide +kernel
theorem dX8_gives_15 : decode cX8_gives 15 = .ok (.iaload, 1) := by decide +kernel
theorem dX8_gives_16 : decode cX8_gives 16 = .ok (.iload_n 1, 1) := by decide +kernel
theorem dX8_gives_17 : decode cX8_gives 17 = .ok (.if_icmp .ne 24, 3) := by decide +kernel
theorem dX8_gives_20 : decode cX8_gives 20 = .ok (.aload_n 0, 1) := by decide +kernel
theorem dX8_gives_21 : decode cX8_gives 21 = .ok (.getfield 77, 3) := by decide +kernel
theorem dX8_gives_24 : decode cX8_gives 24 = .ok (.iload_n 2, 1) := by decide +kernel
theorem dX8_gives_25 : decode cX8_gives 25 = .ok (.iaload, 1) := by decide +kernel
theorem dX8_gives_26 : decode cX8_gives 26 = .ok (.iconst 1, 1) := by decide +kernel
theorem dX8_gives_27 : decode cX8_gives 27 = .ok (.if_icmp .ne 14, 3) := by decide +kernel
theorem dX8_gives_30 : decode cX8_gives 30 = .ok (.aload_n 0, 1) := by decide +kernel
theorem dX8_gives_31 : decode cX8_gives 31 = .ok (.getfield 80, 3) := by decide +kernel
theorem dX8_gives_34 : decode cX8_gives 34 = .ok (.iload_n 2, 1) := by decide +kernel
theorem dX8_gives_35 : decode cX8_gives 35 = .ok (.iaload, 1) := by decide +kernel
theorem dX8_gives_36 : decode cX8_gives 36 = .ok (.ifCond .ne 5, 3) := by decide +kernel
theorem dX8_gives_39 : decode cX8_gives 39 = .ok (.iconst 1, 1) := by decide +kernel
theorem dX8_gives_40 : decode cX8_gives 40 = .ok (.ireturn, 1) := by decide +kernel
theorem dX8_gives_41 : decode cX8_gives 41 = .ok (.iinc 2 1, 3) := by decide +kernel
theorem dX8_gives_44 : decode cX8_gives 44 = .ok (.goto (-42), 3) := by decide +kernel
theorem dX8_gives_47 : decode cX8_gives 47 = .ok (.iconst 0, 1) := by decide +kernel
theorem dX8_gives_48 : decode cX8_gives 48 = .ok (.ireturn, 1) := by decide +kernel
theorem dX8_isLawful_0 : decode cX8_isLawful 0 = .ok (.iconst 0, 1) := by decide +kernel
theorem dX8_isLawful_1 : decode cX8_isLawful 1 = .ok (.istore_n 3, 1) := by decide +kernel
theorem dX8_isLawful_2 : decode cX8_isLawful 2 = .ok (.iload_n 3, 1) := by decide +kernel
theorem dX8_isLawful_3 : decode cX8_isLawful 3 = .ok (.aload_n 0, 1) := by decide +kernel
theorem dX8_isLawful_4 : decode cX8_isLawful 4 = .ok (.getfield 95, 3) := by decide +kernel
theorem dX8_isLawful_7 : decode cX8_isLawful 7 = .ok (.if_icmp .ge 20, 3) := by decide +kernel
theorem dX8_isLawful_10 : decode cX8_isLawful 10 = .ok (.aload_n 0, 1) := by decide +kernel
theorem dX8_isLawful_11 : decode cX8_isLawful 11 = .ok (.iload_n 1, 1) := by decide +kernel
theorem dX8_isLawful_12 : decode cX8_isLawful 12 = .ok (.iload_n 3, 1) := by decide +kernel
theorem dX8_isLawful_13 : decode cX8_isLawful 13 = .ok (.invokevirtual 249, 3) := by decide +kernel
theorem dX8_isLawful_16 : decode cX8_isLawful 16 = .ok (.ifCond .eq 5, 3) := by decide +kernel
theorem dX8_isLawful_19 : decode cX8_isLawful 19 = .ok (.iconst 0, 1) := by decide +kernel
theorem dX8_isLawful_20 : decode cX8_isLawful 20 = .ok (.ireturn, 1) := by decide +kernel
theorem dX8_isLawful_21 : decode cX8_isLawful 21 = .ok (.iinc 3 1, 3) := by decide +kernel
theorem dX8_isLawful_24 : decode cX8_isLawful 24 = .ok (.goto (-22), 3) := by decide +kernel
theorem dX8_isLawful_27 : decode cX8_isLawful 27 = .ok (.iconst 0, 1) := by decide +kernel
theorem dX8_isLawful_28 : decode cX8_isLawful 28 = .ok (.istore_n 3, 1) := by decide +kernel
theorem dX8_isLawful_29 : decode cX8_isLawful 29 = .ok (.iconst 0, 1) := by decide +kernel
theorem dX8_isLawful_30 : decode cX8_isLawful 30 = .ok (.istore 4, 2) := by decide +kernel
theorem dX8_isLawful_32 : decode cX8_isLawful 32 = .ok (.iload 4, 2) := by decide +kernel
theorem dX8_isLawful_34 : decode cX8_isLawful 34 = .ok (.aload_n 0, 1) := by decide +kernel
theorem dX8_isLawful_35 : decode cX8_isLawful 35 = .ok (.getfield 95, 3) := by decide +kernel
theorem dX8_isLawful_38 : decode cX8_isLawful 38 = .ok (.if_icmp .ge 34, 3) := by decide +kernel
theorem dX8_isLawful_41 : decode cX8_isLawful 41 = .ok (.iload_n 3, 1) := by decide +kernel
theorem dX8_isLawful_42 : decode cX8_isLawful 42 = .ok (.aload_n 0, 1) := by decide +kernel
theorem dX8_isLawful_43 : decode cX8_isLawful 43 = .ok (.getfield 80, 3) := by decide +kernel
theorem dX8_isLawful_46 : decode cX8_isLawful 46 = .ok (.iload 4, 2) := by decide +kernel
theorem dX8_isLawful_48 : decode cX8_isLawful 48 = .ok (.iaload, 1) := by decide +kernel
theorem dX8_isLawful_49 : decode cX8_isLawful 49 = .ok (.iconst 1, 1) := by decide +kernel
theorem dX8_isLawful_50 : decode cX8_isLawful 50 = .ok (.if_icmp .ne 13, 3) := by decide +kernel
theorem dX8_isLawful_53 : decode cX8_isLawful 53 = .ok (.aload_n 0, 1) := by decide +kernel
theorem dX8_isLawful_54 : decode cX8_isLawful 54 = .ok (.getfield 89, 3) := by decide +kernel
theorem dX8_isLawful_57 : decode cX8_isLawful 57 = .ok (.iload 4, 2) := by decide +kernel
theorem dX8_isLawful_59 : decode cX8_isLawful 59 = .ok (.iaload, 1) := by decide +kernel
theorem dX8_isLawful_60 : decode cX8_isLawful 60 = .ok (.goto 4, 3) := by decide +kernel
theorem dX8_isLawful_63 : decode cX8_isLawful 63 = .ok (.iconst 0, 1) := by decide +kernel
theorem dX8_isLawful_64 : decode cX8_isLawful 64 = .ok (.iadd, 1) := by decide +kernel
theorem dX8_isLawful_65 : decode cX8_isLawful 65 = .ok (.istore_n 3, 1) := by decide +kernel
theorem dX8_isLawful_66 : decode cX8_isLawful 66 = .ok (.iinc 4 1, 3) := by decide +kernel
theorem dX8_isLawful_69 : decode cX8_isLawful 69 = .ok (.goto (-37), 3) := by decide +kernel
theorem dX8_isLawful_72 : decode cX8_isLawful 72 = .ok (.bipush 8, 2) := by decide +kernel
theorem dX8_isLawful_74 : decode cX8_isLawful 74 = .ok (.iload_n 1, 1) := by decide +kernel
theorem dX8_isLawful_75 : decode cX8_isLawful 75 = .ok (.imul, 1) := by decide +kernel
theorem dX8_isLawful_76 : decode cX8_isLawful 76 = .ok (.istore 4, 2) := by decide +kernel
theorem dX8_isLawful_78 : decode cX8_isLawful 78 = .ok (.iload 4, 2) := by decide +kernel
theorem dX8_isLawful_80 : decode cX8_isLawful 80 = .ok (.bipush 8, 2) := by decide +kernel
theorem dX8_isLawful_82 : decode cX8_isLawful 82 = .ok (.iload_n 1, 1) := by decide +kernel
theorem dX8_isLawful_83 : decode cX8_isLawful 83 = .ok (.imul, 1) := by decide +kernel
theorem dX8_isLawful_84 : decode cX8_isLawful 84 = .ok (.aload_n 0, 1) := by decide +kernel
theorem dX8_isLawful_85 : decode cX8_isLawful 85 = .ok (.getfield 38, 3) := by decide +kernel
theorem dX8_isLawful_88 : decode cX8_isLawful 88 = .ok (.iload_n 1, 1) := by decide +kernel
theorem dX8_isLawful_89 : decode cX8_isLawful 89 = .ok (.iaload, 1) := by decide +kernel
theorem dX8_isLawful_90 : decode cX8_isLawful 90 = .ok (.iadd, 1) := by decide +kernel
theorem dX8_isLawful_91 : decode cX8_isLawful 91 = .ok (.if_icmp .ge 64, 3) := by decide +kernel
theorem dX8_isLawful_94 : decode cX8_isLawful 94 = .ok (.aload_n 0, 1) := by decide +kernel
theorem dX8_isLawful_95 : decode cX8_isLawful 95 = .ok (.getfield 41, 3) := by decide +kernel
theorem dX8_isLawful_98 : decode cX8_isLawful 98 = .ok (.iload 4, 2) := by decide +kernel
theorem dX8_isLawful_100 : decode cX8_isLawful 100 = .ok (.iaload, 1) := by decide +kernel
theorem dX8_isLawful_101 : decode cX8_isLawful 101 = .ok (.iconst 1, 1) := by decide +kernel
theorem dX8_isLawful_102 : decode cX8_isLawful 102 = .ok (.if_icmp .ne 21, 3) := by decide +kernel
theorem dX8_isLawful_105 : decode cX8_isLawful 105 = .ok (.aload_n 0, 1) := by decide +kernel
theorem dX8_isLawful_106 : decode cX8_isLawful 106 = .ok (.iconst 0, 1) := by decide +kernel
theorem dX8_isLawful_107 : decode cX8_isLawful 107 = .ok (.invokevirtual 252, 3) := by decide +kernel
theorem dX8_isLawful_110 : decode cX8_isLawful 110 = .ok (.ifCond .eq 11, 3) := by decide +kernel
theorem dX8_isLawful_113 : decode cX8_isLawful 113 = .ok (.aload_n 0, 1) := by decide +kernel
theorem dX8_isLawful_114 : decode cX8_isLawful 114 = .ok (.iconst 1, 1) := by decide +kernel
theorem dX8_isLawful_115 : decode cX8_isLawful 115 = .ok (.invokevirtual 252, 3) := by decide +kernel
theorem dX8_isLawful_118 : decode cX8_isLawful 118 = .ok (.ifCond .ne 5, 3) := by decide +kernel
theorem dX8_isLawful_121 : decode cX8_isLawful 121 = .ok (.iconst 0, 1) := by decide +kernel
theorem dX8_isLawful_122 : decode cX8_isLawful 122 = .ok (.ireturn, 1) := by decide +kernel
theorem dX8_isLawful_123 : decode cX8_isLawful 123 = .ok (.aload_n 0, 1) := by decide +kernel
theorem dX8_isLawful_124 : decode cX8_isLawful 124 = .ok (.getfield 41, 3) := by decide +kernel
theorem dX8_isLawful_127 : decode cX8_isLawful 127 = .ok (.iload 4, 2) := by decide +kernel
theorem dX8_isLawful_129 : decode cX8_isLawful 129 = .ok (.iaload, 1) := by decide +kernel
theorem dX8_isLawful_130 : decode cX8_isLawful 130 = .ok (.iconst 2, 1) := by decide +kernel
theorem dX8_isLawful_131 : decode cX8_isLawful 131 = .ok (.if_icmp .ne 18, 3) := by decide +kernel
theorem dX8_isLawful_134 : decode cX8_isLawful 134 = .ok (.iload_n 3, 1) := by decide +kernel
theorem dX8_isLawful_135 : decode cX8_isLawful 135 = .ok (.aload_n 0, 1) := by decide +kernel
theorem dX8_isLawful_136 : decode cX8_isLawful 136 = .ok (.getfield 44, 3) := by decide +kernel
theorem dX8_isLawful_139 : decode cX8_isLawful 139 = .ok (.iload 4, 2) := by decide +kernel
theorem dX8_isLawful_141 : decode cX8_isLawful 141 = .ok (.iaload, 1) := by decide +kernel
theorem dX8_isLawful_142 : decode cX8_isLawful 142 = .ok (.iload_n 2, 1) := by decide +kernel
theorem dX8_isLawful_143 : decode cX8_isLawful 143 = .ok (.iadd, 1) := by decide +kernel
theorem dX8_isLawful_144 : decode cX8_isLawful 144 = .ok (.if_icmp .le 5, 3) := by decide +kernel
theorem dX8_isLawful_147 : decode cX8_isLawful 147 = .ok (.iconst 0, 1) := by decide +kernel
theorem dX8_isLawful_148 : decode cX8_isLawful 148 = .ok (.ireturn, 1) := by decide +kernel
theorem dX8_isLawful_149 : decode cX8_isLawful 149 = .ok (.iinc 4 1, 3) := by decide +kernel
theorem dX8_isLawful_152 : decode cX8_isLawful 152 = .ok (.goto (-74), 3) := by decide +kernel
theorem dX8_isLawful_155 : decode cX8_isLawful 155 = .ok (.iconst 1, 1) := by decide +kernel
theorem dX8_isLawful_156 : decode cX8_isLawful 156 = .ok (.ireturn, 1) := by decide +kernel
theorem dX8_lawful_0 : decode cX8_lawful 0 = .ok (.aload_n 0, 1) := by decide +kernel
theorem dX8_lawful_1 : decode cX8_lawful 1 = .ok (.iload_n 1, 1) := by decide +kernel
theorem dX8_lawful_2 : decode cX8_lawful 2 = .ok (.invokevirtual 203, 3) := by decide +kernel
theorem dX8_lawful_5 : decode cX8_lawful 5 = .ok (.ifCond .eq 11, 3) := by decide +kernel
theorem dX8_lawful_8 : decode cX8_lawful 8 = .ok (.aload_n 0, 1) := by decide +kernel
theorem dX8_lawful_9 : decode cX8_lawful 9 = .ok (.iload_n 3, 1) := by decide +kernel
theorem dX8_lawful_10 : decode cX8_lawful 10 = .ok (.invokevirtual 255, 3) := by decide +kernel
theorem dX8_lawful_13 : decode cX8_lawful 13 = .ok (.ifCond .ne 5, 3) := by decide +kernel
theorem dX8_lawful_16 : decode cX8_lawful 16 = .ok (.iconst (-1), 1) := by decide +kernel
theorem dX8_lawful_17 : decode cX8_lawful 17 = .ok (.ireturn, 1) := by decide +kernel
theorem dX8_lawful_18 : decode cX8_lawful 18 = .ok (.aload_n 0, 1) := by decide +kernel
theorem dX8_lawful_19 : decode cX8_lawful 19 = .ok (.iload_n 1, 1) := by decide +kernel
theorem dX8_lawful_20 : decode cX8_lawful 20 = .ok (.iload_n 2, 1) := by decide +kernel
theorem dX8_lawful_21 : decode cX8_lawful 21 = .ok (.invokevirtual 227, 3) := by decide +kernel
theorem dX8_lawful_24 : decode cX8_lawful 24 = .ok (.ifCond .ne 6, 3) := by decide +kernel
theorem dX8_lawful_27 : decode cX8_lawful 27 = .ok (.bipush (-2), 2) := by decide +kernel
theorem dX8_lawful_29 : decode cX8_lawful 29 = .ok (.ireturn, 1) := by decide +kernel
theorem dX8_lawful_30 : decode cX8_lawful 30 = .ok (.aload_n 0, 1) := by decide +kernel
theorem dX8_lawful_31 : decode cX8_lawful 31 = .ok (.iload_n 1, 1) := by decide +kernel
theorem dX8_lawful_32 : decode cX8_lawful 32 = .ok (.iload_n 2, 1) := by decide +kernel
theorem dX8_lawful_33 : decode cX8_lawful 33 = .ok (.invokevirtual 230, 3) := by decide +kernel
theorem dX8_lawful_36 : decode cX8_lawful 36 = .ok (.ifCond .eq 16, 3) := by decide +kernel
theorem dX8_lawful_39 : decode cX8_lawful 39 = .ok (.aload_n 0, 1) := by decide +kernel
theorem dX8_lawful_40 : decode cX8_lawful 40 = .ok (.iload_n 3, 1) := by decide +kernel
theorem dX8_lawful_41 : decode cX8_lawful 41 = .ok (.iconst 0, 1) := by decide +kernel
theorem dX8_lawful_42 : decode cX8_lawful 42 = .ok (.invokevirtual 258, 3) := by decide +kernel
theorem dX8_lawful_45 : decode cX8_lawful 45 = .ok (.ifCond .eq 7, 3) := by decide +kernel
theorem dX8_lawful_48 : decode cX8_lawful 48 = .ok (.iconst 1, 1) := by decide +kernel
theorem dX8_lawful_49 : decode cX8_lawful 49 = .ok (.goto 4, 3) := by decide +kernel
theorem dX8_lawful_52 : decode cX8_lawful 52 = .ok (.iconst 0, 1) := by decide +kernel
theorem dX8_lawful_53 : decode cX8_lawful 53 = .ok (.ireturn, 1) := by decide +kernel
theorem dX8_barred_0 : decode cX8_barred 0 = .ok (.aload_n 0, 1) := by decide +kernel
theorem dX8_barred_1 : decode cX8_barred 1 = .ok (.iload_n 1, 1) := by decide +kernel
theorem dX8_barred_2 : decode cX8_barred 2 = .ok (.invokevirtual 203, 3) := by decide +kernel
theorem dX8_barred_5 : decode cX8_barred 5 = .ok (.ifCond .eq 11, 3) := by decide +kernel
theorem dX8_barred_8 : decode cX8_barred 8 = .ok (.aload_n 0, 1) := by decide +kernel
theorem dX8_barred_9 : decode cX8_barred 9 = .ok (.iload_n 3, 1) := by decide +kernel
theorem dX8_barred_10 : decode cX8_barred 10 = .ok (.invokevirtual 255, 3) := by decide +kernel
theorem dX8_barred_13 : decode cX8_barred 13 = .ok (.ifCond .ne 5, 3) := by decide +kernel
theorem dX8_barred_16 : decode cX8_barred 16 = .ok (.iconst (-1), 1) := by decide +kernel
theorem dX8_barred_17 : decode cX8_barred 17 = .ok (.ireturn, 1) := by decide +kernel
theorem dX8_barred_18 : decode cX8_barred 18 = .ok (.aload_n 0, 1) := by decide +kernel
theorem dX8_barred_19 : decode cX8_barred 19 = .ok (.iload_n 1, 1) := by decide +kernel
theorem dX8_barred_20 : decode cX8_barred 20 = .ok (.iload_n 2, 1) := by decide +kernel
theorem dX8_barred_21 : decode cX8_barred 21 = .ok (.invokevirtual 227, 3) := by decide +kernel
theorem dX8_barred_24 : decode cX8_barred 24 = .ok (.ifCond .ne 6, 3) := by decide +kernel
theorem dX8_barred_27 : decode cX8_barred 27 = .ok (.bipush (-2), 2) := by decide +kernel
theorem dX8_barred_29 : decode cX8_barred 29 = .ok (.ireturn, 1) := by decide +kernel
theorem dX8_barred_30 : decode cX8_barred 30 = .ok (.aload_n 0, 1) := by decide +kernel
theorem dX8_barred_31 : decode cX8_barred 31 = .ok (.iload_n 1, 1) := by decide +kernel
theorem dX8_barred_32 : decode cX8_barred 32 = .ok (.iload_n 2, 1) := by decide +kernel
theorem dX8_barred_33 : decode cX8_barred 33 = .ok (.invokevirtual 230, 3) := by decide +kernel
theorem dX8_barred_36 : decode cX8_barred 36 = .ok (.ifCond .ne 6, 3) := by decide +kernel
theorem dX8_barred_39 : decode cX8_barred 39 = .ok (.bipush (-3), 2) := by decide +kernel
theorem dX8_barred_41 : decode cX8_barred 41 = .ok (.ireturn, 1) := by decide +kernel
theorem dX8_barred_42 : decode cX8_barred 42 = .ok (.iconst 0, 1) := by decide +kernel
theorem dX8_barred_43 : decode cX8_barred 43 = .ok (.istore 4, 2) := by decide +kernel
theorem dX8_barred_45 : decode cX8_barred 45 = .ok (.iconst 0, 1) := by decide +kernel
theorem dX8_barred_46 : decode cX8_barred 46 = .ok (.istore 5, 2) := by decide +kernel
theorem dX8_barred_48 : decode cX8_barred 48 = .ok (.iload 5, 2) := by decide +kernel
theorem dX8_barred_50 : decode cX8_barred 50 = .ok (.aload_n 0, 1) := by decide +kernel
theorem dX8_barred_51 : decode cX8_barred 51 = .ok (.getfield 95, 3) := by decide +kernel
theorem dX8_barred_54 : decode cX8_barred 54 = .ok (.if_icmp .ge 32, 3) := by decide +kernel
theorem dX8_barred_57 : decode cX8_barred 57 = .ok (.iload 4, 2) := by decide +kernel
theorem dX8_barred_59 : decode cX8_barred 59 = .ok (.aload_n 0, 1) := by decide +kernel
theorem dX8_barred_60 : decode cX8_barred 60 = .ok (.iload_n 3, 1) := by decide +kernel
theorem dX8_barred_61 : decode cX8_barred 61 = .ok (.iload 5, 2) := by decide +kernel
theorem dX8_barred_63 : decode cX8_barred 63 = .ok (.invokevirtual 249, 3) := by decide +kernel
theorem dX8_barred_66 : decode cX8_barred 66 = .ok (.ifCond .eq 10, 3) := by decide +kernel
theorem dX8_barred_69 : decode cX8_barred 69 = .ok (.iconst 1, 1) := by decide +kernel
theorem dX8_barred_70 : decode cX8_barred 70 = .ok (.iload 5, 2) := by decide +kernel
theorem dX8_barred_72 : decode cX8_barred 72 = .ok (.ishl, 1) := by decide +kernel
theorem dX8_barred_73 : decode cX8_barred 73 = .ok (.goto 4, 3) := by decide +kernel
theorem dX8_barred_76 : decode cX8_barred 76 = .ok (.iconst 0, 1) := by decide +kernel
theorem dX8_barred_77 : decode cX8_barred 77 = .ok (.ior, 1) := by decide +kernel
theorem dX8_barred_78 : decode cX8_barred 78 = .ok (.istore 4, 2) := by decide +kernel
theorem dX8_barred_80 : decode cX8_barred 80 = .ok (.iinc 5 1, 3) := by decide +kernel
theorem dX8_barred_83 : decode cX8_barred 83 = .ok (.goto (-35), 3) := by decide +kernel
theorem dX8_barred_86 : decode cX8_barred 86 = .ok (.iload 4, 2) := by decide +kernel
theorem dX8_barred_88 : decode cX8_barred 88 = .ok (.ireturn, 1) := by decide +kernel
theorem dX8_readWhole_0 : decode cX8_readWhole 0 = .ok (.aload_n 0, 1) := by decide +kernel
theorem dX8_readWhole_1 : decode cX8_readWhole 1 = .ok (.aload_n 0, 1) := by decide +kernel
theorem dX8_readWhole_2 : decode cX8_readWhole 2 = .ok (.iload_n 1, 1) := by decide +kernel
theorem dX8_readWhole_3 : decode cX8_readWhole 3 = .ok (.iconst 0, 1) := by decide +kernel
theorem dX8_readWhole_4 : decode cX8_readWhole 4 = .ok (.invokevirtual 230, 3) := by decide +kernel
theorem dX8_readWhole_7 : decode cX8_readWhole 7 = .ok (.ifCond .eq 10, 3) := by decide +kernel
theorem dX8_readWhole_10 : decode cX8_readWhole 10 = .ok (.aload_n 0, 1) := by decide +kernel
theorem dX8_readWhole_11 : decode cX8_readWhole 11 = .ok (.getfield 95, 3) := by decide +kernel
theorem dX8_readWhole_14 : decode cX8_readWhole 14 = .ok (.goto 4, 3) := by decide +kernel
theorem dX8_readWhole_17 : decode cX8_readWhole 17 = .ok (.iconst (-1), 1) := by decide +kernel
theorem dX8_readWhole_18 : decode cX8_readWhole 18 = .ok (.putfield 112, 3) := by decide +kernel
theorem dX8_readWhole_21 : decode cX8_readWhole 21 = .ok (.iconst 0, 1) := by decide +kernel
theorem dX8_readWhole_22 : decode cX8_readWhole 22 = .ok (.istore_n 2, 1) := by decide +kernel
theorem dX8_readWhole_23 : decode cX8_readWhole 23 = .ok (.iload_n 2, 1) := by decide +kernel
theorem dX8_readWhole_24 : decode cX8_readWhole 24 = .ok (.aload_n 0, 1) := by decide +kernel
theorem dX8_readWhole_25 : decode cX8_readWhole 25 = .ok (.getfield 112, 3) := by decide +kernel
theorem dX8_readWhole_28 : decode cX8_readWhole 28 = .ok (.if_icmp .ge 20, 3) := by decide +kernel
theorem dX8_readWhole_31 : decode cX8_readWhole 31 = .ok (.aload_n 0, 1) := by decide +kernel
theorem dX8_readWhole_32 : decode cX8_readWhole 32 = .ok (.getfield 108, 3) := by decide +kernel
theorem dX8_readWhole_35 : decode cX8_readWhole 35 = .ok (.iload_n 2, 1) := by decide +kernel
theorem dX8_readWhole_36 : decode cX8_readWhole 36 = .ok (.aload_n 0, 1) := by decide +kernel
theorem dX8_readWhole_37 : decode cX8_readWhole 37 = .ok (.iload_n 2, 1) := by decide +kernel
theorem dX8_readWhole_38 : decode cX8_readWhole 38 = .ok (.invokevirtual 235, 3) := by decide +kernel
theorem dX8_readWhole_41 : decode cX8_readWhole 41 = .ok (.lastore, 1) := by decide +kernel
theorem dX8_readWhole_42 : decode cX8_readWhole 42 = .ok (.iinc 2 1, 3) := by decide +kernel
theorem dX8_readWhole_45 : decode cX8_readWhole 45 = .ok (.goto (-22), 3) := by decide +kernel
theorem dX8_readWhole_48 : decode cX8_readWhole 48 = .ok (.return_, 1) := by decide +kernel
theorem dX8_makesSense_0 : decode cX8_makesSense 0 = .ok (.aload_n 0, 1) := by decide +kernel
theorem dX8_makesSense_1 : decode cX8_makesSense 1 = .ok (.getfield 112, 3) := by decide +kernel
theorem dX8_makesSense_4 : decode cX8_makesSense 4 = .ok (.ifCond .lt 12, 3) := by decide +kernel
theorem dX8_makesSense_7 : decode cX8_makesSense 7 = .ok (.aload_n 0, 1) := by decide +kernel
theorem dX8_makesSense_8 : decode cX8_makesSense 8 = .ok (.iload_n 1, 1) := by decide +kernel
theorem dX8_makesSense_9 : decode cX8_makesSense 9 = .ok (.iload_n 2, 1) := by decide +kernel
theorem dX8_makesSense_10 : decode cX8_makesSense 10 = .ok (.invokevirtual 230, 3) := by decide +kernel
theorem dX8_makesSense_13 : decode cX8_makesSense 13 = .ok (.ifCond .ne 5, 3) := by decide +kernel
theorem dX8_makesSense_16 : decode cX8_makesSense 16 = .ok (.iconst 0, 1) := by decide +kernel
theorem dX8_makesSense_17 : decode cX8_makesSense 17 = .ok (.ireturn, 1) := by decide +kernel
theorem dX8_makesSense_18 : decode cX8_makesSense 18 = .ok (.iconst 0, 1) := by decide +kernel
theorem dX8_makesSense_19 : decode cX8_makesSense 19 = .ok (.istore_n 3, 1) := by decide +kernel
theorem dX8_makesSense_20 : decode cX8_makesSense 20 = .ok (.iload_n 3, 1) := by decide +kernel
theorem dX8_makesSense_21 : decode cX8_makesSense 21 = .ok (.aload_n 0, 1) := by decide +kernel
theorem dX8_makesSense_22 : decode cX8_makesSense 22 = .ok (.getfield 95, 3) := by decide +kernel
theorem dX8_makesSense_25 : decode cX8_makesSense 25 = .ok (.if_icmp .ge 65, 3) := by decide +kernel
theorem dX8_makesSense_28 : decode cX8_makesSense 28 = .ok (.iconst 0, 1) := by decide +kernel
theorem dX8_makesSense_29 : decode cX8_makesSense 29 = .ok (.istore 4, 2) := by decide +kernel
theorem dX8_makesSense_31 : decode cX8_makesSense 31 = .ok (.iconst 0, 1) := by decide +kernel
theorem dX8_makesSense_32 : decode cX8_makesSense 32 = .ok (.istore 5, 2) := by decide +kernel
theorem dX8_makesSense_34 : decode cX8_makesSense 34 = .ok (.iload 5, 2) := by decide +kernel
theorem dX8_makesSense_36 : decode cX8_makesSense 36 = .ok (.aload_n 0, 1) := by decide +kernel
theorem dX8_makesSense_37 : decode cX8_makesSense 37 = .ok (.getfield 112, 3) := by decide +kernel
theorem dX8_makesSense_40 : decode cX8_makesSense 40 = .ok (.if_icmp .ge 37, 3) := by decide +kernel
theorem dX8_makesSense_43 : decode cX8_makesSense 43 = .ok (.iload 4, 2) := by decide +kernel
theorem dX8_makesSense_45 : decode cX8_makesSense 45 = .ok (.ifCond .ne 19, 3) := by decide +kernel
theorem dX8_makesSense_48 : decode cX8_makesSense 48 = .ok (.aload_n 0, 1) := by decide +kernel
theorem dX8_makesSense_49 : decode cX8_makesSense 49 = .ok (.getfield 108, 3) := by decide +kernel
theorem dX8_makesSense_52 : decode cX8_makesSense 52 = .ok (.iload 5, 2) := by decide +kernel
theorem dX8_makesSense_54 : decode cX8_makesSense 54 = .ok (.laload, 1) := by decide +kernel
theorem dX8_makesSense_55 : decode cX8_makesSense 55 = .ok (.aload_n 0, 1) := by decide +kernel
theorem dX8_makesSense_56 : decode cX8_makesSense 56 = .ok (.iload_n 3, 1) := by decide +kernel
theorem dX8_makesSense_57 : decode cX8_makesSense 57 = .ok (.invokevirtual 235, 3) := by decide +kernel
theorem dX8_makesSense_60 : decode cX8_makesSense 60 = .ok (.lcmp, 1) := by decide +kernel
theorem dX8_makesSense_61 : decode cX8_makesSense 61 = .ok (.ifCond .ne 7, 3) := by decide +kernel
theorem dX8_makesSense_64 : decode cX8_makesSense 64 = .ok (.iconst 1, 1) := by decide +kernel
theorem dX8_makesSense_65 : decode cX8_makesSense 65 = .ok (.goto 4, 3) := by decide +kernel
theorem dX8_makesSense_68 : decode cX8_makesSense 68 = .ok (.iconst 0, 1) := by decide +kernel
theorem dX8_makesSense_69 : decode cX8_makesSense 69 = .ok (.istore 4, 2) := by decide +kernel
theorem dX8_makesSense_71 : decode cX8_makesSense 71 = .ok (.iinc 5 1, 3) := by decide +kernel
theorem dX8_makesSense_74 : decode cX8_makesSense 74 = .ok (.goto (-40), 3) := by decide +kernel
theorem dX8_makesSense_77 : decode cX8_makesSense 77 = .ok (.iload 4, 2) := by decide +kernel
theorem dX8_makesSense_79 : decode cX8_makesSense 79 = .ok (.ifCond .ne 5, 3) := by decide +kernel
theorem dX8_makesSense_82 : decode cX8_makesSense 82 = .ok (.iconst 0, 1) := by decide +kernel
theorem dX8_makesSense_83 : decode cX8_makesSense 83 = .ok (.ireturn, 1) := by decide +kernel
theorem dX8_makesSense_84 : decode cX8_makesSense 84 = .ok (.iinc 3 1, 3) := by decide +kernel
theorem dX8_makesSense_87 : decode cX8_makesSense 87 = .ok (.goto (-67), 3) := by decide +kernel
theorem dX8_makesSense_90 : decode cX8_makesSense 90 = .ok (.iconst 1, 1) := by decide +kernel
theorem dX8_makesSense_91 : decode cX8_makesSense 91 = .ok (.ireturn, 1) := by decide +kernel
theorem dX8_isOf_0 : decode cX8_isOf 0 = .ok (.iload_n 1, 1) := by decide +kernel
theorem dX8_isOf_1 : decode cX8_isOf 1 = .ok (.iconst 2, 1) := by decide +kernel
theorem dX8_isOf_2 : decode cX8_isOf 2 = .ok (.if_icmp .ne 29, 3) := by decide +kernel
theorem dX8_isOf_5 : decode cX8_isOf 5 = .ok (.iload_n 2, 1) := by decide +kernel
theorem dX8_isOf_6 : decode cX8_isOf 6 = .ok (.bipush 119, 2) := by decide +kernel
theorem dX8_isOf_8 : decode cX8_isOf 8 = .ok (.if_icmp .eq 15, 3) := by decide +kernel
theorem dX8_isOf_11 : decode cX8_isOf 11 = .ok (.iload_n 2, 1) := by decide +kernel
theorem dX8_isOf_12 : decode cX8_isOf 12 = .ok (.bipush 38, 2) := by decide +kernel
theorem dX8_isOf_14 : decode cX8_isOf 14 = .ok (.if_icmp .eq 9, 3) := by decide +kernel
theorem dX8_isOf_17 : decode cX8_isOf 17 = .ok (.iload_n 2, 1) := by decide +kernel
theorem dX8_isOf_18 : decode cX8_isOf 18 = .ok (.bipush 44, 2) := by decide +kernel
theorem dX8_isOf_20 : decode cX8_isOf 20 = .ok (.if_icmp .ne 7, 3) := by decide +kernel
theorem dX8_isOf_23 : decode cX8_isOf 23 = .ok (.iconst 1, 1) := by decide +kernel
theorem dX8_isOf_24 : decode cX8_isOf 24 = .ok (.goto 24, 3) := by decide +kernel
theorem dX8_isOf_27 : decode cX8_isOf 27 = .ok (.iconst 0, 1) := by decide +kernel
theorem dX8_isOf_28 : decode cX8_isOf 28 = .ok (.goto 20, 3) := by decide +kernel
theorem dX8_isOf_31 : decode cX8_isOf 31 = .ok (.iload_n 2, 1) := by decide +kernel
theorem dX8_isOf_32 : decode cX8_isOf 32 = .ok (.bipush 105, 2) := by decide +kernel
theorem dX8_isOf_34 : decode cX8_isOf 34 = .ok (.if_icmp .eq 9, 3) := by decide +kernel
theorem dX8_isOf_37 : decode cX8_isOf 37 = .ok (.iload_n 2, 1) := by decide +kernel
theorem dX8_isOf_38 : decode cX8_isOf 38 = .ok (.bipush 102, 2) := by decide +kernel
theorem dX8_isOf_40 : decode cX8_isOf 40 = .ok (.if_icmp .ne 7, 3) := by decide +kernel
theorem dX8_isOf_43 : decode cX8_isOf 43 = .ok (.iconst 1, 1) := by decide +kernel
theorem dX8_isOf_44 : decode cX8_isOf 44 = .ok (.goto 4, 3) := by decide +kernel
theorem dX8_isOf_47 : decode cX8_isOf 47 = .ok (.iconst 0, 1) := by decide +kernel
theorem dX8_isOf_48 : decode cX8_isOf 48 = .ok (.ireturn, 1) := by decide +kernel
theorem dX8_lets_0 : decode cX8_lets 0 = .ok (.aload_n 0, 1) := by decide +kernel
theorem dX8_lets_1 : decode cX8_lets 1 = .ok (.getfield 35, 3) := by decide +kernel
theorem dX8_lets_4 : decode cX8_lets 4 = .ok (.iload_n 2, 1) := by decide +kernel
theorem dX8_lets_5 : decode cX8_lets 5 = .ok (.iaload, 1) := by decide +kernel
theorem dX8_lets_6 : decode cX8_lets 6 = .ok (.istore 4, 2) := by decide +kernel
theorem dX8_lets_8 : decode cX8_lets 8 = .ok (.iload_n 1, 1) := by decide +kernel
theorem dX8_lets_9 : decode cX8_lets 9 = .ok (.tableswitch 180 0 5 #[39, 39, 41, 91, 41, 166], 39) := by decide +kernel
theorem dX8_lets_48 : decode cX8_lets 48 = .ok (.iconst 1, 1) := by decide +kernel
theorem dX8_lets_49 : decode cX8_lets 49 = .ok (.ireturn, 1) := by decide +kernel
theorem dX8_lets_50 : decode cX8_lets 50 = .ok (.iconst 0, 1) := by decide +kernel
theorem dX8_lets_51 : decode cX8_lets 51 = .ok (.istore 5, 2) := by decide +kernel
theorem dX8_lets_53 : decode cX8_lets 53 = .ok (.iload 5, 2) := by decide +kernel
theorem dX8_lets_55 : decode cX8_lets 55 = .ok (.iload 4, 2) := by decide +kernel
theorem dX8_lets_57 : decode cX8_lets 57 = .ok (.if_icmp .ge 41, 3) := by decide +kernel
theorem dX8_lets_60 : decode cX8_lets 60 = .ok (.aload_n 0, 1) := by decide +kernel
theorem dX8_lets_61 : decode cX8_lets 61 = .ok (.iload_n 3, 1) := by decide +kernel
theorem dX8_lets_62 : decode cX8_lets 62 = .ok (.iload 5, 2) := by decide +kernel
theorem dX8_lets_64 : decode cX8_lets 64 = .ok (.invokevirtual 219, 3) := by decide +kernel
theorem dX8_lets_67 : decode cX8_lets 67 = .ok (.ifCond .eq 25, 3) := by decide +kernel
theorem dX8_lets_70 : decode cX8_lets 70 = .ok (.aload_n 0, 1) := by decide +kernel
theorem dX8_lets_71 : decode cX8_lets 71 = .ok (.iload_n 1, 1) := by decide +kernel
theorem dX8_lets_72 : decode cX8_lets 72 = .ok (.aload_n 0, 1) := by decide +kernel
theorem dX8_lets_73 : decode cX8_lets 73 = .ok (.getfield 29, 3) := by decide +kernel
theorem dX8_lets_76 : decode cX8_lets 76 = .ok (.bipush 12, 2) := by decide +kernel
theorem dX8_lets_78 : decode cX8_lets 78 = .ok (.iload_n 2, 1) := by decide +kernel
theorem dX8_lets_79 : decode cX8_lets 79 = .ok (.imul, 1) := by decide +kernel
theorem dX8_lets_80 : decode cX8_lets 80 = .ok (.iload 5, 2) := by decide +kernel
theorem dX8_lets_82 : decode cX8_lets 82 = .ok (.iadd, 1) := by decide +kernel
theorem dX8_lets_83 : decode cX8_lets 83 = .ok (.iaload, 1) := by decide +kernel
theorem dX8_lets_84 : decode cX8_lets 84 = .ok (.invokevirtual 261, 3) := by decide +kernel
theorem dX8_lets_87 : decode cX8_lets 87 = .ok (.ifCond .ne 5, 3) := by decide +kernel
theorem dX8_lets_90 : decode cX8_lets 90 = .ok (.iconst 0, 1) := by decide +kernel
theorem dX8_lets_91 : decode cX8_lets 91 = .ok (.ireturn, 1) := by decide +kernel
theorem dX8_lets_92 : decode cX8_lets 92 = .ok (.iinc 5 1, 3) := by decide +kernel
theorem dX8_lets_95 : decode cX8_lets 95 = .ok (.goto (-42), 3) := by decide +kernel
theorem dX8_lets_98 : decode cX8_lets 98 = .ok (.iconst 1, 1) := by decide +kernel
theorem dX8_lets_99 : decode cX8_lets 99 = .ok (.ireturn, 1) := by decide +kernel
theorem dX8_lets_100 : decode cX8_lets 100 = .ok (.iconst 1, 1) := by decide +kernel
theorem dX8_lets_101 : decode cX8_lets 101 = .ok (.istore 5, 2) := by decide +kernel
theorem dX8_lets_103 : decode cX8_lets 103 = .ok (.iload 5, 2) := by decide +kernel
theorem dX8_lets_105 : decode cX8_lets 105 = .ok (.iload 4, 2) := by decide +kernel
theorem dX8_lets_107 : decode cX8_lets 107 = .ok (.if_icmp .ge 66, 3) := by decide +kernel
theorem dX8_lets_110 : decode cX8_lets 110 = .ok (.aload_n 0, 1) := by decide +kernel
theorem dX8_lets_111 : decode cX8_lets 111 = .ok (.getfield 29, 3) := by decide +kernel
theorem dX8_lets_114 : decode cX8_lets 114 = .ok (.bipush 12, 2) := by decide +kernel
theorem dX8_lets_116 : decode cX8_lets 116 = .ok (.iload_n 2, 1) := by decide +kernel
theorem dX8_lets_117 : decode cX8_lets 117 = .ok (.imul, 1) := by decide +kernel
theorem dX8_lets_118 : decode cX8_lets 118 = .ok (.iload 5, 2) := by decide +kernel
theorem dX8_lets_120 : decode cX8_lets 120 = .ok (.iadd, 1) := by decide +kernel
theorem dX8_lets_121 : decode cX8_lets 121 = .ok (.iaload, 1) := by decide +kernel
theorem dX8_lets_122 : decode cX8_lets 122 = .ok (.bipush 59, 2) := by decide +kernel
theorem dX8_lets_124 : decode cX8_lets 124 = .ok (.if_icmp .eq 43, 3) := by decide +kernel
theorem dX8_lets_127 : decode cX8_lets 127 = .ok (.aload_n 0, 1) := by decide +kernel
theorem dX8_lets_128 : decode cX8_lets 128 = .ok (.getfield 29, 3) := by decide +kernel
theorem dX8_lets_131 : decode cX8_lets 131 = .ok (.bipush 12, 2) := by decide +kernel
theorem dX8_lets_133 : decode cX8_lets 133 = .ok (.iload_n 2, 1) := by decide +kernel
theorem dX8_lets_134 : decode cX8_lets 134 = .ok (.imul, 1) := by decide +kernel
theorem dX8_lets_135 : decode cX8_lets 135 = .ok (.iload 5, 2) := by decide +kernel
theorem dX8_lets_137 : decode cX8_lets 137 = .ok (.iadd, 1) := by decide +kernel
theorem dX8_lets_138 : decode cX8_lets 138 = .ok (.iconst 1, 1) := by decide +kernel
theorem dX8_lets_139 : decode cX8_lets 139 = .ok (.isub, 1) := by decide +kernel
theorem dX8_lets_140 : decode cX8_lets 140 = .ok (.iaload, 1) := by decide +kernel
theorem dX8_lets_141 : decode cX8_lets 141 = .ok (.bipush 59, 2) := by decide +kernel
theorem dX8_lets_143 : decode cX8_lets 143 = .ok (.if_icmp .eq 24, 3) := by decide +kernel
theorem dX8_lets_146 : decode cX8_lets 146 = .ok (.aload_n 0, 1) := by decide +kernel
theorem dX8_lets_147 : decode cX8_lets 147 = .ok (.iload_n 3, 1) := by decide +kernel
theorem dX8_lets_148 : decode cX8_lets 148 = .ok (.iload 5, 2) := by decide +kernel
theorem dX8_lets_150 : decode cX8_lets 150 = .ok (.invokevirtual 219, 3) := by decide +kernel
theorem dX8_lets_153 : decode cX8_lets 153 = .ok (.aload_n 0, 1) := by decide +kernel
theorem dX8_lets_154 : decode cX8_lets 154 = .ok (.iload_n 3, 1) := by decide +kernel
theorem dX8_lets_155 : decode cX8_lets 155 = .ok (.iload 5, 2) := by decide +kernel
theorem dX8_lets_157 : decode cX8_lets 157 = .ok (.iconst 1, 1) := by decide +kernel
theorem dX8_lets_158 : decode cX8_lets 158 = .ok (.isub, 1) := by decide +kernel
theorem dX8_lets_159 : decode cX8_lets 159 = .ok (.invokevirtual 219, 3) := by decide +kernel
theorem dX8_lets_162 : decode cX8_lets 162 = .ok (.if_icmp .eq 5, 3) := by decide +kernel
theorem dX8_lets_165 : decode cX8_lets 165 = .ok (.iconst 0, 1) := by decide +kernel
theorem dX8_lets_166 : decode cX8_lets 166 = .ok (.ireturn, 1) := by decide +kernel
theorem dX8_lets_167 : decode cX8_lets 167 = .ok (.iinc 5 1, 3) := by decide +kernel
theorem dX8_lets_170 : decode cX8_lets 170 = .ok (.goto (-67), 3) := by decide +kernel
theorem dX8_lets_173 : decode cX8_lets 173 = .ok (.iconst 1, 1) := by decide +kernel
theorem dX8_lets_174 : decode cX8_lets 174 = .ok (.ireturn, 1) := by decide +kernel
theorem dX8_lets_175 : decode cX8_lets 175 = .ok (.iload_n 3, 1) := by decide +kernel
theorem dX8_lets_176 : decode cX8_lets 176 = .ok (.iload_n 3, 1) := by decide +kernel
theorem dX8_lets_177 : decode cX8_lets 177 = .ok (.iconst 1, 1) := by decide +kernel
theorem dX8_lets_178 : decode cX8_lets 178 = .ok (.iadd, 1) := by decide +kernel
theorem dX8_lets_179 : decode cX8_lets 179 = .ok (.iand, 1) := by decide +kernel
theorem dX8_lets_180 : decode cX8_lets 180 = .ok (.ifCond .ne 7, 3) := by decide +kernel
theorem dX8_lets_183 : decode cX8_lets 183 = .ok (.iconst 1, 1) := by decide +kernel
theorem dX8_lets_184 : decode cX8_lets 184 = .ok (.goto 4, 3) := by decide +kernel
theorem dX8_lets_187 : decode cX8_lets 187 = .ok (.iconst 0, 1) := by decide +kernel
theorem dX8_lets_188 : decode cX8_lets 188 = .ok (.ireturn, 1) := by decide +kernel
theorem dX8_lets_189 : decode cX8_lets 189 = .ok (.aload_n 0, 1) := by decide +kernel
theorem dX8_lets_190 : decode cX8_lets 190 = .ok (.iload_n 2, 1) := by decide +kernel
theorem dX8_lets_191 : decode cX8_lets 191 = .ok (.iload_n 3, 1) := by decide +kernel
theorem dX8_lets_192 : decode cX8_lets 192 = .ok (.invokevirtual 264, 3) := by decide +kernel
theorem dX8_lets_195 : decode cX8_lets 195 = .ok (.ireturn, 1) := by decide +kernel
theorem dX8_let_0 : decode cX8_let 0 = .ok (.aload_n 0, 1) := by decide +kernel
theorem dX8_let_1 : decode cX8_let 1 = .ok (.iload_n 1, 1) := by decide +kernel
theorem dX8_let_2 : decode cX8_let 2 = .ok (.invokevirtual 267, 3) := by decide +kernel
theorem dX8_let_5 : decode cX8_let 5 = .ok (.ifCond .eq 11, 3) := by decide +kernel
theorem dX8_let_8 : decode cX8_let 8 = .ok (.aload_n 0, 1) := by decide +kernel
theorem dX8_let_9 : decode cX8_let 9 = .ok (.iload_n 2, 1) := by decide +kernel
theorem dX8_let_10 : decode cX8_let 10 = .ok (.invokevirtual 203, 3) := by decide +kernel
theorem dX8_let_13 : decode cX8_let 13 = .ok (.ifCond .ne 5, 3) := by decide +kernel
theorem dX8_let_16 : decode cX8_let 16 = .ok (.iconst (-1), 1) := by decide +kernel
theorem dX8_let_17 : decode cX8_let 17 = .ok (.ireturn, 1) := by decide +kernel
theorem dX8_let_18 : decode cX8_let 18 = .ok (.aload_n 0, 1) := by decide +kernel
theorem dX8_let_19 : decode cX8_let 19 = .ok (.iload_n 2, 1) := by decide +kernel
theorem dX8_let_20 : decode cX8_let 20 = .ok (.iload_n 3, 1) := by decide +kernel
theorem dX8_let_21 : decode cX8_let 21 = .ok (.invokevirtual 227, 3) := by decide +kernel
theorem dX8_let_24 : decode cX8_let 24 = .ok (.ifCond .ne 6, 3) := by decide +kernel
theorem dX8_let_27 : decode cX8_let 27 = .ok (.bipush (-2), 2) := by decide +kernel
theorem dX8_let_29 : decode cX8_let 29 = .ok (.ireturn, 1) := by decide +kernel
theorem dX8_let_30 : decode cX8_let 30 = .ok (.aload_n 0, 1) := by decide +kernel
theorem dX8_let_31 : decode cX8_let 31 = .ok (.iload_n 2, 1) := by decide +kernel
theorem dX8_let_32 : decode cX8_let 32 = .ok (.invokevirtual 270, 3) := by decide +kernel
theorem dX8_let_35 : decode cX8_let 35 = .ok (.aload_n 0, 1) := by decide +kernel
theorem dX8_let_36 : decode cX8_let 36 = .ok (.iload_n 1, 1) := by decide +kernel
theorem dX8_let_37 : decode cX8_let 37 = .ok (.iload_n 2, 1) := by decide +kernel
theorem dX8_let_38 : decode cX8_let 38 = .ok (.iload_n 3, 1) := by decide +kernel
theorem dX8_let_39 : decode cX8_let 39 = .ok (.invokevirtual 273, 3) := by decide +kernel
theorem dX8_let_42 : decode cX8_let 42 = .ok (.ifCond .eq 7, 3) := by decide +kernel
theorem dX8_let_45 : decode cX8_let 45 = .ok (.iconst 1, 1) := by decide +kernel
theorem dX8_let_46 : decode cX8_let 46 = .ok (.goto 4, 3) := by decide +kernel
theorem dX8_let_49 : decode cX8_let 49 = .ok (.iconst 0, 1) := by decide +kernel
theorem dX8_let_50 : decode cX8_let 50 = .ok (.ireturn, 1) := by decide +kernel
theorem dX8_asksSense_0 : decode cX8_asksSense 0 = .ok (.bipush 8, 2) := by decide +kernel
theorem dX8_asksSense_2 : decode cX8_asksSense 2 = .ok (.iload_n 1, 1) := by decide +kernel
theorem dX8_asksSense_3 : decode cX8_asksSense 3 = .ok (.imul, 1) := by decide +kernel
theorem dX8_asksSense_4 : decode cX8_asksSense 4 = .ok (.istore_n 2, 1) := by decide +kernel
theorem dX8_asksSense_5 : decode cX8_asksSense 5 = .ok (.iload_n 2, 1) := by decide +kernel
theorem dX8_asksSense_6 : decode cX8_asksSense 6 = .ok (.bipush 8, 2) := by decide +kernel
theorem dX8_asksSense_8 : decode cX8_asksSense 8 = .ok (.iload_n 1, 1) := by decide +kernel
theorem dX8_asksSense_9 : decode cX8_asksSense 9 = .ok (.imul, 1) := by decide +kernel
theorem dX8_asksSense_10 : decode cX8_asksSense 10 = .ok (.aload_n 0, 1) := by decide +kernel
theorem dX8_asksSense_11 : decode cX8_asksSense 11 = .ok (.getfield 38, 3) := by decide +kernel
theorem dX8_asksSense_14 : decode cX8_asksSense 14 = .ok (.iload_n 1, 1) := by decide +kernel
theorem dX8_asksSense_15 : decode cX8_asksSense 15 = .ok (.iaload, 1) := by decide +kernel
theorem dX8_asksSense_16 : decode cX8_asksSense 16 = .ok (.iadd, 1) := by decide +kernel
theorem dX8_asksSense_17 : decode cX8_asksSense 17 = .ok (.if_icmp .ge 21, 3) := by decide +kernel
theorem dX8_asksSense_20 : decode cX8_asksSense 20 = .ok (.aload_n 0, 1) := by decide +kernel
theorem dX8_asksSense_21 : decode cX8_asksSense 21 = .ok (.getfield 41, 3) := by decide +kernel
theorem dX8_asksSense_24 : decode cX8_asksSense 24 = .ok (.iload_n 2, 1) := by decide +kernel
theorem dX8_asksSense_25 : decode cX8_asksSense 25 = .ok (.iaload, 1) := by decide +kernel
theorem dX8_asksSense_26 : decode cX8_asksSense 26 = .ok (.iconst 3, 1) := by decide +kernel
theorem dX8_asksSense_27 : decode cX8_asksSense 27 = .ok (.if_icmp .ne 5, 3) := by decide +kernel
theorem dX8_asksSense_30 : decode cX8_asksSense 30 = .ok (.iconst 1, 1) := by decide +kernel
theorem dX8_asksSense_31 : decode cX8_asksSense 31 = .ok (.ireturn, 1) := by decide +kernel
theorem dX8_asksSense_32 : decode cX8_asksSense 32 = .ok (.iinc 2 1, 3) := by decide +kernel
theorem dX8_asksSense_35 : decode cX8_asksSense 35 = .ok (.goto (-30), 3) := by decide +kernel
theorem dX8_asksSense_38 : decode cX8_asksSense 38 = .ok (.iconst 0, 1) := by decide +kernel
theorem dX8_asksSense_39 : decode cX8_asksSense 39 = .ok (.ireturn, 1) := by decide +kernel
theorem dX8_findFine_0 : decode cX8_findFine 0 = .ok (.aload_n 0, 1) := by decide +kernel
theorem dX8_findFine_1 : decode cX8_findFine 1 = .ok (.iload_n 1, 1) := by decide +kernel
theorem dX8_findFine_2 : decode cX8_findFine 2 = .ok (.invokevirtual 270, 3) := by decide +kernel
theorem dX8_findFine_5 : decode cX8_findFine 5 = .ok (.aload_n 0, 1) := by decide +kernel
theorem dX8_findFine_6 : decode cX8_findFine 6 = .ok (.getfield 118, 3) := by decide +kernel
theorem dX8_findFine_9 : decode cX8_findFine 9 = .ok (.iload_n 1, 1) := by decide +kernel
theorem dX8_findFine_10 : decode cX8_findFine 10 = .ok (.if_icmp .ne 12, 3) := by decide +kernel
theorem dX8_findFine_13 : decode cX8_findFine 13 = .ok (.aload_n 0, 1) := by decide +kernel
theorem dX8_findFine_14 : decode cX8_findFine 14 = .ok (.getfield 121, 3) := by decide +kernel
theorem dX8_findFine_17 : decode cX8_findFine 17 = .ok (.iload_n 2, 1) := by decide +kernel
theorem dX8_findFine_18 : decode cX8_findFine 18 = .ok (.if_icmp .ne 4, 3) := by decide +kernel
theorem dX8_findFine_21 : decode cX8_findFine 21 = .ok (.return_, 1) := by decide +kernel
theorem dX8_findFine_22 : decode cX8_findFine 22 = .ok (.aload_n 0, 1) := by decide +kernel
theorem dX8_findFine_23 : decode cX8_findFine 23 = .ok (.iload_n 1, 1) := by decide +kernel
theorem dX8_findFine_24 : decode cX8_findFine 24 = .ok (.putfield 118, 3) := by decide +kernel
theorem dX8_findFine_27 : decode cX8_findFine 27 = .ok (.aload_n 0, 1) := by decide +kernel
theorem dX8_findFine_28 : decode cX8_findFine 28 = .ok (.iload_n 2, 1) := by decide +kernel
theorem dX8_findFine_29 : decode cX8_findFine 29 = .ok (.putfield 121, 3) := by decide +kernel
theorem dX8_findFine_32 : decode cX8_findFine 32 = .ok (.aload_n 0, 1) := by decide +kernel
theorem dX8_findFine_33 : decode cX8_findFine 33 = .ok (.iload_n 2, 1) := by decide +kernel
theorem dX8_findFine_34 : decode cX8_findFine 34 = .ok (.invokevirtual 276, 3) := by decide +kernel
theorem dX8_findFine_37 : decode cX8_findFine 37 = .ok (.istore_n 3, 1) := by decide +kernel
theorem dX8_findFine_38 : decode cX8_findFine 38 = .ok (.iconst 0, 1) := by decide +kernel
theorem dX8_findFine_39 : decode cX8_findFine 39 = .ok (.istore 4, 2) := by decide +kernel
theorem dX8_findFine_41 : decode cX8_findFine 41 = .ok (.iload 4, 2) := by decide +kernel
theorem dX8_findFine_43 : decode cX8_findFine 43 = .ok (.iconst 1, 1) := by decide +kernel
theorem dX8_findFine_44 : decode cX8_findFine 44 = .ok (.aload_n 0, 1) := by decide +kernel
theorem dX8_findFine_45 : decode cX8_findFine 45 = .ok (.getfield 35, 3) := by decide +kernel
theorem dX8_findFine_48 : decode cX8_findFine 48 = .ok (.iload_n 1, 1) := by decide +kernel
theorem dX8_findFine_49 : decode cX8_findFine 49 = .ok (.iaload, 1) := by decide +kernel
theorem dX8_findFine_50 : decode cX8_findFine 50 = .ok (.ishl, 1) := by decide +kernel
theorem dX8_findFine_51 : decode cX8_findFine 51 = .ok (.if_icmp .ge 54, 3) := by decide +kernel
theorem dX8_findFine_54 : decode cX8_findFine 54 = .ok (.aload_n 0, 1) := by decide +kernel
theorem dX8_findFine_55 : decode cX8_findFine 55 = .ok (.getfield 115, 3) := by decide +kernel
theorem dX8_findFine_58 : decode cX8_findFine 58 = .ok (.iload 4, 2) := by decide +kernel
theorem dX8_findFine_60 : decode cX8_findFine 60 = .ok (.aload_n 0, 1) := by decide +kernel
theorem dX8_findFine_61 : decode cX8_findFine 61 = .ok (.iload_n 1, 1) := by decide +kernel
theorem dX8_findFine_62 : decode cX8_findFine 62 = .ok (.iload 4, 2) := by decide +kernel
theorem dX8_findFine_64 : decode cX8_findFine 64 = .ok (.invokevirtual 230, 3) := by decide +kernel
theorem dX8_findFine_67 : decode cX8_findFine 67 = .ok (.ifCond .eq 30, 3) := by decide +kernel
theorem dX8_findFine_70 : decode cX8_findFine 70 = .ok (.aload_n 0, 1) := by decide +kernel
theorem dX8_findFine_71 : decode cX8_findFine 71 = .ok (.iload_n 2, 1) := by decide +kernel
theorem dX8_findFine_72 : decode cX8_findFine 72 = .ok (.iconst 0, 1) := by decide +kernel
theorem dX8_findFine_73 : decode cX8_findFine 73 = .ok (.invokevirtual 258, 3) := by decide +kernel
theorem dX8_findFine_76 : decode cX8_findFine 76 = .ok (.ifCond .eq 21, 3) := by decide +kernel
theorem dX8_findFine_79 : decode cX8_findFine 79 = .ok (.iload_n 3, 1) := by decide +kernel
theorem dX8_findFine_80 : decode cX8_findFine 80 = .ok (.ifCond .eq 13, 3) := by decide +kernel
theorem dX8_findFine_83 : decode cX8_findFine 83 = .ok (.aload_n 0, 1) := by decide +kernel
theorem dX8_findFine_84 : decode cX8_findFine 84 = .ok (.iload_n 1, 1) := by decide +kernel
theorem dX8_findFine_85 : decode cX8_findFine 85 = .ok (.iload 4, 2) := by decide +kernel
theorem dX8_findFine_87 : decode cX8_findFine 87 = .ok (.invokevirtual 264, 3) := by decide +kernel
theorem dX8_findFine_90 : decode cX8_findFine 90 = .ok (.ifCond .eq 7, 3) := by decide +kernel
theorem dX8_findFine_93 : decode cX8_findFine 93 = .ok (.iconst 1, 1) := by decide +kernel
theorem dX8_findFine_94 : decode cX8_findFine 94 = .ok (.goto 4, 3) := by decide +kernel
theorem dX8_findFine_97 : decode cX8_findFine 97 = .ok (.iconst 0, 1) := by decide +kernel
theorem dX8_findFine_98 : decode cX8_findFine 98 = .ok (.bastore, 1) := by decide +kernel
theorem dX8_findFine_99 : decode cX8_findFine 99 = .ok (.iinc 4 1, 3) := by decide +kernel
theorem dX8_findFine_102 : decode cX8_findFine 102 = .ok (.goto (-61), 3) := by decide +kernel
theorem dX8_findFine_105 : decode cX8_findFine 105 = .ok (.return_, 1) := by decide +kernel
theorem dX8_isGood_0 : decode cX8_isGood 0 = .ok (.aload_n 0, 1) := by decide +kernel
theorem dX8_isGood_1 : decode cX8_isGood 1 = .ok (.getfield 115, 3) := by decide +kernel
theorem dX8_isGood_4 : decode cX8_isGood 4 = .ok (.iload_n 3, 1) := by decide +kernel
theorem dX8_isGood_5 : decode cX8_isGood 5 = .ok (.baload, 1) := by decide +kernel
theorem dX8_isGood_6 : decode cX8_isGood 6 = .ok (.ifCond .eq 17, 3) := by decide +kernel
theorem dX8_isGood_9 : decode cX8_isGood 9 = .ok (.aload_n 0, 1) := by decide +kernel
theorem dX8_isGood_10 : decode cX8_isGood 10 = .ok (.iload_n 1, 1) := by decide +kernel
theorem dX8_isGood_11 : decode cX8_isGood 11 = .ok (.iload_n 2, 1) := by decide +kernel
theorem dX8_isGood_12 : decode cX8_isGood 12 = .ok (.iload_n 3, 1) := by decide +kernel
theorem dX8_isGood_13 : decode cX8_isGood 13 = .ok (.invokevirtual 273, 3) := by decide +kernel
theorem dX8_isGood_16 : decode cX8_isGood 16 = .ok (.ifCond .eq 7, 3) := by decide +kernel
theorem dX8_isGood_19 : decode cX8_isGood 19 = .ok (.iconst 1, 1) := by decide +kernel
theorem dX8_isGood_20 : decode cX8_isGood 20 = .ok (.goto 4, 3) := by decide +kernel
theorem dX8_isGood_23 : decode cX8_isGood 23 = .ok (.iconst 0, 1) := by decide +kernel
theorem dX8_isGood_24 : decode cX8_isGood 24 = .ok (.ireturn, 1) := by decide +kernel
theorem dX8_areGoods_0 : decode cX8_areGoods 0 = .ok (.aload_n 0, 1) := by decide +kernel
theorem dX8_areGoods_1 : decode cX8_areGoods 1 = .ok (.iload_n 1, 1) := by decide +kernel
theorem dX8_areGoods_2 : decode cX8_areGoods 2 = .ok (.invokevirtual 267, 3) := by decide +kernel
theorem dX8_areGoods_5 : decode cX8_areGoods 5 = .ok (.ifCond .eq 23, 3) := by decide +kernel
theorem dX8_areGoods_8 : decode cX8_areGoods 8 = .ok (.aload_n 0, 1) := by decide +kernel
theorem dX8_areGoods_9 : decode cX8_areGoods 9 = .ok (.iload_n 2, 1) := by decide +kernel
theorem dX8_areGoods_10 : decode cX8_areGoods 10 = .ok (.invokevirtual 203, 3) := by decide +kernel
theorem dX8_areGoods_13 : decode cX8_areGoods 13 = .ok (.ifCond .eq 15, 3) := by decide +kernel
theorem dX8_areGoods_16 : decode cX8_areGoods 16 = .ok (.aload_n 0, 1) := by decide +kernel
theorem dX8_areGoods_17 : decode cX8_areGoods 17 = .ok (.iload_n 3, 1) := by decide +kernel
theorem dX8_areGoods_18 : decode cX8_areGoods 18 = .ok (.invokevirtual 255, 3) := by decide +kernel
theorem dX8_areGoods_21 : decode cX8_areGoods 21 = .ok (.ifCond .eq 7, 3) := by decide +kernel
theorem dX8_areGoods_24 : decode cX8_areGoods 24 = .ok (.iconst 1, 1) := by decide +kernel
theorem dX8_areGoods_25 : decode cX8_areGoods 25 = .ok (.goto 4, 3) := by decide +kernel
theorem dX8_areGoods_28 : decode cX8_areGoods 28 = .ok (.iconst 0, 1) := by decide +kernel
theorem dX8_areGoods_29 : decode cX8_areGoods 29 = .ok (.ireturn, 1) := by decide +kernel
theorem dX8_good_0 : decode cX8_good 0 = .ok (.aload_n 0, 1) := by decide +kernel
theorem dX8_good_1 : decode cX8_good 1 = .ok (.iload_n 1, 1) := by decide +kernel
theorem dX8_good_2 : decode cX8_good 2 = .ok (.iload_n 2, 1) := by decide +kernel
theorem dX8_good_3 : decode cX8_good 3 = .ok (.iload_n 3, 1) := by decide +kernel
theorem dX8_good_4 : decode cX8_good 4 = .ok (.invokevirtual 279, 3) := by decide +kernel
theorem dX8_good_7 : decode cX8_good 7 = .ok (.ifCond .eq 9, 3) := by decide +kernel
theorem dX8_good_10 : decode cX8_good 10 = .ok (.iload 4, 2) := by decide +kernel
theorem dX8_good_12 : decode cX8_good 12 = .ok (.iconst (-1), 1) := by decide +kernel
theorem dX8_good_13 : decode cX8_good 13 = .ok (.if_icmp .ge 5, 3) := by decide +kernel
theorem dX8_good_16 : decode cX8_good 16 = .ok (.iconst (-1), 1) := by decide +kernel
theorem dX8_good_17 : decode cX8_good 17 = .ok (.ireturn, 1) := by decide +kernel
theorem dX8_good_18 : decode cX8_good 18 = .ok (.aload_n 0, 1) := by decide +kernel
theorem dX8_good_19 : decode cX8_good 19 = .ok (.iload_n 2, 1) := by decide +kernel
theorem dX8_good_20 : decode cX8_good 20 = .ok (.iload_n 3, 1) := by decide +kernel
theorem dX8_good_21 : decode cX8_good 21 = .ok (.invokevirtual 282, 3) := by decide +kernel
theorem dX8_good_24 : decode cX8_good 24 = .ok (.iconst 0, 1) := by decide +kernel
theorem dX8_good_25 : decode cX8_good 25 = .ok (.istore 5, 2) := by decide +kernel
theorem dX8_good_27 : decode cX8_good 27 = .ok (.iconst 0, 1) := by decide +kernel
theorem dX8_good_28 : decode cX8_good 28 = .ok (.istore 6, 2) := by decide +kernel
theorem dX8_good_30 : decode cX8_good 30 = .ok (.iload 6, 2) := by decide +kernel
theorem dX8_good_32 : decode cX8_good 32 = .ok (.iconst 1, 1) := by decide +kernel
theorem dX8_good_33 : decode cX8_good 33 = .ok (.aload_n 0, 1) := by decide +kernel
theorem dX8_good_34 : decode cX8_good 34 = .ok (.getfield 35, 3) := by decide +kernel
theorem dX8_good_37 : decode cX8_good 37 = .ok (.iload_n 2, 1) := by decide +kernel
theorem dX8_good_38 : decode cX8_good 38 = .ok (.iaload, 1) := by decide +kernel
theorem dX8_good_39 : decode cX8_good 39 = .ok (.ishl, 1) := by decide +kernel
theorem dX8_good_40 : decode cX8_good 40 = .ok (.if_icmp .ge 36, 3) := by decide +kernel
theorem dX8_good_43 : decode cX8_good 43 = .ok (.aload_n 0, 1) := by decide +kernel
theorem dX8_good_44 : decode cX8_good 44 = .ok (.iload_n 1, 1) := by decide +kernel
theorem dX8_good_45 : decode cX8_good 45 = .ok (.iload_n 2, 1) := by decide +kernel
theorem dX8_good_46 : decode cX8_good 46 = .ok (.iload 6, 2) := by decide +kernel
theorem dX8_good_48 : decode cX8_good 48 = .ok (.invokevirtual 286, 3) := by decide +kernel
theorem dX8_good_51 : decode cX8_good 51 = .ok (.ifCond .ne 6, 3) := by decide +kernel
theorem dX8_good_54 : decode cX8_good 54 = .ok (.goto 16, 3) := by decide +kernel
theorem dX8_good_57 : decode cX8_good 57 = .ok (.iload 5, 2) := by decide +kernel
theorem dX8_good_59 : decode cX8_good 59 = .ok (.iload 4, 2) := by decide +kernel
theorem dX8_good_61 : decode cX8_good 61 = .ok (.if_icmp .ne 6, 3) := by decide +kernel
theorem dX8_good_64 : decode cX8_good 64 = .ok (.iload 6, 2) := by decide +kernel
theorem dX8_good_66 : decode cX8_good 66 = .ok (.ireturn, 1) := by decide +kernel
theorem dX8_good_67 : decode cX8_good 67 = .ok (.iinc 5 1, 3) := by decide +kernel
theorem dX8_good_70 : decode cX8_good 70 = .ok (.iinc 6 1, 3) := by decide +kernel
theorem dX8_good_73 : decode cX8_good 73 = .ok (.goto (-43), 3) := by decide +kernel
theorem dX8_good_76 : decode cX8_good 76 = .ok (.iload 4, 2) := by decide +kernel
theorem dX8_good_78 : decode cX8_good 78 = .ok (.ifCond .ge 8, 3) := by decide +kernel
theorem dX8_good_81 : decode cX8_good 81 = .ok (.iload 5, 2) := by decide +kernel
theorem dX8_good_83 : decode cX8_good 83 = .ok (.goto 4, 3) := by decide +kernel
theorem dX8_good_86 : decode cX8_good 86 = .ok (.iconst (-1), 1) := by decide +kernel
theorem dX8_good_87 : decode cX8_good 87 = .ok (.ireturn, 1) := by decide +kernel
theorem dX8_nextGood_0 : decode cX8_nextGood 0 = .ok (.iload_n 3, 1) := by decide +kernel
theorem dX8_nextGood_1 : decode cX8_nextGood 1 = .ok (.iconst 1, 1) := by decide +kernel
theorem dX8_nextGood_2 : decode cX8_nextGood 2 = .ok (.iadd, 1) := by decide +kernel
theorem dX8_nextGood_3 : decode cX8_nextGood 3 = .ok (.istore 4, 2) := by decide +kernel
theorem dX8_nextGood_5 : decode cX8_nextGood 5 = .ok (.iload 4, 2) := by decide +kernel
theorem dX8_nextGood_7 : decode cX8_nextGood 7 = .ok (.iconst 1, 1) := by decide +kernel
theorem dX8_nextGood_8 : decode cX8_nextGood 8 = .ok (.aload_n 0, 1) := by decide +kernel
theorem dX8_nextGood_9 : decode cX8_nextGood 9 = .ok (.getfield 35, 3) := by decide +kernel
theorem dX8_nextGood_12 : decode cX8_nextGood 12 = .ok (.iload_n 2, 1) := by decide +kernel
theorem dX8_nextGood_13 : decode cX8_nextGood 13 = .ok (.iaload, 1) := by decide +kernel
theorem dX8_nextGood_14 : decode cX8_nextGood 14 = .ok (.ishl, 1) := by decide +kernel
theorem dX8_nextGood_15 : decode cX8_nextGood 15 = .ok (.if_icmp .ge 23, 3) := by decide +kernel
theorem dX8_nextGood_18 : decode cX8_nextGood 18 = .ok (.aload_n 0, 1) := by decide +kernel
theorem dX8_nextGood_19 : decode cX8_nextGood 19 = .ok (.iload_n 1, 1) := by decide +kernel
theorem dX8_nextGood_20 : decode cX8_nextGood 20 = .ok (.iload_n 2, 1) := by decide +kernel
theorem dX8_nextGood_21 : decode cX8_nextGood 21 = .ok (.iload 4, 2) := by decide +kernel
theorem dX8_nextGood_23 : decode cX8_nextGood 23 = .ok (.invokevirtual 286, 3) := by decide +kernel
theorem dX8_nextGood_26 : decode cX8_nextGood 26 = .ok (.ifCond .eq 6, 3) := by decide +kernel
theorem dX8_nextGood_29 : decode cX8_nextGood 29 = .ok (.iload 4, 2) := by decide +kernel
theorem dX8_nextGood_31 : decode cX8_nextGood 31 = .ok (.ireturn, 1) := by decide +kernel
theorem dX8_nextGood_32 : decode cX8_nextGood 32 = .ok (.iinc 4 1, 3) := by decide +kernel
theorem dX8_nextGood_35 : decode cX8_nextGood 35 = .ok (.goto (-30), 3) := by decide +kernel
theorem dX8_nextGood_38 : decode cX8_nextGood 38 = .ok (.bipush (-5), 2) := by decide +kernel
theorem dX8_nextGood_40 : decode cX8_nextGood 40 = .ok (.ireturn, 1) := by decide +kernel
theorem dX8_next__0 : decode cX8_next_ 0 = .ok (.aload_n 0, 1) := by decide +kernel
theorem dX8_next__1 : decode cX8_next_ 1 = .ok (.iload_n 1, 1) := by decide +kernel
theorem dX8_next__2 : decode cX8_next_ 2 = .ok (.iload_n 2, 1) := by decide +kernel
theorem dX8_next__3 : decode cX8_next_ 3 = .ok (.iload_n 3, 1) := by decide +kernel
theorem dX8_next__4 : decode cX8_next_ 4 = .ok (.invokevirtual 279, 3) := by decide +kernel
theorem dX8_next__7 : decode cX8_next_ 7 = .ok (.ifCond .ne 5, 3) := by decide +kernel
theorem dX8_next__10 : decode cX8_next_ 10 = .ok (.iconst (-1), 1) := by decide +kernel
theorem dX8_next__11 : decode cX8_next_ 11 = .ok (.ireturn, 1) := by decide +kernel
theorem dX8_next__12 : decode cX8_next_ 12 = .ok (.iload 4, 2) := by decide +kernel
theorem dX8_next__14 : decode cX8_next_ 14 = .ok (.iconst (-1), 1) := by decide +kernel
theorem dX8_next__15 : decode cX8_next_ 15 = .ok (.if_icmp .eq 16, 3) := by decide +kernel
theorem dX8_next__18 : decode cX8_next_ 18 = .ok (.aload_n 0, 1) := by decide +kernel
theorem dX8_next__19 : decode cX8_next_ 19 = .ok (.iload_n 2, 1) := by decide +kernel
theorem dX8_next__20 : decode cX8_next_ 20 = .ok (.iload 4, 2) := by decide +kernel
theorem dX8_next__22 : decode cX8_next_ 22 = .ok (.invokevirtual 227, 3) := by decide +kernel
theorem dX8_next__25 : decode cX8_next_ 25 = .ok (.ifCond .ne 6, 3) := by decide +kernel
theorem dX8_next__28 : decode cX8_next_ 28 = .ok (.bipush (-2), 2) := by decide +kernel
theorem dX8_next__30 : decode cX8_next_ 30 = .ok (.ireturn, 1) := by decide +kernel
theorem dX8_next__31 : decode cX8_next_ 31 = .ok (.aload_n 0, 1) := by decide +kernel
theorem dX8_next__32 : decode cX8_next_ 32 = .ok (.iload_n 2, 1) := by decide +kernel
theorem dX8_next__33 : decode cX8_next_ 33 = .ok (.iload_n 3, 1) := by decide +kernel
theorem dX8_next__34 : decode cX8_next_ 34 = .ok (.invokevirtual 282, 3) := by decide +kernel
theorem dX8_next__37 : decode cX8_next_ 37 = .ok (.aload_n 0, 1) := by decide +kernel
theorem dX8_next__38 : decode cX8_next_ 38 = .ok (.iload_n 1, 1) := by decide +kernel
theorem dX8_next__39 : decode cX8_next_ 39 = .ok (.iload_n 2, 1) := by decide +kernel
theorem dX8_next__40 : decode cX8_next_ 40 = .ok (.iload 4, 2) := by decide +kernel
theorem dX8_next__42 : decode cX8_next_ 42 = .ok (.invokevirtual 289, 3) := by decide +kernel
theorem dX8_next__45 : decode cX8_next_ 45 = .ok (.ireturn, 1) := by decide +kernel
theorem dX8_least_0 : decode cX8_least 0 = .ok (.aload_n 0, 1) := by decide +kernel
theorem dX8_least_1 : decode cX8_least 1 = .ok (.iload_n 1, 1) := by decide +kernel
theorem dX8_least_2 : decode cX8_least 2 = .ok (.iload_n 2, 1) := by decide +kernel
theorem dX8_least_3 : decode cX8_least 3 = .ok (.iload_n 3, 1) := by decide +kernel
theorem dX8_least_4 : decode cX8_least 4 = .ok (.invokevirtual 279, 3) := by decide +kernel
theorem dX8_least_7 : decode cX8_least 7 = .ok (.ifCond .ne 5, 3) := by decide +kernel
theorem dX8_least_10 : decode cX8_least 10 = .ok (.iconst (-1), 1) := by decide +kernel
theorem dX8_least_11 : decode cX8_least 11 = .ok (.ireturn, 1) := by decide +kernel
theorem dX8_least_12 : decode cX8_least 12 = .ok (.aload_n 0, 1) := by decide +kernel
theorem dX8_least_13 : decode cX8_least 13 = .ok (.iload_n 2, 1) := by decide +kernel
theorem dX8_least_14 : decode cX8_least 14 = .ok (.iload_n 3, 1) := by decide +kernel
theorem dX8_least_15 : decode cX8_least 15 = .ok (.invokevirtual 282, 3) := by decide +kernel
theorem dX8_least_18 : decode cX8_least 18 = .ok (.bipush (-5), 2) := by decide +kernel
theorem dX8_least_20 : decode cX8_least 20 = .ok (.istore 4, 2) := by decide +kernel
theorem dX8_least_22 : decode cX8_least 22 = .ok (.aload_n 0, 1) := by decide +kernel
theorem dX8_least_23 : decode cX8_least 23 = .ok (.iload_n 1, 1) := by decide +kernel
theorem dX8_least_24 : decode cX8_least 24 = .ok (.iload_n 2, 1) := by decide +kernel
theorem dX8_least_25 : decode cX8_least 25 = .ok (.iconst (-1), 1) := by decide +kernel
theorem dX8_least_26 : decode cX8_least 26 = .ok (.invokevirtual 289, 3) := by decide +kernel
theorem dX8_least_29 : decode cX8_least 29 = .ok (.istore 5, 2) := by decide +kernel
theorem dX8_least_31 : decode cX8_least 31 = .ok (.iload 5, 2) := by decide +kernel
theorem dX8_least_33 : decode cX8_least 33 = .ok (.ifCond .lt 45, 3) := by decide +kernel
theorem dX8_least_36 : decode cX8_least 36 = .ok (.iload 4, 2) := by decide +kernel
theorem dX8_least_38 : decode cX8_least 38 = .ok (.ifCond .lt 18, 3) := by decide +kernel
theorem dX8_least_41 : decode cX8_least 41 = .ok (.aload_n 0, 1) := by decide +kernel
theorem dX8_least_42 : decode cX8_least 42 = .ok (.iload 5, 2) := by decide +kernel
theorem dX8_least_44 : decode cX8_least 44 = .ok (.invokevirtual 293, 3) := by decide +kernel
theorem dX8_least_47 : decode cX8_least 47 = .ok (.aload_n 0, 1) := by decide +kernel
theorem dX8_least_48 : decode cX8_least 48 = .ok (.iload 4, 2) := by decide +kernel
theorem dX8_least_50 : decode cX8_least 50 = .ok (.invokevirtual 293, 3) := by decide +kernel
theorem dX8_least_53 : decode cX8_least 53 = .ok (.if_icmp .ge 8, 3) := by decide +kernel
theorem dX8_least_56 : decode cX8_least 56 = .ok (.iload 5, 2) := by decide +kernel
theorem dX8_least_58 : decode cX8_least 58 = .ok (.goto 5, 3) := by decide +kernel
theorem dX8_least_61 : decode cX8_least 61 = .ok (.iload 4, 2) := by decide +kernel
theorem dX8_least_63 : decode cX8_least 63 = .ok (.istore 4, 2) := by decide +kernel
theorem dX8_least_65 : decode cX8_least 65 = .ok (.aload_n 0, 1) := by decide +kernel
theorem dX8_least_66 : decode cX8_least 66 = .ok (.iload_n 1, 1) := by decide +kernel
theorem dX8_least_67 : decode cX8_least 67 = .ok (.iload_n 2, 1) := by decide +kernel
theorem dX8_least_68 : decode cX8_least 68 = .ok (.iload 5, 2) := by decide +kernel
theorem dX8_least_70 : decode cX8_least 70 = .ok (.invokevirtual 289, 3) := by decide +kernel
theorem dX8_least_73 : decode cX8_least 73 = .ok (.istore 5, 2) := by decide +kernel
theorem dX8_least_75 : decode cX8_least 75 = .ok (.goto (-44), 3) := by decide +kernel
theorem dX8_least_78 : decode cX8_least 78 = .ok (.iload 4, 2) := by decide +kernel
theorem dX8_least_80 : decode cX8_least 80 = .ok (.ireturn, 1) := by decide +kernel
theorem dX8_inAll_0 : decode cX8_inAll 0 = .ok (.aload_n 0, 1) := by decide +kernel
theorem dX8_inAll_1 : decode cX8_inAll 1 = .ok (.iload_n 1, 1) := by decide +kernel
theorem dX8_inAll_2 : decode cX8_inAll 2 = .ok (.iload_n 2, 1) := by decide +kernel
theorem dX8_inAll_3 : decode cX8_inAll 3 = .ok (.iload_n 3, 1) := by decide +kernel
theorem dX8_inAll_4 : decode cX8_inAll 4 = .ok (.invokevirtual 279, 3) := by decide +kernel
theorem dX8_inAll_7 : decode cX8_inAll 7 = .ok (.ifCond .ne 5, 3) := by decide +kernel
theorem dX8_inAll_10 : decode cX8_inAll 10 = .ok (.iconst (-1), 1) := by decide +kernel
theorem dX8_inAll_11 : decode cX8_inAll 11 = .ok (.ireturn, 1) := by decide +kernel
theorem dX8_inAll_12 : decode cX8_inAll 12 = .ok (.aload_n 0, 1) := by decide +kernel
theorem dX8_inAll_13 : decode cX8_inAll 13 = .ok (.iload_n 2, 1) := by decide +kernel
theorem dX8_inAll_14 : decode cX8_inAll 14 = .ok (.iload_n 3, 1) := by decide +kernel
theorem dX8_inAll_15 : decode cX8_inAll 15 = .ok (.invokevirtual 282, 3) := by decide +kernel
theorem dX8_inAll_18 : decode cX8_inAll 18 = .ok (.iconst 1, 1) := by decide +kernel
theorem dX8_inAll_19 : decode cX8_inAll 19 = .ok (.aload_n 0, 1) := by decide +kernel
theorem dX8_inAll_20 : decode cX8_inAll 20 = .ok (.getfield 35, 3) := by decide +kernel
theorem dX8_inAll_23 : decode cX8_inAll 23 = .ok (.iload_n 2, 1) := by decide +kernel
theorem dX8_inAll_24 : decode cX8_inAll 24 = .ok (.iaload, 1) := by decide +kernel
theorem dX8_inAll_25 : decode cX8_inAll 25 = .ok (.ishl, 1) := by decide +kernel
theorem dX8_inAll_26 : decode cX8_inAll 26 = .ok (.iconst 1, 1) := by decide +kernel
theorem dX8_inAll_27 : decode cX8_inAll 27 = .ok (.isub, 1) := by decide +kernel
theorem dX8_inAll_28 : decode cX8_inAll 28 = .ok (.istore 4, 2) := by decide +kernel
theorem dX8_inAll_30 : decode cX8_inAll 30 = .ok (.aload_n 0, 1) := by decide +kernel
theorem dX8_inAll_31 : decode cX8_inAll 31 = .ok (.iload_n 1, 1) := by decide +kernel
theorem dX8_inAll_32 : decode cX8_inAll 32 = .ok (.iload_n 2, 1) := by decide +kernel
theorem dX8_inAll_33 : decode cX8_inAll 33 = .ok (.iconst (-1), 1) := by decide +kernel
theorem dX8_inAll_34 : decode cX8_inAll 34 = .ok (.invokevirtual 289, 3) := by decide +kernel
theorem dX8_inAll_37 : decode cX8_inAll 37 = .ok (.istore 5, 2) := by decide +kernel
theorem dX8_inAll_39 : decode cX8_inAll 39 = .ok (.iload 5, 2) := by decide +kernel
theorem dX8_inAll_41 : decode cX8_inAll 41 = .ok (.ifCond .lt 23, 3) := by decide +kernel
theorem dX8_inAll_44 : decode cX8_inAll 44 = .ok (.iload 4, 2) := by decide +kernel
theorem dX8_inAll_46 : decode cX8_inAll 46 = .ok (.iload 5, 2) := by decide +kernel
theorem dX8_inAll_48 : decode cX8_inAll 48 = .ok (.iand, 1) := by decide +kernel
theorem dX8_inAll_49 : decode cX8_inAll 49 = .ok (.istore 4, 2) := by decide +kernel
theorem dX8_inAll_51 : decode cX8_inAll 51 = .ok (.aload_n 0, 1) := by decide +kernel
theorem dX8_inAll_52 : decode cX8_inAll 52 = .ok (.iload_n 1, 1) := by decide +kernel
theorem dX8_inAll_53 : decode cX8_inAll 53 = .ok (.iload_n 2, 1) := by decide +kernel
theorem dX8_inAll_54 : decode cX8_inAll 54 = .ok (.iload 5, 2) := by decide +kernel
theorem dX8_inAll_56 : decode cX8_inAll 56 = .ok (.invokevirtual 289, 3) := by decide +kernel
theorem dX8_inAll_59 : decode cX8_inAll 59 = .ok (.istore 5, 2) := by decide +kernel
theorem dX8_inAll_61 : decode cX8_inAll 61 = .ok (.goto (-22), 3) := by decide +kernel
theorem dX8_inAll_64 : decode cX8_inAll 64 = .ok (.iload 4, 2) := by decide +kernel
theorem dX8_inAll_66 : decode cX8_inAll 66 = .ok (.ireturn, 1) := by decide +kernel
theorem dX8_isWholeBut_0 : decode cX8_isWholeBut 0 = .ok (.aload_n 0, 1) := by decide +kernel
theorem dX8_isWholeBut_1 : decode cX8_isWholeBut 1 = .ok (.getfield 95, 3) := by decide +kernel
theorem dX8_isWholeBut_4 : decode cX8_isWholeBut 4 = .ok (.aload_n 0, 1) := by decide +kernel
theorem dX8_isWholeBut_5 : decode cX8_isWholeBut 5 = .ok (.getfield 112, 3) := by decide +kernel
theorem dX8_isWholeBut_8 : decode cX8_isWholeBut 8 = .ok (.iload_n 1, 1) := by decide +kernel
theorem dX8_isWholeBut_9 : decode cX8_isWholeBut 9 = .ok (.ifCond .ge 7, 3) := by decide +kernel
theorem dX8_isWholeBut_12 : decode cX8_isWholeBut 12 = .ok (.iconst 0, 1) := by decide +kernel
theorem dX8_isWholeBut_13 : decode cX8_isWholeBut 13 = .ok (.goto 4, 3) := by decide +kernel
theorem dX8_isWholeBut_16 : decode cX8_isWholeBut 16 = .ok (.iconst 1, 1) := by decide +kernel
theorem dX8_isWholeBut_17 : decode cX8_isWholeBut 17 = .ok (.isub, 1) := by decide +kernel
theorem dX8_isWholeBut_18 : decode cX8_isWholeBut 18 = .ok (.if_icmp .eq 5, 3) := by decide +kernel
theorem dX8_isWholeBut_21 : decode cX8_isWholeBut 21 = .ok (.iconst 0, 1) := by decide +kernel
theorem dX8_isWholeBut_22 : decode cX8_isWholeBut 22 = .ok (.ireturn, 1) := by decide +kernel
theorem dX8_isWholeBut_23 : decode cX8_isWholeBut 23 = .ok (.iconst 0, 1) := by decide +kernel
theorem dX8_isWholeBut_24 : decode cX8_isWholeBut 24 = .ok (.istore_n 2, 1) := by decide +kernel
theorem dX8_isWholeBut_25 : decode cX8_isWholeBut 25 = .ok (.iload_n 2, 1) := by decide +kernel
theorem dX8_isWholeBut_26 : decode cX8_isWholeBut 26 = .ok (.aload_n 0, 1) := by decide +kernel
theorem dX8_isWholeBut_27 : decode cX8_isWholeBut 27 = .ok (.getfield 95, 3) := by decide +kernel
theorem dX8_isWholeBut_30 : decode cX8_isWholeBut 30 = .ok (.if_icmp .ge 41, 3) := by decide +kernel
theorem dX8_isWholeBut_33 : decode cX8_isWholeBut 33 = .ok (.aload_n 0, 1) := by decide +kernel
theorem dX8_isWholeBut_34 : decode cX8_isWholeBut 34 = .ok (.iload_n 2, 1) := by decide +kernel
theorem dX8_isWholeBut_35 : decode cX8_isWholeBut 35 = .ok (.invokevirtual 235, 3) := by decide +kernel
theorem dX8_isWholeBut_38 : decode cX8_isWholeBut 38 = .ok (.aload_n 0, 1) := by decide +kernel
theorem dX8_isWholeBut_39 : decode cX8_isWholeBut 39 = .ok (.getfield 108, 3) := by decide +kernel
theorem dX8_isWholeBut_42 : decode cX8_isWholeBut 42 = .ok (.iload_n 1, 1) := by decide +kernel
theorem dX8_isWholeBut_43 : decode cX8_isWholeBut 43 = .ok (.ifCond .lt 14, 3) := by decide +kernel
theorem dX8_isWholeBut_46 : decode cX8_isWholeBut 46 = .ok (.iload_n 2, 1) := by decide +kernel
theorem dX8_isWholeBut_47 : decode cX8_isWholeBut 47 = .ok (.iload_n 1, 1) := by decide +kernel
theorem dX8_isWholeBut_48 : decode cX8_isWholeBut 48 = .ok (.if_icmp .lt 9, 3) := by decide +kernel
theorem dX8_isWholeBut_51 : decode cX8_isWholeBut 51 = .ok (.iload_n 2, 1) := by decide +kernel
theorem dX8_isWholeBut_52 : decode cX8_isWholeBut 52 = .ok (.iconst 1, 1) := by decide +kernel
theorem dX8_isWholeBut_53 : decode cX8_isWholeBut 53 = .ok (.iadd, 1) := by decide +kernel
theorem dX8_isWholeBut_54 : decode cX8_isWholeBut 54 = .ok (.goto 4, 3) := by decide +kernel
theorem dX8_isWholeBut_57 : decode cX8_isWholeBut 57 = .ok (.iload_n 2, 1) := by decide +kernel
theorem dX8_isWholeBut_58 : decode cX8_isWholeBut 58 = .ok (.laload, 1) := by decide +kernel
theorem dX8_isWholeBut_59 : decode cX8_isWholeBut 59 = .ok (.lcmp, 1) := by decide +kernel
theorem dX8_isWholeBut_60 : decode cX8_isWholeBut 60 = .ok (.ifCond .eq 5, 3) := by decide +kernel
theorem dX8_isWholeBut_63 : decode cX8_isWholeBut 63 = .ok (.iconst 0, 1) := by decide +kernel
theorem dX8_isWholeBut_64 : decode cX8_isWholeBut 64 = .ok (.ireturn, 1) := by decide +kernel
theorem dX8_isWholeBut_65 : decode cX8_isWholeBut 65 = .ok (.iinc 2 1, 3) := by decide +kernel
theorem dX8_isWholeBut_68 : decode cX8_isWholeBut 68 = .ok (.goto (-43), 3) := by decide +kernel
theorem dX8_isWholeBut_71 : decode cX8_isWholeBut 71 = .ok (.iconst 1, 1) := by decide +kernel
theorem dX8_isWholeBut_72 : decode cX8_isWholeBut 72 = .ok (.ireturn, 1) := by decide +kernel
theorem dX8_plain_0 : decode cX8_plain 0 = .ok (.aload_n 0, 1) := by decide +kernel
theorem dX8_plain_1 : decode cX8_plain 1 = .ok (.iload_n 1, 1) := by decide +kernel
theorem dX8_plain_2 : decode cX8_plain 2 = .ok (.invokevirtual 203, 3) := by decide +kernel
theorem dX8_plain_5 : decode cX8_plain 5 = .ok (.ifCond .ne 5, 3) := by decide +kernel
theorem dX8_plain_8 : decode cX8_plain 8 = .ok (.iconst (-1), 1) := by decide +kernel
theorem dX8_plain_9 : decode cX8_plain 9 = .ok (.ireturn, 1) := by decide +kernel
theorem dX8_plain_10 : decode cX8_plain 10 = .ok (.aload_n 0, 1) := by decide +kernel
theorem dX8_plain_11 : decode cX8_plain 11 = .ok (.iload_n 1, 1) := by decide +kernel
theorem dX8_plain_12 : decode cX8_plain 12 = .ok (.invokevirtual 270, 3) := by decide +kernel
theorem dX8_plain_15 : decode cX8_plain 15 = .ok (.aload_n 0, 1) := by decide +kernel
theorem dX8_plain_16 : decode cX8_plain 16 = .ok (.getfield 112, 3) := by decide +kernel
theorem dX8_plain_19 : decode cX8_plain 19 = .ok (.ifCond .ge 6, 3) := by decide +kernel
theorem dX8_plain_22 : decode cX8_plain 22 = .ok (.bipush (-3), 2) := by decide +kernel
theorem dX8_plain_24 : decode cX8_plain 24 = .ok (.ireturn, 1) := by decide +kernel
theorem dX8_plain_25 : decode cX8_plain 25 = .ok (.iconst 0, 1) := by decide +kernel
theorem dX8_plain_26 : decode cX8_plain 26 = .ok (.istore_n 2, 1) := by decide +kernel
theorem dX8_plain_27 : decode cX8_plain 27 = .ok (.iconst 1, 1) := by decide +kernel
theorem dX8_plain_28 : decode cX8_plain 28 = .ok (.istore_n 3, 1) := by decide +kernel
theorem dX8_plain_29 : decode cX8_plain 29 = .ok (.iload_n 3, 1) := by decide +kernel
theorem dX8_plain_30 : decode cX8_plain 30 = .ok (.iconst 1, 1) := by decide +kernel
theorem dX8_plain_31 : decode cX8_plain 31 = .ok (.aload_n 0, 1) := by decide +kernel
theorem dX8_plain_32 : decode cX8_plain 32 = .ok (.getfield 35, 3) := by decide +kernel
theorem dX8_plain_35 : decode cX8_plain 35 = .ok (.iload_n 1, 1) := by decide +kernel
theorem dX8_plain_36 : decode cX8_plain 36 = .ok (.iaload, 1) := by decide +kernel
theorem dX8_plain_37 : decode cX8_plain 37 = .ok (.ishl, 1) := by decide +kernel
theorem dX8_plain_38 : decode cX8_plain 38 = .ok (.if_icmp .ge 41, 3) := by decide +kernel
theorem dX8_plain_41 : decode cX8_plain 41 = .ok (.aload_n 0, 1) := by decide +kernel
theorem dX8_plain_42 : decode cX8_plain 42 = .ok (.iload_n 3, 1) := by decide +kernel
theorem dX8_plain_43 : decode cX8_plain 43 = .ok (.invokevirtual 293, 3) := by decide +kernel
theorem dX8_plain_46 : decode cX8_plain 46 = .ok (.aload_n 0, 1) := by decide +kernel
theorem dX8_plain_47 : decode cX8_plain 47 = .ok (.iload_n 2, 1) := by decide +kernel
theorem dX8_plain_48 : decode cX8_plain 48 = .ok (.invokevirtual 293, 3) := by decide +kernel
theorem dX8_plain_51 : decode cX8_plain 51 = .ok (.if_icmp .le 22, 3) := by decide +kernel
theorem dX8_plain_54 : decode cX8_plain 54 = .ok (.aload_n 0, 1) := by decide +kernel
theorem dX8_plain_55 : decode cX8_plain 55 = .ok (.iload_n 1, 1) := by decide +kernel
theorem dX8_plain_56 : decode cX8_plain 56 = .ok (.iload_n 3, 1) := by decide +kernel
theorem dX8_plain_57 : decode cX8_plain 57 = .ok (.invokevirtual 230, 3) := by decide +kernel
theorem dX8_plain_60 : decode cX8_plain 60 = .ok (.ifCond .eq 13, 3) := by decide +kernel
theorem dX8_plain_63 : decode cX8_plain 63 = .ok (.aload_n 0, 1) := by decide +kernel
theorem dX8_plain_64 : decode cX8_plain 64 = .ok (.iconst (-1), 1) := by decide +kernel
theorem dX8_plain_65 : decode cX8_plain 65 = .ok (.invokevirtual 296, 3) := by decide +kernel
theorem dX8_plain_68 : decode cX8_plain 68 = .ok (.ifCond .eq 5, 3) := by decide +kernel
theorem dX8_plain_71 : decode cX8_plain 71 = .ok (.iload_n 3, 1) := by decide +kernel
theorem dX8_plain_72 : decode cX8_plain 72 = .ok (.istore_n 2, 1) := by decide +kernel
theorem dX8_plain_73 : decode cX8_plain 73 = .ok (.iinc 3 1, 3) := by decide +kernel
theorem dX8_plain_76 : decode cX8_plain 76 = .ok (.goto (-47), 3) := by decide +kernel
theorem dX8_plain_79 : decode cX8_plain 79 = .ok (.iload_n 2, 1) := by decide +kernel
theorem dX8_plain_80 : decode cX8_plain 80 = .ok (.ireturn, 1) := by decide +kernel
theorem dX8_ownSum_0 : decode cX8_ownSum 0 = .ok (.iconst 0, 1) := by decide +kernel
theorem dX8_ownSum_1 : decode cX8_ownSum 1 = .ok (.istore_n 2, 1) := by decide +kernel
theorem dX8_ownSum_2 : decode cX8_ownSum 2 = .ok (.iconst 0, 1) := by decide +kernel
theorem dX8_ownSum_3 : decode cX8_ownSum 3 = .ok (.istore_n 3, 1) := by decide +kernel
theorem dX8_ownSum_4 : decode cX8_ownSum 4 = .ok (.iload_n 3, 1) := by decide +kernel
theorem dX8_ownSum_5 : decode cX8_ownSum 5 = .ok (.aload_n 0, 1) := by decide +kernel
theorem dX8_ownSum_6 : decode cX8_ownSum 6 = .ok (.getfield 95, 3) := by decide +kernel
theorem dX8_ownSum_9 : decode cX8_ownSum 9 = .ok (.if_icmp .ge 99, 3) := by decide +kernel
theorem dX8_ownSum_12 : decode cX8_ownSum 12 = .ok (.aload_n 0, 1) := by decide +kernel
theorem dX8_ownSum_13 : decode cX8_ownSum 13 = .ok (.getfield 74, 3) := by decide +kernel
theorem dX8_ownSum_16 : decode cX8_ownSum 16 = .ok (.iload_n 3, 1) := by decide +kernel
theorem dX8_ownSum_17 : decode cX8_ownSum 17 = .ok (.iaload, 1) := by decide +kernel
theorem dX8_ownSum_18 : decode cX8_ownSum 18 = .ok (.iload_n 1, 1) := by decide +kernel
theorem dX8_ownSum_19 : decode cX8_ownSum 19 = .ok (.if_icmp .ne 83, 3) := by decide +kernel
theorem dX8_ownSum_22 : decode cX8_ownSum 22 = .ok (.aload_n 0, 1) := by decide +kernel
theorem dX8_ownSum_23 : decode cX8_ownSum 23 = .ok (.getfield 77, 3) := by decide +kernel
theorem dX8_ownSum_26 : decode cX8_ownSum 26 = .ok (.iload_n 3, 1) := by decide +kernel
theorem dX8_ownSum_27 : decode cX8_ownSum 27 = .ok (.iaload, 1) := by decide +kernel
theorem dX8_ownSum_28 : decode cX8_ownSum 28 = .ok (.ifCond .ne 6, 3) := by decide +kernel
theorem dX8_ownSum_31 : decode cX8_ownSum 31 = .ok (.goto 71, 3) := by decide +kernel
theorem dX8_ownSum_34 : decode cX8_ownSum 34 = .ok (.iload_n 2, 1) := by decide +kernel
theorem dX8_ownSum_35 : decode cX8_ownSum 35 = .ok (.aload_n 0, 1) := by decide +kernel
theorem dX8_ownSum_36 : decode cX8_ownSum 36 = .ok (.getfield 83, 3) := by decide +kernel
theorem dX8_ownSum_39 : decode cX8_ownSum 39 = .ok (.iload_n 3, 1) := by decide +kernel
theorem dX8_ownSum_40 : decode cX8_ownSum 40 = .ok (.iaload, 1) := by decide +kernel
theorem dX8_ownSum_41 : decode cX8_ownSum 41 = .ok (.bipush 10, 2) := by decide +kernel
theorem dX8_ownSum_43 : decode cX8_ownSum 43 = .ok (.if_icmp .lt 18, 3) := by decide +kernel
theorem dX8_ownSum_46 : decode cX8_ownSum 46 = .ok (.bipush 10, 2) := by decide +kernel
theorem dX8_ownSum_48 : decode cX8_ownSum 48 = .ok (.aload_n 0, 1) := by decide +kernel
theorem dX8_ownSum_49 : decode cX8_ownSum 49 = .ok (.getfield 83, 3) := by decide +kernel
theorem dX8_ownSum_52 : decode cX8_ownSum 52 = .ok (.iload_n 3, 1) := by decide +kernel
theorem dX8_ownSum_53 : decode cX8_ownSum 53 = .ok (.iaload, 1) := by decide +kernel
theorem dX8_ownSum_54 : decode cX8_ownSum 54 = .ok (.bipush 10, 2) := by decide +kernel
theorem dX8_ownSum_56 : decode cX8_ownSum 56 = .ok (.isub, 1) := by decide +kernel
theorem dX8_ownSum_57 : decode cX8_ownSum 57 = .ok (.imul, 1) := by decide +kernel
theorem dX8_ownSum_58 : decode cX8_ownSum 58 = .ok (.goto 42, 3) := by decide +kernel
theorem dX8_ownSum_61 : decode cX8_ownSum 61 = .ok (.aload_n 0, 1) := by decide +kernel
theorem dX8_ownSum_62 : decode cX8_ownSum 62 = .ok (.getfield 68, 3) := by decide +kernel
theorem dX8_ownSum_65 : decode cX8_ownSum 65 = .ok (.aload_n 0, 1) := by decide +kernel
theorem dX8_ownSum_66 : decode cX8_ownSum 66 = .ok (.getfield 83, 3) := by decide +kernel
theorem dX8_ownSum_69 : decode cX8_ownSum 69 = .ok (.iload_n 3, 1) := by decide +kernel
theorem dX8_ownSum_70 : decode cX8_ownSum 70 = .ok (.iaload, 1) := by decide +kernel
theorem dX8_ownSum_71 : decode cX8_ownSum 71 = .ok (.iaload, 1) := by decide +kernel
theorem dX8_ownSum_72 : decode cX8_ownSum 72 = .ok (.aload_n 0, 1) := by decide +kernel
theorem dX8_ownSum_73 : decode cX8_ownSum 73 = .ok (.getfield 89, 3) := by decide +kernel
theorem dX8_ownSum_76 : decode cX8_ownSum 76 = .ok (.iload_n 3, 1) := by decide +kernel
theorem dX8_ownSum_77 : decode cX8_ownSum 77 = .ok (.iaload, 1) := by decide +kernel
theorem dX8_ownSum_78 : decode cX8_ownSum 78 = .ok (.imul, 1) := by decide +kernel
theorem dX8_ownSum_79 : decode cX8_ownSum 79 = .ok (.aload_n 0, 1) := by decide +kernel
theorem dX8_ownSum_80 : decode cX8_ownSum 80 = .ok (.getfield 80, 3) := by decide +kernel
theorem dX8_ownSum_83 : decode cX8_ownSum 83 = .ok (.iload_n 3, 1) := by decide +kernel
theorem dX8_ownSum_84 : decode cX8_ownSum 84 = .ok (.iaload, 1) := by decide +kernel
theorem dX8_ownSum_85 : decode cX8_ownSum 85 = .ok (.iconst 1, 1) := by decide +kernel
theorem dX8_ownSum_86 : decode cX8_ownSum 86 = .ok (.if_icmp .ne 12, 3) := by decide +kernel
theorem dX8_ownSum_89 : decode cX8_ownSum 89 = .ok (.aload_n 0, 1) := by decide +kernel
theorem dX8_ownSum_90 : decode cX8_ownSum 90 = .ok (.getfield 86, 3) := by decide +kernel
theorem dX8_ownSum_93 : decode cX8_ownSum 93 = .ok (.iload_n 3, 1) := by decide +kernel
theorem dX8_ownSum_94 : decode cX8_ownSum 94 = .ok (.iaload, 1) := by decide +kernel
theorem dX8_ownSum_95 : decode cX8_ownSum 95 = .ok (.goto 4, 3) := by decide +kernel
theorem dX8_ownSum_98 : decode cX8_ownSum 98 = .ok (.iconst 1, 1) := by decide +kernel
theorem dX8_ownSum_99 : decode cX8_ownSum 99 = .ok (.imul, 1) := by decide +kernel
theorem dX8_ownSum_100 : decode cX8_ownSum 100 = .ok (.iadd, 1) := by decide +kernel
theorem dX8_ownSum_101 : decode cX8_ownSum 101 = .ok (.istore_n 2, 1) := by decide +kernel
theorem dX8_ownSum_102 : decode cX8_ownSum 102 = .ok (.iinc 3 1, 3) := by decide +kernel
theorem dX8_ownSum_105 : decode cX8_ownSum 105 = .ok (.goto (-101), 3) := by decide +kernel
theorem dX8_ownSum_108 : decode cX8_ownSum 108 = .ok (.iload_n 2, 1) := by decide +kernel
theorem dX8_ownSum_109 : decode cX8_ownSum 109 = .ok (.ireturn, 1) := by decide +kernel
theorem dX8_costOf_0 : decode cX8_costOf 0 = .ok (.aload_n 0, 1) := by decide +kernel
theorem dX8_costOf_1 : decode cX8_costOf 1 = .ok (.iload_n 1, 1) := by decide +kernel
theorem dX8_costOf_2 : decode cX8_costOf 2 = .ok (.invokevirtual 299, 3) := by decide +kernel
theorem dX8_costOf_5 : decode cX8_costOf 5 = .ok (.aload_n 0, 1) := by decide +kernel
theorem dX8_costOf_6 : decode cX8_costOf 6 = .ok (.iconst 1, 1) := by decide +kernel
theorem dX8_costOf_7 : decode cX8_costOf 7 = .ok (.iload_n 1, 1) := by decide +kernel
theorem dX8_costOf_8 : decode cX8_costOf 8 = .ok (.isub, 1) := by decide +kernel
theorem dX8_costOf_9 : decode cX8_costOf 9 = .ok (.invokevirtual 299, 3) := by decide +kernel
theorem dX8_costOf_12 : decode cX8_costOf 12 = .ok (.iconst 2, 1) := by decide +kernel
theorem dX8_costOf_13 : decode cX8_costOf 13 = .ok (.idiv, 1) := by decide +kernel
theorem dX8_costOf_14 : decode cX8_costOf 14 = .ok (.isub, 1) := by decide +kernel
theorem dX8_costOf_15 : decode cX8_costOf 15 = .ok (.ireturn, 1) := by decide +kernel
theorem dX8_cost_0 : decode cX8_cost 0 = .ok (.aload_n 0, 1) := by decide +kernel
theorem dX8_cost_1 : decode cX8_cost 1 = .ok (.iload_n 1, 1) := by decide +kernel
theorem dX8_cost_2 : decode cX8_cost 2 = .ok (.invokevirtual 203, 3) := by decide +kernel
theorem dX8_cost_5 : decode cX8_cost 5 = .ok (.ifCond .eq 31, 3) := by decide +kernel
theorem dX8_cost_8 : decode cX8_cost 8 = .ok (.aload_n 0, 1) := by decide +kernel
theorem dX8_cost_9 : decode cX8_cost 9 = .ok (.iload_n 1, 1) := by decide +kernel
theorem dX8_cost_10 : decode cX8_cost 10 = .ok (.iload_n 2, 1) := by decide +kernel
theorem dX8_cost_11 : decode cX8_cost 11 = .ok (.invokevirtual 227, 3) := by decide +kernel
theorem dX8_cost_14 : decode cX8_cost 14 = .ok (.ifCond .eq 22, 3) := by decide +kernel
theorem dX8_cost_17 : decode cX8_cost 17 = .ok (.aload_n 0, 1) := by decide +kernel
theorem dX8_cost_18 : decode cX8_cost 18 = .ok (.iload_n 3, 1) := by decide +kernel
theorem dX8_cost_19 : decode cX8_cost 19 = .ok (.iconst 0, 1) := by decide +kernel
theorem dX8_cost_20 : decode cX8_cost 20 = .ok (.iconst 1, 1) := by decide +kernel
theorem dX8_cost_21 : decode cX8_cost 21 = .ok (.invokevirtual 142, 3) := by decide +kernel
theorem dX8_cost_24 : decode cX8_cost 24 = .ok (.ifCond .eq 12, 3) := by decide +kernel
theorem dX8_cost_27 : decode cX8_cost 27 = .ok (.aload_n 0, 1) := by decide +kernel
theorem dX8_cost_28 : decode cX8_cost 28 = .ok (.iload_n 1, 1) := by decide +kernel
theorem dX8_cost_29 : decode cX8_cost 29 = .ok (.iload_n 2, 1) := by decide +kernel
theorem dX8_cost_30 : decode cX8_cost 30 = .ok (.invokevirtual 230, 3) := by decide +kernel
theorem dX8_cost_33 : decode cX8_cost 33 = .ok (.ifCond .ne 7, 3) := by decide +kernel
theorem dX8_cost_36 : decode cX8_cost 36 = .ok (.ldc2_w 233, 3) := by decide +kernel
theorem dX8_cost_39 : decode cX8_cost 39 = .ok (.lreturn, 1) := by decide +kernel
theorem dX8_cost_40 : decode cX8_cost 40 = .ok (.aload_n 0, 1) := by decide +kernel
theorem dX8_cost_41 : decode cX8_cost 41 = .ok (.iload_n 3, 1) := by decide +kernel
theorem dX8_cost_42 : decode cX8_cost 42 = .ok (.invokevirtual 302, 3) := by decide +kernel
theorem dX8_cost_45 : decode cX8_cost 45 = .ok (.i2l, 1) := by decide +kernel
theorem dX8_cost_46 : decode cX8_cost 46 = .ok (.lreturn, 1) := by decide +kernel
theorem dX8_weigh_0 : decode cX8_weigh 0 = .ok (.aload_n 0, 1) := by decide +kernel
theorem dX8_weigh_1 : decode cX8_weigh 1 = .ok (.iload_n 1, 1) := by decide +kernel
theorem dX8_weigh_2 : decode cX8_weigh 2 = .ok (.iload_n 2, 1) := by decide +kernel
theorem dX8_weigh_3 : decode cX8_weigh 3 = .ok (.invokevirtual 230, 3) := by decide +kernel
theorem dX8_weigh_6 : decode cX8_weigh 6 = .ok (.istore 4, 2) := by decide +kernel
theorem dX8_weigh_8 : decode cX8_weigh 8 = .ok (.iload_n 3, 1) := by decide +kernel
theorem dX8_weigh_9 : decode cX8_weigh 9 = .ok (.iconst 2, 1) := by decide +kernel
theorem dX8_weigh_10 : decode cX8_weigh 10 = .ok (.if_icmp .ge 11, 3) := by decide +kernel
theorem dX8_weigh_13 : decode cX8_weigh 13 = .ok (.aload_n 0, 1) := by decide +kernel
theorem dX8_weigh_14 : decode cX8_weigh 14 = .ok (.iload_n 3, 1) := by decide +kernel
theorem dX8_weigh_15 : decode cX8_weigh 15 = .ok (.invokevirtual 302, 3) := by decide +kernel
theorem dX8_weigh_18 : decode cX8_weigh 18 = .ok (.goto 14, 3) := by decide +kernel
theorem dX8_weigh_21 : decode cX8_weigh 21 = .ok (.aload_n 0, 1) := by decide +kernel
theorem dX8_weigh_22 : decode cX8_weigh 22 = .ok (.iconst 0, 1) := by decide +kernel
theorem dX8_weigh_23 : decode cX8_weigh 23 = .ok (.invokevirtual 302, 3) := by decide +kernel
theorem dX8_weigh_26 : decode cX8_weigh 26 = .ok (.aload_n 0, 1) := by decide +kernel
theorem dX8_weigh_27 : decode cX8_weigh 27 = .ok (.iconst 1, 1) := by decide +kernel
theorem dX8_weigh_28 : decode cX8_weigh 28 = .ok (.invokevirtual 302, 3) := by decide +kernel
theorem dX8_weigh_31 : decode cX8_weigh 31 = .ok (.isub, 1) := by decide +kernel
theorem dX8_weigh_32 : decode cX8_weigh 32 = .ok (.istore 5, 2) := by decide +kernel
theorem dX8_weigh_34 : decode cX8_weigh 34 = .ok (.iload 4, 2) := by decide +kernel
theorem dX8_weigh_36 : decode cX8_weigh 36 = .ok (.ifCond .eq 13, 3) := by decide +kernel
theorem dX8_weigh_39 : decode cX8_weigh 39 = .ok (.iload_n 3, 1) := by decide +kernel
theorem dX8_weigh_40 : decode cX8_weigh 40 = .ok (.iconst 2, 1) := by decide +kernel
theorem dX8_weigh_41 : decode cX8_weigh 41 = .ok (.if_icmp .lt 8, 3) := by decide +kernel
theorem dX8_weigh_44 : decode cX8_weigh 44 = .ok (.iload 5, 2) := by decide +kernel
theorem dX8_weigh_46 : decode cX8_weigh 46 = .ok (.ifCond .lt 8, 3) := by decide +kernel
theorem dX8_weigh_49 : decode cX8_weigh 49 = .ok (.iload 5, 2) := by decide +kernel
theorem dX8_weigh_51 : decode cX8_weigh 51 = .ok (.goto 6, 3) := by decide +kernel
theorem dX8_weigh_54 : decode cX8_weigh 54 = .ok (.iload 5, 2) := by decide +kernel
theorem dX8_weigh_56 : decode cX8_weigh 56 = .ok (.ineg, 1) := by decide +kernel
theorem dX8_weigh_57 : decode cX8_weigh 57 = .ok (.ireturn, 1) := by decide +kernel
theorem dX8_dear_0 : decode cX8_dear 0 = .ok (.aload_n 0, 1) := by decide +kernel
theorem dX8_dear_1 : decode cX8_dear 1 = .ok (.iload_n 1, 1) := by decide +kernel
theorem dX8_dear_2 : decode cX8_dear 2 = .ok (.iload_n 2, 1) := by decide +kernel
theorem dX8_dear_3 : decode cX8_dear 3 = .ok (.iload_n 3, 1) := by decide +kernel
theorem dX8_dear_4 : decode cX8_dear 4 = .ok (.invokevirtual 279, 3) := by decide +kernel
theorem dX8_dear_7 : decode cX8_dear 7 = .ok (.ifCond .eq 14, 3) := by decide +kernel
theorem dX8_dear_10 : decode cX8_dear 10 = .ok (.aload_n 0, 1) := by decide +kernel
theorem dX8_dear_11 : decode cX8_dear 11 = .ok (.iload 4, 2) := by decide +kernel
theorem dX8_dear_13 : decode cX8_dear 13 = .ok (.iconst 0, 1) := by decide +kernel
theorem dX8_dear_14 : decode cX8_dear 14 = .ok (.iconst 2, 1) := by decide +kernel
theorem dX8_dear_15 : decode cX8_dear 15 = .ok (.invokevirtual 142, 3) := by decide +kernel
theorem dX8_dear_18 : decode cX8_dear 18 = .ok (.ifCond .ne 5, 3) := by decide +kernel
theorem dX8_dear_21 : decode cX8_dear 21 = .ok (.iconst (-1), 1) := by decide +kernel
theorem dX8_dear_22 : decode cX8_dear 22 = .ok (.ireturn, 1) := by decide +kernel
theorem dX8_dear_23 : decode cX8_dear 23 = .ok (.aload_n 0, 1) := by decide +kernel
theorem dX8_dear_24 : decode cX8_dear 24 = .ok (.iload_n 2, 1) := by decide +kernel
theorem dX8_dear_25 : decode cX8_dear 25 = .ok (.iload_n 3, 1) := by decide +kernel
theorem dX8_dear_26 : decode cX8_dear 26 = .ok (.invokevirtual 282, 3) := by decide +kernel
theorem dX8_dear_29 : decode cX8_dear 29 = .ok (.bipush (-5), 2) := by decide +kernel
theorem dX8_dear_31 : decode cX8_dear 31 = .ok (.istore 5, 2) := by decide +kernel
theorem dX8_dear_33 : decode cX8_dear 33 = .ok (.iconst 0, 1) := by decide +kernel
theorem dX8_dear_34 : decode cX8_dear 34 = .ok (.istore 6, 2) := by decide +kernel
theorem dX8_dear_36 : decode cX8_dear 36 = .ok (.aload_n 0, 1) := by decide +kernel
theorem dX8_dear_37 : decode cX8_dear 37 = .ok (.iload_n 1, 1) := by decide +kernel
theorem dX8_dear_38 : decode cX8_dear 38 = .ok (.iload_n 2, 1) := by decide +kernel
theorem dX8_dear_39 : decode cX8_dear 39 = .ok (.iconst (-1), 1) := by decide +kernel
theorem dX8_dear_40 : decode cX8_dear 40 = .ok (.invokevirtual 289, 3) := by decide +kernel
theorem dX8_dear_43 : decode cX8_dear 43 = .ok (.istore 7, 2) := by decide +kernel
theorem dX8_dear_45 : decode cX8_dear 45 = .ok (.iload 7, 2) := by decide +kernel
theorem dX8_dear_47 : decode cX8_dear 47 = .ok (.ifCond .lt 72, 3) := by decide +kernel
theorem dX8_dear_50 : decode cX8_dear 50 = .ok (.aload_n 0, 1) := by decide +kernel
theorem dX8_dear_51 : decode cX8_dear 51 = .ok (.iload_n 2, 1) := by decide +kernel
theorem dX8_dear_52 : decode cX8_dear 52 = .ok (.iload 7, 2) := by decide +kernel
theorem dX8_dear_54 : decode cX8_dear 54 = .ok (.iload 4, 2) := by decide +kernel
theorem dX8_dear_56 : decode cX8_dear 56 = .ok (.invokevirtual 305, 3) := by decide +kernel
theorem dX8_dear_59 : decode cX8_dear 59 = .ok (.istore 8, 2) := by decide +kernel
theorem dX8_dear_61 : decode cX8_dear 61 = .ok (.iload 5, 2) := by decide +kernel
theorem dX8_dear_63 : decode cX8_dear 63 = .ok (.ifCond .lt 35, 3) := by decide +kernel
theorem dX8_dear_66 : decode cX8_dear 66 = .ok (.iload 8, 2) := by decide +kernel
theorem dX8_dear_68 : decode cX8_dear 68 = .ok (.iload 6, 2) := by decide +kernel
theorem dX8_dear_70 : decode cX8_dear 70 = .ok (.if_icmp .gt 36, 3) := by decide +kernel
theorem dX8_dear_73 : decode cX8_dear 73 = .ok (.iload 8, 2) := by decide +kernel
theorem dX8_dear_75 : decode cX8_dear 75 = .ok (.iload 6, 2) := by decide +kernel
theorem dX8_dear_77 : decode cX8_dear 77 = .ok (.if_icmp .ne 21, 3) := by decide +kernel
theorem dX8_dear_80 : decode cX8_dear 80 = .ok (.aload_n 0, 1) := by decide +kernel
theorem dX8_dear_81 : decode cX8_dear 81 = .ok (.iload 7, 2) := by decide +kernel
theorem dX8_dear_83 : decode cX8_dear 83 = .ok (.invokevirtual 293, 3) := by decide +kernel
theorem dX8_dear_86 : decode cX8_dear 86 = .ok (.aload_n 0, 1) := by decide +kernel
theorem dX8_dear_87 : decode cX8_dear 87 = .ok (.iload 5, 2) := by decide +kernel
theorem dX8_dear_89 : decode cX8_dear 89 = .ok (.invokevirtual 293, 3) := by decide +kernel
theorem dX8_dear_92 : decode cX8_dear 92 = .ok (.if_icmp .lt 6, 3) := by decide +kernel
theorem dX8_dear_95 : decode cX8_dear 95 = .ok (.goto 11, 3) := by decide +kernel
theorem dX8_dear_98 : decode cX8_dear 98 = .ok (.iload 7, 2) := by decide +kernel
theorem dX8_dear_100 : decode cX8_dear 100 = .ok (.istore 5, 2) := by decide +kernel
theorem dX8_dear_102 : decode cX8_dear 102 = .ok (.iload 8, 2) := by decide +kernel
theorem dX8_dear_104 : decode cX8_dear 104 = .ok (.istore 6, 2) := by decide +kernel
theorem dX8_dear_106 : decode cX8_dear 106 = .ok (.aload_n 0, 1) := by decide +kernel
theorem dX8_dear_107 : decode cX8_dear 107 = .ok (.iload_n 1, 1) := by decide +kernel
theorem dX8_dear_108 : decode cX8_dear 108 = .ok (.iload_n 2, 1) := by decide +kernel
theorem dX8_dear_109 : decode cX8_dear 109 = .ok (.iload 7, 2) := by decide +kernel
theorem dX8_dear_111 : decode cX8_dear 111 = .ok (.invokevirtual 289, 3) := by decide +kernel
theorem dX8_dear_114 : decode cX8_dear 114 = .ok (.istore 7, 2) := by decide +kernel
theorem dX8_dear_116 : decode cX8_dear 116 = .ok (.goto (-71), 3) := by decide +kernel
theorem dX8_dear_119 : decode cX8_dear 119 = .ok (.iload 5, 2) := by decide +kernel
theorem dX8_dear_121 : decode cX8_dear 121 = .ok (.ireturn, 1) := by decide +kernel
theorem dX8_aloneOf_0 : decode cX8_aloneOf 0 = .ok (.iconst 0, 1) := by decide +kernel
theorem dX8_aloneOf_1 : decode cX8_aloneOf 1 = .ok (.istore_n 3, 1) := by decide +kernel
theorem dX8_aloneOf_2 : decode cX8_aloneOf 2 = .ok (.iconst 0, 1) := by decide +kernel
theorem dX8_aloneOf_3 : decode cX8_aloneOf 3 = .ok (.istore 4, 2) := by decide +kernel
theorem dX8_aloneOf_5 : decode cX8_aloneOf 5 = .ok (.iload 4, 2) := by decide +kernel
theorem dX8_aloneOf_7 : decode cX8_aloneOf 7 = .ok (.iconst 1, 1) := by decide +kernel
theorem dX8_aloneOf_8 : decode cX8_aloneOf 8 = .ok (.aload_n 0, 1) := by decide +kernel
theorem dX8_aloneOf_9 : decode cX8_aloneOf 9 = .ok (.getfield 35, 3) := by decide +kernel
theorem dX8_aloneOf_12 : decode cX8_aloneOf 12 = .ok (.iload_n 2, 1) := by decide +kernel
theorem dX8_aloneOf_13 : decode cX8_aloneOf 13 = .ok (.iaload, 1) := by decide +kernel
theorem dX8_aloneOf_14 : decode cX8_aloneOf 14 = .ok (.ishl, 1) := by decide +kernel
theorem dX8_aloneOf_15 : decode cX8_aloneOf 15 = .ok (.if_icmp .ge 84, 3) := by decide +kernel
theorem dX8_aloneOf_18 : decode cX8_aloneOf 18 = .ok (.aload_n 0, 1) := by decide +kernel
theorem dX8_aloneOf_19 : decode cX8_aloneOf 19 = .ok (.iload_n 1, 1) := by decide +kernel
theorem dX8_aloneOf_20 : decode cX8_aloneOf 20 = .ok (.iload_n 2, 1) := by decide +kernel
theorem dX8_aloneOf_21 : decode cX8_aloneOf 21 = .ok (.iload 4, 2) := by decide +kernel
theorem dX8_aloneOf_23 : decode cX8_aloneOf 23 = .ok (.invokevirtual 273, 3) := by decide +kernel
theorem dX8_aloneOf_26 : decode cX8_aloneOf 26 = .ok (.ifCond .eq 67, 3) := by decide +kernel
theorem dX8_aloneOf_29 : decode cX8_aloneOf 29 = .ok (.aload_n 0, 1) := by decide +kernel
theorem dX8_aloneOf_30 : decode cX8_aloneOf 30 = .ok (.iload_n 2, 1) := by decide +kernel
theorem dX8_aloneOf_31 : decode cX8_aloneOf 31 = .ok (.iload 4, 2) := by decide +kernel
theorem dX8_aloneOf_33 : decode cX8_aloneOf 33 = .ok (.invokevirtual 230, 3) := by decide +kernel
theorem dX8_aloneOf_36 : decode cX8_aloneOf 36 = .ok (.ifCond .eq 57, 3) := by decide +kernel
theorem dX8_aloneOf_39 : decode cX8_aloneOf 39 = .ok (.aload_n 0, 1) := by decide +kernel
theorem dX8_aloneOf_40 : decode cX8_aloneOf 40 = .ok (.getfield 95, 3) := by decide +kernel
theorem dX8_aloneOf_43 : decode cX8_aloneOf 43 = .ok (.aload_n 0, 1) := by decide +kernel
theorem dX8_aloneOf_44 : decode cX8_aloneOf 44 = .ok (.getfield 112, 3) := by decide +kernel
theorem dX8_aloneOf_47 : decode cX8_aloneOf 47 = .ok (.iconst 1, 1) := by decide +kernel
theorem dX8_aloneOf_48 : decode cX8_aloneOf 48 = .ok (.isub, 1) := by decide +kernel
theorem dX8_aloneOf_49 : decode cX8_aloneOf 49 = .ok (.if_icmp .eq 6, 3) := by decide +kernel
theorem dX8_aloneOf_52 : decode cX8_aloneOf 52 = .ok (.goto 41, 3) := by decide +kernel
theorem dX8_aloneOf_55 : decode cX8_aloneOf 55 = .ok (.iconst 0, 1) := by decide +kernel
theorem dX8_aloneOf_56 : decode cX8_aloneOf 56 = .ok (.istore 5, 2) := by decide +kernel
theorem dX8_aloneOf_58 : decode cX8_aloneOf 58 = .ok (.iload 5, 2) := by decide +kernel
theorem dX8_aloneOf_60 : decode cX8_aloneOf 60 = .ok (.aload_n 0, 1) := by decide +kernel
theorem dX8_aloneOf_61 : decode cX8_aloneOf 61 = .ok (.getfield 112, 3) := by decide +kernel
theorem dX8_aloneOf_64 : decode cX8_aloneOf 64 = .ok (.if_icmp .ge 29, 3) := by decide +kernel
theorem dX8_aloneOf_67 : decode cX8_aloneOf 67 = .ok (.iload_n 3, 1) := by decide +kernel
theorem dX8_aloneOf_68 : decode cX8_aloneOf 68 = .ok (.aload_n 0, 1) := by decide +kernel
theorem dX8_aloneOf_69 : decode cX8_aloneOf 69 = .ok (.iload 5, 2) := by decide +kernel
theorem dX8_aloneOf_71 : decode cX8_aloneOf 71 = .ok (.invokevirtual 296, 3) := by decide +kernel
theorem dX8_aloneOf_74 : decode cX8_aloneOf 74 = .ok (.ifCond .eq 10, 3) := by decide +kernel
theorem dX8_aloneOf_77 : decode cX8_aloneOf 77 = .ok (.iconst 1, 1) := by decide +kernel
theorem dX8_aloneOf_78 : decode cX8_aloneOf 78 = .ok (.iload 5, 2) := by decide +kernel
theorem dX8_aloneOf_80 : decode cX8_aloneOf 80 = .ok (.ishl, 1) := by decide +kernel
theorem dX8_aloneOf_81 : decode cX8_aloneOf 81 = .ok (.goto 4, 3) := by decide +kernel
theorem dX8_aloneOf_84 : decode cX8_aloneOf 84 = .ok (.iconst 0, 1) := by decide +kernel
theorem dX8_aloneOf_85 : decode cX8_aloneOf 85 = .ok (.ior, 1) := by decide +kernel
theorem dX8_aloneOf_86 : decode cX8_aloneOf 86 = .ok (.istore_n 3, 1) := by decide +kernel
theorem dX8_aloneOf_87 : decode cX8_aloneOf 87 = .ok (.iinc 5 1, 3) := by decide +kernel
theorem dX8_aloneOf_90 : decode cX8_aloneOf 90 = .ok (.goto (-32), 3) := by decide +kernel
theorem dX8_aloneOf_93 : decode cX8_aloneOf 93 = .ok (.iinc 4 1, 3) := by decide +kernel
theorem dX8_aloneOf_96 : decode cX8_aloneOf 96 = .ok (.goto (-91), 3) := by decide +kernel
theorem dX8_aloneOf_99 : decode cX8_aloneOf 99 = .ok (.iload_n 3, 1) := by decide +kernel
theorem dX8_aloneOf_100 : decode cX8_aloneOf 100 = .ok (.ireturn, 1) := by decide +kernel
theorem dX8_alone_0 : decode cX8_alone 0 = .ok (.aload_n 0, 1) := by decide +kernel
theorem dX8_alone_1 : decode cX8_alone 1 = .ok (.iload_n 1, 1) := by decide +kernel
theorem dX8_alone_2 : decode cX8_alone 2 = .ok (.invokevirtual 267, 3) := by decide +kernel
theorem dX8_alone_5 : decode cX8_alone 5 = .ok (.ifCond .eq 11, 3) := by decide +kernel
theorem dX8_alone_8 : decode cX8_alone 8 = .ok (.aload_n 0, 1) := by decide +kernel
theorem dX8_alone_9 : decode cX8_alone 9 = .ok (.iload_n 2, 1) := by decide +kernel
theorem dX8_alone_10 : decode cX8_alone 10 = .ok (.invokevirtual 203, 3) := by decide +kernel
theorem dX8_alone_13 : decode cX8_alone 13 = .ok (.ifCond .ne 5, 3) := by decide +kernel
theorem dX8_alone_16 : decode cX8_alone 16 = .ok (.iconst (-1), 1) := by decide +kernel
theorem dX8_alone_17 : decode cX8_alone 17 = .ok (.ireturn, 1) := by decide +kernel
theorem dX8_alone_18 : decode cX8_alone 18 = .ok (.aload_n 0, 1) := by decide +kernel
theorem dX8_alone_19 : decode cX8_alone 19 = .ok (.iload_n 2, 1) := by decide +kernel
theorem dX8_alone_20 : decode cX8_alone 20 = .ok (.invokevirtual 270, 3) := by decide +kernel
theorem dX8_alone_23 : decode cX8_alone 23 = .ok (.aload_n 0, 1) := by decide +kernel
theorem dX8_alone_24 : decode cX8_alone 24 = .ok (.getfield 112, 3) := by decide +kernel
theorem dX8_alone_27 : decode cX8_alone 27 = .ok (.ifCond .ge 8, 3) := by decide +kernel
theorem dX8_alone_30 : decode cX8_alone 30 = .ok (.bipush (-3), 2) := by decide +kernel
theorem dX8_alone_32 : decode cX8_alone 32 = .ok (.goto 9, 3) := by decide +kernel
theorem dX8_alone_35 : decode cX8_alone 35 = .ok (.aload_n 0, 1) := by decide +kernel
theorem dX8_alone_36 : decode cX8_alone 36 = .ok (.iload_n 1, 1) := by decide +kernel
theorem dX8_alone_37 : decode cX8_alone 37 = .ok (.iload_n 2, 1) := by decide +kernel
theorem dX8_alone_38 : decode cX8_alone 38 = .ok (.invokevirtual 308, 3) := by decide +kernel
theorem dX8_alone_41 : decode cX8_alone 41 = .ok (.ireturn, 1) := by decide +kernel
theorem dX8_apart_0 : decode cX8_apart 0 = .ok (.aload_n 0, 1) := by decide +kernel
theorem dX8_apart_1 : decode cX8_apart 1 = .ok (.iload_n 1, 1) := by decide +kernel
theorem dX8_apart_2 : decode cX8_apart 2 = .ok (.iload_n 2, 1) := by decide +kernel
theorem dX8_apart_3 : decode cX8_apart 3 = .ok (.iload_n 3, 1) := by decide +kernel
theorem dX8_apart_4 : decode cX8_apart 4 = .ok (.invokevirtual 279, 3) := by decide +kernel
theorem dX8_apart_7 : decode cX8_apart 7 = .ok (.ifCond .ne 5, 3) := by decide +kernel
theorem dX8_apart_10 : decode cX8_apart 10 = .ok (.iconst (-1), 1) := by decide +kernel
theorem dX8_apart_11 : decode cX8_apart 11 = .ok (.ireturn, 1) := by decide +kernel
theorem dX8_apart_12 : decode cX8_apart 12 = .ok (.aload_n 0, 1) := by decide +kernel
theorem dX8_apart_13 : decode cX8_apart 13 = .ok (.iload_n 2, 1) := by decide +kernel
theorem dX8_apart_14 : decode cX8_apart 14 = .ok (.invokevirtual 270, 3) := by decide +kernel
theorem dX8_apart_17 : decode cX8_apart 17 = .ok (.aload_n 0, 1) := by decide +kernel
theorem dX8_apart_18 : decode cX8_apart 18 = .ok (.getfield 112, 3) := by decide +kernel
theorem dX8_apart_21 : decode cX8_apart 21 = .ok (.ifCond .ge 6, 3) := by decide +kernel
theorem dX8_apart_24 : decode cX8_apart 24 = .ok (.bipush (-3), 2) := by decide +kernel
theorem dX8_apart_26 : decode cX8_apart 26 = .ok (.ireturn, 1) := by decide +kernel
theorem dX8_apart_27 : decode cX8_apart 27 = .ok (.iconst 0, 1) := by decide +kernel
theorem dX8_apart_28 : decode cX8_apart 28 = .ok (.istore 4, 2) := by decide +kernel
theorem dX8_apart_30 : decode cX8_apart 30 = .ok (.iconst 0, 1) := by decide +kernel
theorem dX8_apart_31 : decode cX8_apart 31 = .ok (.istore 5, 2) := by decide +kernel
theorem dX8_apart_33 : decode cX8_apart 33 = .ok (.iload 5, 2) := by decide +kernel
theorem dX8_apart_35 : decode cX8_apart 35 = .ok (.aload_n 0, 1) := by decide +kernel
theorem dX8_apart_36 : decode cX8_apart 36 = .ok (.getfield 95, 3) := by decide +kernel
theorem dX8_apart_39 : decode cX8_apart 39 = .ok (.if_icmp .ge 32, 3) := by decide +kernel
theorem dX8_apart_42 : decode cX8_apart 42 = .ok (.iload 4, 2) := by decide +kernel
theorem dX8_apart_44 : decode cX8_apart 44 = .ok (.aload_n 0, 1) := by decide +kernel
theorem dX8_apart_45 : decode cX8_apart 45 = .ok (.iload_n 3, 1) := by decide +kernel
theorem dX8_apart_46 : decode cX8_apart 46 = .ok (.iload 5, 2) := by decide +kernel
theorem dX8_apart_48 : decode cX8_apart 48 = .ok (.invokevirtual 249, 3) := by decide +kernel
theorem dX8_apart_51 : decode cX8_apart 51 = .ok (.ifCond .eq 10, 3) := by decide +kernel
theorem dX8_apart_54 : decode cX8_apart 54 = .ok (.iconst 1, 1) := by decide +kernel
theorem dX8_apart_55 : decode cX8_apart 55 = .ok (.iload 5, 2) := by decide +kernel
theorem dX8_apart_57 : decode cX8_apart 57 = .ok (.ishl, 1) := by decide +kernel
theorem dX8_apart_58 : decode cX8_apart 58 = .ok (.goto 4, 3) := by decide +kernel
theorem dX8_apart_61 : decode cX8_apart 61 = .ok (.iconst 0, 1) := by decide +kernel
theorem dX8_apart_62 : decode cX8_apart 62 = .ok (.ior, 1) := by decide +kernel
theorem dX8_apart_63 : decode cX8_apart 63 = .ok (.istore 4, 2) := by decide +kernel
theorem dX8_apart_65 : decode cX8_apart 65 = .ok (.iinc 5 1, 3) := by decide +kernel
theorem dX8_apart_68 : decode cX8_apart 68 = .ok (.goto (-35), 3) := by decide +kernel
theorem dX8_apart_71 : decode cX8_apart 71 = .ok (.aload_n 0, 1) := by decide +kernel
theorem dX8_apart_72 : decode cX8_apart 72 = .ok (.iload_n 1, 1) := by decide +kernel
theorem dX8_apart_73 : decode cX8_apart 73 = .ok (.iload_n 2, 1) := by decide +kernel
theorem dX8_apart_74 : decode cX8_apart 74 = .ok (.invokevirtual 308, 3) := by decide +kernel
theorem dX8_apart_77 : decode cX8_apart 77 = .ok (.istore 5, 2) := by decide +kernel
theorem dX8_apart_79 : decode cX8_apart 79 = .ok (.iconst 0, 1) := by decide +kernel
theorem dX8_apart_80 : decode cX8_apart 80 = .ok (.istore 6, 2) := by decide +kernel
theorem dX8_apart_82 : decode cX8_apart 82 = .ok (.iconst 0, 1) := by decide +kernel
theorem dX8_apart_83 : decode cX8_apart 83 = .ok (.istore 7, 2) := by decide +kernel
theorem dX8_apart_85 : decode cX8_apart 85 = .ok (.iload 7, 2) := by decide +kernel
theorem dX8_apart_87 : decode cX8_apart 87 = .ok (.aload_n 0, 1) := by decide +kernel
theorem dX8_apart_88 : decode cX8_apart 88 = .ok (.getfield 112, 3) := by decide +kernel
theorem dX8_apart_91 : decode cX8_apart 91 = .ok (.if_icmp .ge 79, 3) := by decide +kernel
theorem dX8_apart_94 : decode cX8_apart 94 = .ok (.iconst 0, 1) := by decide +kernel
theorem dX8_apart_95 : decode cX8_apart 95 = .ok (.istore 8, 2) := by decide +kernel
theorem dX8_apart_97 : decode cX8_apart 97 = .ok (.iload 8, 2) := by decide +kernel
theorem dX8_apart_99 : decode cX8_apart 99 = .ok (.iload 7, 2) := by decide +kernel
theorem dX8_apart_101 : decode cX8_apart 101 = .ok (.if_icmp .ge 63, 3) := by decide +kernel
theorem dX8_apart_104 : decode cX8_apart 104 = .ok (.iload 6, 2) := by decide +kernel
theorem dX8_apart_106 : decode cX8_apart 106 = .ok (.aload_n 0, 1) := by decide +kernel
theorem dX8_apart_107 : decode cX8_apart 107 = .ok (.iload 4, 2) := by decide +kernel
theorem dX8_apart_109 : decode cX8_apart 109 = .ok (.iload 7, 2) := by decide +kernel
theorem dX8_apart_111 : decode cX8_apart 111 = .ok (.invokevirtual 219, 3) := by decide +kernel
theorem dX8_apart_114 : decode cX8_apart 114 = .ok (.ifCond .eq 40, 3) := by decide +kernel
theorem dX8_apart_117 : decode cX8_apart 117 = .ok (.aload_n 0, 1) := by decide +kernel
theorem dX8_apart_118 : decode cX8_apart 118 = .ok (.iload 4, 2) := by decide +kernel
theorem dX8_apart_120 : decode cX8_apart 120 = .ok (.iload 8, 2) := by decide +kernel
theorem dX8_apart_122 : decode cX8_apart 122 = .ok (.invokevirtual 219, 3) := by decide +kernel
theorem dX8_apart_125 : decode cX8_apart 125 = .ok (.ifCond .eq 29, 3) := by decide +kernel
theorem dX8_apart_128 : decode cX8_apart 128 = .ok (.aload_n 0, 1) := by decide +kernel
theorem dX8_apart_129 : decode cX8_apart 129 = .ok (.iload 5, 2) := by decide +kernel
theorem dX8_apart_131 : decode cX8_apart 131 = .ok (.iload 7, 2) := by decide +kernel
theorem dX8_apart_133 : decode cX8_apart 133 = .ok (.invokevirtual 219, 3) := by decide +kernel
theorem dX8_apart_136 : decode cX8_apart 136 = .ok (.ifCond .eq 14, 3) := by decide +kernel
theorem dX8_apart_139 : decode cX8_apart 139 = .ok (.aload_n 0, 1) := by decide +kernel
theorem dX8_apart_140 : decode cX8_apart 140 = .ok (.iload 5, 2) := by decide +kernel
theorem dX8_apart_142 : decode cX8_apart 142 = .ok (.iload 8, 2) := by decide +kernel
theorem dX8_apart_144 : decode cX8_apart 144 = .ok (.invokevirtual 219, 3) := by decide +kernel
theorem dX8_apart_147 : decode cX8_apart 147 = .ok (.ifCond .ne 7, 3) := by decide +kernel
theorem dX8_apart_150 : decode cX8_apart 150 = .ok (.iconst 1, 1) := by decide +kernel
theorem dX8_apart_151 : decode cX8_apart 151 = .ok (.goto 4, 3) := by decide +kernel
theorem dX8_apart_154 : decode cX8_apart 154 = .ok (.iconst 0, 1) := by decide +kernel
theorem dX8_apart_155 : decode cX8_apart 155 = .ok (.iadd, 1) := by decide +kernel
theorem dX8_apart_156 : decode cX8_apart 156 = .ok (.istore 6, 2) := by decide +kernel
theorem dX8_apart_158 : decode cX8_apart 158 = .ok (.iinc 8 1, 3) := by decide +kernel
theorem dX8_apart_161 : decode cX8_apart 161 = .ok (.goto (-64), 3) := by decide +kernel
theorem dX8_apart_164 : decode cX8_apart 164 = .ok (.iinc 7 1, 3) := by decide +kernel
theorem dX8_apart_167 : decode cX8_apart 167 = .ok (.goto (-82), 3) := by decide +kernel
theorem dX8_apart_170 : decode cX8_apart 170 = .ok (.iload 6, 2) := by decide +kernel
theorem dX8_apart_172 : decode cX8_apart 172 = .ok (.ireturn, 1) := by decide +kernel
theorem dX8_saves_0 : decode cX8_saves 0 = .ok (.aload_n 0, 1) := by decide +kernel
theorem dX8_saves_1 : decode cX8_saves 1 = .ok (.iload_n 1, 1) := by decide +kernel
theorem dX8_saves_2 : decode cX8_saves 2 = .ok (.invokevirtual 203, 3) := by decide +kernel
theorem dX8_saves_5 : decode cX8_saves 5 = .ok (.ifCond .eq 11, 3) := by decide +kernel
theorem dX8_saves_8 : decode cX8_saves 8 = .ok (.aload_n 0, 1) := by decide +kernel
theorem dX8_saves_9 : decode cX8_saves 9 = .ok (.iload_n 2, 1) := by decide +kernel
theorem dX8_saves_10 : decode cX8_saves 10 = .ok (.invokevirtual 255, 3) := by decide +kernel
theorem dX8_saves_13 : decode cX8_saves 13 = .ok (.ifCond .ne 5, 3) := by decide +kernel
theorem dX8_saves_16 : decode cX8_saves 16 = .ok (.iconst (-1), 1) := by decide +kernel
theorem dX8_saves_17 : decode cX8_saves 17 = .ok (.ireturn, 1) := by decide +kernel
theorem dX8_saves_18 : decode cX8_saves 18 = .ok (.aload_n 0, 1) := by decide +kernel
theorem dX8_saves_19 : decode cX8_saves 19 = .ok (.iload_n 1, 1) := by decide +kernel
theorem dX8_saves_20 : decode cX8_saves 20 = .ok (.iconst 0, 1) := by decide +kernel
theorem dX8_saves_21 : decode cX8_saves 21 = .ok (.invokevirtual 230, 3) := by decide +kernel
theorem dX8_saves_24 : decode cX8_saves 24 = .ok (.ifCond .ne 6, 3) := by decide +kernel
theorem dX8_saves_27 : decode cX8_saves 27 = .ok (.bipush (-5), 2) := by decide +kernel
theorem dX8_saves_29 : decode cX8_saves 29 = .ok (.ireturn, 1) := by decide +kernel
theorem dX8_saves_30 : decode cX8_saves 30 = .ok (.iconst 0, 1) := by decide +kernel
theorem dX8_saves_31 : decode cX8_saves 31 = .ok (.istore_n 3, 1) := by decide +kernel
theorem dX8_saves_32 : decode cX8_saves 32 = .ok (.iload_n 3, 1) := by decide +kernel
theorem dX8_saves_33 : decode cX8_saves 33 = .ok (.bipush 61, 2) := by decide +kernel
theorem dX8_saves_35 : decode cX8_saves 35 = .ok (.if_icmp .ge 20, 3) := by decide +kernel
theorem dX8_saves_38 : decode cX8_saves 38 = .ok (.aload_n 0, 1) := by decide +kernel
theorem dX8_saves_39 : decode cX8_saves 39 = .ok (.iload_n 2, 1) := by decide +kernel
theorem dX8_saves_40 : decode cX8_saves 40 = .ok (.iload_n 3, 1) := by decide +kernel
theorem dX8_saves_41 : decode cX8_saves 41 = .ok (.invokevirtual 258, 3) := by decide +kernel
theorem dX8_saves_44 : decode cX8_saves 44 = .ok (.ifCond .eq 5, 3) := by decide +kernel
theorem dX8_saves_47 : decode cX8_saves 47 = .ok (.iload_n 3, 1) := by decide +kernel
theorem dX8_saves_48 : decode cX8_saves 48 = .ok (.ireturn, 1) := by decide +kernel
theorem dX8_saves_49 : decode cX8_saves 49 = .ok (.iinc 3 1, 3) := by decide +kernel
theorem dX8_saves_52 : decode cX8_saves 52 = .ok (.goto (-20), 3) := by decide +kernel
theorem dX8_saves_55 : decode cX8_saves 55 = .ok (.bipush (-5), 2) := by decide +kernel
theorem dX8_saves_57 : decode cX8_saves 57 = .ok (.ireturn, 1) := by decide +kernel
theorem dX8_table_0 : decode cX8_table 0 = .ok (.aload_n 0, 1) := by decide +kernel
theorem dX8_table_1 : decode cX8_table 1 = .ok (.iload_n 1, 1) := by decide +kernel
theorem dX8_table_2 : decode cX8_table 2 = .ok (.invokevirtual 311, 3) := by decide +kernel
theorem dX8_table_5 : decode cX8_table 5 = .ok (.ifCond .eq 15, 3) := by decide +kernel
theorem dX8_table_8 : decode cX8_table 8 = .ok (.aload_n 0, 1) := by decide +kernel
theorem dX8_table_9 : decode cX8_table 9 = .ok (.iload_n 3, 1) := by decide +kernel
theorem dX8_table_10 : decode cX8_table 10 = .ok (.iload 4, 2) := by decide +kernel
theorem dX8_table_12 : decode cX8_table 12 = .ok (.iload 5, 2) := by decide +kernel
theorem dX8_table_14 : decode cX8_table 14 = .ok (.invokevirtual 279, 3) := by decide +kernel
theorem dX8_table_17 : decode cX8_table 17 = .ok (.ifCond .ne 5, 3) := by decide +kernel
theorem dX8_table_20 : decode cX8_table 20 = .ok (.iconst (-1), 1) := by decide +kernel
theorem dX8_table_21 : decode cX8_table 21 = .ok (.ireturn, 1) := by decide +kernel
theorem dX8_table_22 : decode cX8_table 22 = .ok (.aload_n 0, 1) := by decide +kernel
theorem dX8_table_23 : decode cX8_table 23 = .ok (.getfield 130, 3) := by decide +kernel
theorem dX8_table_26 : decode cX8_table 26 = .ok (.iload_n 1, 1) := by decide +kernel
theorem dX8_table_27 : decode cX8_table 27 = .ok (.iaload, 1) := by decide +kernel
theorem dX8_table_28 : decode cX8_table 28 = .ok (.ifCond .lt 16, 3) := by decide +kernel
theorem dX8_table_31 : decode cX8_table 31 = .ok (.aload_n 0, 1) := by decide +kernel
theorem dX8_table_32 : decode cX8_table 32 = .ok (.getfield 130, 3) := by decide +kernel
theorem dX8_table_35 : decode cX8_table 35 = .ok (.iload_n 1, 1) := by decide +kernel
theorem dX8_table_36 : decode cX8_table 36 = .ok (.iaload, 1) := by decide +kernel
theorem dX8_table_37 : decode cX8_table 37 = .ok (.iconst 1, 1) := by decide +kernel
theorem dX8_table_38 : decode cX8_table 38 = .ok (.if_icmp .eq 6, 3) := by decide +kernel
theorem dX8_table_41 : decode cX8_table 41 = .ok (.bipush (-12), 2) := by decide +kernel
theorem dX8_table_43 : decode cX8_table 43 = .ok (.ireturn, 1) := by decide +kernel
theorem dX8_table_44 : decode cX8_table 44 = .ok (.aload_n 0, 1) := by decide +kernel
theorem dX8_table_45 : decode cX8_table 45 = .ok (.iload 4, 2) := by decide +kernel
theorem dX8_table_47 : decode cX8_table 47 = .ok (.iload 5, 2) := by decide +kernel
theorem dX8_table_49 : decode cX8_table 49 = .ok (.invokevirtual 282, 3) := by decide +kernel
theorem dX8_table_52 : decode cX8_table 52 = .ok (.iconst 0, 1) := by decide +kernel
theorem dX8_table_53 : decode cX8_table 53 = .ok (.istore 6, 2) := by decide +kernel
theorem dX8_table_55 : decode cX8_table 55 = .ok (.aload_n 0, 1) := by decide +kernel
theorem dX8_table_56 : decode cX8_table 56 = .ok (.iload_n 3, 1) := by decide +kernel
theorem dX8_table_57 : decode cX8_table 57 = .ok (.iload 4, 2) := by decide +kernel
theorem dX8_table_59 : decode cX8_table 59 = .ok (.iconst (-1), 1) := by decide +kernel
theorem dX8_table_60 : decode cX8_table 60 = .ok (.invokevirtual 289, 3) := by decide +kernel
theorem dX8_table_63 : decode cX8_table 63 = .ok (.istore 7, 2) := by decide +kernel
theorem dX8_table_65 : decode cX8_table 65 = .ok (.iload 7, 2) := by decide +kernel
theorem dX8_table_67 : decode cX8_table 67 = .ok (.ifCond .ge 6, 3) := by decide +kernel
theorem dX8_table_70 : decode cX8_table 70 = .ok (.iload 6, 2) := by decide +kernel
theorem dX8_table_72 : decode cX8_table 72 = .ok (.ireturn, 1) := by decide +kernel
theorem dX8_table_73 : decode cX8_table 73 = .ok (.aload_n 0, 1) := by decide +kernel
theorem dX8_table_74 : decode cX8_table 74 = .ok (.getfield 130, 3) := by decide +kernel
theorem dX8_table_77 : decode cX8_table 77 = .ok (.iload_n 1, 1) := by decide +kernel
theorem dX8_table_78 : decode cX8_table 78 = .ok (.iaload, 1) := by decide +kernel
theorem dX8_table_79 : decode cX8_table 79 = .ok (.ifCond .lt 22, 3) := by decide +kernel
theorem dX8_table_82 : decode cX8_table 82 = .ok (.iload_n 2, 1) := by decide +kernel
theorem dX8_table_83 : decode cX8_table 83 = .ok (.ifCond .lt 18, 3) := by decide +kernel
theorem dX8_table_86 : decode cX8_table 86 = .ok (.iload_n 2, 1) := by decide +kernel
theorem dX8_table_87 : decode cX8_table 87 = .ok (.aload_n 0, 1) := by decide +kernel
theorem dX8_table_88 : decode cX8_table 88 = .ok (.getfield 133, 3) := by decide +kernel
theorem dX8_table_91 : decode cX8_table 91 = .ok (.iload_n 1, 1) := by decide +kernel
theorem dX8_table_92 : decode cX8_table 92 = .ok (.iaload, 1) := by decide +kernel
theorem dX8_table_93 : decode cX8_table 93 = .ok (.iload 6, 2) := by decide +kernel
theorem dX8_table_95 : decode cX8_table 95 = .ok (.isub, 1) := by decide +kernel
theorem dX8_table_96 : decode cX8_table 96 = .ok (.iconst 1, 1) := by decide +kernel
theorem dX8_table_97 : decode cX8_table 97 = .ok (.isub, 1) := by decide +kernel
theorem dX8_table_98 : decode cX8_table 98 = .ok (.if_icmp .le 10, 3) := by decide +kernel
theorem dX8_table_101 : decode cX8_table 101 = .ok (.sipush 1000, 3) := by decide +kernel
theorem dX8_table_104 : decode cX8_table 104 = .ok (.iload 6, 2) := by decide +kernel
theorem dX8_table_106 : decode cX8_table 106 = .ok (.iadd, 1) := by decide +kernel
theorem dX8_table_107 : decode cX8_table 107 = .ok (.ireturn, 1) := by decide +kernel
theorem dX8_table_108 : decode cX8_table 108 = .ok (.aload_n 0, 1) := by decide +kernel
theorem dX8_table_109 : decode cX8_table 109 = .ok (.getfield 136, 3) := by decide +kernel
theorem dX8_table_112 : decode cX8_table 112 = .ok (.bipush 60, 2) := by decide +kernel
theorem dX8_table_114 : decode cX8_table 114 = .ok (.iload_n 1, 1) := by decide +kernel
theorem dX8_table_115 : decode cX8_table 115 = .ok (.imul, 1) := by decide +kernel
theorem dX8_table_116 : decode cX8_table 116 = .ok (.iload_n 2, 1) := by decide +kernel
theorem dX8_table_117 : decode cX8_table 117 = .ok (.iadd, 1) := by decide +kernel
theorem dX8_table_118 : decode cX8_table 118 = .ok (.iload 6, 2) := by decide +kernel
theorem dX8_table_120 : decode cX8_table 120 = .ok (.iadd, 1) := by decide +kernel
theorem dX8_table_121 : decode cX8_table 121 = .ok (.laload, 1) := by decide +kernel
theorem dX8_table_122 : decode cX8_table 122 = .ok (.iload 7, 2) := by decide +kernel
theorem dX8_table_124 : decode cX8_table 124 = .ok (.i2l, 1) := by decide +kernel
theorem dX8_table_125 : decode cX8_table 125 = .ok (.lcmp, 1) := by decide +kernel
theorem dX8_table_126 : decode cX8_table 126 = .ok (.ifCond .eq 6, 3) := by decide +kernel
theorem dX8_table_129 : decode cX8_table 129 = .ok (.iload 6, 2) := by decide +kernel
theorem dX8_table_131 : decode cX8_table 131 = .ok (.ireturn, 1) := by decide +kernel
theorem dX8_table_132 : decode cX8_table 132 = .ok (.iinc 6 1, 3) := by decide +kernel
theorem dX8_table_135 : decode cX8_table 135 = .ok (.aload_n 0, 1) := by decide +kernel
theorem dX8_table_136 : decode cX8_table 136 = .ok (.iload_n 3, 1) := by decide +kernel
theorem dX8_table_137 : decode cX8_table 137 = .ok (.iload 4, 2) := by decide +kernel
theorem dX8_table_139 : decode cX8_table 139 = .ok (.iload 7, 2) := by decide +kernel
theorem dX8_table_141 : decode cX8_table 141 = .ok (.invokevirtual 289, 3) := by decide +kernel
theorem dX8_table_144 : decode cX8_table 144 = .ok (.istore 7, 2) := by decide +kernel
theorem dX8_table_146 : decode cX8_table 146 = .ok (.goto (-81), 3) := by decide +kernel
theorem dX8_body_0 : decode cX8_body 0 = .ok (.aload_n 0, 1) := by decide +kernel
theorem dX8_body_1 : decode cX8_body 1 = .ok (.getfield 124, 3) := by decide +kernel
theorem dX8_body_4 : decode cX8_body 4 = .ok (.bipush 20, 2) := by decide +kernel
theorem dX8_body_6 : decode cX8_body 6 = .ok (.if_icmp .ge 13, 3) := by decide +kernel
theorem dX8_body_9 : decode cX8_body 9 = .ok (.aload_n 0, 1) := by decide +kernel
theorem dX8_body_10 : decode cX8_body 10 = .ok (.getfield 127, 3) := by decide +kernel
theorem dX8_body_13 : decode cX8_body 13 = .ok (.aload_n 0, 1) := by decide +kernel
theorem dX8_body_14 : decode cX8_body 14 = .ok (.getfield 124, 3) := by decide +kernel
theorem dX8_body_17 : decode cX8_body 17 = .ok (.iload_n 1, 1) := by decide +kernel
theorem dX8_body_18 : decode cX8_body 18 = .ok (.iastore, 1) := by decide +kernel
theorem dX8_body_19 : decode cX8_body 19 = .ok (.aload_n 0, 1) := by decide +kernel
theorem dX8_body_20 : decode cX8_body 20 = .ok (.dup, 1) := by decide +kernel
theorem dX8_body_21 : decode cX8_body 21 = .ok (.getfield 124, 3) := by decide +kernel
theorem dX8_body_24 : decode cX8_body 24 = .ok (.iconst 1, 1) := by decide +kernel
theorem dX8_body_25 : decode cX8_body 25 = .ok (.iadd, 1) := by decide +kernel
theorem dX8_body_26 : decode cX8_body 26 = .ok (.putfield 124, 3) := by decide +kernel
theorem dX8_body_29 : decode cX8_body 29 = .ok (.return_, 1) := by decide +kernel
theorem dX8_isUnder_0 : decode cX8_isUnder 0 = .ok (.iload_n 2, 1) := by decide +kernel
theorem dX8_isUnder_1 : decode cX8_isUnder 1 = .ok (.ifCond .eq 34, 3) := by decide +kernel
theorem dX8_isUnder_4 : decode cX8_isUnder 4 = .ok (.iload_n 1, 1) := by decide +kernel
theorem dX8_isUnder_5 : decode cX8_isUnder 5 = .ok (.iload_n 2, 1) := by decide +kernel
theorem dX8_isUnder_6 : decode cX8_isUnder 6 = .ok (.if_icmp .eq 29, 3) := by decide +kernel
theorem dX8_isUnder_9 : decode cX8_isUnder 9 = .ok (.iload_n 2, 1) := by decide +kernel
theorem dX8_isUnder_10 : decode cX8_isUnder 10 = .ok (.iconst 1, 1) := by decide +kernel
theorem dX8_isUnder_11 : decode cX8_isUnder 11 = .ok (.if_icmp .ne 14, 3) := by decide +kernel
theorem dX8_isUnder_14 : decode cX8_isUnder 14 = .ok (.iload_n 1, 1) := by decide +kernel
theorem dX8_isUnder_15 : decode cX8_isUnder 15 = .ok (.iconst 4, 1) := by decide +kernel
theorem dX8_isUnder_16 : decode cX8_isUnder 16 = .ok (.if_icmp .eq 19, 3) := by decide +kernel
theorem dX8_isUnder_19 : decode cX8_isUnder 19 = .ok (.iload_n 1, 1) := by decide +kernel
theorem dX8_isUnder_20 : decode cX8_isUnder 20 = .ok (.bipush 6, 2) := by decide +kernel
theorem dX8_isUnder_22 : decode cX8_isUnder 22 = .ok (.if_icmp .eq 13, 3) := by decide +kernel
theorem dX8_isUnder_25 : decode cX8_isUnder 25 = .ok (.iload_n 2, 1) := by decide +kernel
theorem dX8_isUnder_26 : decode cX8_isUnder 26 = .ok (.iconst 3, 1) := by decide +kernel
theorem dX8_isUnder_27 : decode cX8_isUnder 27 = .ok (.if_icmp .ne 12, 3) := by decide +kernel
theorem dX8_isUnder_30 : decode cX8_isUnder 30 = .ok (.iload_n 1, 1) := by decide +kernel
theorem dX8_isUnder_31 : decode cX8_isUnder 31 = .ok (.iconst 5, 1) := by decide +kernel
theorem dX8_isUnder_32 : decode cX8_isUnder 32 = .ok (.if_icmp .ne 7, 3) := by decide +kernel
theorem dX8_isUnder_35 : decode cX8_isUnder 35 = .ok (.iconst 1, 1) := by decide +kernel
theorem dX8_isUnder_36 : decode cX8_isUnder 36 = .ok (.goto 4, 3) := by decide +kernel
theorem dX8_isUnder_39 : decode cX8_isUnder 39 = .ok (.iconst 0, 1) := by decide +kernel
theorem dX8_isUnder_40 : decode cX8_isUnder 40 = .ok (.ireturn, 1) := by decide +kernel
theorem dX8_plainStrikes_0 : decode cX8_plainStrikes 0 = .ok (.aload_n 0, 1) := by decide +kernel
theorem dX8_plainStrikes_1 : decode cX8_plainStrikes 1 = .ok (.bipush 10, 2) := by decide +kernel
theorem dX8_plainStrikes_3 : decode cX8_plainStrikes 3 = .ok (.invokevirtual 314, 3) := by decide +kernel
theorem dX8_plainStrikes_6 : decode cX8_plainStrikes 6 = .ok (.iload_n 1, 1) := by decide +kernel
theorem dX8_plainStrikes_7 : decode cX8_plainStrikes 7 = .ok (.aload_n 0, 1) := by decide +kernel
theorem dX8_plainStrikes_8 : decode cX8_plainStrikes 8 = .ok (.getfield 7, 3) := by decide +kernel
theorem dX8_plainStrikes_11 : decode cX8_plainStrikes 11 = .ok (.iadd, 1) := by decide +kernel
theorem dX8_plainStrikes_12 : decode cX8_plainStrikes 12 = .ok (.ireturn, 1) := by decide +kernel
theorem dX8_wordsStrikes_0 : decode cX8_wordsStrikes 0 = .ok (.aload_n 0, 1) := by decide +kernel
theorem dX8_wordsStrikes_1 : decode cX8_wordsStrikes 1 = .ok (.bipush 20, 2) := by decide +kernel
theorem dX8_wordsStrikes_3 : decode cX8_wordsStrikes 3 = .ok (.invokevirtual 314, 3) := by decide +kernel
theorem dX8_wordsStrikes_6 : decode cX8_wordsStrikes 6 = .ok (.aload_n 0, 1) := by decide +kernel
theorem dX8_wordsStrikes_7 : decode cX8_wordsStrikes 7 = .ok (.iload_n 1, 1) := by decide +kernel
theorem dX8_wordsStrikes_8 : decode cX8_wordsStrikes 8 = .ok (.iconst 3, 1) := by decide +kernel
theorem dX8_wordsStrikes_9 : decode cX8_wordsStrikes 9 = .ok (.imul, 1) := by decide +kernel
theorem dX8_wordsStrikes_10 : decode cX8_wordsStrikes 10 = .ok (.invokevirtual 317, 3) := by decide +kernel
theorem dX8_wordsStrikes_13 : decode cX8_wordsStrikes 13 = .ok (.ireturn, 1) := by decide +kernel
theorem dX8_strikes_0 : decode cX8_strikes 0 = .ok (.aload_n 0, 1) := by decide +kernel
theorem dX8_strikes_1 : decode cX8_strikes 1 = .ok (.iload_n 1, 1) := by decide +kernel
theorem dX8_strikes_2 : decode cX8_strikes 2 = .ok (.iconst 1, 1) := by decide +kernel
theorem dX8_strikes_3 : decode cX8_strikes 3 = .ok (.invokevirtual 320, 3) := by decide +kernel
theorem dX8_strikes_6 : decode cX8_strikes 6 = .ok (.ifCond .eq 9, 3) := by decide +kernel
theorem dX8_strikes_9 : decode cX8_strikes 9 = .ok (.aload_n 0, 1) := by decide +kernel
theorem dX8_strikes_10 : decode cX8_strikes 10 = .ok (.iload_n 2, 1) := by decide +kernel
theorem dX8_strikes_11 : decode cX8_strikes 11 = .ok (.invokevirtual 323, 3) := by decide +kernel
theorem dX8_strikes_14 : decode cX8_strikes 14 = .ok (.ireturn, 1) := by decide +kernel
theorem dX8_strikes_15 : decode cX8_strikes 15 = .ok (.iload_n 1, 1) := by decide +kernel
theorem dX8_strikes_16 : decode cX8_strikes 16 = .ok (.iconst 5, 1) := by decide +kernel
theorem dX8_strikes_17 : decode cX8_strikes 17 = .ok (.if_icmp .ne 20, 3) := by decide +kernel
theorem dX8_strikes_20 : decode cX8_strikes 20 = .ok (.aload_n 0, 1) := by decide +kernel
theorem dX8_strikes_21 : decode cX8_strikes 21 = .ok (.bipush 61, 2) := by decide +kernel
theorem dX8_strikes_23 : decode cX8_strikes 23 = .ok (.invokevirtual 314, 3) := by decide +kernel
theorem dX8_strikes_26 : decode cX8_strikes 26 = .ok (.aload_n 0, 1) := by decide +kernel
theorem dX8_strikes_27 : decode cX8_strikes 27 = .ok (.iload_n 2, 1) := by decide +kernel
theorem dX8_strikes_28 : decode cX8_strikes 28 = .ok (.invokevirtual 317, 3) := by decide +kernel
theorem dX8_strikes_31 : decode cX8_strikes 31 = .ok (.aload_n 0, 1) := by decide +kernel
theorem dX8_strikes_32 : decode cX8_strikes 32 = .ok (.getfield 13, 3) := by decide +kernel
theorem dX8_strikes_35 : decode cX8_strikes 35 = .ok (.ixor, 1) := by decide +kernel
theorem dX8_strikes_36 : decode cX8_strikes 36 = .ok (.ireturn, 1) := by decide +kernel
theorem dX8_strikes_37 : decode cX8_strikes 37 = .ok (.aload_n 0, 1) := by decide +kernel
theorem dX8_strikes_38 : decode cX8_strikes 38 = .ok (.iload_n 2, 1) := by decide +kernel
theorem dX8_strikes_39 : decode cX8_strikes 39 = .ok (.invokevirtual 317, 3) := by decide +kernel
theorem dX8_strikes_42 : decode cX8_strikes 42 = .ok (.ireturn, 1) := by decide +kernel
theorem dX8_plainLeaves_0 : decode cX8_plainLeaves 0 = .ok (.aload_n 0, 1) := by decide +kernel
theorem dX8_plainLeaves_1 : decode cX8_plainLeaves 1 = .ok (.bipush 11, 2) := by decide +kernel
theorem dX8_plainLeaves_3 : decode cX8_plainLeaves 3 = .ok (.invokevirtual 314, 3) := by decide +kernel
theorem dX8_plainLeaves_6 : decode cX8_plainLeaves 6 = .ok (.aload_n 0, 1) := by decide +kernel
theorem dX8_plainLeaves_7 : decode cX8_plainLeaves 7 = .ok (.iload_n 1, 1) := by decide +kernel
theorem dX8_plainLeaves_8 : decode cX8_plainLeaves 8 = .ok (.iload_n 2, 1) := by decide +kernel
theorem dX8_plainLeaves_9 : decode cX8_plainLeaves 9 = .ok (.invokevirtual 326, 3) := by decide +kernel
theorem dX8_plainLeaves_12 : decode cX8_plainLeaves 12 = .ok (.aload_n 0, 1) := by decide +kernel
theorem dX8_plainLeaves_13 : decode cX8_plainLeaves 13 = .ok (.getfield 13, 3) := by decide +kernel
theorem dX8_plainLeaves_16 : decode cX8_plainLeaves 16 = .ok (.isub, 1) := by decide +kernel
theorem dX8_plainLeaves_17 : decode cX8_plainLeaves 17 = .ok (.ireturn, 1) := by decide +kernel
theorem dX8_leaves_0 : decode cX8_leaves 0 = .ok (.iload_n 1, 1) := by decide +kernel
theorem dX8_leaves_1 : decode cX8_leaves 1 = .ok (.tableswitch 81 2 5 #[31, 46, 60, 46], 31) := by decide +kernel
theorem dX8_leaves_32 : decode cX8_leaves 32 = .ok (.aload_n 0, 1) := by decide +kernel
theorem dX8_leaves_33 : decode cX8_leaves 33 = .ok (.bipush 30, 2) := by decide +kernel
theorem dX8_leaves_35 : decode cX8_leaves 35 = .ok (.invokevirtual 314, 3) := by decide +kernel
theorem dX8_leaves_38 : decode cX8_leaves 38 = .ok (.aload_n 0, 1) := by decide +kernel
theorem dX8_leaves_39 : decode cX8_leaves 39 = .ok (.iload_n 1, 1) := by decide +kernel
theorem dX8_leaves_40 : decode cX8_leaves 40 = .ok (.iload_n 2, 1) := by decide +kernel
theorem dX8_leaves_41 : decode cX8_leaves 41 = .ok (.invokevirtual 329, 3) := by decide +kernel
theorem dX8_leaves_44 : decode cX8_leaves 44 = .ok (.iconst 5, 1) := by decide +kernel
theorem dX8_leaves_45 : decode cX8_leaves 45 = .ok (.ixor, 1) := by decide +kernel
theorem dX8_leaves_46 : decode cX8_leaves 46 = .ok (.ireturn, 1) := by decide +kernel
theorem dX8_leaves_47 : decode cX8_leaves 47 = .ok (.aload_n 0, 1) := by decide +kernel
theorem dX8_leaves_48 : decode cX8_leaves 48 = .ok (.bipush 41, 2) := by decide +kernel
theorem dX8_leaves_50 : decode cX8_leaves 50 = .ok (.invokevirtual 314, 3) := by decide +kernel
theorem dX8_leaves_53 : decode cX8_leaves 53 = .ok (.aload_n 0, 1) := by decide +kernel
theorem dX8_leaves_54 : decode cX8_leaves 54 = .ok (.iload_n 1, 1) := by decide +kernel
theorem dX8_leaves_55 : decode cX8_leaves 55 = .ok (.iload_n 2, 1) := by decide +kernel
theorem dX8_leaves_56 : decode cX8_leaves 56 = .ok (.invokevirtual 329, 3) := by decide +kernel
theorem dX8_leaves_59 : decode cX8_leaves 59 = .ok (.ineg, 1) := by decide +kernel
theorem dX8_leaves_60 : decode cX8_leaves 60 = .ok (.ireturn, 1) := by decide +kernel
theorem dX8_leaves_61 : decode cX8_leaves 61 = .ok (.aload_n 0, 1) := by decide +kernel
theorem dX8_leaves_62 : decode cX8_leaves 62 = .ok (.bipush 50, 2) := by decide +kernel
theorem dX8_leaves_64 : decode cX8_leaves 64 = .ok (.invokevirtual 314, 3) := by decide +kernel
theorem dX8_leaves_67 : decode cX8_leaves 67 = .ok (.aload_n 0, 1) := by decide +kernel
theorem dX8_leaves_68 : decode cX8_leaves 68 = .ok (.iload_n 1, 1) := by decide +kernel
theorem dX8_leaves_69 : decode cX8_leaves 69 = .ok (.iload_n 2, 1) := by decide +kernel
theorem dX8_leaves_70 : decode cX8_leaves 70 = .ok (.invokevirtual 329, 3) := by decide +kernel
theorem dX8_leaves_73 : decode cX8_leaves 73 = .ok (.istore_n 3, 1) := by decide +kernel
theorem dX8_leaves_74 : decode cX8_leaves 74 = .ok (.iload_n 3, 1) := by decide +kernel
theorem dX8_leaves_75 : decode cX8_leaves 75 = .ok (.aload_n 0, 1) := by decide +kernel
theorem dX8_leaves_76 : decode cX8_leaves 76 = .ok (.iconst 2, 1) := by decide +kernel
theorem dX8_leaves_77 : decode cX8_leaves 77 = .ok (.invokevirtual 323, 3) := by decide +kernel
theorem dX8_leaves_80 : decode cX8_leaves 80 = .ok (.iadd, 1) := by decide +kernel
theorem dX8_leaves_81 : decode cX8_leaves 81 = .ok (.ireturn, 1) := by decide +kernel
theorem dX8_leaves_82 : decode cX8_leaves 82 = .ok (.aload_n 0, 1) := by decide +kernel
theorem dX8_leaves_83 : decode cX8_leaves 83 = .ok (.iload_n 1, 1) := by decide +kernel
theorem dX8_leaves_84 : decode cX8_leaves 84 = .ok (.iload_n 2, 1) := by decide +kernel
theorem dX8_leaves_85 : decode cX8_leaves 85 = .ok (.invokevirtual 329, 3) := by decide +kernel
theorem dX8_leaves_88 : decode cX8_leaves 88 = .ok (.ireturn, 1) := by decide +kernel
theorem dX8_plainTells_0 : decode cX8_plainTells 0 = .ok (.aload_n 0, 1) := by decide +kernel
theorem dX8_plainTells_1 : decode cX8_plainTells 1 = .ok (.bipush 12, 2) := by decide +kernel
theorem dX8_plainTells_3 : decode cX8_plainTells 3 = .ok (.invokevirtual 314, 3) := by decide +kernel
theorem dX8_plainTells_6 : decode cX8_plainTells 6 = .ok (.aload_n 0, 1) := by decide +kernel
theorem dX8_plainTells_7 : decode cX8_plainTells 7 = .ok (.iload_n 1, 1) := by decide +kernel
theorem dX8_plainTells_8 : decode cX8_plainTells 8 = .ok (.iload_n 2, 1) := by decide +kernel
theorem dX8_plainTells_9 : decode cX8_plainTells 9 = .ok (.invokevirtual 332, 3) := by decide +kernel
theorem dX8_plainTells_12 : decode cX8_plainTells 12 = .ok (.iconst 2, 1) := by decide +kernel
theorem dX8_plainTells_13 : decode cX8_plainTells 13 = .ok (.imul, 1) := by decide +kernel
theorem dX8_plainTells_14 : decode cX8_plainTells 14 = .ok (.ireturn, 1) := by decide +kernel
theorem dX8_clausesTells_0 : decode cX8_clausesTells 0 = .ok (.aload_n 0, 1) := by decide +kernel
theorem dX8_clausesTells_1 : decode cX8_clausesTells 1 = .ok (.bipush 40, 2) := by decide +kernel
theorem dX8_clausesTells_3 : decode cX8_clausesTells 3 = .ok (.invokevirtual 314, 3) := by decide +kernel
theorem dX8_clausesTells_6 : decode cX8_clausesTells 6 = .ok (.aload_n 0, 1) := by decide +kernel
theorem dX8_clausesTells_7 : decode cX8_clausesTells 7 = .ok (.iload_n 1, 1) := by decide +kernel
theorem dX8_clausesTells_8 : decode cX8_clausesTells 8 = .ok (.iload_n 2, 1) := by decide +kernel
theorem dX8_clausesTells_9 : decode cX8_clausesTells 9 = .ok (.invokevirtual 335, 3) := by decide +kernel
theorem dX8_clausesTells_12 : decode cX8_clausesTells 12 = .ok (.istore_n 3, 1) := by decide +kernel
theorem dX8_clausesTells_13 : decode cX8_clausesTells 13 = .ok (.iload_n 3, 1) := by decide +kernel
theorem dX8_clausesTells_14 : decode cX8_clausesTells 14 = .ok (.aload_n 0, 1) := by decide +kernel
theorem dX8_clausesTells_15 : decode cX8_clausesTells 15 = .ok (.iload_n 1, 1) := by decide +kernel
theorem dX8_clausesTells_16 : decode cX8_clausesTells 16 = .ok (.iconst 1, 1) := by decide +kernel
theorem dX8_clausesTells_17 : decode cX8_clausesTells 17 = .ok (.invokevirtual 326, 3) := by decide +kernel
theorem dX8_clausesTells_20 : decode cX8_clausesTells 20 = .ok (.iadd, 1) := by decide +kernel
theorem dX8_clausesTells_21 : decode cX8_clausesTells 21 = .ok (.ireturn, 1) := by decide +kernel
theorem dX8_tells_0 : decode cX8_tells 0 = .ok (.iload_n 1, 1) := by decide +kernel
theorem dX8_tells_1 : decode cX8_tells 1 = .ok (.tableswitch 78 3 6 #[31, 78, 38, 60], 31) := by decide +kernel
theorem dX8_tells_32 : decode cX8_tells 32 = .ok (.aload_n 0, 1) := by decide +kernel
theorem dX8_tells_33 : decode cX8_tells 33 = .ok (.iload_n 1, 1) := by decide +kernel
theorem dX8_tells_34 : decode cX8_tells 34 = .ok (.iload_n 2, 1) := by decide +kernel
theorem dX8_tells_35 : decode cX8_tells 35 = .ok (.invokevirtual 338, 3) := by decide +kernel
theorem dX8_tells_38 : decode cX8_tells 38 = .ok (.ireturn, 1) := by decide +kernel
theorem dX8_tells_39 : decode cX8_tells 39 = .ok (.aload_n 0, 1) := by decide +kernel
theorem dX8_tells_40 : decode cX8_tells 40 = .ok (.bipush 60, 2) := by decide +kernel
theorem dX8_tells_42 : decode cX8_tells 42 = .ok (.invokevirtual 314, 3) := by decide +kernel
theorem dX8_tells_45 : decode cX8_tells 45 = .ok (.aload_n 0, 1) := by decide +kernel
theorem dX8_tells_46 : decode cX8_tells 46 = .ok (.iload_n 1, 1) := by decide +kernel
theorem dX8_tells_47 : decode cX8_tells 47 = .ok (.iload_n 2, 1) := by decide +kernel
theorem dX8_tells_48 : decode cX8_tells 48 = .ok (.invokevirtual 332, 3) := by decide +kernel
theorem dX8_tells_51 : decode cX8_tells 51 = .ok (.istore_n 3, 1) := by decide +kernel
theorem dX8_tells_52 : decode cX8_tells 52 = .ok (.iload_n 3, 1) := by decide +kernel
theorem dX8_tells_53 : decode cX8_tells 53 = .ok (.aload_n 0, 1) := by decide +kernel
theorem dX8_tells_54 : decode cX8_tells 54 = .ok (.iload_n 1, 1) := by decide +kernel
theorem dX8_tells_55 : decode cX8_tells 55 = .ok (.iload_n 2, 1) := by decide +kernel
theorem dX8_tells_56 : decode cX8_tells 56 = .ok (.invokevirtual 338, 3) := by decide +kernel
theorem dX8_tells_59 : decode cX8_tells 59 = .ok (.isub, 1) := by decide +kernel
theorem dX8_tells_60 : decode cX8_tells 60 = .ok (.ireturn, 1) := by decide +kernel
theorem dX8_tells_61 : decode cX8_tells 61 = .ok (.aload_n 0, 1) := by decide +kernel
theorem dX8_tells_62 : decode cX8_tells 62 = .ok (.bipush 70, 2) := by decide +kernel
theorem dX8_tells_64 : decode cX8_tells 64 = .ok (.invokevirtual 314, 3) := by decide +kernel
theorem dX8_tells_67 : decode cX8_tells 67 = .ok (.aload_n 0, 1) := by decide +kernel
theorem dX8_tells_68 : decode cX8_tells 68 = .ok (.iload_n 1, 1) := by decide +kernel
theorem dX8_tells_69 : decode cX8_tells 69 = .ok (.iload_n 2, 1) := by decide +kernel
theorem dX8_tells_70 : decode cX8_tells 70 = .ok (.aload_n 0, 1) := by decide +kernel
theorem dX8_tells_71 : decode cX8_tells 71 = .ok (.getfield 7, 3) := by decide +kernel
theorem dX8_tells_74 : decode cX8_tells 74 = .ok (.isub, 1) := by decide +kernel
theorem dX8_tells_75 : decode cX8_tells 75 = .ok (.invokevirtual 335, 3) := by decide +kernel
theorem dX8_tells_78 : decode cX8_tells 78 = .ok (.ireturn, 1) := by decide +kernel
theorem dX8_tells_79 : decode cX8_tells 79 = .ok (.aload_n 0, 1) := by decide +kernel
theorem dX8_tells_80 : decode cX8_tells 80 = .ok (.iload_n 1, 1) := by decide +kernel
theorem dX8_tells_81 : decode cX8_tells 81 = .ok (.iload_n 2, 1) := by decide +kernel
theorem dX8_tells_82 : decode cX8_tells 82 = .ok (.invokevirtual 335, 3) := by decide +kernel
theorem dX8_tells_85 : decode cX8_tells 85 = .ok (.ireturn, 1) := by decide +kernel
theorem dX8_act_0 : decode cX8_act 0 = .ok (.aload_n 0, 1) := by decide +kernel
theorem dX8_act_1 : decode cX8_act 1 = .ok (.iconst 0, 1) := by decide +kernel
theorem dX8_act_2 : decode cX8_act 2 = .ok (.putfield 124, 3) := by decide +kernel
theorem dX8_act_5 : decode cX8_act 5 = .ok (.aload_n 0, 1) := by decide +kernel
theorem dX8_act_6 : decode cX8_act 6 = .ok (.iload_n 1, 1) := by decide +kernel
theorem dX8_act_7 : decode cX8_act 7 = .ok (.invokevirtual 267, 3) := by decide +kernel
theorem dX8_act_10 : decode cX8_act 10 = .ok (.ifCond .eq 13, 3) := by decide +kernel
theorem dX8_act_13 : decode cX8_act 13 = .ok (.aload_n 0, 1) := by decide +kernel
theorem dX8_act_14 : decode cX8_act 14 = .ok (.iload_n 2, 1) := by decide +kernel
theorem dX8_act_15 : decode cX8_act 15 = .ok (.iconst 0, 1) := by decide +kernel
theorem dX8_act_16 : decode cX8_act 16 = .ok (.iconst 2, 1) := by decide +kernel
theorem dX8_act_17 : decode cX8_act 17 = .ok (.invokevirtual 142, 3) := by decide +kernel
theorem dX8_act_20 : decode cX8_act 20 = .ok (.ifCond .ne 5, 3) := by decide +kernel
theorem dX8_act_23 : decode cX8_act 23 = .ok (.iconst 0, 1) := by decide +kernel
theorem dX8_act_24 : decode cX8_act 24 = .ok (.ireturn, 1) := by decide +kernel
theorem dX8_act_25 : decode cX8_act 25 = .ok (.iload_n 2, 1) := by decide +kernel
theorem dX8_act_26 : decode cX8_act 26 = .ok (.ifCond .ne 12, 3) := by decide +kernel
theorem dX8_act_29 : decode cX8_act 29 = .ok (.aload_n 0, 1) := by decide +kernel
theorem dX8_act_30 : decode cX8_act 30 = .ok (.iload_n 1, 1) := by decide +kernel
theorem dX8_act_31 : decode cX8_act 31 = .ok (.iload_n 3, 1) := by decide +kernel
theorem dX8_act_32 : decode cX8_act 32 = .ok (.invokevirtual 326, 3) := by decide +kernel
theorem dX8_act_35 : decode cX8_act 35 = .ok (.goto 23, 3) := by decide +kernel
theorem dX8_act_38 : decode cX8_act 38 = .ok (.iload_n 2, 1) := by decide +kernel
theorem dX8_act_39 : decode cX8_act 39 = .ok (.iconst 1, 1) := by decide +kernel
theorem dX8_act_40 : decode cX8_act 40 = .ok (.if_icmp .ne 12, 3) := by decide +kernel
theorem dX8_act_43 : decode cX8_act 43 = .ok (.aload_n 0, 1) := by decide +kernel
theorem dX8_act_44 : decode cX8_act 44 = .ok (.iload_n 1, 1) := by decide +kernel
theorem dX8_act_45 : decode cX8_act 45 = .ok (.iload_n 3, 1) := by decide +kernel
theorem dX8_act_46 : decode cX8_act 46 = .ok (.invokevirtual 332, 3) := by decide +kernel
theorem dX8_act_49 : decode cX8_act 49 = .ok (.goto 9, 3) := by decide +kernel
theorem dX8_act_52 : decode cX8_act 52 = .ok (.aload_n 0, 1) := by decide +kernel
theorem dX8_act_53 : decode cX8_act 53 = .ok (.iload_n 1, 1) := by decide +kernel
theorem dX8_act_54 : decode cX8_act 54 = .ok (.iload_n 3, 1) := by decide +kernel
theorem dX8_act_55 : decode cX8_act 55 = .ok (.invokevirtual 341, 3) := by decide +kernel
theorem dX8_act_58 : decode cX8_act 58 = .ok (.ireturn, 1) := by decide +kernel
theorem dX8_trace_0 : decode cX8_trace 0 = .ok (.aload_n 0, 1) := by decide +kernel
theorem dX8_trace_1 : decode cX8_trace 1 = .ok (.iload_n 1, 1) := by decide +kernel
theorem dX8_trace_2 : decode cX8_trace 2 = .ok (.iconst 0, 1) := by decide +kernel
theorem dX8_trace_3 : decode cX8_trace 3 = .ok (.bipush 19, 2) := by decide +kernel
theorem dX8_trace_5 : decode cX8_trace 5 = .ok (.invokevirtual 142, 3) := by decide +kernel
theorem dX8_trace_8 : decode cX8_trace 8 = .ok (.ifCond .eq 20, 3) := by decide +kernel
theorem dX8_trace_11 : decode cX8_trace 11 = .ok (.iload_n 1, 1) := by decide +kernel
theorem dX8_trace_12 : decode cX8_trace 12 = .ok (.aload_n 0, 1) := by decide +kernel
theorem dX8_trace_13 : decode cX8_trace 13 = .ok (.getfield 124, 3) := by decide +kernel
theorem dX8_trace_16 : decode cX8_trace 16 = .ok (.if_icmp .ge 12, 3) := by decide +kernel
theorem dX8_trace_19 : decode cX8_trace 19 = .ok (.aload_n 0, 1) := by decide +kernel
theorem dX8_trace_20 : decode cX8_trace 20 = .ok (.getfield 127, 3) := by decide +kernel
theorem dX8_trace_23 : decode cX8_trace 23 = .ok (.iload_n 1, 1) := by decide +kernel
theorem dX8_trace_24 : decode cX8_trace 24 = .ok (.iaload, 1) := by decide +kernel
theorem dX8_trace_25 : decode cX8_trace 25 = .ok (.goto 4, 3) := by decide +kernel
theorem dX8_trace_28 : decode cX8_trace 28 = .ok (.iconst (-1), 1) := by decide +kernel
theorem dX8_trace_29 : decode cX8_trace 29 = .ok (.ireturn, 1) := by decide +kernel
theorem dX8_taken_0 : decode cX8_taken 0 = .ok (.aload_n 0, 1) := by decide +kernel
theorem dX8_taken_1 : decode cX8_taken 1 = .ok (.iload_n 2, 1) := by decide +kernel
theorem dX8_taken_2 : decode cX8_taken 2 = .ok (.invokevirtual 267, 3) := by decide +kernel
theorem dX8_taken_5 : decode cX8_taken 5 = .ok (.ifCond .ne 6, 3) := by decide +kernel
theorem dX8_taken_8 : decode cX8_taken 8 = .ok (.bipush (-2), 2) := by decide +kernel
theorem dX8_taken_10 : decode cX8_taken 10 = .ok (.ireturn, 1) := by decide +kernel
theorem dX8_taken_11 : decode cX8_taken 11 = .ok (.aload_n 0, 1) := by decide +kernel
theorem dX8_taken_12 : decode cX8_taken 12 = .ok (.iload_n 1, 1) := by decide +kernel
theorem dX8_taken_13 : decode cX8_taken 13 = .ok (.invokevirtual 267, 3) := by decide +kernel
theorem dX8_taken_16 : decode cX8_taken 16 = .ok (.ifCond .ne 6, 3) := by decide +kernel
theorem dX8_taken_19 : decode cX8_taken 19 = .ok (.bipush (-11), 2) := by decide +kernel
theorem dX8_taken_21 : decode cX8_taken 21 = .ok (.ireturn, 1) := by decide +kernel
theorem dX8_taken_22 : decode cX8_taken 22 = .ok (.aload_n 0, 1) := by decide +kernel
theorem dX8_taken_23 : decode cX8_taken 23 = .ok (.iload_n 1, 1) := by decide +kernel
theorem dX8_taken_24 : decode cX8_taken 24 = .ok (.iload_n 2, 1) := by decide +kernel
theorem dX8_taken_25 : decode cX8_taken 25 = .ok (.invokevirtual 320, 3) := by decide +kernel
theorem dX8_taken_28 : decode cX8_taken 28 = .ok (.ifCond .eq 7, 3) := by decide +kernel
theorem dX8_taken_31 : decode cX8_taken 31 = .ok (.iload_n 1, 1) := by decide +kernel
theorem dX8_taken_32 : decode cX8_taken 32 = .ok (.goto 5, 3) := by decide +kernel
theorem dX8_taken_35 : decode cX8_taken 35 = .ok (.bipush (-12), 2) := by decide +kernel
theorem dX8_taken_37 : decode cX8_taken 37 = .ok (.ireturn, 1) := by decide +kernel
theorem dX8_count_0 : decode cX8_count 0 = .ok (.iload_n 1, 1) := by decide +kernel
theorem dX8_count_1 : decode cX8_count 1 = .ok (.tableswitch 51 0 3 #[31, 36, 41, 46], 31) := by decide +kernel
theorem dX8_count_32 : decode cX8_count 32 = .ok (.aload_n 0, 1) := by decide +kernel
theorem dX8_count_33 : decode cX8_count 33 = .ok (.getfield 7, 3) := by decide +kernel
theorem dX8_count_36 : decode cX8_count 36 = .ok (.ireturn, 1) := by decide +kernel
theorem dX8_count_37 : decode cX8_count 37 = .ok (.aload_n 0, 1) := by decide +kernel
theorem dX8_count_38 : decode cX8_count 38 = .ok (.getfield 13, 3) := by decide +kernel
theorem dX8_count_41 : decode cX8_count 41 = .ok (.ireturn, 1) := by decide +kernel
theorem dX8_count_42 : decode cX8_count 42 = .ok (.aload_n 0, 1) := by decide +kernel
theorem dX8_count_43 : decode cX8_count 43 = .ok (.getfield 16, 3) := by decide +kernel
theorem dX8_count_46 : decode cX8_count 46 = .ok (.ireturn, 1) := by decide +kernel
theorem dX8_count_47 : decode cX8_count 47 = .ok (.aload_n 0, 1) := by decide +kernel
theorem dX8_count_48 : decode cX8_count 48 = .ok (.getfield 124, 3) := by decide +kernel
theorem dX8_count_51 : decode cX8_count 51 = .ok (.ireturn, 1) := by decide +kernel
theorem dX8_count_52 : decode cX8_count 52 = .ok (.bipush (-2), 2) := by decide +kernel
theorem dX8_count_54 : decode cX8_count 54 = .ok (.ireturn, 1) := by decide +kernel
theorem dX8_isTape_0 : decode cX8_isTape 0 = .ok (.aload_n 0, 1) := by decide +kernel
theorem dX8_isTape_1 : decode cX8_isTape 1 = .ok (.iload_n 1, 1) := by decide +kernel
theorem dX8_isTape_2 : decode cX8_isTape 2 = .ok (.iconst 0, 1) := by decide +kernel
theorem dX8_isTape_3 : decode cX8_isTape 3 = .ok (.iconst 5, 1) := by decide +kernel
theorem dX8_isTape_4 : decode cX8_isTape 4 = .ok (.invokevirtual 142, 3) := by decide +kernel
theorem dX8_isTape_7 : decode cX8_isTape 7 = .ok (.ireturn, 1) := by decide +kernel
theorem dX8_tape_0 : decode cX8_tape 0 = .ok (.aload_n 0, 1) := by decide +kernel
theorem dX8_tape_1 : decode cX8_tape 1 = .ok (.iload_n 1, 1) := by decide +kernel
theorem dX8_tape_2 : decode cX8_tape 2 = .ok (.invokevirtual 311, 3) := by decide +kernel
theorem dX8_tape_5 : decode cX8_tape 5 = .ok (.ifCond .ne 5, 3) := by decide +kernel
theorem dX8_tape_8 : decode cX8_tape 8 = .ok (.iconst (-1), 1) := by decide +kernel
theorem dX8_tape_9 : decode cX8_tape 9 = .ok (.ireturn, 1) := by decide +kernel
theorem dX8_tape_10 : decode cX8_tape 10 = .ok (.aload_n 0, 1) := by decide +kernel
theorem dX8_tape_11 : decode cX8_tape 11 = .ok (.iload_n 2, 1) := by decide +kernel
theorem dX8_tape_12 : decode cX8_tape 12 = .ok (.iconst (-1), 1) := by decide +kernel
theorem dX8_tape_13 : decode cX8_tape 13 = .ok (.iconst 4, 1) := by decide +kernel
theorem dX8_tape_14 : decode cX8_tape 14 = .ok (.invokevirtual 142, 3) := by decide +kernel
theorem dX8_tape_17 : decode cX8_tape 17 = .ok (.ifCond .eq 13, 3) := by decide +kernel
theorem dX8_tape_20 : decode cX8_tape 20 = .ok (.iload_n 2, 1) := by decide +kernel
theorem dX8_tape_21 : decode cX8_tape 21 = .ok (.ifCond .lt 12, 3) := by decide +kernel
theorem dX8_tape_24 : decode cX8_tape 24 = .ok (.iload_n 3, 1) := by decide +kernel
theorem dX8_tape_25 : decode cX8_tape 25 = .ok (.bipush 60, 2) := by decide +kernel
theorem dX8_tape_27 : decode cX8_tape 27 = .ok (.if_icmp .le 6, 3) := by decide +kernel
theorem dX8_tape_30 : decode cX8_tape 30 = .ok (.bipush (-2), 2) := by decide +kernel
theorem dX8_tape_32 : decode cX8_tape 32 = .ok (.ireturn, 1) := by decide +kernel
theorem dX8_tape_33 : decode cX8_tape 33 = .ok (.iload_n 2, 1) := by decide +kernel
theorem dX8_tape_34 : decode cX8_tape 34 = .ok (.ifCond .lt 10, 3) := by decide +kernel
theorem dX8_tape_37 : decode cX8_tape 37 = .ok (.iload_n 3, 1) := by decide +kernel
theorem dX8_tape_38 : decode cX8_tape 38 = .ok (.ifCond .ge 6, 3) := by decide +kernel
theorem dX8_tape_41 : decode cX8_tape 41 = .ok (.bipush (-14), 2) := by decide +kernel
theorem dX8_tape_43 : decode cX8_tape 43 = .ok (.ireturn, 1) := by decide +kernel
theorem dX8_tape_44 : decode cX8_tape 44 = .ok (.aload_n 0, 1) := by decide +kernel
theorem dX8_tape_45 : decode cX8_tape 45 = .ok (.getfield 130, 3) := by decide +kernel
theorem dX8_tape_48 : decode cX8_tape 48 = .ok (.iload_n 1, 1) := by decide +kernel
theorem dX8_tape_49 : decode cX8_tape 49 = .ok (.iload_n 2, 1) := by decide +kernel
theorem dX8_tape_50 : decode cX8_tape 50 = .ok (.iastore, 1) := by decide +kernel
theorem dX8_tape_51 : decode cX8_tape 51 = .ok (.aload_n 0, 1) := by decide +kernel
theorem dX8_tape_52 : decode cX8_tape 52 = .ok (.getfield 133, 3) := by decide +kernel
theorem dX8_tape_55 : decode cX8_tape 55 = .ok (.iload_n 1, 1) := by decide +kernel
theorem dX8_tape_56 : decode cX8_tape 56 = .ok (.iload_n 2, 1) := by decide +kernel
theorem dX8_tape_57 : decode cX8_tape 57 = .ok (.ifCond .ge 7, 3) := by decide +kernel
theorem dX8_tape_60 : decode cX8_tape 60 = .ok (.iconst 0, 1) := by decide +kernel
theorem dX8_tape_61 : decode cX8_tape 61 = .ok (.goto 4, 3) := by decide +kernel
theorem dX8_tape_64 : decode cX8_tape 64 = .ok (.iload_n 3, 1) := by decide +kernel
theorem dX8_tape_65 : decode cX8_tape 65 = .ok (.iastore, 1) := by decide +kernel
theorem dX8_tape_66 : decode cX8_tape 66 = .ok (.iconst 0, 1) := by decide +kernel
theorem dX8_tape_67 : decode cX8_tape 67 = .ok (.istore 4, 2) := by decide +kernel
theorem dX8_tape_69 : decode cX8_tape 69 = .ok (.iload 4, 2) := by decide +kernel
theorem dX8_tape_71 : decode cX8_tape 71 = .ok (.bipush 60, 2) := by decide +kernel
theorem dX8_tape_73 : decode cX8_tape 73 = .ok (.if_icmp .ge 22, 3) := by decide +kernel
theorem dX8_tape_76 : decode cX8_tape 76 = .ok (.aload_n 0, 1) := by decide +kernel
theorem dX8_tape_77 : decode cX8_tape 77 = .ok (.getfield 136, 3) := by decide +kernel
theorem dX8_tape_80 : decode cX8_tape 80 = .ok (.bipush 60, 2) := by decide +kernel
theorem dX8_tape_82 : decode cX8_tape 82 = .ok (.iload_n 1, 1) := by decide +kernel
theorem dX8_tape_83 : decode cX8_tape 83 = .ok (.imul, 1) := by decide +kernel
theorem dX8_tape_84 : decode cX8_tape 84 = .ok (.iload 4, 2) := by decide +kernel
theorem dX8_tape_86 : decode cX8_tape 86 = .ok (.iadd, 1) := by decide +kernel
theorem dX8_tape_87 : decode cX8_tape 87 = .ok (.lconst 0, 1) := by decide +kernel
theorem dX8_tape_88 : decode cX8_tape 88 = .ok (.lastore, 1) := by decide +kernel
theorem dX8_tape_89 : decode cX8_tape 89 = .ok (.iinc 4 1, 3) := by decide +kernel
theorem dX8_tape_92 : decode cX8_tape 92 = .ok (.goto (-23), 3) := by decide +kernel
theorem dX8_tape_95 : decode cX8_tape 95 = .ok (.iconst 1, 1) := by decide +kernel
theorem dX8_tape_96 : decode cX8_tape 96 = .ok (.ireturn, 1) := by decide +kernel
theorem dX8_narrow_0 : decode cX8_narrow 0 = .ok (.iload_n 1, 1) := by decide +kernel
theorem dX8_narrow_1 : decode cX8_narrow 1 = .ok (.ifCond .ne 10, 3) := by decide +kernel
theorem dX8_narrow_4 : decode cX8_narrow 4 = .ok (.lload_n 2, 1) := by decide +kernel
theorem dX8_narrow_5 : decode cX8_narrow 5 = .ok (.l2i, 1) := by decide +kernel
theorem dX8_narrow_6 : decode cX8_narrow 6 = .ok (.i2b, 1) := by decide +kernel
theorem dX8_narrow_7 : decode cX8_narrow 7 = .ok (.i2l, 1) := by decide +kernel
theorem dX8_narrow_8 : decode cX8_narrow 8 = .ok (.goto 46, 3) := by decide +kernel
theorem dX8_narrow_11 : decode cX8_narrow 11 = .ok (.iload_n 1, 1) := by decide +kernel
theorem dX8_narrow_12 : decode cX8_narrow 12 = .ok (.iconst 1, 1) := by decide +kernel
theorem dX8_narrow_13 : decode cX8_narrow 13 = .ok (.if_icmp .ne 10, 3) := by decide +kernel
theorem dX8_narrow_16 : decode cX8_narrow 16 = .ok (.lload_n 2, 1) := by decide +kernel
theorem dX8_narrow_17 : decode cX8_narrow 17 = .ok (.l2i, 1) := by decide +kernel
theorem dX8_narrow_18 : decode cX8_narrow 18 = .ok (.i2s, 1) := by decide +kernel
theorem dX8_narrow_19 : decode cX8_narrow 19 = .ok (.i2l, 1) := by decide +kernel
theorem dX8_narrow_20 : decode cX8_narrow 20 = .ok (.goto 34, 3) := by decide +kernel
theorem dX8_narrow_23 : decode cX8_narrow 23 = .ok (.iload_n 1, 1) := by decide +kernel
theorem dX8_narrow_24 : decode cX8_narrow 24 = .ok (.iconst 2, 1) := by decide +kernel
theorem dX8_narrow_25 : decode cX8_narrow 25 = .ok (.if_icmp .ne 9, 3) := by decide +kernel
theorem dX8_narrow_28 : decode cX8_narrow 28 = .ok (.lload_n 2, 1) := by decide +kernel
theorem dX8_narrow_29 : decode cX8_narrow 29 = .ok (.l2i, 1) := by decide +kernel
theorem dX8_narrow_30 : decode cX8_narrow 30 = .ok (.i2l, 1) := by decide +kernel
theorem dX8_narrow_31 : decode cX8_narrow 31 = .ok (.goto 23, 3) := by decide +kernel
theorem dX8_narrow_34 : decode cX8_narrow 34 = .ok (.iload_n 1, 1) := by decide +kernel
theorem dX8_narrow_35 : decode cX8_narrow 35 = .ok (.iconst 4, 1) := by decide +kernel
theorem dX8_narrow_36 : decode cX8_narrow 36 = .ok (.if_icmp .ne 17, 3) := by decide +kernel
theorem dX8_narrow_39 : decode cX8_narrow 39 = .ok (.lload_n 2, 1) := by decide +kernel
theorem dX8_narrow_40 : decode cX8_narrow 40 = .ok (.lconst 0, 1) := by decide +kernel
theorem dX8_narrow_41 : decode cX8_narrow 41 = .ok (.lcmp, 1) := by decide +kernel
theorem dX8_narrow_42 : decode cX8_narrow 42 = .ok (.ifCond .eq 7, 3) := by decide +kernel
theorem dX8_narrow_45 : decode cX8_narrow 45 = .ok (.lconst 1, 1) := by decide +kernel
theorem dX8_narrow_46 : decode cX8_narrow 46 = .ok (.goto 8, 3) := by decide +kernel
theorem dX8_narrow_49 : decode cX8_narrow 49 = .ok (.lconst 0, 1) := by decide +kernel
theorem dX8_narrow_50 : decode cX8_narrow 50 = .ok (.goto 4, 3) := by decide +kernel
theorem dX8_narrow_53 : decode cX8_narrow 53 = .ok (.lload_n 2, 1) := by decide +kernel
theorem dX8_narrow_54 : decode cX8_narrow 54 = .ok (.lreturn, 1) := by decide +kernel
theorem dX8_item_0 : decode cX8_item 0 = .ok (.aload_n 0, 1) := by decide +kernel
theorem dX8_item_1 : decode cX8_item 1 = .ok (.iload_n 1, 1) := by decide +kernel
theorem dX8_item_2 : decode cX8_item 2 = .ok (.invokevirtual 311, 3) := by decide +kernel
theorem dX8_item_5 : decode cX8_item 5 = .ok (.ifCond .ne 5, 3) := by decide +kernel
theorem dX8_item_8 : decode cX8_item 8 = .ok (.iconst (-1), 1) := by decide +kernel
theorem dX8_item_9 : decode cX8_item 9 = .ok (.ireturn, 1) := by decide +kernel
theorem dX8_item_10 : decode cX8_item 10 = .ok (.aload_n 0, 1) := by decide +kernel
theorem dX8_item_11 : decode cX8_item 11 = .ok (.getfield 130, 3) := by decide +kernel
theorem dX8_item_14 : decode cX8_item 14 = .ok (.iload_n 1, 1) := by decide +kernel
theorem dX8_item_15 : decode cX8_item 15 = .ok (.iaload, 1) := by decide +kernel
theorem dX8_item_16 : decode cX8_item 16 = .ok (.ifCond .ge 6, 3) := by decide +kernel
theorem dX8_item_19 : decode cX8_item 19 = .ok (.bipush (-11), 2) := by decide +kernel
theorem dX8_item_21 : decode cX8_item 21 = .ok (.ireturn, 1) := by decide +kernel
theorem dX8_item_22 : decode cX8_item 22 = .ok (.aload_n 0, 1) := by decide +kernel
theorem dX8_item_23 : decode cX8_item 23 = .ok (.iload_n 2, 1) := by decide +kernel
theorem dX8_item_24 : decode cX8_item 24 = .ok (.iconst 0, 1) := by decide +kernel
theorem dX8_item_25 : decode cX8_item 25 = .ok (.aload_n 0, 1) := by decide +kernel
theorem dX8_item_26 : decode cX8_item 26 = .ok (.getfield 133, 3) := by decide +kernel
theorem dX8_item_29 : decode cX8_item 29 = .ok (.iload_n 1, 1) := by decide +kernel
theorem dX8_item_30 : decode cX8_item 30 = .ok (.iaload, 1) := by decide +kernel
theorem dX8_item_31 : decode cX8_item 31 = .ok (.iconst 1, 1) := by decide +kernel
theorem dX8_item_32 : decode cX8_item 32 = .ok (.isub, 1) := by decide +kernel
theorem dX8_item_33 : decode cX8_item 33 = .ok (.invokevirtual 142, 3) := by decide +kernel
theorem dX8_item_36 : decode cX8_item 36 = .ok (.ifCond .ne 6, 3) := by decide +kernel
theorem dX8_item_39 : decode cX8_item 39 = .ok (.bipush (-13), 2) := by decide +kernel
theorem dX8_item_41 : decode cX8_item 41 = .ok (.ireturn, 1) := by decide +kernel
theorem dX8_item_42 : decode cX8_item 42 = .ok (.aload_n 0, 1) := by decide +kernel
theorem dX8_item_43 : decode cX8_item 43 = .ok (.getfield 136, 3) := by decide +kernel
theorem dX8_item_46 : decode cX8_item 46 = .ok (.bipush 60, 2) := by decide +kernel
theorem dX8_item_48 : decode cX8_item 48 = .ok (.iload_n 1, 1) := by decide +kernel
theorem dX8_item_49 : decode cX8_item 49 = .ok (.imul, 1) := by decide +kernel
theorem dX8_item_50 : decode cX8_item 50 = .ok (.iload_n 2, 1) := by decide +kernel
theorem dX8_item_51 : decode cX8_item 51 = .ok (.iadd, 1) := by decide +kernel
theorem dX8_item_52 : decode cX8_item 52 = .ok (.aload_n 0, 1) := by decide +kernel
theorem dX8_item_53 : decode cX8_item 53 = .ok (.aload_n 0, 1) := by decide +kernel
theorem dX8_item_54 : decode cX8_item 54 = .ok (.getfield 130, 3) := by decide +kernel
theorem dX8_item_57 : decode cX8_item 57 = .ok (.iload_n 1, 1) := by decide +kernel
theorem dX8_item_58 : decode cX8_item 58 = .ok (.iaload, 1) := by decide +kernel
theorem dX8_item_59 : decode cX8_item 59 = .ok (.lload_n 3, 1) := by decide +kernel
theorem dX8_item_60 : decode cX8_item 60 = .ok (.invokevirtual 344, 3) := by decide +kernel
theorem dX8_item_63 : decode cX8_item 63 = .ok (.lastore, 1) := by decide +kernel
theorem dX8_item_64 : decode cX8_item 64 = .ok (.iconst 1, 1) := by decide +kernel
theorem dX8_item_65 : decode cX8_item 65 = .ok (.ireturn, 1) := by decide +kernel
theorem dX8_read_0 : decode cX8_read 0 = .ok (.aload_n 0, 1) := by decide +kernel
theorem dX8_read_1 : decode cX8_read 1 = .ok (.iload_n 1, 1) := by decide +kernel
theorem dX8_read_2 : decode cX8_read 2 = .ok (.invokevirtual 311, 3) := by decide +kernel
theorem dX8_read_5 : decode cX8_read 5 = .ok (.ifCond .eq 29, 3) := by decide +kernel
theorem dX8_read_8 : decode cX8_read 8 = .ok (.aload_n 0, 1) := by decide +kernel
theorem dX8_read_9 : decode cX8_read 9 = .ok (.getfield 130, 3) := by decide +kernel
theorem dX8_read_12 : decode cX8_read 12 = .ok (.iload_n 1, 1) := by decide +kernel
theorem dX8_read_13 : decode cX8_read 13 = .ok (.iaload, 1) := by decide +kernel
theorem dX8_read_14 : decode cX8_read 14 = .ok (.ifCond .lt 20, 3) := by decide +kernel
theorem dX8_read_17 : decode cX8_read 17 = .ok (.aload_n 0, 1) := by decide +kernel
theorem dX8_read_18 : decode cX8_read 18 = .ok (.iload_n 2, 1) := by decide +kernel
theorem dX8_read_19 : decode cX8_read 19 = .ok (.iconst 0, 1) := by decide +kernel
theorem dX8_read_20 : decode cX8_read 20 = .ok (.aload_n 0, 1) := by decide +kernel
theorem dX8_read_21 : decode cX8_read 21 = .ok (.getfield 133, 3) := by decide +kernel
theorem dX8_read_24 : decode cX8_read 24 = .ok (.iload_n 1, 1) := by decide +kernel
theorem dX8_read_25 : decode cX8_read 25 = .ok (.iaload, 1) := by decide +kernel
theorem dX8_read_26 : decode cX8_read 26 = .ok (.iconst 1, 1) := by decide +kernel
theorem dX8_read_27 : decode cX8_read 27 = .ok (.isub, 1) := by decide +kernel
theorem dX8_read_28 : decode cX8_read 28 = .ok (.invokevirtual 142, 3) := by decide +kernel
theorem dX8_read_31 : decode cX8_read 31 = .ok (.ifCond .ne 9, 3) := by decide +kernel
theorem dX8_read_34 : decode cX8_read 34 = .ok (.ldc2_w 233, 3) := by decide +kernel
theorem dX8_read_37 : decode cX8_read 37 = .ok (.goto 14, 3) := by decide +kernel
theorem dX8_read_40 : decode cX8_read 40 = .ok (.aload_n 0, 1) := by decide +kernel
theorem dX8_read_41 : decode cX8_read 41 = .ok (.getfield 136, 3) := by decide +kernel
theorem dX8_read_44 : decode cX8_read 44 = .ok (.bipush 60, 2) := by decide +kernel
theorem dX8_read_46 : decode cX8_read 46 = .ok (.iload_n 1, 1) := by decide +kernel
theorem dX8_read_47 : decode cX8_read 47 = .ok (.imul, 1) := by decide +kernel
theorem dX8_read_48 : decode cX8_read 48 = .ok (.iload_n 2, 1) := by decide +kernel
theorem dX8_read_49 : decode cX8_read 49 = .ok (.iadd, 1) := by decide +kernel
theorem dX8_read_50 : decode cX8_read 50 = .ok (.laload, 1) := by decide +kernel
theorem dX8_read_51 : decode cX8_read 51 = .ok (.lreturn, 1) := by decide +kernel
theorem dX8_shift_0 : decode cX8_shift 0 = .ok (.aload_n 0, 1) := by decide +kernel
theorem dX8_shift_1 : decode cX8_shift 1 = .ok (.iload_n 1, 1) := by decide +kernel
theorem dX8_shift_2 : decode cX8_shift 2 = .ok (.invokevirtual 311, 3) := by decide +kernel
theorem dX8_shift_5 : decode cX8_shift 5 = .ok (.ifCond .eq 11, 3) := by decide +kernel
theorem dX8_shift_8 : decode cX8_shift 8 = .ok (.aload_n 0, 1) := by decide +kernel
theorem dX8_shift_9 : decode cX8_shift 9 = .ok (.iload_n 3, 1) := by decide +kernel
theorem dX8_shift_10 : decode cX8_shift 10 = .ok (.invokevirtual 311, 3) := by decide +kernel
theorem dX8_shift_13 : decode cX8_shift 13 = .ok (.ifCond .ne 5, 3) := by decide +kernel
theorem dX8_shift_16 : decode cX8_shift 16 = .ok (.iconst (-1), 1) := by decide +kernel
theorem dX8_shift_17 : decode cX8_shift 17 = .ok (.ireturn, 1) := by decide +kernel
theorem dX8_shift_18 : decode cX8_shift 18 = .ok (.aload_n 0, 1) := by decide +kernel
theorem dX8_shift_19 : decode cX8_shift 19 = .ok (.getfield 130, 3) := by decide +kernel
theorem dX8_shift_22 : decode cX8_shift 22 = .ok (.iload_n 1, 1) := by decide +kernel
theorem dX8_shift_23 : decode cX8_shift 23 = .ok (.iaload, 1) := by decide +kernel
theorem dX8_shift_24 : decode cX8_shift 24 = .ok (.ifCond .lt 12, 3) := by decide +kernel
theorem dX8_shift_27 : decode cX8_shift 27 = .ok (.aload_n 0, 1) := by decide +kernel
theorem dX8_shift_28 : decode cX8_shift 28 = .ok (.getfield 130, 3) := by decide +kernel
theorem dX8_shift_31 : decode cX8_shift 31 = .ok (.iload_n 3, 1) := by decide +kernel
theorem dX8_shift_32 : decode cX8_shift 32 = .ok (.iaload, 1) := by decide +kernel
theorem dX8_shift_33 : decode cX8_shift 33 = .ok (.ifCond .ge 6, 3) := by decide +kernel
theorem dX8_shift_36 : decode cX8_shift 36 = .ok (.bipush (-11), 2) := by decide +kernel
theorem dX8_shift_38 : decode cX8_shift 38 = .ok (.ireturn, 1) := by decide +kernel
theorem dX8_shift_39 : decode cX8_shift 39 = .ok (.aload_n 0, 1) := by decide +kernel
theorem dX8_shift_40 : decode cX8_shift 40 = .ok (.getfield 130, 3) := by decide +kernel
theorem dX8_shift_43 : decode cX8_shift 43 = .ok (.iload_n 1, 1) := by decide +kernel
theorem dX8_shift_44 : decode cX8_shift 44 = .ok (.iaload, 1) := by decide +kernel
theorem dX8_shift_45 : decode cX8_shift 45 = .ok (.aload_n 0, 1) := by decide +kernel
theorem dX8_shift_46 : decode cX8_shift 46 = .ok (.getfield 130, 3) := by decide +kernel
theorem dX8_shift_49 : decode cX8_shift 49 = .ok (.iload_n 3, 1) := by decide +kernel
theorem dX8_shift_50 : decode cX8_shift 50 = .ok (.iaload, 1) := by decide +kernel
theorem dX8_shift_51 : decode cX8_shift 51 = .ok (.if_icmp .eq 6, 3) := by decide +kernel
theorem dX8_shift_54 : decode cX8_shift 54 = .ok (.bipush (-12), 2) := by decide +kernel
theorem dX8_shift_56 : decode cX8_shift 56 = .ok (.ireturn, 1) := by decide +kernel
theorem dX8_shift_57 : decode cX8_shift 57 = .ok (.iload 5, 2) := by decide +kernel
theorem dX8_shift_59 : decode cX8_shift 59 = .ok (.ifCond .lt 39, 3) := by decide +kernel
theorem dX8_shift_62 : decode cX8_shift 62 = .ok (.iload_n 2, 1) := by decide +kernel
theorem dX8_shift_63 : decode cX8_shift 63 = .ok (.ifCond .lt 35, 3) := by decide +kernel
theorem dX8_shift_66 : decode cX8_shift 66 = .ok (.iload 4, 2) := by decide +kernel
theorem dX8_shift_68 : decode cX8_shift 68 = .ok (.ifCond .lt 30, 3) := by decide +kernel
theorem dX8_shift_71 : decode cX8_shift 71 = .ok (.iload_n 2, 1) := by decide +kernel
theorem dX8_shift_72 : decode cX8_shift 72 = .ok (.aload_n 0, 1) := by decide +kernel
theorem dX8_shift_73 : decode cX8_shift 73 = .ok (.getfield 133, 3) := by decide +kernel
theorem dX8_shift_76 : decode cX8_shift 76 = .ok (.iload_n 1, 1) := by decide +kernel
theorem dX8_shift_77 : decode cX8_shift 77 = .ok (.iaload, 1) := by decide +kernel
theorem dX8_shift_78 : decode cX8_shift 78 = .ok (.iload 5, 2) := by decide +kernel
theorem dX8_shift_80 : decode cX8_shift 80 = .ok (.isub, 1) := by decide +kernel
theorem dX8_shift_81 : decode cX8_shift 81 = .ok (.if_icmp .gt 17, 3) := by decide +kernel
theorem dX8_shift_84 : decode cX8_shift 84 = .ok (.iload 4, 2) := by decide +kernel
theorem dX8_shift_86 : decode cX8_shift 86 = .ok (.aload_n 0, 1) := by decide +kernel
theorem dX8_shift_87 : decode cX8_shift 87 = .ok (.getfield 133, 3) := by decide +kernel
theorem dX8_shift_90 : decode cX8_shift 90 = .ok (.iload_n 3, 1) := by decide +kernel
theorem dX8_shift_91 : decode cX8_shift 91 = .ok (.iaload, 1) := by decide +kernel
theorem dX8_shift_92 : decode cX8_shift 92 = .ok (.iload 5, 2) := by decide +kernel
theorem dX8_shift_94 : decode cX8_shift 94 = .ok (.isub, 1) := by decide +kernel
theorem dX8_shift_95 : decode cX8_shift 95 = .ok (.if_icmp .le 6, 3) := by decide +kernel
theorem dX8_shift_98 : decode cX8_shift 98 = .ok (.bipush (-13), 2) := by decide +kernel
theorem dX8_shift_100 : decode cX8_shift 100 = .ok (.ireturn, 1) := by decide +kernel
theorem dX8_shift_101 : decode cX8_shift 101 = .ok (.iconst 0, 1) := by decide +kernel
theorem dX8_shift_102 : decode cX8_shift 102 = .ok (.istore 6, 2) := by decide +kernel
theorem dX8_shift_104 : decode cX8_shift 104 = .ok (.iload 6, 2) := by decide +kernel
theorem dX8_shift_106 : decode cX8_shift 106 = .ok (.iload 5, 2) := by decide +kernel
theorem dX8_shift_108 : decode cX8_shift 108 = .ok (.if_icmp .ge 30, 3) := by decide +kernel
theorem dX8_shift_111 : decode cX8_shift 111 = .ok (.aload_n 0, 1) := by decide +kernel
theorem dX8_shift_112 : decode cX8_shift 112 = .ok (.getfield 139, 3) := by decide +kernel
theorem dX8_shift_115 : decode cX8_shift 115 = .ok (.iload 6, 2) := by decide +kernel
theorem dX8_shift_117 : decode cX8_shift 117 = .ok (.aload_n 0, 1) := by decide +kernel
theorem dX8_shift_118 : decode cX8_shift 118 = .ok (.getfield 136, 3) := by decide +kernel
theorem dX8_shift_121 : decode cX8_shift 121 = .ok (.bipush 60, 2) := by decide +kernel
theorem dX8_shift_123 : decode cX8_shift 123 = .ok (.iload_n 1, 1) := by decide +kernel
theorem dX8_shift_124 : decode cX8_shift 124 = .ok (.imul, 1) := by decide +kernel
theorem dX8_shift_125 : decode cX8_shift 125 = .ok (.iload_n 2, 1) := by decide +kernel
theorem dX8_shift_126 : decode cX8_shift 126 = .ok (.iadd, 1) := by decide +kernel
theorem dX8_shift_127 : decode cX8_shift 127 = .ok (.iload 6, 2) := by decide +kernel
theorem dX8_shift_129 : decode cX8_shift 129 = .ok (.iadd, 1) := by decide +kernel
theorem dX8_shift_130 : decode cX8_shift 130 = .ok (.laload, 1) := by decide +kernel
theorem dX8_shift_131 : decode cX8_shift 131 = .ok (.lastore, 1) := by decide +kernel
theorem dX8_shift_132 : decode cX8_shift 132 = .ok (.iinc 6 1, 3) := by decide +kernel
theorem dX8_shift_135 : decode cX8_shift 135 = .ok (.goto (-31), 3) := by decide +kernel
theorem dX8_shift_138 : decode cX8_shift 138 = .ok (.iconst 0, 1) := by decide +kernel
theorem dX8_shift_139 : decode cX8_shift 139 = .ok (.istore 6, 2) := by decide +kernel
theorem dX8_shift_141 : decode cX8_shift 141 = .ok (.iload 6, 2) := by decide +kernel
theorem dX8_shift_143 : decode cX8_shift 143 = .ok (.iload 5, 2) := by decide +kernel
theorem dX8_shift_145 : decode cX8_shift 145 = .ok (.if_icmp .ge 31, 3) := by decide +kernel
theorem dX8_shift_148 : decode cX8_shift 148 = .ok (.aload_n 0, 1) := by decide +kernel
theorem dX8_shift_149 : decode cX8_shift 149 = .ok (.getfield 136, 3) := by decide +kernel
theorem dX8_shift_152 : decode cX8_shift 152 = .ok (.bipush 60, 2) := by decide +kernel
theorem dX8_shift_154 : decode cX8_shift 154 = .ok (.iload_n 3, 1) := by decide +kernel
theorem dX8_shift_155 : decode cX8_shift 155 = .ok (.imul, 1) := by decide +kernel
theorem dX8_shift_156 : decode cX8_shift 156 = .ok (.iload 4, 2) := by decide +kernel
theorem dX8_shift_158 : decode cX8_shift 158 = .ok (.iadd, 1) := by decide +kernel
theorem dX8_shift_159 : decode cX8_shift 159 = .ok (.iload 6, 2) := by decide +kernel
theorem dX8_shift_161 : decode cX8_shift 161 = .ok (.iadd, 1) := by decide +kernel
theorem dX8_shift_162 : decode cX8_shift 162 = .ok (.aload_n 0, 1) := by decide +kernel
theorem dX8_shift_163 : decode cX8_shift 163 = .ok (.getfield 139, 3) := by decide +kernel
theorem dX8_shift_166 : decode cX8_shift 166 = .ok (.iload 6, 2) := by decide +kernel
theorem dX8_shift_168 : decode cX8_shift 168 = .ok (.laload, 1) := by decide +kernel
theorem dX8_shift_169 : decode cX8_shift 169 = .ok (.lastore, 1) := by decide +kernel
theorem dX8_shift_170 : decode cX8_shift 170 = .ok (.iinc 6 1, 3) := by decide +kernel
theorem dX8_shift_173 : decode cX8_shift 173 = .ok (.goto (-32), 3) := by decide +kernel
theorem dX8_shift_176 : decode cX8_shift 176 = .ok (.iload 5, 2) := by decide +kernel
theorem dX8_shift_178 : decode cX8_shift 178 = .ok (.ireturn, 1) := by decide +kernel
