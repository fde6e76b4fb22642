theorem dX12_init_0 : decode cX12_init 0 = .ok (.aload_n 0, 1) := by decide +kernel
theorem dX12_init_1 : decode cX12_init 1 = .ok (.invokespecial 1, 3) := by decide +kernel
theorem dX12_init_4 : decode cX12_init 4 = .ok (.aload_n 0, 1) := by decide +kernel
theorem dX12_init_5 : decode cX12_init 5 = .ok (.iconst 0, 1) := by decide +kernel
theorem dX12_init_6 : decode cX12_init 6 = .ok (.putfield 7, 3) := by decide +kernel
theorem dX12_init_9 : decode cX12_init 9 = .ok (.aload_n 0, 1) := by decide +kernel
theorem dX12_init_10 : decode cX12_init 10 = .ok (.iconst 3, 1) := by decide +kernel
theorem dX12_init_11 : decode cX12_init 11 = .ok (.putfield 13, 3) := by decide +kernel
theorem dX12_init_14 : decode cX12_init 14 = .ok (.aload_n 0, 1) := by decide +kernel
theorem dX12_init_15 : decode cX12_init 15 = .ok (.iconst 0, 1) := by decide +kernel
theorem dX12_init_16 : decode cX12_init 16 = .ok (.putfield 16, 3) := by decide +kernel
theorem dX12_init_19 : decode cX12_init 19 = .ok (.aload_n 0, 1) := by decide +kernel
theorem dX12_init_20 : decode cX12_init 20 = .ok (.iconst 0, 1) := by decide +kernel
theorem dX12_init_21 : decode cX12_init 21 = .ok (.putfield 19, 3) := by decide +kernel
theorem dX12_init_24 : decode cX12_init 24 = .ok (.aload_n 0, 1) := by decide +kernel
theorem dX12_init_25 : decode cX12_init 25 = .ok (.bipush 6, 2) := by decide +kernel
theorem dX12_init_27 : decode cX12_init 27 = .ok (.newarray .int, 2) := by decide +kernel
theorem dX12_init_29 : decode cX12_init 29 = .ok (.putfield 22, 3) := by decide +kernel
theorem dX12_init_32 : decode cX12_init 32 = .ok (.aload_n 0, 1) := by decide +kernel
theorem dX12_init_33 : decode cX12_init 33 = .ok (.bipush 6, 2) := by decide +kernel
theorem dX12_init_35 : decode cX12_init 35 = .ok (.newarray .int, 2) := by decide +kernel
theorem dX12_init_37 : decode cX12_init 37 = .ok (.putfield 26, 3) := by decide +kernel
theorem dX12_init_40 : decode cX12_init 40 = .ok (.aload_n 0, 1) := by decide +kernel
theorem dX12_init_41 : decode cX12_init 41 = .ok (.bipush 6, 2) := by decide +kernel
theorem dX12_init_43 : decode cX12_init 43 = .ok (.newarray .int, 2) := by decide +kernel
theorem dX12_init_45 : decode cX12_init 45 = .ok (.putfield 29, 3) := by decide +kernel
theorem dX12_init_48 : decode cX12_init 48 = .ok (.aload_n 0, 1) := by decide +kernel
theorem dX12_init_49 : decode cX12_init 49 = .ok (.bipush 24, 2) := by decide +kernel
theorem dX12_init_51 : decode cX12_init 51 = .ok (.newarray .int, 2) := by decide +kernel
theorem dX12_init_53 : decode cX12_init 53 = .ok (.putfield 32, 3) := by decide +kernel
theorem dX12_init_56 : decode cX12_init 56 = .ok (.aload_n 0, 1) := by decide +kernel
theorem dX12_init_57 : decode cX12_init 57 = .ok (.iconst 0, 1) := by decide +kernel
theorem dX12_init_58 : decode cX12_init 58 = .ok (.putfield 35, 3) := by decide +kernel
theorem dX12_init_61 : decode cX12_init 61 = .ok (.aload_n 0, 1) := by decide +kernel
theorem dX12_init_62 : decode cX12_init 62 = .ok (.iconst (-1), 1) := by decide +kernel
theorem dX12_init_63 : decode cX12_init 63 = .ok (.putfield 38, 3) := by decide +kernel
theorem dX12_init_66 : decode cX12_init 66 = .ok (.aload_n 0, 1) := by decide +kernel
theorem dX12_init_67 : decode cX12_init 67 = .ok (.iconst 0, 1) := by decide +kernel
theorem dX12_init_68 : decode cX12_init 68 = .ok (.putfield 41, 3) := by decide +kernel
theorem dX12_init_71 : decode cX12_init 71 = .ok (.aload_n 0, 1) := by decide +kernel
theorem dX12_init_72 : decode cX12_init 72 = .ok (.iconst 0, 1) := by decide +kernel
theorem dX12_init_73 : decode cX12_init 73 = .ok (.putfield 44, 3) := by decide +kernel
theorem dX12_init_76 : decode cX12_init 76 = .ok (.aload_n 0, 1) := by decide +kernel
theorem dX12_init_77 : decode cX12_init 77 = .ok (.iconst 0, 1) := by decide +kernel
theorem dX12_init_78 : decode cX12_init 78 = .ok (.putfield 47, 3) := by decide +kernel
theorem dX12_init_81 : decode cX12_init 81 = .ok (.aload_n 0, 1) := by decide +kernel
theorem dX12_init_82 : decode cX12_init 82 = .ok (.bipush 100, 2) := by decide +kernel
theorem dX12_init_84 : decode cX12_init 84 = .ok (.newarray .int, 2) := by decide +kernel
theorem dX12_init_86 : decode cX12_init 86 = .ok (.putfield 50, 3) := by decide +kernel
theorem dX12_init_89 : decode cX12_init 89 = .ok (.aload_n 0, 1) := by decide +kernel
theorem dX12_init_90 : decode cX12_init 90 = .ok (.bipush 6, 2) := by decide +kernel
theorem dX12_init_92 : decode cX12_init 92 = .ok (.newarray .int, 2) := by decide +kernel
theorem dX12_init_94 : decode cX12_init 94 = .ok (.putfield 53, 3) := by decide +kernel
theorem dX12_init_97 : decode cX12_init 97 = .ok (.aload_n 0, 1) := by decide +kernel
theorem dX12_init_98 : decode cX12_init 98 = .ok (.bipush 60, 2) := by decide +kernel
theorem dX12_init_100 : decode cX12_init 100 = .ok (.newarray .int, 2) := by decide +kernel
theorem dX12_init_102 : decode cX12_init 102 = .ok (.putfield 56, 3) := by decide +kernel
theorem dX12_init_105 : decode cX12_init 105 = .ok (.aload_n 0, 1) := by decide +kernel
theorem dX12_init_106 : decode cX12_init 106 = .ok (.bipush 60, 2) := by decide +kernel
theorem dX12_init_108 : decode cX12_init 108 = .ok (.newarray .int, 2) := by decide +kernel
theorem dX12_init_110 : decode cX12_init 110 = .ok (.putfield 59, 3) := by decide +kernel
theorem dX12_init_113 : decode cX12_init 113 = .ok (.aload_n 0, 1) := by decide +kernel
theorem dX12_init_114 : decode cX12_init 114 = .ok (.bipush 60, 2) := by decide +kernel
theorem dX12_init_116 : decode cX12_init 116 = .ok (.newarray .int, 2) := by decide +kernel
theorem dX12_init_118 : decode cX12_init 118 = .ok (.putfield 62, 3) := by decide +kernel
theorem dX12_init_121 : decode cX12_init 121 = .ok (.aload_n 0, 1) := by decide +kernel
theorem dX12_init_122 : decode cX12_init 122 = .ok (.bipush 60, 2) := by decide +kernel
theorem dX12_init_124 : decode cX12_init 124 = .ok (.newarray .int, 2) := by decide +kernel
theorem dX12_init_126 : decode cX12_init 126 = .ok (.putfield 65, 3) := by decide +kernel
theorem dX12_init_129 : decode cX12_init 129 = .ok (.aload_n 0, 1) := by decide +kernel
theorem dX12_init_130 : decode cX12_init 130 = .ok (.sipush 600, 3) := by decide +kernel
theorem dX12_init_133 : decode cX12_init 133 = .ok (.newarray .int, 2) := by decide +kernel
theorem dX12_init_135 : decode cX12_init 135 = .ok (.putfield 68, 3) := by decide +kernel
theorem dX12_init_138 : decode cX12_init 138 = .ok (.aload_n 0, 1) := by decide +kernel
theorem dX12_init_139 : decode cX12_init 139 = .ok (.bipush 101, 2) := by decide +kernel
theorem dX12_init_141 : decode cX12_init 141 = .ok (.newarray .int, 2) := by decide +kernel
theorem dX12_init_143 : decode cX12_init 143 = .ok (.putfield 71, 3) := by decide +kernel
theorem dX12_init_146 : decode cX12_init 146 = .ok (.aload_n 0, 1) := by decide +kernel
theorem dX12_init_147 : decode cX12_init 147 = .ok (.iconst 0, 1) := by decide +kernel
theorem dX12_init_148 : decode cX12_init 148 = .ok (.putfield 74, 3) := by decide +kernel
theorem dX12_init_151 : decode cX12_init 151 = .ok (.aload_n 0, 1) := by decide +kernel
theorem dX12_init_152 : decode cX12_init 152 = .ok (.iconst 0, 1) := by decide +kernel
theorem dX12_init_153 : decode cX12_init 153 = .ok (.putfield 77, 3) := by decide +kernel
theorem dX12_init_156 : decode cX12_init 156 = .ok (.aload_n 0, 1) := by decide +kernel
theorem dX12_init_157 : decode cX12_init 157 = .ok (.iconst 0, 1) := by decide +kernel
theorem dX12_init_158 : decode cX12_init 158 = .ok (.putfield 80, 3) := by decide +kernel
theorem dX12_init_161 : decode cX12_init 161 = .ok (.aload_n 0, 1) := by decide +kernel
theorem dX12_init_162 : decode cX12_init 162 = .ok (.bipush 13, 2) := by decide +kernel
theorem dX12_init_164 : decode cX12_init 164 = .ok (.newarray .int, 2) := by decide +kernel
theorem dX12_init_166 : decode cX12_init 166 = .ok (.dup, 1) := by decide +kernel
theorem dX12_init_167 : decode cX12_init 167 = .ok (.iconst 0, 1) := by decide +kernel
theorem dX12_init_168 : decode cX12_init 168 = .ok (.bipush 102, 2) := by decide +kernel
theorem dX12_init_170 : decode cX12_init 170 = .ok (.iastore, 1) := by decide +kernel
theorem dX12_init_171 : decode cX12_init 171 = .ok (.dup, 1) := by decide +kernel
theorem dX12_init_172 : decode cX12_init 172 = .ok (.iconst 1, 1) := by decide +kernel
theorem dX12_init_173 : decode cX12_init 173 = .ok (.bipush 97, 2) := by decide +kernel
theorem dX12_init_175 : decode cX12_init 175 = .ok (.iastore, 1) := by decide +kernel
theorem dX12_init_176 : decode cX12_init 176 = .ok (.dup, 1) := by decide +kernel
theorem dX12_init_177 : decode cX12_init 177 = .ok (.iconst 2, 1) := by decide +kernel
theorem dX12_init_178 : decode cX12_init 178 = .ok (.bipush 109, 2) := by decide +kernel
theorem dX12_init_180 : decode cX12_init 180 = .ok (.iastore, 1) := by decide +kernel
theorem dX12_init_181 : decode cX12_init 181 = .ok (.dup, 1) := by decide +kernel
theorem dX12_init_182 : decode cX12_init 182 = .ok (.iconst 3, 1) := by decide +kernel
theorem dX12_init_183 : decode cX12_init 183 = .ok (.bipush 101, 2) := by decide +kernel
theorem dX12_init_185 : decode cX12_init 185 = .ok (.iastore, 1) := by decide +kernel
theorem dX12_init_186 : decode cX12_init 186 = .ok (.dup, 1) := by decide +kernel
theorem dX12_init_187 : decode cX12_init 187 = .ok (.iconst 4, 1) := by decide +kernel
theorem dX12_init_188 : decode cX12_init 188 = .ok (.bipush 115, 2) := by decide +kernel
theorem dX12_init_190 : decode cX12_init 190 = .ok (.iastore, 1) := by decide +kernel
theorem dX12_init_191 : decode cX12_init 191 = .ok (.dup, 1) := by decide +kernel
theorem dX12_init_192 : decode cX12_init 192 = .ok (.iconst 5, 1) := by decide +kernel
theorem dX12_init_193 : decode cX12_init 193 = .ok (.bipush 104, 2) := by decide +kernel
theorem dX12_init_195 : decode cX12_init 195 = .ok (.iastore, 1) := by decide +kernel
theorem dX12_init_196 : decode cX12_init 196 = .ok (.dup, 1) := by decide +kernel
theorem dX12_init_197 : decode cX12_init 197 = .ok (.bipush 6, 2) := by decide +kernel
theorem dX12_init_199 : decode cX12_init 199 = .ok (.bipush 97, 2) := by decide +kernel
theorem dX12_init_201 : decode cX12_init 201 = .ok (.iastore, 1) := by decide +kernel
theorem dX12_init_202 : decode cX12_init 202 = .ok (.dup, 1) := by decide +kernel
theorem dX12_init_203 : decode cX12_init 203 = .ok (.bipush 7, 2) := by decide +kernel
theorem dX12_init_205 : decode cX12_init 205 = .ok (.bipush 109, 2) := by decide +kernel
theorem dX12_init_207 : decode cX12_init 207 = .ok (.iastore, 1) := by decide +kernel
theorem dX12_init_208 : decode cX12_init 208 = .ok (.dup, 1) := by decide +kernel
theorem dX12_init_209 : decode cX12_init 209 = .ok (.bipush 8, 2) := by decide +kernel
theorem dX12_init_211 : decode cX12_init 211 = .ok (.bipush 101, 2) := by decide +kernel
theorem dX12_init_213 : decode cX12_init 213 = .ok (.iastore, 1) := by decide +kernel
theorem dX12_init_214 : decode cX12_init 214 = .ok (.dup, 1) := by decide +kernel
theorem dX12_init_215 : decode cX12_init 215 = .ok (.bipush 9, 2) := by decide +kernel
theorem dX12_init_217 : decode cX12_init 217 = .ok (.bipush 107, 2) := by decide +kernel
theorem dX12_init_219 : decode cX12_init 219 = .ok (.iastore, 1) := by decide +kernel
theorem dX12_init_220 : decode cX12_init 220 = .ok (.dup, 1) := by decide +kernel
theorem dX12_init_221 : decode cX12_init 221 = .ok (.bipush 10, 2) := by decide +kernel
theorem dX12_init_223 : decode cX12_init 223 = .ok (.bipush 101, 2) := by decide +kernel
theorem dX12_init_225 : decode cX12_init 225 = .ok (.iastore, 1) := by decide +kernel
theorem dX12_init_226 : decode cX12_init 226 = .ok (.dup, 1) := by decide +kernel
theorem dX12_init_227 : decode cX12_init 227 = .ok (.bipush 11, 2) := by decide +kernel
theorem dX12_init_229 : decode cX12_init 229 = .ok (.bipush 101, 2) := by decide +kernel
theorem dX12_init_231 : decode cX12_init 231 = .ok (.iastore, 1) := by decide +kernel
theorem dX12_init_232 : decode cX12_init 232 = .ok (.dup, 1) := by decide +kernel
theorem dX12_init_233 : decode cX12_init 233 = .ok (.bipush 12, 2) := by decide +kernel
theorem dX12_init_235 : decode cX12_init 235 = .ok (.bipush 112, 2) := by decide +kernel
theorem dX12_init_237 : decode cX12_init 237 = .ok (.iastore, 1) := by decide +kernel
theorem dX12_init_238 : decode cX12_init 238 = .ok (.putfield 83, 3) := by decide +kernel
theorem dX12_init_241 : decode cX12_init 241 = .ok (.aload_n 0, 1) := by decide +kernel
theorem dX12_init_242 : decode cX12_init 242 = .ok (.bipush 100, 2) := by decide +kernel
theorem dX12_init_244 : decode cX12_init 244 = .ok (.newarray .boolean, 2) := by decide +kernel
theorem dX12_init_246 : decode cX12_init 246 = .ok (.putfield 86, 3) := by decide +kernel
theorem dX12_init_249 : decode cX12_init 249 = .ok (.aload_n 0, 1) := by decide +kernel
theorem dX12_init_250 : decode cX12_init 250 = .ok (.bipush 90, 2) := by decide +kernel
theorem dX12_init_252 : decode cX12_init 252 = .ok (.newarray .long, 2) := by decide +kernel
theorem dX12_init_254 : decode cX12_init 254 = .ok (.putfield 90, 3) := by decide +kernel
theorem dX12_init_257 : decode cX12_init 257 = .ok (.aload_n 0, 1) := by decide +kernel
theorem dX12_init_258 : decode cX12_init 258 = .ok (.iconst 0, 1) := by decide +kernel
theorem dX12_init_259 : decode cX12_init 259 = .ok (.putfield 94, 3) := by decide +kernel
theorem dX12_init_262 : decode cX12_init 262 = .ok (.aload_n 0, 1) := by decide +kernel
theorem dX12_init_263 : decode cX12_init 263 = .ok (.bipush 90, 2) := by decide +kernel
theorem dX12_init_265 : decode cX12_init 265 = .ok (.newarray .long, 2) := by decide +kernel
theorem dX12_init_267 : decode cX12_init 267 = .ok (.putfield 97, 3) := by decide +kernel
theorem dX12_init_270 : decode cX12_init 270 = .ok (.aload_n 0, 1) := by decide +kernel
theorem dX12_init_271 : decode cX12_init 271 = .ok (.iconst 0, 1) := by decide +kernel
theorem dX12_init_272 : decode cX12_init 272 = .ok (.putfield 100, 3) := by decide +kernel
theorem dX12_init_275 : decode cX12_init 275 = .ok (.aload_n 0, 1) := by decide +kernel
theorem dX12_init_276 : decode cX12_init 276 = .ok (.bipush 8, 2) := by decide +kernel
theorem dX12_init_278 : decode cX12_init 278 = .ok (.newarray .int, 2) := by decide +kernel
theorem dX12_init_280 : decode cX12_init 280 = .ok (.putfield 103, 3) := by decide +kernel
theorem dX12_init_283 : decode cX12_init 283 = .ok (.aload_n 0, 1) := by decide +kernel
theorem dX12_init_284 : decode cX12_init 284 = .ok (.iconst 0, 1) := by decide +kernel
theorem dX12_init_285 : decode cX12_init 285 = .ok (.putfield 106, 3) := by decide +kernel
theorem dX12_init_288 : decode cX12_init 288 = .ok (.aload_n 0, 1) := by decide +kernel
theorem dX12_init_289 : decode cX12_init 289 = .ok (.iconst 0, 1) := by decide +kernel
theorem dX12_init_290 : decode cX12_init 290 = .ok (.putfield 109, 3) := by decide +kernel
theorem dX12_init_293 : decode cX12_init 293 = .ok (.aload_n 0, 1) := by decide +kernel
theorem dX12_init_294 : decode cX12_init 294 = .ok (.iconst 5, 1) := by decide +kernel
theorem dX12_init_295 : decode cX12_init 295 = .ok (.newarray .int, 2) := by decide +kernel
theorem dX12_init_297 : decode cX12_init 297 = .ok (.putfield 112, 3) := by decide +kernel
theorem dX12_init_300 : decode cX12_init 300 = .ok (.aload_n 0, 1) := by decide +kernel
theorem dX12_init_301 : decode cX12_init 301 = .ok (.iconst 5, 1) := by decide +kernel
theorem dX12_init_302 : decode cX12_init 302 = .ok (.newarray .int, 2) := by decide +kernel
theorem dX12_init_304 : decode cX12_init 304 = .ok (.putfield 115, 3) := by decide +kernel
theorem dX12_init_307 : decode cX12_init 307 = .ok (.aload_n 0, 1) := by decide +kernel
theorem dX12_init_308 : decode cX12_init 308 = .ok (.iconst 5, 1) := by decide +kernel
theorem dX12_init_309 : decode cX12_init 309 = .ok (.newarray .int, 2) := by decide +kernel
theorem dX12_init_311 : decode cX12_init 311 = .ok (.putfield 118, 3) := by decide +kernel
theorem dX12_init_314 : decode cX12_init 314 = .ok (.aload_n 0, 1) := by decide +kernel
theorem dX12_init_315 : decode cX12_init 315 = .ok (.bipush 8, 2) := by decide +kernel
theorem dX12_init_317 : decode cX12_init 317 = .ok (.newarray .int, 2) := by decide +kernel
theorem dX12_init_319 : decode cX12_init 319 = .ok (.putfield 121, 3) := by decide +kernel
theorem dX12_init_322 : decode cX12_init 322 = .ok (.aload_n 0, 1) := by decide +kernel
theorem dX12_init_323 : decode cX12_init 323 = .ok (.bipush 8, 2) := by decide +kernel
theorem dX12_init_325 : decode cX12_init 325 = .ok (.newarray .int, 2) := by decide +kernel
theorem dX12_init_327 : decode cX12_init 327 = .ok (.putfield 124, 3) := by decide +kernel
theorem dX12_init_330 : decode cX12_init 330 = .ok (.aload_n 0, 1) := by decide +kernel
theorem dX12_init_331 : decode cX12_init 331 = .ok (.iconst 0, 1) := by decide +kernel
theorem dX12_init_332 : decode cX12_init 332 = .ok (.putfield 127, 3) := by decide +kernel
theorem dX12_init_335 : decode cX12_init 335 = .ok (.aload_n 0, 1) := by decide +kernel
theorem dX12_init_336 : decode cX12_init 336 = .ok (.iconst (-1), 1) := by decide +kernel
theorem dX12_init_337 : decode cX12_init 337 = .ok (.putfield 131, 3) := by decide +kernel
theorem dX12_init_340 : decode cX12_init 340 = .ok (.aload_n 0, 1) := by decide +kernel
theorem dX12_init_341 : decode cX12_init 341 = .ok (.iconst 0, 1) := by decide +kernel
theorem dX12_init_342 : decode cX12_init 342 = .ok (.putfield 134, 3) := by decide +kernel
theorem dX12_init_345 : decode cX12_init 345 = .ok (.aload_n 0, 1) := by decide +kernel
theorem dX12_init_346 : decode cX12_init 346 = .ok (.iconst 0, 1) := by decide +kernel
theorem dX12_init_347 : decode cX12_init 347 = .ok (.putfield 137, 3) := by decide +kernel
theorem dX12_init_350 : decode cX12_init 350 = .ok (.aload_n 0, 1) := by decide +kernel
theorem dX12_init_351 : decode cX12_init 351 = .ok (.iconst 0, 1) := by decide +kernel
theorem dX12_init_352 : decode cX12_init 352 = .ok (.putfield 140, 3) := by decide +kernel
theorem dX12_init_355 : decode cX12_init 355 = .ok (.aload_n 0, 1) := by decide +kernel
theorem dX12_init_356 : decode cX12_init 356 = .ok (.iconst 0, 1) := by decide +kernel
theorem dX12_init_357 : decode cX12_init 357 = .ok (.putfield 143, 3) := by decide +kernel
theorem dX12_init_360 : decode cX12_init 360 = .ok (.aload_n 0, 1) := by decide +kernel
theorem dX12_init_361 : decode cX12_init 361 = .ok (.iconst 0, 1) := by decide +kernel
theorem dX12_init_362 : decode cX12_init 362 = .ok (.putfield 146, 3) := by decide +kernel
theorem dX12_init_365 : decode cX12_init 365 = .ok (.aload_n 0, 1) := by decide +kernel
theorem dX12_init_366 : decode cX12_init 366 = .ok (.iconst 0, 1) := by decide +kernel
theorem dX12_init_367 : decode cX12_init 367 = .ok (.putfield 149, 3) := by decide +kernel
theorem dX12_init_370 : decode cX12_init 370 = .ok (.aload_n 0, 1) := by decide +kernel
theorem dX12_init_371 : decode cX12_init 371 = .ok (.iconst 0, 1) := by decide +kernel
theorem dX12_init_372 : decode cX12_init 372 = .ok (.putfield 152, 3) := by decide +kernel
theorem dX12_init_375 : decode cX12_init 375 = .ok (.aload_n 0, 1) := by decide +kernel
theorem dX12_init_376 : decode cX12_init 376 = .ok (.bipush 6, 2) := by decide +kernel
theorem dX12_init_378 : decode cX12_init 378 = .ok (.newarray .int, 2) := by decide +kernel
theorem dX12_init_380 : decode cX12_init 380 = .ok (.putfield 155, 3) := by decide +kernel
theorem dX12_init_383 : decode cX12_init 383 = .ok (.aload_n 0, 1) := by decide +kernel
theorem dX12_init_384 : decode cX12_init 384 = .ok (.bipush 6, 2) := by decide +kernel
theorem dX12_init_386 : decode cX12_init 386 = .ok (.newarray .int, 2) := by decide +kernel
theorem dX12_init_388 : decode cX12_init 388 = .ok (.putfield 158, 3) := by decide +kernel
theorem dX12_init_391 : decode cX12_init 391 = .ok (.aload_n 0, 1) := by decide +kernel
theorem dX12_init_392 : decode cX12_init 392 = .ok (.bipush 6, 2) := by decide +kernel
theorem dX12_init_394 : decode cX12_init 394 = .ok (.newarray .int, 2) := by decide +kernel
theorem dX12_init_396 : decode cX12_init 396 = .ok (.putfield 161, 3) := by decide +kernel
theorem dX12_init_399 : decode cX12_init 399 = .ok (.aload_n 0, 1) := by decide +kernel
theorem dX12_init_400 : decode cX12_init 400 = .ok (.bipush 24, 2) := by decide +kernel
theorem dX12_init_402 : decode cX12_init 402 = .ok (.newarray .int, 2) := by decide +kernel
theorem dX12_init_404 : decode cX12_init 404 = .ok (.putfield 164, 3) := by decide +kernel
theorem dX12_init_407 : decode cX12_init 407 = .ok (.aload_n 0, 1) := by decide +kernel
theorem dX12_init_408 : decode cX12_init 408 = .ok (.bipush 8, 2) := by decide +kernel
theorem dX12_init_410 : decode cX12_init 410 = .ok (.newarray .int, 2) := by decide +kernel
theorem dX12_init_412 : decode cX12_init 412 = .ok (.putfield 167, 3) := by decide +kernel
theorem dX12_init_415 : decode cX12_init 415 = .ok (.aload_n 0, 1) := by decide +kernel
theorem dX12_init_416 : decode cX12_init 416 = .ok (.iconst 5, 1) := by decide +kernel
theorem dX12_init_417 : decode cX12_init 417 = .ok (.newarray .int, 2) := by decide +kernel
theorem dX12_init_419 : decode cX12_init 419 = .ok (.putfield 170, 3) := by decide +kernel
theorem dX12_init_422 : decode cX12_init 422 = .ok (.aload_n 0, 1) := by decide +kernel
theorem dX12_init_423 : decode cX12_init 423 = .ok (.iconst 5, 1) := by decide +kernel
theorem dX12_init_424 : decode cX12_init 424 = .ok (.newarray .int, 2) := by decide +kernel
theorem dX12_init_426 : decode cX12_init 426 = .ok (.putfield 173, 3) := by decide +kernel
theorem dX12_init_429 : decode cX12_init 429 = .ok (.aload_n 0, 1) := by decide +kernel
theorem dX12_init_430 : decode cX12_init 430 = .ok (.iconst 5, 1) := by decide +kernel
theorem dX12_init_431 : decode cX12_init 431 = .ok (.newarray .int, 2) := by decide +kernel
theorem dX12_init_433 : decode cX12_init 433 = .ok (.putfield 176, 3) := by decide +kernel
theorem dX12_init_436 : decode cX12_init 436 = .ok (.aload_n 0, 1) := by decide +kernel
theorem dX12_init_437 : decode cX12_init 437 = .ok (.bipush 8, 2) := by decide +kernel
theorem dX12_init_439 : decode cX12_init 439 = .ok (.newarray .int, 2) := by decide +kernel
theorem dX12_init_441 : decode cX12_init 441 = .ok (.putfield 179, 3) := by decide +kernel
theorem dX12_init_444 : decode cX12_init 444 = .ok (.aload_n 0, 1) := by decide +kernel
theorem dX12_init_445 : decode cX12_init 445 = .ok (.bipush 8, 2) := by decide +kernel
theorem dX12_init_447 : decode cX12_init 447 = .ok (.newarray .int, 2) := by decide +kernel
theorem dX12_init_449 : decode cX12_init 449 = .ok (.putfield 182, 3) := by decide +kernel
theorem dX12_init_452 : decode cX12_init 452 = .ok (.aload_n 0, 1) := by decide +kernel
theorem dX12_init_453 : decode cX12_init 453 = .ok (.iconst 0, 1) := by decide +kernel
theorem dX12_init_454 : decode cX12_init 454 = .ok (.putfield 185, 3) := by decide +kernel
theorem dX12_init_457 : decode cX12_init 457 = .ok (.aload_n 0, 1) := by decide +kernel
theorem dX12_init_458 : decode cX12_init 458 = .ok (.bipush 20, 2) := by decide +kernel
theorem dX12_init_460 : decode cX12_init 460 = .ok (.newarray .int, 2) := by decide +kernel
theorem dX12_init_462 : decode cX12_init 462 = .ok (.putfield 188, 3) := by decide +kernel
theorem dX12_init_465 : decode cX12_init 465 = .ok (.aload_n 0, 1) := by decide +kernel
theorem dX12_init_466 : decode cX12_init 466 = .ok (.bipush 6, 2) := by decide +kernel
theorem dX12_init_468 : decode cX12_init 468 = .ok (.newarray .int, 2) := by decide +kernel
theorem dX12_init_470 : decode cX12_init 470 = .ok (.dup, 1) := by decide +kernel
theorem dX12_init_471 : decode cX12_init 471 = .ok (.iconst 0, 1) := by decide +kernel
theorem dX12_init_472 : decode cX12_init 472 = .ok (.iconst (-1), 1) := by decide +kernel
theorem dX12_init_473 : decode cX12_init 473 = .ok (.iastore, 1) := by decide +kernel
theorem dX12_init_474 : decode cX12_init 474 = .ok (.dup, 1) := by decide +kernel
theorem dX12_init_475 : decode cX12_init 475 = .ok (.iconst 1, 1) := by decide +kernel
theorem dX12_init_476 : decode cX12_init 476 = .ok (.iconst (-1), 1) := by decide +kernel
theorem dX12_init_477 : decode cX12_init 477 = .ok (.iastore, 1) := by decide +kernel
theorem dX12_init_478 : decode cX12_init 478 = .ok (.dup, 1) := by decide +kernel
theorem dX12_init_479 : decode cX12_init 479 = .ok (.iconst 2, 1) := by decide +kernel
theorem dX12_init_480 : decode cX12_init 480 = .ok (.iconst (-1), 1) := by decide +kernel
theorem dX12_init_481 : decode cX12_init 481 = .ok (.iastore, 1) := by decide +kernel
theorem dX12_init_482 : decode cX12_init 482 = .ok (.dup, 1) := by decide +kernel
theorem dX12_init_483 : decode cX12_init 483 = .ok (.iconst 3, 1) := by decide +kernel
theorem dX12_init_484 : decode cX12_init 484 = .ok (.iconst (-1), 1) := by decide +kernel
theorem dX12_init_485 : decode cX12_init 485 = .ok (.iastore, 1) := by decide +kernel
theorem dX12_init_486 : decode cX12_init 486 = .ok (.dup, 1) := by decide +kernel
theorem dX12_init_487 : decode cX12_init 487 = .ok (.iconst 4, 1) := by decide +kernel
theorem dX12_init_488 : decode cX12_init 488 = .ok (.iconst (-1), 1) := by decide +kernel
theorem dX12_init_489 : decode cX12_init 489 = .ok (.iastore, 1) := by decide +kernel
theorem dX12_init_490 : decode cX12_init 490 = .ok (.dup, 1) := by decide +kernel
theorem dX12_init_491 : decode cX12_init 491 = .ok (.iconst 5, 1) := by decide +kernel
theorem dX12_init_492 : decode cX12_init 492 = .ok (.iconst (-1), 1) := by decide +kernel
theorem dX12_init_493 : decode cX12_init 493 = .ok (.iastore, 1) := by decide +kernel
theorem dX12_init_494 : decode cX12_init 494 = .ok (.putfield 191, 3) := by decide +kernel
theorem dX12_init_497 : decode cX12_init 497 = .ok (.aload_n 0, 1) := by decide +kernel
theorem dX12_init_498 : decode cX12_init 498 = .ok (.bipush 6, 2) := by decide +kernel
theorem dX12_init_500 : decode cX12_init 500 = .ok (.newarray .int, 2) := by decide +kernel
theorem dX12_init_502 : decode cX12_init 502 = .ok (.putfield 194, 3) := by decide +kernel
theorem dX12_init_505 : decode cX12_init 505 = .ok (.aload_n 0, 1) := by decide +kernel
theorem dX12_init_506 : decode cX12_init 506 = .ok (.sipush 360, 3) := by decide +kernel
theorem dX12_init_509 : decode cX12_init 509 = .ok (.newarray .long, 2) := by decide +kernel
theorem dX12_init_511 : decode cX12_init 511 = .ok (.putfield 197, 3) := by decide +kernel
theorem dX12_init_514 : decode cX12_init 514 = .ok (.aload_n 0, 1) := by decide +kernel
theorem dX12_init_515 : decode cX12_init 515 = .ok (.bipush 60, 2) := by decide +kernel
theorem dX12_init_517 : decode cX12_init 517 = .ok (.newarray .long, 2) := by decide +kernel
theorem dX12_init_519 : decode cX12_init 519 = .ok (.putfield 200, 3) := by decide +kernel
theorem dX12_init_522 : decode cX12_init 522 = .ok (.return_, 1) := by decide +kernel
theorem dX12_in_0 : decode cX12_in 0 = .ok (.iload_n 1, 1) := by decide +kernel
theorem dX12_in_1 : decode cX12_in 1 = .ok (.iload_n 2, 1) := by decide +kernel
theorem dX12_in_2 : decode cX12_in 2 = .ok (.if_icmp .lt 12, 3) := by decide +kernel
theorem dX12_in_5 : decode cX12_in 5 = .ok (.iload_n 1, 1) := by decide +kernel
theorem dX12_in_6 : decode cX12_in 6 = .ok (.iload_n 3, 1) := by decide +kernel
theorem dX12_in_7 : decode cX12_in 7 = .ok (.if_icmp .gt 7, 3) := by decide +kernel
theorem dX12_in_10 : decode cX12_in 10 = .ok (.iconst 1, 1) := by decide +kernel
theorem dX12_in_11 : decode cX12_in 11 = .ok (.goto 4, 3) := by decide +kernel
theorem dX12_in_14 : decode cX12_in 14 = .ok (.iconst 0, 1) := by decide +kernel
theorem dX12_in_15 : decode cX12_in 15 = .ok (.ireturn, 1) := by decide +kernel
theorem dX12_has_0 : decode cX12_has 0 = .ok (.iload_n 1, 1) := by decide +kernel
theorem dX12_has_1 : decode cX12_has 1 = .ok (.iload_n 2, 1) := by decide +kernel
theorem dX12_has_2 : decode cX12_has 2 = .ok (.ishr, 1) := by decide +kernel
theorem dX12_has_3 : decode cX12_has 3 = .ok (.iconst 1, 1) := by decide +kernel
theorem dX12_has_4 : decode cX12_has 4 = .ok (.iand, 1) := by decide +kernel
theorem dX12_has_5 : decode cX12_has 5 = .ok (.iconst 1, 1) := by decide +kernel
theorem dX12_has_6 : decode cX12_has 6 = .ok (.if_icmp .ne 7, 3) := by decide +kernel
theorem dX12_has_9 : decode cX12_has 9 = .ok (.iconst 1, 1) := by decide +kernel
theorem dX12_has_10 : decode cX12_has 10 = .ok (.goto 4, 3) := by decide +kernel
theorem dX12_has_13 : decode cX12_has 13 = .ok (.iconst 0, 1) := by decide +kernel
theorem dX12_has_14 : decode cX12_has 14 = .ok (.ireturn, 1) := by decide +kernel
set_option maxRecDepth 20000 in
theorem ggX12_bits_X12_has : GoodIn wsX12_bits wsX12_has := goodIn_r _ [5] (by decide +kernel) (by decide +kernel)
set_option maxRecDepth 20000 in
theorem gX12_bits_X12_has : GoodIn wsX12_bits (wsV RX12 203 RX12 yX12_has wsX12_has) := goodIn_app (goodIn_of _ (by decide +kernel)) ggX12_bits_X12_has
theorem dX12_bits_0 : decode cX12_bits 0 = .ok (.iconst 0, 1) := by decide +kernel
theorem dX12_bits_1 : decode cX12_bits 1 = .ok (.istore_n 2, 1) := by decide +kernel
theorem dX12_bits_2 : decode cX12_bits 2 = .ok (.iconst 0, 1) := by decide +kernel
theorem dX12_bits_3 : decode cX12_bits 3 = .ok (.istore_n 3, 1) := by decide +kernel
theorem dX12_bits_4 : decode cX12_bits 4 = .ok (.iload_n 3, 1) := by decide +kernel
theorem dX12_bits_5 : decode cX12_bits 5 = .ok (.bipush 8, 2) := by decide +kernel
theorem dX12_bits_7 : decode cX12_bits 7 = .ok (.if_icmp .ge 26, 3) := by decide +kernel
theorem dX12_bits_10 : decode cX12_bits 10 = .ok (.iload_n 2, 1) := by decide +kernel
theorem dX12_bits_11 : decode cX12_bits 11 = .ok (.aload_n 0, 1) := by decide +kernel
theorem dX12_bits_12 : decode cX12_bits 12 = .ok (.iload_n 1, 1) := by decide +kernel
theorem dX12_bits_13 : decode cX12_bits 13 = .ok (.iload_n 3, 1) := by decide +kernel
theorem dX12_bits_14 : decode cX12_bits 14 = .ok (.invokevirtual 203, 3) := by decide +kernel
theorem dX12_bits_17 : decode cX12_bits 17 = .ok (.ifCond .eq 7, 3) := by decide +kernel
theorem dX12_bits_20 : decode cX12_bits 20 = .ok (.iconst 1, 1) := by decide +kernel
theorem dX12_bits_21 : decode cX12_bits 21 = .ok (.goto 4, 3) := by decide +kernel
theorem dX12_bits_24 : decode cX12_bits 24 = .ok (.iconst 0, 1) := by decide +kernel
theorem dX12_bits_25 : decode cX12_bits 25 = .ok (.iadd, 1) := by decide +kernel
theorem dX12_bits_26 : decode cX12_bits 26 = .ok (.istore_n 2, 1) := by decide +kernel
theorem dX12_bits_27 : decode cX12_bits 27 = .ok (.iinc 3 1, 3) := by decide +kernel
theorem dX12_bits_30 : decode cX12_bits 30 = .ok (.goto (-26), 3) := by decide +kernel
theorem dX12_bits_33 : decode cX12_bits 33 = .ok (.iload_n 2, 1) := by decide +kernel
theorem dX12_bits_34 : decode cX12_bits 34 = .ok (.ireturn, 1) := by decide +kernel
set_option maxRecDepth 20000 in
theorem ggX12_isNeed_X12_in : GoodIn wsX12_isNeed wsX12_in := goodIn_r _ [6] (by decide +kernel) (by decide +kernel)
set_option maxRecDepth 20000 in
theorem gX12_isNeed_X12_in : GoodIn wsX12_isNeed (wsV RX12 207 RX12 yX12_in wsX12_in) := goodIn_app (goodIn_of _ (by decide +kernel)) ggX12_isNeed_X12_in
theorem dX12_isNeed_0 : decode cX12_isNeed 0 = .ok (.aload_n 0, 1) := by decide +kernel
theorem dX12_isNeed_1 : decode cX12_isNeed 1 = .ok (.iload_n 1, 1) := by decide +kernel
theorem dX12_isNeed_2 : decode cX12_isNeed 2 = .ok (.iconst 0, 1) := by decide +kernel
theorem dX12_isNeed_3 : decode cX12_isNeed 3 = .ok (.aload_n 0, 1) := by decide +kernel
theorem dX12_isNeed_4 : decode cX12_isNeed 4 = .ok (.getfield 7, 3) := by decide +kernel
theorem dX12_isNeed_7 : decode cX12_isNeed 7 = .ok (.iconst 1, 1) := by decide +kernel
theorem dX12_isNeed_8 : decode cX12_isNeed 8 = .ok (.isub, 1) := by decide +kernel
theorem dX12_isNeed_9 : decode cX12_isNeed 9 = .ok (.invokevirtual 207, 3) := by decide +kernel
theorem dX12_isNeed_12 : decode cX12_isNeed 12 = .ok (.ireturn, 1) := by decide +kernel
set_option maxRecDepth 20000 in
theorem ggX12_isDarks_X12_in : GoodIn wsX12_isDarks wsX12_in := goodIn_r _ [5] (by decide +kernel) (by decide +kernel)
set_option maxRecDepth 20000 in
theorem gX12_isDarks_X12_in : GoodIn wsX12_isDarks (wsV RX12 207 RX12 yX12_in wsX12_in) := goodIn_app (goodIn_of _ (by decide +kernel)) ggX12_isDarks_X12_in
theorem dX12_isDarks_0 : decode cX12_isDarks 0 = .ok (.aload_n 0, 1) := by decide +kernel
theorem dX12_isDarks_1 : decode cX12_isDarks 1 = .ok (.iload_n 1, 1) := by decide +kernel
theorem dX12_isDarks_2 : decode cX12_isDarks 2 = .ok (.iconst 0, 1) := by decide +kernel
theorem dX12_isDarks_3 : decode cX12_isDarks 3 = .ok (.bipush 8, 2) := by decide +kernel
theorem dX12_isDarks_5 : decode cX12_isDarks 5 = .ok (.invokevirtual 207, 3) := by decide +kernel
theorem dX12_isDarks_8 : decode cX12_isDarks 8 = .ok (.ireturn, 1) := by decide +kernel
set_option maxRecDepth 20000 in
theorem ggX12_need_X12_in : GoodIn wsX12_need wsX12_in := goodIn_r _ [10] (by decide +kernel) (by decide +kernel)
set_option maxRecDepth 20000 in
theorem gX12_need_X12_in : GoodIn wsX12_need (wsV RX12 207 RX12 yX12_in wsX12_in) := goodIn_app (goodIn_of _ (by decide +kernel)) ggX12_need_X12_in
theorem dX12_need_0 : decode cX12_need 0 = .ok (.aload_n 0, 1) := by decide +kernel
theorem dX12_need_1 : decode cX12_need 1 = .ok (.iload_n 1, 1) := by decide +kernel
theorem dX12_need_2 : decode cX12_need 2 = .ok (.iconst 0, 1) := by decide +kernel
theorem dX12_need_3 : decode cX12_need 3 = .ok (.bipush 6, 2) := by decide +kernel
theorem dX12_need_5 : decode cX12_need 5 = .ok (.invokevirtual 207, 3) := by decide +kernel
theorem dX12_need_8 : decode cX12_need 8 = .ok (.ifCond .ne 5, 3) := by decide +kernel
theorem dX12_need_11 : decode cX12_need 11 = .ok (.iconst (-1), 1) := by decide +kernel
theorem dX12_need_12 : decode cX12_need 12 = .ok (.ireturn, 1) := by decide +kernel
theorem dX12_need_13 : decode cX12_need 13 = .ok (.aload_n 0, 1) := by decide +kernel
theorem dX12_need_14 : decode cX12_need 14 = .ok (.iload_n 2, 1) := by decide +kernel
theorem dX12_need_15 : decode cX12_need 15 = .ok (.iconst 0, 1) := by decide +kernel
theorem dX12_need_16 : decode cX12_need 16 = .ok (.bipush 9, 2) := by decide +kernel
theorem dX12_need_18 : decode cX12_need 18 = .ok (.invokevirtual 207, 3) := by decide +kernel
theorem dX12_need_21 : decode cX12_need 21 = .ok (.ifCond .ne 6, 3) := by decide +kernel
theorem dX12_need_24 : decode cX12_need 24 = .ok (.bipush (-2), 2) := by decide +kernel
theorem dX12_need_26 : decode cX12_need 26 = .ok (.ireturn, 1) := by decide +kernel
theorem dX12_need_27 : decode cX12_need 27 = .ok (.aload_n 0, 1) := by decide +kernel
theorem dX12_need_28 : decode cX12_need 28 = .ok (.getfield 7, 3) := by decide +kernel
theorem dX12_need_31 : decode cX12_need 31 = .ok (.bipush 6, 2) := by decide +kernel
theorem dX12_need_33 : decode cX12_need 33 = .ok (.if_icmp .ne 6, 3) := by decide +kernel
theorem dX12_need_36 : decode cX12_need 36 = .ok (.bipush (-4), 2) := by decide +kernel
theorem dX12_need_38 : decode cX12_need 38 = .ok (.ireturn, 1) := by decide +kernel
theorem dX12_need_39 : decode cX12_need 39 = .ok (.aload_n 0, 1) := by decide +kernel
theorem dX12_need_40 : decode cX12_need 40 = .ok (.getfield 22, 3) := by decide +kernel
theorem dX12_need_43 : decode cX12_need 43 = .ok (.aload_n 0, 1) := by decide +kernel
theorem dX12_need_44 : decode cX12_need 44 = .ok (.getfield 7, 3) := by decide +kernel
theorem dX12_need_47 : decode cX12_need 47 = .ok (.iload_n 1, 1) := by decide +kernel
theorem dX12_need_48 : decode cX12_need 48 = .ok (.iastore, 1) := by decide +kernel
theorem dX12_need_49 : decode cX12_need 49 = .ok (.aload_n 0, 1) := by decide +kernel
theorem dX12_need_50 : decode cX12_need 50 = .ok (.getfield 26, 3) := by decide +kernel
theorem dX12_need_53 : decode cX12_need 53 = .ok (.aload_n 0, 1) := by decide +kernel
theorem dX12_need_54 : decode cX12_need 54 = .ok (.getfield 7, 3) := by decide +kernel
theorem dX12_need_57 : decode cX12_need 57 = .ok (.iload_n 2, 1) := by decide +kernel
theorem dX12_need_58 : decode cX12_need 58 = .ok (.iastore, 1) := by decide +kernel
theorem dX12_need_59 : decode cX12_need 59 = .ok (.aload_n 0, 1) := by decide +kernel
theorem dX12_need_60 : decode cX12_need 60 = .ok (.getfield 29, 3) := by decide +kernel
theorem dX12_need_63 : decode cX12_need 63 = .ok (.aload_n 0, 1) := by decide +kernel
theorem dX12_need_64 : decode cX12_need 64 = .ok (.getfield 7, 3) := by decide +kernel
theorem dX12_need_67 : decode cX12_need 67 = .ok (.iconst 0, 1) := by decide +kernel
theorem dX12_need_68 : decode cX12_need 68 = .ok (.iastore, 1) := by decide +kernel
theorem dX12_need_69 : decode cX12_need 69 = .ok (.iconst 0, 1) := by decide +kernel
theorem dX12_need_70 : decode cX12_need 70 = .ok (.istore_n 3, 1) := by decide +kernel
theorem dX12_need_71 : decode cX12_need 71 = .ok (.iload_n 3, 1) := by decide +kernel
theorem dX12_need_72 : decode cX12_need 72 = .ok (.iconst 4, 1) := by decide +kernel
theorem dX12_need_73 : decode cX12_need 73 = .ok (.if_icmp .ge 23, 3) := by decide +kernel
theorem dX12_need_76 : decode cX12_need 76 = .ok (.aload_n 0, 1) := by decide +kernel
theorem dX12_need_77 : decode cX12_need 77 = .ok (.getfield 32, 3) := by decide +kernel
theorem dX12_need_80 : decode cX12_need 80 = .ok (.iconst 4, 1) := by decide +kernel
theorem dX12_need_81 : decode cX12_need 81 = .ok (.aload_n 0, 1) := by decide +kernel
theorem dX12_need_82 : decode cX12_need 82 = .ok (.getfield 7, 3) := by decide +kernel
theorem dX12_need_85 : decode cX12_need 85 = .ok (.imul, 1) := by decide +kernel
theorem dX12_need_86 : decode cX12_need 86 = .ok (.iload_n 3, 1) := by decide +kernel
theorem dX12_need_87 : decode cX12_need 87 = .ok (.iadd, 1) := by decide +kernel
theorem dX12_need_88 : decode cX12_need 88 = .ok (.iconst 0, 1) := by decide +kernel
theorem dX12_need_89 : decode cX12_need 89 = .ok (.iastore, 1) := by decide +kernel
theorem dX12_need_90 : decode cX12_need 90 = .ok (.iinc 3 1, 3) := by decide +kernel
theorem dX12_need_93 : decode cX12_need 93 = .ok (.goto (-22), 3) := by decide +kernel
theorem dX12_need_96 : decode cX12_need 96 = .ok (.aload_n 0, 1) := by decide +kernel
theorem dX12_need_97 : decode cX12_need 97 = .ok (.dup, 1) := by decide +kernel
theorem dX12_need_98 : decode cX12_need 98 = .ok (.getfield 7, 3) := by decide +kernel
theorem dX12_need_101 : decode cX12_need 101 = .ok (.iconst 1, 1) := by decide +kernel
theorem dX12_need_102 : decode cX12_need 102 = .ok (.iadd, 1) := by decide +kernel
theorem dX12_need_103 : decode cX12_need 103 = .ok (.putfield 7, 3) := by decide +kernel
theorem dX12_need_106 : decode cX12_need 106 = .ok (.aload_n 0, 1) := by decide +kernel
theorem dX12_need_107 : decode cX12_need 107 = .ok (.getfield 7, 3) := by decide +kernel
theorem dX12_need_110 : decode cX12_need 110 = .ok (.iconst 1, 1) := by decide +kernel
theorem dX12_need_111 : decode cX12_need 111 = .ok (.isub, 1) := by decide +kernel
theorem dX12_need_112 : decode cX12_need 112 = .ok (.ireturn, 1) := by decide +kernel
set_option maxRecDepth 20000 in
theorem ggX12_darks_X12_isDarks : GoodIn wsX12_darks wsX12_isDarks := goodIn_r _ [6, 7, 8, 9, 5, 10] (by decide +kernel) (by decide +kernel)
set_option maxRecDepth 20000 in
theorem gX12_darks_X12_isDarks : GoodIn wsX12_darks (wsV RX12 211 RX12 yX12_isDarks wsX12_isDarks) := goodIn_app (goodIn_of _ (by decide +kernel)) ggX12_darks_X12_isDarks
theorem dX12_darks_0 : decode cX12_darks 0 = .ok (.aload_n 0, 1) := by decide +kernel
theorem dX12_darks_1 : decode cX12_darks 1 = .ok (.iload_n 1, 1) := by decide +kernel
theorem dX12_darks_2 : decode cX12_darks 2 = .ok (.invokevirtual 211, 3) := by decide +kernel
theorem dX12_darks_5 : decode cX12_darks 5 = .ok (.ifCond .ne 6, 3) := by decide +kernel
theorem dX12_darks_8 : decode cX12_darks 8 = .ok (.bipush (-2), 2) := by decide +kernel
theorem dX12_darks_10 : decode cX12_darks 10 = .ok (.ireturn, 1) := by decide +kernel
theorem dX12_darks_11 : decode cX12_darks 11 = .ok (.aload_n 0, 1) := by decide +kernel
theorem dX12_darks_12 : decode cX12_darks 12 = .ok (.getfield 13, 3) := by decide +kernel
theorem dX12_darks_15 : decode cX12_darks 15 = .ok (.istore_n 2, 1) := by decide +kernel
theorem dX12_darks_16 : decode cX12_darks 16 = .ok (.aload_n 0, 1) := by decide +kernel
theorem dX12_darks_17 : decode cX12_darks 17 = .ok (.iload_n 1, 1) := by decide +kernel
theorem dX12_darks_18 : decode cX12_darks 18 = .ok (.putfield 13, 3) := by decide +kernel
theorem dX12_darks_21 : decode cX12_darks 21 = .ok (.iload_n 2, 1) := by decide +kernel
theorem dX12_darks_22 : decode cX12_darks 22 = .ok (.ireturn, 1) := by decide +kernel
set_option maxRecDepth 20000 in
theorem ggX12_row_X12_isNeed : GoodIn wsX12_row wsX12_isNeed := goodIn_r _ [7, 8, 9, 10, 11, 6, 12, 13, 14, 15, 16, 17, 18, 19, 20, 21, 22, 23, 24, 25, 26, 27, 28, 29, 30, 31, 32, 33, 34, 35, 36, 37, 38, 39, 40, 41, 42, 43, 44, 45, 46, 47, 48, 49, 50, 51, 52, 53, 54, 55, 56, 57, 58, 59, 60, 61, 62, 63, 64, 65, 66, 67, 68, 69, 70, 71, 72, 73, 74, 75] (by decide +kernel) (by decide +kernel)
set_option maxRecDepth 20000 in
theorem gX12_row_X12_isNeed : GoodIn wsX12_row (wsV RX12 215 RX12 yX12_isNeed wsX12_isNeed) := goodIn_app (goodIn_of _ (by decide +kernel)) ggX12_row_X12_isNeed
set_option maxRecDepth 20000 in
theorem ggX12_row_X12_in : GoodIn wsX12_row wsX12_in := goodIn_r _ [12] (by decide +kernel) (by decide +kernel)
set_option maxRecDepth 20000 in
theorem gX12_row_X12_in : GoodIn wsX12_row (wsV RX12 207 RX12 yX12_in wsX12_in) := goodIn_app (goodIn_of _ (by decide +kernel)) ggX12_row_X12_in
theorem dX12_row_0 : decode cX12_row 0 = .ok (.aload_n 0, 1) := by decide +kernel
theorem dX12_row_1 : decode cX12_row 1 = .ok (.iload_n 1, 1) := by decide +kernel
theorem dX12_row_2 : decode cX12_row 2 = .ok (.invokevirtual 215, 3) := by decide +kernel
theorem dX12_row_5 : decode cX12_row 5 = .ok (.ifCond .eq 13, 3) := by decide +kernel
theorem dX12_row_8 : decode cX12_row 8 = .ok (.aload_n 0, 1) := by decide +kernel
theorem dX12_row_9 : decode cX12_row 9 = .ok (.iload_n 2, 1) := by decide +kernel
theorem dX12_row_10 : decode cX12_row 10 = .ok (.iconst 0, 1) := by decide +kernel
theorem dX12_row_11 : decode cX12_row 11 = .ok (.iconst 3, 1) := by decide +kernel
theorem dX12_row_12 : decode cX12_row 12 = .ok (.invokevirtual 207, 3) := by decide +kernel
theorem dX12_row_15 : decode cX12_row 15 = .ok (.ifCond .ne 5, 3) := by decide +kernel
theorem dX12_row_18 : decode cX12_row 18 = .ok (.iconst (-1), 1) := by decide +kernel
theorem dX12_row_19 : decode cX12_row 19 = .ok (.ireturn, 1) := by decide +kernel
theorem dX12_row_20 : decode cX12_row 20 = .ok (.aload_n 0, 1) := by decide +kernel
theorem dX12_row_21 : decode cX12_row 21 = .ok (.iload_n 3, 1) := by decide +kernel
theorem dX12_row_22 : decode cX12_row 22 = .ok (.iconst 0, 1) := by decide +kernel
theorem dX12_row_23 : decode cX12_row 23 = .ok (.bipush 9, 2) := by decide +kernel
theorem dX12_row_25 : decode cX12_row 25 = .ok (.invokevirtual 207, 3) := by decide +kernel
theorem dX12_row_28 : decode cX12_row 28 = .ok (.ifCond .ne 6, 3) := by decide +kernel
theorem dX12_row_31 : decode cX12_row 31 = .ok (.bipush (-2), 2) := by decide +kernel
theorem dX12_row_33 : decode cX12_row 33 = .ok (.ireturn, 1) := by decide +kernel
theorem dX12_row_34 : decode cX12_row 34 = .ok (.aload_n 0, 1) := by decide +kernel
theorem dX12_row_35 : decode cX12_row 35 = .ok (.getfield 22, 3) := by decide +kernel
theorem dX12_row_38 : decode cX12_row 38 = .ok (.iload_n 1, 1) := by decide +kernel
theorem dX12_row_39 : decode cX12_row 39 = .ok (.iaload, 1) := by decide +kernel
theorem dX12_row_40 : decode cX12_row 40 = .ok (.bipush 6, 2) := by decide +kernel
theorem dX12_row_42 : decode cX12_row 42 = .ok (.if_icmp .eq 6, 3) := by decide +kernel
theorem dX12_row_45 : decode cX12_row 45 = .ok (.bipush (-3), 2) := by decide +kernel
theorem dX12_row_47 : decode cX12_row 47 = .ok (.ireturn, 1) := by decide +kernel
theorem dX12_row_48 : decode cX12_row 48 = .ok (.aload_n 0, 1) := by decide +kernel
theorem dX12_row_49 : decode cX12_row 49 = .ok (.getfield 32, 3) := by decide +kernel
theorem dX12_row_52 : decode cX12_row 52 = .ok (.iconst 4, 1) := by decide +kernel
theorem dX12_row_53 : decode cX12_row 53 = .ok (.iload_n 1, 1) := by decide +kernel
theorem dX12_row_54 : decode cX12_row 54 = .ok (.imul, 1) := by decide +kernel
theorem dX12_row_55 : decode cX12_row 55 = .ok (.iload_n 2, 1) := by decide +kernel
theorem dX12_row_56 : decode cX12_row 56 = .ok (.iadd, 1) := by decide +kernel
theorem dX12_row_57 : decode cX12_row 57 = .ok (.iaload, 1) := by decide +kernel
theorem dX12_row_58 : decode cX12_row 58 = .ok (.istore 4, 2) := by decide +kernel
theorem dX12_row_60 : decode cX12_row 60 = .ok (.aload_n 0, 1) := by decide +kernel
theorem dX12_row_61 : decode cX12_row 61 = .ok (.getfield 32, 3) := by decide +kernel
theorem dX12_row_64 : decode cX12_row 64 = .ok (.iconst 4, 1) := by decide +kernel
theorem dX12_row_65 : decode cX12_row 65 = .ok (.iload_n 1, 1) := by decide +kernel
theorem dX12_row_66 : decode cX12_row 66 = .ok (.imul, 1) := by decide +kernel
theorem dX12_row_67 : decode cX12_row 67 = .ok (.iload_n 2, 1) := by decide +kernel
theorem dX12_row_68 : decode cX12_row 68 = .ok (.iadd, 1) := by decide +kernel
theorem dX12_row_69 : decode cX12_row 69 = .ok (.iload_n 3, 1) := by decide +kernel
theorem dX12_row_70 : decode cX12_row 70 = .ok (.iastore, 1) := by decide +kernel
theorem dX12_row_71 : decode cX12_row 71 = .ok (.iload 4, 2) := by decide +kernel
theorem dX12_row_73 : decode cX12_row 73 = .ok (.ireturn, 1) := by decide +kernel
set_option maxRecDepth 20000 in
theorem ggX12_feed_X12_in : GoodIn wsX12_feed wsX12_in := goodIn_r _ [7] (by decide +kernel) (by decide +kernel)
set_option maxRecDepth 20000 in
theorem gX12_feed_X12_in : GoodIn wsX12_feed (wsV RX12 207 RX12 yX12_in wsX12_in) := goodIn_app (goodIn_of _ (by decide +kernel)) ggX12_feed_X12_in
theorem dX12_feed_0 : decode cX12_feed 0 = .ok (.aload_n 0, 1) := by decide +kernel
theorem dX12_feed_1 : decode cX12_feed 1 = .ok (.iload_n 1, 1) := by decide +kernel
theorem dX12_feed_2 : decode cX12_feed 2 = .ok (.iconst 0, 1) := by decide +kernel
theorem dX12_feed_3 : decode cX12_feed 3 = .ok (.bipush 127, 2) := by decide +kernel
theorem dX12_feed_5 : decode cX12_feed 5 = .ok (.invokevirtual 207, 3) := by decide +kernel
theorem dX12_feed_8 : decode cX12_feed 8 = .ok (.ifCond .ne 6, 3) := by decide +kernel
theorem dX12_feed_11 : decode cX12_feed 11 = .ok (.bipush (-2), 2) := by decide +kernel
theorem dX12_feed_13 : decode cX12_feed 13 = .ok (.ireturn, 1) := by decide +kernel
theorem dX12_feed_14 : decode cX12_feed 14 = .ok (.aload_n 0, 1) := by decide +kernel
theorem dX12_feed_15 : decode cX12_feed 15 = .ok (.getfield 41, 3) := by decide +kernel
theorem dX12_feed_18 : decode cX12_feed 18 = .ok (.bipush 100, 2) := by decide +kernel
theorem dX12_feed_20 : decode cX12_feed 20 = .ok (.if_icmp .ne 6, 3) := by decide +kernel
theorem dX12_feed_23 : decode cX12_feed 23 = .ok (.bipush (-4), 2) := by decide +kernel
theorem dX12_feed_25 : decode cX12_feed 25 = .ok (.ireturn, 1) := by decide +kernel
theorem dX12_feed_26 : decode cX12_feed 26 = .ok (.aload_n 0, 1) := by decide +kernel
theorem dX12_feed_27 : decode cX12_feed 27 = .ok (.getfield 50, 3) := by decide +kernel
theorem dX12_feed_30 : decode cX12_feed 30 = .ok (.aload_n 0, 1) := by decide +kernel
theorem dX12_feed_31 : decode cX12_feed 31 = .ok (.getfield 41, 3) := by decide +kernel
theorem dX12_feed_34 : decode cX12_feed 34 = .ok (.iload_n 1, 1) := by decide +kernel
theorem dX12_feed_35 : decode cX12_feed 35 = .ok (.iastore, 1) := by decide +kernel
theorem dX12_feed_36 : decode cX12_feed 36 = .ok (.aload_n 0, 1) := by decide +kernel
theorem dX12_feed_37 : decode cX12_feed 37 = .ok (.dup, 1) := by decide +kernel
theorem dX12_feed_38 : decode cX12_feed 38 = .ok (.getfield 41, 3) := by decide +kernel
theorem dX12_feed_41 : decode cX12_feed 41 = .ok (.iconst 1, 1) := by decide +kernel
theorem dX12_feed_42 : decode cX12_feed 42 = .ok (.iadd, 1) := by decide +kernel
theorem dX12_feed_43 : decode cX12_feed 43 = .ok (.putfield 41, 3) := by decide +kernel
theorem dX12_feed_46 : decode cX12_feed 46 = .ok (.aload_n 0, 1) := by decide +kernel
theorem dX12_feed_47 : decode cX12_feed 47 = .ok (.getfield 41, 3) := by decide +kernel
theorem dX12_feed_50 : decode cX12_feed 50 = .ok (.ireturn, 1) := by decide +kernel
theorem dX12_next_0 : decode cX12_next 0 = .ok (.aload_n 0, 1) := by decide +kernel
theorem dX12_next_1 : decode cX12_next 1 = .ok (.getfield 44, 3) := by decide +kernel
theorem dX12_next_4 : decode cX12_next 4 = .ok (.aload_n 0, 1) := by decide +kernel
theorem dX12_next_5 : decode cX12_next 5 = .ok (.getfield 41, 3) := by decide +kernel
theorem dX12_next_8 : decode cX12_next 8 = .ok (.if_icmp .ge 15, 3) := by decide +kernel
theorem dX12_next_11 : decode cX12_next 11 = .ok (.aload_n 0, 1) := by decide +kernel
theorem dX12_next_12 : decode cX12_next 12 = .ok (.getfield 50, 3) := by decide +kernel
theorem dX12_next_15 : decode cX12_next 15 = .ok (.aload_n 0, 1) := by decide +kernel
theorem dX12_next_16 : decode cX12_next 16 = .ok (.getfield 44, 3) := by decide +kernel
theorem dX12_next_19 : decode cX12_next 19 = .ok (.iaload, 1) := by decide +kernel
theorem dX12_next_20 : decode cX12_next 20 = .ok (.goto 4, 3) := by decide +kernel
theorem dX12_next_23 : decode cX12_next 23 = .ok (.iconst (-1), 1) := by decide +kernel
theorem dX12_next_24 : decode cX12_next 24 = .ok (.ireturn, 1) := by decide +kernel
set_option maxRecDepth 20000 in
theorem ggX12_takes_X12_next : GoodIn wsX12_takes wsX12_next := goodIn_r _ [6, 1, 7, 8, 9, 10, 11, 12, 13, 14, 15, 16, 17, 18, 19, 20, 21, 22, 23, 24, 25, 26, 27, 28, 29, 30, 31, 32, 33, 34, 35, 36, 37, 38, 39, 40, 41, 42, 43, 44, 45, 46, 47, 48, 49, 50, 51, 52, 53, 54, 55, 56, 57, 58, 59, 60, 61, 62, 63, 64, 65, 66, 67, 68, 69, 70, 71] (by decide +kernel) (by decide +kernel)
set_option maxRecDepth 20000 in
theorem gX12_takes_X12_next : GoodIn wsX12_takes (wsV RX12 218 RX12 yX12_next wsX12_next) := goodIn_app (goodIn_of _ (by decide +kernel)) ggX12_takes_X12_next
theorem dX12_takes_0 : decode cX12_takes 0 = .ok (.aload_n 0, 1) := by decide +kernel
theorem dX12_takes_1 : decode cX12_takes 1 = .ok (.invokevirtual 218, 3) := by decide +kernel
theorem dX12_takes_4 : decode cX12_takes 4 = .ok (.iload_n 1, 1) := by decide +kernel
theorem dX12_takes_5 : decode cX12_takes 5 = .ok (.if_icmp .eq 5, 3) := by decide +kernel
theorem dX12_takes_8 : decode cX12_takes 8 = .ok (.iconst 0, 1) := by decide +kernel
theorem dX12_takes_9 : decode cX12_takes 9 = .ok (.ireturn, 1) := by decide +kernel
theorem dX12_takes_10 : decode cX12_takes 10 = .ok (.aload_n 0, 1) := by decide +kernel
theorem dX12_takes_11 : decode cX12_takes 11 = .ok (.dup, 1) := by decide +kernel
theorem dX12_takes_12 : decode cX12_takes 12 = .ok (.getfield 44, 3) := by decide +kernel
theorem dX12_takes_15 : decode cX12_takes 15 = .ok (.iconst 1, 1) := by decide +kernel
theorem dX12_takes_16 : decode cX12_takes 16 = .ok (.iadd, 1) := by decide +kernel
theorem dX12_takes_17 : decode cX12_takes 17 = .ok (.putfield 44, 3) := by decide +kernel
theorem dX12_takes_20 : decode cX12_takes 20 = .ok (.iconst 1, 1) := by decide +kernel
theorem dX12_takes_21 : decode cX12_takes 21 = .ok (.ireturn, 1) := by decide +kernel
set_option maxRecDepth 20000 in
theorem ggX12_takesWord_X12_takes : GoodIn wsX12_takesWord wsX12_takes := goodIn_r _ [6, 7, 8, 9, 10, 5, 11, 12, 13, 14, 15, 16, 17, 18, 19, 20, 21, 22, 23, 24, 25, 26, 27, 28, 29, 30, 31, 32, 33, 34, 35, 36, 37, 38, 39, 40, 41, 42, 43, 44, 45, 46, 47, 48, 49, 50, 51, 52, 53, 54, 55, 56, 57, 58, 59, 60, 61, 62, 63, 64, 65, 66, 67, 68, 69, 70, 71, 72, 73, 74, 75, 76] (by decide +kernel) (by decide +kernel)
set_option maxRecDepth 20000 in
theorem gX12_takesWord_X12_takes : GoodIn wsX12_takesWord (wsV RX12 222 RX12 yX12_takes wsX12_takes) := goodIn_app (goodIn_of _ (by decide +kernel)) ggX12_takesWord_X12_takes
theorem dX12_takesWord_0 : decode cX12_takesWord 0 = .ok (.iconst 0, 1) := by decide +kernel
theorem dX12_takesWord_1 : decode cX12_takesWord 1 = .ok (.istore_n 3, 1) := by decide +kernel
theorem dX12_takesWord_2 : decode cX12_takesWord 2 = .ok (.iload_n 3, 1) := by decide +kernel
theorem dX12_takesWord_3 : decode cX12_takesWord 3 = .ok (.iload_n 2, 1) := by decide +kernel
theorem dX12_takesWord_4 : decode cX12_takesWord 4 = .ok (.if_icmp .ge 26, 3) := by decide +kernel
theorem dX12_takesWord_7 : decode cX12_takesWord 7 = .ok (.aload_n 0, 1) := by decide +kernel
theorem dX12_takesWord_8 : decode cX12_takesWord 8 = .ok (.aload_n 0, 1) := by decide +kernel
theorem dX12_takesWord_9 : decode cX12_takesWord 9 = .ok (.getfield 83, 3) := by decide +kernel
theorem dX12_takesWord_12 : decode cX12_takesWord 12 = .ok (.iload_n 1, 1) := by decide +kernel
theorem dX12_takesWord_13 : decode cX12_takesWord 13 = .ok (.iload_n 3, 1) := by decide +kernel
theorem dX12_takesWord_14 : decode cX12_takesWord 14 = .ok (.iadd, 1) := by decide +kernel
theorem dX12_takesWord_15 : decode cX12_takesWord 15 = .ok (.iaload, 1) := by decide +kernel
theorem dX12_takesWord_16 : decode cX12_takesWord 16 = .ok (.invokevirtual 222, 3) := by decide +kernel
theorem dX12_takesWord_19 : decode cX12_takesWord 19 = .ok (.ifCond .ne 5, 3) := by decide +kernel
theorem dX12_takesWord_22 : decode cX12_takesWord 22 = .ok (.iconst 0, 1) := by decide +kernel
theorem dX12_takesWord_23 : decode cX12_takesWord 23 = .ok (.ireturn, 1) := by decide +kernel
theorem dX12_takesWord_24 : decode cX12_takesWord 24 = .ok (.iinc 3 1, 3) := by decide +kernel
theorem dX12_takesWord_27 : decode cX12_takesWord 27 = .ok (.goto (-25), 3) := by decide +kernel
theorem dX12_takesWord_30 : decode cX12_takesWord 30 = .ok (.aload_n 0, 1) := by decide +kernel
theorem dX12_takesWord_31 : decode cX12_takesWord 31 = .ok (.bipush 32, 2) := by decide +kernel
theorem dX12_takesWord_33 : decode cX12_takesWord 33 = .ok (.invokevirtual 222, 3) := by decide +kernel
theorem dX12_takesWord_36 : decode cX12_takesWord 36 = .ok (.ireturn, 1) := by decide +kernel
set_option maxRecDepth 20000 in
theorem ggX12_isDigit_X12_next : GoodIn wsX12_isDigit wsX12_next := goodIn_r _ [5, 6, 7, 8, 13, 14, 15, 16, 17, 18, 19, 20, 21, 22, 23, 24, 25, 26, 27, 28, 29, 30, 31, 32, 33, 34, 35, 36, 37, 38, 39, 40, 41, 42, 43, 44, 45, 46, 47, 48, 49, 50, 51, 52, 53, 54, 55, 56, 57, 58, 59, 60, 61, 62, 63, 64, 65, 66, 67, 68, 69, 70, 71, 72, 73, 74, 75] (by decide +kernel) (by decide +kernel)
set_option maxRecDepth 20000 in
theorem gX12_isDigit_X12_next : GoodIn wsX12_isDigit (wsV RX12 218 RX12 yX12_next wsX12_next) := goodIn_app (goodIn_of _ (by decide +kernel)) ggX12_isDigit_X12_next
set_option maxRecDepth 20000 in
theorem ggX12_isDigit_X12_in : GoodIn wsX12_isDigit wsX12_in := goodIn_r _ [12] (by decide +kernel) (by decide +kernel)
set_option maxRecDepth 20000 in
theorem gX12_isDigit_X12_in : GoodIn wsX12_isDigit (wsV RX12 207 RX12 yX12_in wsX12_in) := goodIn_app (goodIn_of _ (by decide +kernel)) ggX12_isDigit_X12_in
theorem dX12_isDigit_0 : decode cX12_isDigit 0 = .ok (.aload_n 0, 1) := by decide +kernel
theorem dX12_isDigit_1 : decode cX12_isDigit 1 = .ok (.aload_n 0, 1) := by decide +kernel
theorem dX12_isDigit_2 : decode cX12_isDigit 2 = .ok (.invokevirtual 218, 3) := by decide +kernel
theorem dX12_isDigit_5 : decode cX12_isDigit 5 = .ok (.bipush 48, 2) := by decide +kernel
theorem dX12_isDigit_7 : decode cX12_isDigit 7 = .ok (.bipush 57, 2) := by decide +kernel
theorem dX12_isDigit_9 : decode cX12_isDigit 9 = .ok (.invokevirtual 207, 3) := by decide +kernel
theorem dX12_isDigit_12 : decode cX12_isDigit 12 = .ok (.ireturn, 1) := by decide +kernel
set_option maxRecDepth 20000 in
theorem ggX12_takesNumber_X12_isDigit : GoodIn wsX12_takesNumber wsX12_isDigit := goodIn_r _ [7, 8, 9, 10, 6, 11, 2, 12, 13, 14, 15, 16, 17, 18, 19, 20, 21, 22, 23, 24, 25, 26, 27, 28, 29, 30, 31, 32, 33, 34, 35, 36, 37, 38, 39, 40, 41, 42, 43, 44, 45, 46, 47, 48, 49, 50, 51, 52, 53, 54, 55, 56, 57, 58, 59, 60, 61, 62, 63, 64, 65, 66, 67, 68, 69, 70, 71, 72, 73, 74, 75, 76, 77, 78, 79, 80] (by decide +kernel) (by decide +kernel)
set_option maxRecDepth 20000 in
theorem gX12_takesNumber_X12_isDigit : GoodIn wsX12_takesNumber (wsV RX12 225 RX12 yX12_isDigit wsX12_isDigit) := goodIn_app (goodIn_of _ (by decide +kernel)) ggX12_takesNumber_X12_isDigit
set_option maxRecDepth 20000 in
theorem ggX12_takesNumber_X12_next : GoodIn wsX12_takesNumber wsX12_next := goodIn_r _ [11, 2, 12, 13, 18, 19, 20, 21, 22, 23, 24, 25, 26, 27, 28, 29, 30, 31, 32, 33, 34, 35, 36, 37, 38, 39, 40, 41, 42, 43, 44, 45, 46, 47, 48, 49, 50, 51, 52, 53, 54, 55, 56, 57, 58, 59, 60, 61, 62, 63, 64, 65, 66, 67, 68, 69, 70, 71, 72, 73, 74, 75, 76, 77, 78, 79, 80] (by decide +kernel) (by decide +kernel)
set_option maxRecDepth 20000 in
theorem gX12_takesNumber_X12_next : GoodIn wsX12_takesNumber (wsV RX12 218 RX12 yX12_next wsX12_next) := goodIn_app (goodIn_of _ (by decide +kernel)) ggX12_takesNumber_X12_next
theorem dX12_takesNumber_0 : decode cX12_takesNumber 0 = .ok (.aload_n 0, 1) := by decide +kernel
theorem dX12_takesNumber_1 : decode cX12_takesNumber 1 = .ok (.invokevirtual 225, 3) := by decide +kernel
theorem dX12_takesNumber_4 : decode cX12_takesNumber 4 = .ok (.ifCond .ne 5, 3) := by decide +kernel
theorem dX12_takesNumber_7 : decode cX12_takesNumber 7 = .ok (.iconst 0, 1) := by decide +kernel
theorem dX12_takesNumber_8 : decode cX12_takesNumber 8 = .ok (.ireturn, 1) := by decide +kernel
theorem dX12_takesNumber_9 : decode cX12_takesNumber 9 = .ok (.aload_n 0, 1) := by decide +kernel
theorem dX12_takesNumber_10 : decode cX12_takesNumber 10 = .ok (.iconst 0, 1) := by decide +kernel
theorem dX12_takesNumber_11 : decode cX12_takesNumber 11 = .ok (.putfield 47, 3) := by decide +kernel
theorem dX12_takesNumber_14 : decode cX12_takesNumber 14 = .ok (.iconst 0, 1) := by decide +kernel
theorem dX12_takesNumber_15 : decode cX12_takesNumber 15 = .ok (.istore_n 1, 1) := by decide +kernel
theorem dX12_takesNumber_16 : decode cX12_takesNumber 16 = .ok (.iload_n 1, 1) := by decide +kernel
theorem dX12_takesNumber_17 : decode cX12_takesNumber 17 = .ok (.iconst 2, 1) := by decide +kernel
theorem dX12_takesNumber_18 : decode cX12_takesNumber 18 = .ok (.if_icmp .ge 45, 3) := by decide +kernel
theorem dX12_takesNumber_21 : decode cX12_takesNumber 21 = .ok (.aload_n 0, 1) := by decide +kernel
theorem dX12_takesNumber_22 : decode cX12_takesNumber 22 = .ok (.invokevirtual 225, 3) := by decide +kernel
theorem dX12_takesNumber_25 : decode cX12_takesNumber 25 = .ok (.ifCond .eq 38, 3) := by decide +kernel
theorem dX12_takesNumber_28 : decode cX12_takesNumber 28 = .ok (.aload_n 0, 1) := by decide +kernel
theorem dX12_takesNumber_29 : decode cX12_takesNumber 29 = .ok (.bipush 10, 2) := by decide +kernel
theorem dX12_takesNumber_31 : decode cX12_takesNumber 31 = .ok (.aload_n 0, 1) := by decide +kernel
theorem dX12_takesNumber_32 : decode cX12_takesNumber 32 = .ok (.getfield 47, 3) := by decide +kernel
theorem dX12_takesNumber_35 : decode cX12_takesNumber 35 = .ok (.imul, 1) := by decide +kernel
theorem dX12_takesNumber_36 : decode cX12_takesNumber 36 = .ok (.aload_n 0, 1) := by decide +kernel
theorem dX12_takesNumber_37 : decode cX12_takesNumber 37 = .ok (.invokevirtual 218, 3) := by decide +kernel
theorem dX12_takesNumber_40 : decode cX12_takesNumber 40 = .ok (.iadd, 1) := by decide +kernel
theorem dX12_takesNumber_41 : decode cX12_takesNumber 41 = .ok (.bipush 48, 2) := by decide +kernel
theorem dX12_takesNumber_43 : decode cX12_takesNumber 43 = .ok (.isub, 1) := by decide +kernel
theorem dX12_takesNumber_44 : decode cX12_takesNumber 44 = .ok (.putfield 47, 3) := by decide +kernel
theorem dX12_takesNumber_47 : decode cX12_takesNumber 47 = .ok (.aload_n 0, 1) := by decide +kernel
theorem dX12_takesNumber_48 : decode cX12_takesNumber 48 = .ok (.dup, 1) := by decide +kernel
theorem dX12_takesNumber_49 : decode cX12_takesNumber 49 = .ok (.getfield 44, 3) := by decide +kernel
theorem dX12_takesNumber_52 : decode cX12_takesNumber 52 = .ok (.iconst 1, 1) := by decide +kernel
theorem dX12_takesNumber_53 : decode cX12_takesNumber 53 = .ok (.iadd, 1) := by decide +kernel
theorem dX12_takesNumber_54 : decode cX12_takesNumber 54 = .ok (.putfield 44, 3) := by decide +kernel
theorem dX12_takesNumber_57 : decode cX12_takesNumber 57 = .ok (.iinc 1 1, 3) := by decide +kernel
theorem dX12_takesNumber_60 : decode cX12_takesNumber 60 = .ok (.goto (-44), 3) := by decide +kernel
theorem dX12_takesNumber_63 : decode cX12_takesNumber 63 = .ok (.iconst 1, 1) := by decide +kernel
theorem dX12_takesNumber_64 : decode cX12_takesNumber 64 = .ok (.ireturn, 1) := by decide +kernel
theorem dX12_emits_0 : decode cX12_emits 0 = .ok (.aload_n 0, 1) := by decide +kernel
theorem dX12_emits_1 : decode cX12_emits 1 = .ok (.getfield 68, 3) := by decide +kernel
theorem dX12_emits_4 : decode cX12_emits 4 = .ok (.aload_n 0, 1) := by decide +kernel
theorem dX12_emits_5 : decode cX12_emits 5 = .ok (.getfield 74, 3) := by decide +kernel
theorem dX12_emits_8 : decode cX12_emits 8 = .ok (.iload_n 1, 1) := by decide +kernel
theorem dX12_emits_9 : decode cX12_emits 9 = .ok (.iastore, 1) := by decide +kernel
theorem dX12_emits_10 : decode cX12_emits 10 = .ok (.aload_n 0, 1) := by decide +kernel
theorem dX12_emits_11 : decode cX12_emits 11 = .ok (.dup, 1) := by decide +kernel
theorem dX12_emits_12 : decode cX12_emits 12 = .ok (.getfield 74, 3) := by decide +kernel
theorem dX12_emits_15 : decode cX12_emits 15 = .ok (.iconst 1, 1) := by decide +kernel
theorem dX12_emits_16 : decode cX12_emits 16 = .ok (.iadd, 1) := by decide +kernel
theorem dX12_emits_17 : decode cX12_emits 17 = .ok (.putfield 74, 3) := by decide +kernel
theorem dX12_emits_20 : decode cX12_emits 20 = .ok (.return_, 1) := by decide +kernel
set_option maxRecDepth 20000 in
theorem ggX12_whole_X12_emits : GoodIn wsX12_whole wsX12_emits := goodIn_r _ [8, 9, 10, 11, 12, 13, 14, 15, 16, 17, 18, 19, 20, 21, 22, 23, 24, 25, 26, 27, 28, 29, 30, 31, 32, 33, 34, 35, 36, 37, 38, 39, 40, 41, 42, 43, 44, 45, 46, 47, 48, 49, 50, 51, 52, 53, 54, 55, 56, 57, 58, 59, 60, 61, 62, 63, 64, 65, 66, 67, 68, 69, 70, 71, 72, 73] (by decide +kernel) (by decide +kernel)
set_option maxRecDepth 20000 in
theorem gX12_whole_X12_emits : GoodIn wsX12_whole (wsV RX12 229 RX12 yX12_emits wsX12_emits) := goodIn_app (goodIn_of _ (by decide +kernel)) ggX12_whole_X12_emits
theorem dX12_whole_0 : decode cX12_whole 0 = .ok (.aload_n 0, 1) := by decide +kernel
theorem dX12_whole_1 : decode cX12_whole 1 = .ok (.getfield 77, 3) := by decide +kernel
theorem dX12_whole_4 : decode cX12_whole 4 = .ok (.ifCond .le 48, 3) := by decide +kernel
theorem dX12_whole_7 : decode cX12_whole 7 = .ok (.aload_n 0, 1) := by decide +kernel
theorem dX12_whole_8 : decode cX12_whole 8 = .ok (.getfield 71, 3) := by decide +kernel
theorem dX12_whole_11 : decode cX12_whole 11 = .ok (.aload_n 0, 1) := by decide +kernel
theorem dX12_whole_12 : decode cX12_whole 12 = .ok (.getfield 77, 3) := by decide +kernel
theorem dX12_whole_15 : decode cX12_whole 15 = .ok (.iconst 1, 1) := by decide +kernel
theorem dX12_whole_16 : decode cX12_whole 16 = .ok (.isub, 1) := by decide +kernel
theorem dX12_whole_17 : decode cX12_whole 17 = .ok (.iaload, 1) := by decide +kernel
theorem dX12_whole_18 : decode cX12_whole 18 = .ok (.bipush 33, 2) := by decide +kernel
theorem dX12_whole_20 : decode cX12_whole 20 = .ok (.if_icmp .ne 32, 3) := by decide +kernel
theorem dX12_whole_23 : decode cX12_whole 23 = .ok (.aload_n 0, 1) := by decide +kernel
theorem dX12_whole_24 : decode cX12_whole 24 = .ok (.bipush (-33), 2) := by decide +kernel
theorem dX12_whole_26 : decode cX12_whole 26 = .ok (.invokevirtual 229, 3) := by decide +kernel
theorem dX12_whole_29 : decode cX12_whole 29 = .ok (.aload_n 0, 1) := by decide +kernel
theorem dX12_whole_30 : decode cX12_whole 30 = .ok (.dup, 1) := by decide +kernel
theorem dX12_whole_31 : decode cX12_whole 31 = .ok (.getfield 77, 3) := by decide +kernel
theorem dX12_whole_34 : decode cX12_whole 34 = .ok (.iconst 1, 1) := by decide +kernel
theorem dX12_whole_35 : decode cX12_whole 35 = .ok (.isub, 1) := by decide +kernel
theorem dX12_whole_36 : decode cX12_whole 36 = .ok (.putfield 77, 3) := by decide +kernel
theorem dX12_whole_39 : decode cX12_whole 39 = .ok (.aload_n 0, 1) := by decide +kernel
theorem dX12_whole_40 : decode cX12_whole 40 = .ok (.dup, 1) := by decide +kernel
theorem dX12_whole_41 : decode cX12_whole 41 = .ok (.getfield 80, 3) := by decide +kernel
theorem dX12_whole_44 : decode cX12_whole 44 = .ok (.iconst 1, 1) := by decide +kernel
theorem dX12_whole_45 : decode cX12_whole 45 = .ok (.isub, 1) := by decide +kernel
theorem dX12_whole_46 : decode cX12_whole 46 = .ok (.putfield 80, 3) := by decide +kernel
theorem dX12_whole_49 : decode cX12_whole 49 = .ok (.goto (-49), 3) := by decide +kernel
theorem dX12_whole_52 : decode cX12_whole 52 = .ok (.return_, 1) := by decide +kernel
set_option maxRecDepth 20000 in
theorem ggX12_settle_X12_emits : GoodIn wsX12_settle wsX12_emits := goodIn_r _ [7, 8, 9, 10, 11, 12, 13, 14, 15, 16, 17, 18, 19, 20, 21, 22, 23, 24, 25, 26, 27, 28, 29, 30, 31, 32, 33, 34, 35, 36, 37, 38, 39, 40, 41, 42, 43, 44, 45, 46, 47, 48, 49, 50, 51, 52, 53, 54, 55, 56, 57, 58, 59, 60, 61, 62, 63, 64, 65, 66, 67, 68, 69, 70, 71, 72] (by decide +kernel) (by decide +kernel)
set_option maxRecDepth 20000 in
theorem gX12_settle_X12_emits : GoodIn wsX12_settle (wsV RX12 229 RX12 yX12_emits wsX12_emits) := goodIn_app (goodIn_of _ (by decide +kernel)) ggX12_settle_X12_emits
theorem dX12_settle_0 : decode cX12_settle 0 = .ok (.aload_n 0, 1) := by decide +kernel
theorem dX12_settle_1 : decode cX12_settle 1 = .ok (.getfield 77, 3) := by decide +kernel
theorem dX12_settle_4 : decode cX12_settle 4 = .ok (.ifCond .le 68, 3) := by decide +kernel
theorem dX12_settle_7 : decode cX12_settle 7 = .ok (.aload_n 0, 1) := by decide +kernel
theorem dX12_settle_8 : decode cX12_settle 8 = .ok (.getfield 71, 3) := by decide +kernel
theorem dX12_settle_11 : decode cX12_settle 11 = .ok (.aload_n 0, 1) := by decide +kernel
theorem dX12_settle_12 : decode cX12_settle 12 = .ok (.getfield 77, 3) := by decide +kernel
theorem dX12_settle_15 : decode cX12_settle 15 = .ok (.iconst 1, 1) := by decide +kernel
theorem dX12_settle_16 : decode cX12_settle 16 = .ok (.isub, 1) := by decide +kernel
theorem dX12_settle_17 : decode cX12_settle 17 = .ok (.iaload, 1) := by decide +kernel
theorem dX12_settle_18 : decode cX12_settle 18 = .ok (.bipush 38, 2) := by decide +kernel
theorem dX12_settle_20 : decode cX12_settle 20 = .ok (.if_icmp .eq 25, 3) := by decide +kernel
theorem dX12_settle_23 : decode cX12_settle 23 = .ok (.aload_n 0, 1) := by decide +kernel
theorem dX12_settle_24 : decode cX12_settle 24 = .ok (.getfield 71, 3) := by decide +kernel
theorem dX12_settle_27 : decode cX12_settle 27 = .ok (.aload_n 0, 1) := by decide +kernel
theorem dX12_settle_28 : decode cX12_settle 28 = .ok (.getfield 77, 3) := by decide +kernel
theorem dX12_settle_31 : decode cX12_settle 31 = .ok (.iconst 1, 1) := by decide +kernel
theorem dX12_settle_32 : decode cX12_settle 32 = .ok (.isub, 1) := by decide +kernel
theorem dX12_settle_33 : decode cX12_settle 33 = .ok (.iaload, 1) := by decide +kernel
theorem dX12_settle_34 : decode cX12_settle 34 = .ok (.bipush 124, 2) := by decide +kernel
theorem dX12_settle_36 : decode cX12_settle 36 = .ok (.if_icmp .ne 36, 3) := by decide +kernel
theorem dX12_settle_39 : decode cX12_settle 39 = .ok (.iload_n 1, 1) := by decide +kernel
theorem dX12_settle_40 : decode cX12_settle 40 = .ok (.bipush 38, 2) := by decide +kernel
theorem dX12_settle_42 : decode cX12_settle 42 = .ok (.if_icmp .eq 30, 3) := by decide +kernel
theorem dX12_settle_45 : decode cX12_settle 45 = .ok (.aload_n 0, 1) := by decide +kernel
theorem dX12_settle_46 : decode cX12_settle 46 = .ok (.dup, 1) := by decide +kernel
theorem dX12_settle_47 : decode cX12_settle 47 = .ok (.getfield 77, 3) := by decide +kernel
theorem dX12_settle_50 : decode cX12_settle 50 = .ok (.iconst 1, 1) := by decide +kernel
theorem dX12_settle_51 : decode cX12_settle 51 = .ok (.isub, 1) := by decide +kernel
theorem dX12_settle_52 : decode cX12_settle 52 = .ok (.putfield 77, 3) := by decide +kernel
theorem dX12_settle_55 : decode cX12_settle 55 = .ok (.aload_n 0, 1) := by decide +kernel
theorem dX12_settle_56 : decode cX12_settle 56 = .ok (.aload_n 0, 1) := by decide +kernel
theorem dX12_settle_57 : decode cX12_settle 57 = .ok (.getfield 71, 3) := by decide +kernel
theorem dX12_settle_60 : decode cX12_settle 60 = .ok (.aload_n 0, 1) := by decide +kernel
theorem dX12_settle_61 : decode cX12_settle 61 = .ok (.getfield 77, 3) := by decide +kernel
theorem dX12_settle_64 : decode cX12_settle 64 = .ok (.iaload, 1) := by decide +kernel
theorem dX12_settle_65 : decode cX12_settle 65 = .ok (.ineg, 1) := by decide +kernel
theorem dX12_settle_66 : decode cX12_settle 66 = .ok (.invokevirtual 229, 3) := by decide +kernel
theorem dX12_settle_69 : decode cX12_settle 69 = .ok (.goto (-69), 3) := by decide +kernel
theorem dX12_settle_72 : decode cX12_settle 72 = .ok (.return_, 1) := by decide +kernel
theorem dX12_place_0 : decode cX12_place 0 = .ok (.iload_n 1, 1) := by decide +kernel
theorem dX12_place_1 : decode cX12_place 1 = .ok (.lookupswitch 71 #[(99, 67), (100, 69), (105, 59), (107, 61), (118, 63), (121, 65)], 59) := by decide +kernel
theorem dX12_place_60 : decode cX12_place 60 = .ok (.iconst 0, 1) := by decide +kernel
theorem dX12_place_61 : decode cX12_place 61 = .ok (.ireturn, 1) := by decide +kernel
theorem dX12_place_62 : decode cX12_place 62 = .ok (.iconst 1, 1) := by decide +kernel
theorem dX12_place_63 : decode cX12_place 63 = .ok (.ireturn, 1) := by decide +kernel
theorem dX12_place_64 : decode cX12_place 64 = .ok (.iconst 2, 1) := by decide +kernel
theorem dX12_place_65 : decode cX12_place 65 = .ok (.ireturn, 1) := by decide +kernel
theorem dX12_place_66 : decode cX12_place 66 = .ok (.iconst 3, 1) := by decide +kernel
theorem dX12_place_67 : decode cX12_place 67 = .ok (.ireturn, 1) := by decide +kernel
theorem dX12_place_68 : decode cX12_place 68 = .ok (.iconst 4, 1) := by decide +kernel
theorem dX12_place_69 : decode cX12_place 69 = .ok (.ireturn, 1) := by decide +kernel
theorem dX12_place_70 : decode cX12_place 70 = .ok (.iconst 5, 1) := by decide +kernel
theorem dX12_place_71 : decode cX12_place 71 = .ok (.ireturn, 1) := by decide +kernel
theorem dX12_place_72 : decode cX12_place 72 = .ok (.iconst (-1), 1) := by decide +kernel
theorem dX12_place_73 : decode cX12_place 73 = .ok (.ireturn, 1) := by decide +kernel
set_option maxRecDepth 20000 in
theorem ggX12_takesTest_X12_next : GoodIn wsX12_takesTest wsX12_next := goodIn_r _ [7, 1, 8, 9, 39, 40, 41, 42, 43, 44, 45, 46, 47, 48, 49, 50, 51, 52, 53, 54, 55, 56, 57, 58, 59, 60, 61, 62, 63, 64, 65, 66, 67, 68, 69, 70, 71, 72, 73, 74, 75, 76, 77, 78, 79, 80, 81, 82, 83, 84, 85, 86, 87, 88, 89, 90, 91, 92, 93, 94, 95, 96, 97, 98, 99, 100, 101] (by decide +kernel) (by decide +kernel)
set_option maxRecDepth 20000 in
theorem gX12_takesTest_X12_next : GoodIn wsX12_takesTest (wsV RX12 218 RX12 yX12_next wsX12_next) := goodIn_app (goodIn_of _ (by decide +kernel)) ggX12_takesTest_X12_next
set_option maxRecDepth 20000 in
theorem ggX12_takesTest_X12_place : GoodIn wsX12_takesTest wsX12_place := goodIn_r _ [13] (by decide +kernel) (by decide +kernel)
set_option maxRecDepth 20000 in
theorem gX12_takesTest_X12_place : GoodIn wsX12_takesTest (wsV RX12 233 RX12 yX12_place wsX12_place) := goodIn_app (goodIn_of _ (by decide +kernel)) ggX12_takesTest_X12_place
set_option maxRecDepth 20000 in
theorem ggX12_takesTest_X12_in : GoodIn wsX12_takesTest wsX12_in := goodIn_r _ [17] (by decide +kernel) (by decide +kernel)
set_option maxRecDepth 20000 in
theorem gX12_takesTest_X12_in : GoodIn wsX12_takesTest (wsV RX12 207 RX12 yX12_in wsX12_in) := goodIn_app (goodIn_of _ (by decide +kernel)) ggX12_takesTest_X12_in
set_option maxRecDepth 20000 in
theorem ggX12_takesTest_X12_takesNumber : GoodIn wsX12_takesTest wsX12_takesNumber := goodIn_r _ [21, 2, 1, 22, 23, 24, 6, 25, 3, 4, 5, 7, 8, 9, 14, 15, 16, 17, 39, 40, 41, 42, 43, 44, 45, 46, 47, 48, 49, 50, 51, 52, 53, 54, 55, 56, 57, 58, 59, 60, 61, 62, 63, 64, 65, 66, 67, 68, 69, 70, 71, 72, 73, 74, 75, 76, 77, 78, 79, 80, 81, 82, 83, 84, 85, 86, 87, 88, 89, 90, 91, 92, 93, 94, 95, 96, 97, 98, 99, 100, 101] (by decide +kernel) (by decide +kernel)
set_option maxRecDepth 20000 in
theorem gX12_takesTest_X12_takesNumber : GoodIn wsX12_takesTest (wsV RX12 237 RX12 yX12_takesNumber wsX12_takesNumber) := goodIn_app (goodIn_of _ (by decide +kernel)) ggX12_takesTest_X12_takesNumber
set_option maxRecDepth 20000 in
theorem ggX12_takesTest_X12_emits : GoodIn wsX12_takesTest wsX12_emits := goodIn_r _ [29, 30, 31, 39, 40, 41, 42, 43, 44, 45, 46, 47, 48, 49, 50, 51, 52, 53, 54, 55, 56, 57, 58, 59, 60, 61, 62, 63, 64, 65, 66, 67, 68, 69, 70, 71, 72, 73, 74, 75, 76, 77, 78, 79, 80, 81, 82, 83, 84, 85, 86, 87, 88, 89, 90, 91, 92, 93, 94, 95, 96, 97, 98, 99, 100, 101] (by decide +kernel) (by decide +kernel)
set_option maxRecDepth 20000 in
theorem gX12_takesTest_X12_emits : GoodIn wsX12_takesTest (wsV RX12 229 RX12 yX12_emits wsX12_emits) := goodIn_app (goodIn_of _ (by decide +kernel)) ggX12_takesTest_X12_emits
set_option maxRecDepth 20000 in
theorem ggX12_takesTest_X12_whole : GoodIn wsX12_takesTest wsX12_whole := goodIn_r _ [35, 36, 37, 38, 26, 27, 28, 6, 29, 30, 31, 39, 40, 41, 42, 43, 44, 45, 46, 47, 48, 49, 50, 51, 52, 53, 54, 55, 56, 57, 58, 59, 60, 61, 62, 63, 64, 65, 66, 67, 68, 69, 70, 71, 72, 73, 74, 75, 76, 77, 78, 79, 80, 81, 82, 83, 84, 85, 86, 87, 88, 89, 90, 91, 92, 93, 94, 95, 96, 97, 98, 99, 100, 101] (by decide +kernel) (by decide +kernel)
set_option maxRecDepth 20000 in
theorem gX12_takesTest_X12_whole : GoodIn wsX12_takesTest (wsV RX12 240 RX12 yX12_whole wsX12_whole) := goodIn_app (goodIn_of _ (by decide +kernel)) ggX12_takesTest_X12_whole
theorem dX12_takesTest_0 : decode cX12_takesTest 0 = .ok (.aload_n 0, 1) := by decide +kernel
theorem dX12_takesTest_1 : decode cX12_takesTest 1 = .ok (.aload_n 0, 1) := by decide +kernel
theorem dX12_takesTest_2 : decode cX12_takesTest 2 = .ok (.invokevirtual 218, 3) := by decide +kernel
theorem dX12_takesTest_5 : decode cX12_takesTest 5 = .ok (.invokevirtual 233, 3) := by decide +kernel
theorem dX12_takesTest_8 : decode cX12_takesTest 8 = .ok (.istore_n 1, 1) := by decide +kernel
theorem dX12_takesTest_9 : decode cX12_takesTest 9 = .ok (.iload_n 1, 1) := by decide +kernel
theorem dX12_takesTest_10 : decode cX12_takesTest 10 = .ok (.ifCond .ge 5, 3) := by decide +kernel
theorem dX12_takesTest_13 : decode cX12_takesTest 13 = .ok (.iconst 0, 1) := by decide +kernel
theorem dX12_takesTest_14 : decode cX12_takesTest 14 = .ok (.ireturn, 1) := by decide +kernel
theorem dX12_takesTest_15 : decode cX12_takesTest 15 = .ok (.aload_n 0, 1) := by decide +kernel
theorem dX12_takesTest_16 : decode cX12_takesTest 16 = .ok (.dup, 1) := by decide +kernel
theorem dX12_takesTest_17 : decode cX12_takesTest 17 = .ok (.getfield 44, 3) := by decide +kernel
theorem dX12_takesTest_20 : decode cX12_takesTest 20 = .ok (.iconst 1, 1) := by decide +kernel
theorem dX12_takesTest_21 : decode cX12_takesTest 21 = .ok (.iadd, 1) := by decide +kernel
theorem dX12_takesTest_22 : decode cX12_takesTest 22 = .ok (.putfield 44, 3) := by decide +kernel
theorem dX12_takesTest_25 : decode cX12_takesTest 25 = .ok (.aload_n 0, 1) := by decide +kernel
theorem dX12_takesTest_26 : decode cX12_takesTest 26 = .ok (.invokevirtual 218, 3) := by decide +kernel
theorem dX12_takesTest_29 : decode cX12_takesTest 29 = .ok (.istore_n 2, 1) := by decide +kernel
theorem dX12_takesTest_30 : decode cX12_takesTest 30 = .ok (.aload_n 0, 1) := by decide +kernel
theorem dX12_takesTest_31 : decode cX12_takesTest 31 = .ok (.iload_n 2, 1) := by decide +kernel
theorem dX12_takesTest_32 : decode cX12_takesTest 32 = .ok (.bipush 60, 2) := by decide +kernel
theorem dX12_takesTest_34 : decode cX12_takesTest 34 = .ok (.bipush 62, 2) := by decide +kernel
theorem dX12_takesTest_36 : decode cX12_takesTest 36 = .ok (.invokevirtual 207, 3) := by decide +kernel
theorem dX12_takesTest_39 : decode cX12_takesTest 39 = .ok (.ifCond .ne 5, 3) := by decide +kernel
theorem dX12_takesTest_42 : decode cX12_takesTest 42 = .ok (.iconst 0, 1) := by decide +kernel
theorem dX12_takesTest_43 : decode cX12_takesTest 43 = .ok (.ireturn, 1) := by decide +kernel
theorem dX12_takesTest_44 : decode cX12_takesTest 44 = .ok (.aload_n 0, 1) := by decide +kernel
theorem dX12_takesTest_45 : decode cX12_takesTest 45 = .ok (.dup, 1) := by decide +kernel
theorem dX12_takesTest_46 : decode cX12_takesTest 46 = .ok (.getfield 44, 3) := by decide +kernel
theorem dX12_takesTest_49 : decode cX12_takesTest 49 = .ok (.iconst 1, 1) := by decide +kernel
theorem dX12_takesTest_50 : decode cX12_takesTest 50 = .ok (.iadd, 1) := by decide +kernel
theorem dX12_takesTest_51 : decode cX12_takesTest 51 = .ok (.putfield 44, 3) := by decide +kernel
theorem dX12_takesTest_54 : decode cX12_takesTest 54 = .ok (.aload_n 0, 1) := by decide +kernel
theorem dX12_takesTest_55 : decode cX12_takesTest 55 = .ok (.invokevirtual 237, 3) := by decide +kernel
theorem dX12_takesTest_58 : decode cX12_takesTest 58 = .ok (.ifCond .ne 5, 3) := by decide +kernel
theorem dX12_takesTest_61 : decode cX12_takesTest 61 = .ok (.iconst 0, 1) := by decide +kernel
theorem dX12_takesTest_62 : decode cX12_takesTest 62 = .ok (.ireturn, 1) := by decide +kernel
theorem dX12_takesTest_63 : decode cX12_takesTest 63 = .ok (.aload_n 0, 1) := by decide +kernel
theorem dX12_takesTest_64 : decode cX12_takesTest 64 = .ok (.sipush 1000, 3) := by decide +kernel
theorem dX12_takesTest_67 : decode cX12_takesTest 67 = .ok (.iload_n 1, 1) := by decide +kernel
theorem dX12_takesTest_68 : decode cX12_takesTest 68 = .ok (.imul, 1) := by decide +kernel
theorem dX12_takesTest_69 : decode cX12_takesTest 69 = .ok (.bipush 100, 2) := by decide +kernel
theorem dX12_takesTest_71 : decode cX12_takesTest 71 = .ok (.iload_n 2, 1) := by decide +kernel
theorem dX12_takesTest_72 : decode cX12_takesTest 72 = .ok (.bipush 60, 2) := by decide +kernel
theorem dX12_takesTest_74 : decode cX12_takesTest 74 = .ok (.isub, 1) := by decide +kernel
theorem dX12_takesTest_75 : decode cX12_takesTest 75 = .ok (.imul, 1) := by decide +kernel
theorem dX12_takesTest_76 : decode cX12_takesTest 76 = .ok (.iadd, 1) := by decide +kernel
theorem dX12_takesTest_77 : decode cX12_takesTest 77 = .ok (.aload_n 0, 1) := by decide +kernel
theorem dX12_takesTest_78 : decode cX12_takesTest 78 = .ok (.getfield 47, 3) := by decide +kernel
theorem dX12_takesTest_81 : decode cX12_takesTest 81 = .ok (.iadd, 1) := by decide +kernel
theorem dX12_takesTest_82 : decode cX12_takesTest 82 = .ok (.invokevirtual 229, 3) := by decide +kernel
theorem dX12_takesTest_85 : decode cX12_takesTest 85 = .ok (.aload_n 0, 1) := by decide +kernel
theorem dX12_takesTest_86 : decode cX12_takesTest 86 = .ok (.invokevirtual 240, 3) := by decide +kernel
theorem dX12_takesTest_89 : decode cX12_takesTest 89 = .ok (.iconst 1, 1) := by decide +kernel
theorem dX12_takesTest_90 : decode cX12_takesTest 90 = .ok (.ireturn, 1) := by decide +kernel
set_option maxRecDepth 20000 in
theorem ggX12_takesE_X12_next : GoodIn wsX12_takesE wsX12_next := goodIn_r _ [12, 6, 13, 14, 49, 50, 51, 52, 53, 54, 55, 56, 57, 58, 59, 60, 61, 62, 63, 64, 65, 66, 67, 68, 69, 70, 71, 72, 73, 74, 75, 76, 77, 78, 79, 80, 81, 82, 83, 84, 85, 86, 87, 88, 89, 90, 91, 92, 93, 94, 95, 96, 97, 98, 99, 100, 101, 102, 103, 104, 105, 106, 107, 108, 109, 110, 111] (by decide +kernel) (by decide +kernel)
set_option maxRecDepth 20000 in
theorem gX12_takesE_X12_next : GoodIn wsX12_takesE (wsV RX12 218 RX12 yX12_next wsX12_next) := goodIn_app (goodIn_of _ (by decide +kernel)) ggX12_takesE_X12_next
set_option maxRecDepth 20000 in
theorem ggX12_takesE_X12_takesTest : GoodIn wsX12_takesE wsX12_takesTest := goodIn_r _ [18, 6, 19, 8, 9, 10, 11, 12, 13, 14, 20, 21, 22, 23, 24, 25, 26, 27, 28, 29, 30, 31, 32, 33, 34, 35, 36, 37, 38, 39, 40, 4, 41, 42, 43, 44, 1, 5, 2, 49, 50, 51, 52, 53, 54, 55, 56, 57, 58, 59, 60, 61, 62, 63, 64, 65, 66, 67, 68, 69, 70, 71, 72, 73, 74, 75, 76, 77, 78, 79, 80, 81, 82, 83, 84, 85, 86, 87, 88, 89, 90, 91, 92, 93, 94, 95, 96, 97, 98, 99, 100, 101, 102, 103, 104, 105, 106, 107, 108, 109, 110, 111] (by decide +kernel) (by decide +kernel)
set_option maxRecDepth 20000 in
theorem gX12_takesE_X12_takesTest : GoodIn wsX12_takesE (wsV RX12 243 RX12 yX12_takesTest wsX12_takesTest) := goodIn_app (goodIn_of _ (by decide +kernel)) ggX12_takesE_X12_takesTest
set_option maxRecDepth 20000 in
theorem ggX12_takesE_X12_settle : GoodIn wsX12_takesE wsX12_settle := goodIn_r _ [48, 1, 5, 36, 37, 38, 11, 39, 40, 4, 49, 50, 51, 52, 53, 54, 55, 56, 57, 58, 59, 60, 61, 62, 63, 64, 65, 66, 67, 68, 69, 70, 71, 72, 73, 74, 75, 76, 77, 78, 79, 80, 81, 82, 83, 84, 85, 86, 87, 88, 89, 90, 91, 92, 93, 94, 95, 96, 97, 98, 99, 100, 101, 102, 103, 104, 105, 106, 107, 108, 109, 110, 111] (by decide +kernel) (by decide +kernel)
set_option maxRecDepth 20000 in
theorem gX12_takesE_X12_settle : GoodIn wsX12_takesE (wsV RX12 246 RX12 yX12_settle wsX12_settle) := goodIn_app (goodIn_of _ (by decide +kernel)) ggX12_takesE_X12_settle
set_option maxRecDepth 20000 in
theorem ggX12_takesE_X12_whole : GoodIn wsX12_takesE wsX12_whole := goodIn_r _ [44, 1, 5, 2, 36, 37, 38, 11, 39, 40, 4, 49, 50, 51, 52, 53, 54, 55, 56, 57, 58, 59, 60, 61, 62, 63, 64, 65, 66, 67, 68, 69, 70, 71, 72, 73, 74, 75, 76, 77, 78, 79, 80, 81, 82, 83, 84, 85, 86, 87, 88, 89, 90, 91, 92, 93, 94, 95, 96, 97, 98, 99, 100, 101, 102, 103, 104, 105, 106, 107, 108, 109, 110, 111] (by decide +kernel) (by decide +kernel)
set_option maxRecDepth 20000 in
theorem gX12_takesE_X12_whole : GoodIn wsX12_takesE (wsV RX12 240 RX12 yX12_whole wsX12_whole) := goodIn_app (goodIn_of _ (by decide +kernel)) ggX12_takesE_X12_whole
theorem dX12_takesE_0 : decode cX12_takesE 0 = .ok (.aload_n 0, 1) := by decide +kernel
theorem dX12_takesE_1 : decode cX12_takesE 1 = .ok (.iconst 0, 1) := by decide +kernel
theorem dX12_takesE_2 : decode cX12_takesE 2 = .ok (.putfield 77, 3) := by decide +kernel
theorem dX12_takesE_5 : decode cX12_takesE 5 = .ok (.aload_n 0, 1) := by decide +kernel
theorem dX12_takesE_6 : decode cX12_takesE 6 = .ok (.iconst 0, 1) := by decide +kernel
theorem dX12_takesE_7 : decode cX12_takesE 7 = .ok (.putfield 80, 3) := by decide +kernel
theorem dX12_takesE_10 : decode cX12_takesE 10 = .ok (.aload_n 0, 1) := by decide +kernel
theorem dX12_takesE_11 : decode cX12_takesE 11 = .ok (.getfield 62, 3) := by decide +kernel
theorem dX12_takesE_14 : decode cX12_takesE 14 = .ok (.iload_n 1, 1) := by decide +kernel
theorem dX12_takesE_15 : decode cX12_takesE 15 = .ok (.aload_n 0, 1) := by decide +kernel
theorem dX12_takesE_16 : decode cX12_takesE 16 = .ok (.getfield 74, 3) := by decide +kernel
theorem dX12_takesE_19 : decode cX12_takesE 19 = .ok (.iastore, 1) := by decide +kernel
theorem dX12_takesE_20 : decode cX12_takesE 20 = .ok (.iconst 1, 1) := by decide +kernel
theorem dX12_takesE_21 : decode cX12_takesE 21 = .ok (.istore_n 2, 1) := by decide +kernel
theorem dX12_takesE_22 : decode cX12_takesE 22 = .ok (.aload_n 0, 1) := by decide +kernel
theorem dX12_takesE_23 : decode cX12_takesE 23 = .ok (.invokevirtual 218, 3) := by decide +kernel
theorem dX12_takesE_26 : decode cX12_takesE 26 = .ok (.istore_n 3, 1) := by decide +kernel
theorem dX12_takesE_27 : decode cX12_takesE 27 = .ok (.iload_n 2, 1) := by decide +kernel
theorem dX12_takesE_28 : decode cX12_takesE 28 = .ok (.ifCond .eq 82, 3) := by decide +kernel
theorem dX12_takesE_31 : decode cX12_takesE 31 = .ok (.iload_n 3, 1) := by decide +kernel
theorem dX12_takesE_32 : decode cX12_takesE 32 = .ok (.bipush 33, 2) := by decide +kernel
theorem dX12_takesE_34 : decode cX12_takesE 34 = .ok (.if_icmp .eq 9, 3) := by decide +kernel
theorem dX12_takesE_37 : decode cX12_takesE 37 = .ok (.iload_n 3, 1) := by decide +kernel
theorem dX12_takesE_38 : decode cX12_takesE 38 = .ok (.bipush 40, 2) := by decide +kernel
theorem dX12_takesE_40 : decode cX12_takesE 40 = .ok (.if_icmp .ne 56, 3) := by decide +kernel
theorem dX12_takesE_43 : decode cX12_takesE 43 = .ok (.aload_n 0, 1) := by decide +kernel
theorem dX12_takesE_44 : decode cX12_takesE 44 = .ok (.getfield 80, 3) := by decide +kernel
theorem dX12_takesE_47 : decode cX12_takesE 47 = .ok (.iconst 4, 1) := by decide +kernel
theorem dX12_takesE_48 : decode cX12_takesE 48 = .ok (.if_icmp .ne 5, 3) := by decide +kernel
theorem dX12_takesE_51 : decode cX12_takesE 51 = .ok (.iconst 0, 1) := by decide +kernel
theorem dX12_takesE_52 : decode cX12_takesE 52 = .ok (.ireturn, 1) := by decide +kernel
theorem dX12_takesE_53 : decode cX12_takesE 53 = .ok (.aload_n 0, 1) := by decide +kernel
theorem dX12_takesE_54 : decode cX12_takesE 54 = .ok (.dup, 1) := by decide +kernel
theorem dX12_takesE_55 : decode cX12_takesE 55 = .ok (.getfield 80, 3) := by decide +kernel
theorem dX12_takesE_58 : decode cX12_takesE 58 = .ok (.iconst 1, 1) := by decide +kernel
theorem dX12_takesE_59 : decode cX12_takesE 59 = .ok (.iadd, 1) := by decide +kernel
theorem dX12_takesE_60 : decode cX12_takesE 60 = .ok (.putfield 80, 3) := by decide +kernel
theorem dX12_takesE_63 : decode cX12_takesE 63 = .ok (.aload_n 0, 1) := by decide +kernel
theorem dX12_takesE_64 : decode cX12_takesE 64 = .ok (.getfield 71, 3) := by decide +kernel
theorem dX12_takesE_67 : decode cX12_takesE 67 = .ok (.aload_n 0, 1) := by decide +kernel
theorem dX12_takesE_68 : decode cX12_takesE 68 = .ok (.getfield 77, 3) := by decide +kernel
theorem dX12_takesE_71 : decode cX12_takesE 71 = .ok (.iload_n 3, 1) := by decide +kernel
theorem dX12_takesE_72 : decode cX12_takesE 72 = .ok (.iastore, 1) := by decide +kernel
theorem dX12_takesE_73 : decode cX12_takesE 73 = .ok (.aload_n 0, 1) := by decide +kernel
theorem dX12_takesE_74 : decode cX12_takesE 74 = .ok (.dup, 1) := by decide +kernel
theorem dX12_takesE_75 : decode cX12_takesE 75 = .ok (.getfield 77, 3) := by decide +kernel
theorem dX12_takesE_78 : decode cX12_takesE 78 = .ok (.iconst 1, 1) := by decide +kernel
theorem dX12_takesE_79 : decode cX12_takesE 79 = .ok (.iadd, 1) := by decide +kernel
theorem dX12_takesE_80 : decode cX12_takesE 80 = .ok (.putfield 77, 3) := by decide +kernel
theorem dX12_takesE_83 : decode cX12_takesE 83 = .ok (.aload_n 0, 1) := by decide +kernel
theorem dX12_takesE_84 : decode cX12_takesE 84 = .ok (.dup, 1) := by decide +kernel
theorem dX12_takesE_85 : decode cX12_takesE 85 = .ok (.getfield 44, 3) := by decide +kernel
theorem dX12_takesE_88 : decode cX12_takesE 88 = .ok (.iconst 1, 1) := by decide +kernel
theorem dX12_takesE_89 : decode cX12_takesE 89 = .ok (.iadd, 1) := by decide +kernel
theorem dX12_takesE_90 : decode cX12_takesE 90 = .ok (.putfield 44, 3) := by decide +kernel
theorem dX12_takesE_93 : decode cX12_takesE 93 = .ok (.goto (-71), 3) := by decide +kernel
theorem dX12_takesE_96 : decode cX12_takesE 96 = .ok (.aload_n 0, 1) := by decide +kernel
theorem dX12_takesE_97 : decode cX12_takesE 97 = .ok (.invokevirtual 243, 3) := by decide +kernel
theorem dX12_takesE_100 : decode cX12_takesE 100 = .ok (.ifCond .eq 8, 3) := by decide +kernel
theorem dX12_takesE_103 : decode cX12_takesE 103 = .ok (.iconst 0, 1) := by decide +kernel
theorem dX12_takesE_104 : decode cX12_takesE 104 = .ok (.istore_n 2, 1) := by decide +kernel
theorem dX12_takesE_105 : decode cX12_takesE 105 = .ok (.goto (-83), 3) := by decide +kernel
theorem dX12_takesE_108 : decode cX12_takesE 108 = .ok (.iconst 0, 1) := by decide +kernel
theorem dX12_takesE_109 : decode cX12_takesE 109 = .ok (.ireturn, 1) := by decide +kernel
theorem dX12_takesE_110 : decode cX12_takesE 110 = .ok (.iload_n 3, 1) := by decide +kernel
theorem dX12_takesE_111 : decode cX12_takesE 111 = .ok (.bipush 38, 2) := by decide +kernel
theorem dX12_takesE_113 : decode cX12_takesE 113 = .ok (.if_icmp .eq 9, 3) := by decide +kernel
theorem dX12_takesE_116 : decode cX12_takesE 116 = .ok (.iload_n 3, 1) := by decide +kernel
theorem dX12_takesE_117 : decode cX12_takesE 117 = .ok (.bipush 124, 2) := by decide +kernel
theorem dX12_takesE_119 : decode cX12_takesE 119 = .ok (.if_icmp .ne 43, 3) := by decide +kernel
theorem dX12_takesE_122 : decode cX12_takesE 122 = .ok (.aload_n 0, 1) := by decide +kernel
theorem dX12_takesE_123 : decode cX12_takesE 123 = .ok (.iload_n 3, 1) := by decide +kernel
theorem dX12_takesE_124 : decode cX12_takesE 124 = .ok (.invokevirtual 246, 3) := by decide +kernel
theorem dX12_takesE_127 : decode cX12_takesE 127 = .ok (.aload_n 0, 1) := by decide +kernel
theorem dX12_takesE_128 : decode cX12_takesE 128 = .ok (.getfield 71, 3) := by decide +kernel
theorem dX12_takesE_131 : decode cX12_takesE 131 = .ok (.aload_n 0, 1) := by decide +kernel
theorem dX12_takesE_132 : decode cX12_takesE 132 = .ok (.getfield 77, 3) := by decide +kernel
theorem dX12_takesE_135 : decode cX12_takesE 135 = .ok (.iload_n 3, 1) := by decide +kernel
theorem dX12_takesE_136 : decode cX12_takesE 136 = .ok (.iastore, 1) := by decide +kernel
theorem dX12_takesE_137 : decode cX12_takesE 137 = .ok (.aload_n 0, 1) := by decide +kernel
theorem dX12_takesE_138 : decode cX12_takesE 138 = .ok (.dup, 1) := by decide +kernel
theorem dX12_takesE_139 : decode cX12_takesE 139 = .ok (.getfield 77, 3) := by decide +kernel
theorem dX12_takesE_142 : decode cX12_takesE 142 = .ok (.iconst 1, 1) := by decide +kernel
theorem dX12_takesE_143 : decode cX12_takesE 143 = .ok (.iadd, 1) := by decide +kernel
theorem dX12_takesE_144 : decode cX12_takesE 144 = .ok (.putfield 77, 3) := by decide +kernel
theorem dX12_takesE_147 : decode cX12_takesE 147 = .ok (.iconst 1, 1) := by decide +kernel
theorem dX12_takesE_148 : decode cX12_takesE 148 = .ok (.istore_n 2, 1) := by decide +kernel
theorem dX12_takesE_149 : decode cX12_takesE 149 = .ok (.aload_n 0, 1) := by decide +kernel
theorem dX12_takesE_150 : decode cX12_takesE 150 = .ok (.dup, 1) := by decide +kernel
theorem dX12_takesE_151 : decode cX12_takesE 151 = .ok (.getfield 44, 3) := by decide +kernel
theorem dX12_takesE_154 : decode cX12_takesE 154 = .ok (.iconst 1, 1) := by decide +kernel
theorem dX12_takesE_155 : decode cX12_takesE 155 = .ok (.iadd, 1) := by decide +kernel
theorem dX12_takesE_156 : decode cX12_takesE 156 = .ok (.putfield 44, 3) := by decide +kernel
theorem dX12_takesE_159 : decode cX12_takesE 159 = .ok (.goto (-137), 3) := by decide +kernel
theorem dX12_takesE_162 : decode cX12_takesE 162 = .ok (.aload_n 0, 1) := by decide +kernel
theorem dX12_takesE_163 : decode cX12_takesE 163 = .ok (.bipush 124, 2) := by decide +kernel
theorem dX12_takesE_165 : decode cX12_takesE 165 = .ok (.invokevirtual 246, 3) := by decide +kernel
theorem dX12_takesE_168 : decode cX12_takesE 168 = .ok (.aload_n 0, 1) := by decide +kernel
theorem dX12_takesE_169 : decode cX12_takesE 169 = .ok (.getfield 65, 3) := by decide +kernel
theorem dX12_takesE_172 : decode cX12_takesE 172 = .ok (.iload_n 1, 1) := by decide +kernel
theorem dX12_takesE_173 : decode cX12_takesE 173 = .ok (.aload_n 0, 1) := by decide +kernel
theorem dX12_takesE_174 : decode cX12_takesE 174 = .ok (.getfield 74, 3) := by decide +kernel
theorem dX12_takesE_177 : decode cX12_takesE 177 = .ok (.iastore, 1) := by decide +kernel
theorem dX12_takesE_178 : decode cX12_takesE 178 = .ok (.aload_n 0, 1) := by decide +kernel
theorem dX12_takesE_179 : decode cX12_takesE 179 = .ok (.getfield 77, 3) := by decide +kernel
theorem dX12_takesE_182 : decode cX12_takesE 182 = .ok (.ifCond .ne 5, 3) := by decide +kernel
theorem dX12_takesE_185 : decode cX12_takesE 185 = .ok (.iconst 1, 1) := by decide +kernel
theorem dX12_takesE_186 : decode cX12_takesE 186 = .ok (.ireturn, 1) := by decide +kernel
theorem dX12_takesE_187 : decode cX12_takesE 187 = .ok (.iload_n 3, 1) := by decide +kernel
theorem dX12_takesE_188 : decode cX12_takesE 188 = .ok (.bipush 41, 2) := by decide +kernel
theorem dX12_takesE_190 : decode cX12_takesE 190 = .ok (.if_icmp .eq 5, 3) := by decide +kernel
theorem dX12_takesE_193 : decode cX12_takesE 193 = .ok (.iconst 0, 1) := by decide +kernel
theorem dX12_takesE_194 : decode cX12_takesE 194 = .ok (.ireturn, 1) := by decide +kernel
theorem dX12_takesE_195 : decode cX12_takesE 195 = .ok (.aload_n 0, 1) := by decide +kernel
theorem dX12_takesE_196 : decode cX12_takesE 196 = .ok (.dup, 1) := by decide +kernel
theorem dX12_takesE_197 : decode cX12_takesE 197 = .ok (.getfield 77, 3) := by decide +kernel
theorem dX12_takesE_200 : decode cX12_takesE 200 = .ok (.iconst 1, 1) := by decide +kernel
theorem dX12_takesE_201 : decode cX12_takesE 201 = .ok (.isub, 1) := by decide +kernel
theorem dX12_takesE_202 : decode cX12_takesE 202 = .ok (.putfield 77, 3) := by decide +kernel
theorem dX12_takesE_205 : decode cX12_takesE 205 = .ok (.aload_n 0, 1) := by decide +kernel
theorem dX12_takesE_206 : decode cX12_takesE 206 = .ok (.dup, 1) := by decide +kernel
theorem dX12_takesE_207 : decode cX12_takesE 207 = .ok (.getfield 80, 3) := by decide +kernel
theorem dX12_takesE_210 : decode cX12_takesE 210 = .ok (.iconst 1, 1) := by decide +kernel
theorem dX12_takesE_211 : decode cX12_takesE 211 = .ok (.isub, 1) := by decide +kernel
theorem dX12_takesE_212 : decode cX12_takesE 212 = .ok (.putfield 80, 3) := by decide +kernel
theorem dX12_takesE_215 : decode cX12_takesE 215 = .ok (.aload_n 0, 1) := by decide +kernel
theorem dX12_takesE_216 : decode cX12_takesE 216 = .ok (.dup, 1) := by decide +kernel
theorem dX12_takesE_217 : decode cX12_takesE 217 = .ok (.getfield 44, 3) := by decide +kernel
theorem dX12_takesE_220 : decode cX12_takesE 220 = .ok (.iconst 1, 1) := by decide +kernel
theorem dX12_takesE_221 : decode cX12_takesE 221 = .ok (.iadd, 1) := by decide +kernel
theorem dX12_takesE_222 : decode cX12_takesE 222 = .ok (.putfield 44, 3) := by decide +kernel
theorem dX12_takesE_225 : decode cX12_takesE 225 = .ok (.aload_n 0, 1) := by decide +kernel
theorem dX12_takesE_226 : decode cX12_takesE 226 = .ok (.invokevirtual 240, 3) := by decide +kernel
theorem dX12_takesE_229 : decode cX12_takesE 229 = .ok (.goto (-207), 3) := by decide +kernel
set_option maxRecDepth 20000 in
theorem ggX12_takesHead_X12_next : GoodIn wsX12_takesHead wsX12_next := goodIn_r _ [6, 7, 8, 9, 19, 20, 21, 22, 23, 24, 25, 26, 27, 28, 29, 30, 31, 32, 33, 34, 35, 36, 37, 38, 39, 40, 41, 42, 43, 44, 45, 46, 47, 48, 49, 50, 51, 52, 53, 54, 55, 56, 57, 58, 59, 60, 61, 62, 63, 64, 65, 66, 67, 68, 69, 70, 71, 72, 73, 74, 75, 76, 77, 78, 79, 80, 81] (by decide +kernel) (by decide +kernel)
set_option maxRecDepth 20000 in
theorem gX12_takesHead_X12_next : GoodIn wsX12_takesHead (wsV RX12 218 RX12 yX12_next wsX12_next) := goodIn_app (goodIn_of _ (by decide +kernel)) ggX12_takesHead_X12_next
set_option maxRecDepth 20000 in
theorem ggX12_takesHead_X12_takesWord : GoodIn wsX12_takesHead wsX12_takesWord := goodIn_r _ [13, 14, 15, 16, 17, 5, 18, 7, 2, 3, 4, 6, 8, 9, 19, 20, 21, 22, 23, 24, 25, 26, 27, 28, 29, 30, 31, 32, 33, 34, 35, 36, 37, 38, 39, 40, 41, 42, 43, 44, 45, 46, 47, 48, 49, 50, 51, 52, 53, 54, 55, 56, 57, 58, 59, 60, 61, 62, 63, 64, 65, 66, 67, 68, 69, 70, 71, 72, 73, 74, 75, 76, 77, 78, 79, 80, 81] (by decide +kernel) (by decide +kernel)
set_option maxRecDepth 20000 in
theorem gX12_takesHead_X12_takesWord : GoodIn wsX12_takesHead (wsV RX12 249 RX12 yX12_takesWord wsX12_takesWord) := goodIn_app (goodIn_of _ (by decide +kernel)) ggX12_takesHead_X12_takesWord
theorem dX12_takesHead_0 : decode cX12_takesHead 0 = .ok (.aload_n 0, 1) := by decide +kernel
theorem dX12_takesHead_1 : decode cX12_takesHead 1 = .ok (.invokevirtual 218, 3) := by decide +kernel
theorem dX12_takesHead_4 : decode cX12_takesHead 4 = .ok (.lookupswitch 56 #[(102, 28), (115, 42)], 28) := by decide +kernel
theorem dX12_takesHead_32 : decode cX12_takesHead 32 = .ok (.aload_n 0, 1) := by decide +kernel
theorem dX12_takesHead_33 : decode cX12_takesHead 33 = .ok (.getfield 56, 3) := by decide +kernel
theorem dX12_takesHead_36 : decode cX12_takesHead 36 = .ok (.iload_n 1, 1) := by decide +kernel
theorem dX12_takesHead_37 : decode cX12_takesHead 37 = .ok (.iconst 0, 1) := by decide +kernel
theorem dX12_takesHead_38 : decode cX12_takesHead 38 = .ok (.iastore, 1) := by decide +kernel
theorem dX12_takesHead_39 : decode cX12_takesHead 39 = .ok (.aload_n 0, 1) := by decide +kernel
theorem dX12_takesHead_40 : decode cX12_takesHead 40 = .ok (.iconst 0, 1) := by decide +kernel
theorem dX12_takesHead_41 : decode cX12_takesHead 41 = .ok (.iconst 4, 1) := by decide +kernel
theorem dX12_takesHead_42 : decode cX12_takesHead 42 = .ok (.invokevirtual 249, 3) := by decide +kernel
theorem dX12_takesHead_45 : decode cX12_takesHead 45 = .ok (.ireturn, 1) := by decide +kernel
theorem dX12_takesHead_46 : decode cX12_takesHead 46 = .ok (.aload_n 0, 1) := by decide +kernel
theorem dX12_takesHead_47 : decode cX12_takesHead 47 = .ok (.getfield 56, 3) := by decide +kernel
theorem dX12_takesHead_50 : decode cX12_takesHead 50 = .ok (.iload_n 1, 1) := by decide +kernel
theorem dX12_takesHead_51 : decode cX12_takesHead 51 = .ok (.iconst 1, 1) := by decide +kernel
theorem dX12_takesHead_52 : decode cX12_takesHead 52 = .ok (.iastore, 1) := by decide +kernel
theorem dX12_takesHead_53 : decode cX12_takesHead 53 = .ok (.aload_n 0, 1) := by decide +kernel
theorem dX12_takesHead_54 : decode cX12_takesHead 54 = .ok (.iconst 4, 1) := by decide +kernel
theorem dX12_takesHead_55 : decode cX12_takesHead 55 = .ok (.iconst 5, 1) := by decide +kernel
theorem dX12_takesHead_56 : decode cX12_takesHead 56 = .ok (.invokevirtual 249, 3) := by decide +kernel
theorem dX12_takesHead_59 : decode cX12_takesHead 59 = .ok (.ireturn, 1) := by decide +kernel
theorem dX12_takesHead_60 : decode cX12_takesHead 60 = .ok (.aload_n 0, 1) := by decide +kernel
theorem dX12_takesHead_61 : decode cX12_takesHead 61 = .ok (.getfield 56, 3) := by decide +kernel
theorem dX12_takesHead_64 : decode cX12_takesHead 64 = .ok (.iload_n 1, 1) := by decide +kernel
theorem dX12_takesHead_65 : decode cX12_takesHead 65 = .ok (.iconst 2, 1) := by decide +kernel
theorem dX12_takesHead_66 : decode cX12_takesHead 66 = .ok (.iastore, 1) := by decide +kernel
theorem dX12_takesHead_67 : decode cX12_takesHead 67 = .ok (.aload_n 0, 1) := by decide +kernel
theorem dX12_takesHead_68 : decode cX12_takesHead 68 = .ok (.bipush 9, 2) := by decide +kernel
theorem dX12_takesHead_70 : decode cX12_takesHead 70 = .ok (.iconst 4, 1) := by decide +kernel
theorem dX12_takesHead_71 : decode cX12_takesHead 71 = .ok (.invokevirtual 249, 3) := by decide +kernel
theorem dX12_takesHead_74 : decode cX12_takesHead 74 = .ok (.ireturn, 1) := by decide +kernel
set_option maxRecDepth 20000 in
theorem ggX12_takesClause_X12_takesHead : GoodIn wsX12_takesClause wsX12_takesHead := goodIn_r _ [8, 3, 9, 10, 11, 7, 12, 13, 14, 15, 16, 17, 18, 19, 20, 21, 22, 23, 24, 68, 69, 70, 71, 72, 73, 74, 75, 76, 77, 78, 79, 80, 81, 82, 83, 84, 85, 86, 87, 88, 89, 90, 91, 92, 93, 94, 95, 96, 97, 98, 99, 100, 101, 102, 103, 104, 105, 106, 107, 108, 109, 110, 111, 112, 113, 114, 115, 116, 117, 118, 119, 120, 121, 122, 123, 124, 125, 126, 127, 128, 129, 130] (by decide +kernel) (by decide +kernel)
set_option maxRecDepth 20000 in
theorem gX12_takesClause_X12_takesHead : GoodIn wsX12_takesClause (wsV RX12 252 RX12 yX12_takesHead wsX12_takesHead) := goodIn_app (goodIn_of _ (by decide +kernel)) ggX12_takesClause_X12_takesHead
set_option maxRecDepth 20000 in
theorem ggX12_takesClause_X12_takesNumber : GoodIn wsX12_takesClause wsX12_takesNumber := goodIn_r _ [28, 2, 13, 29, 30, 31, 7, 32, 9, 10, 11, 12, 14, 15, 33, 34, 35, 36, 68, 69, 70, 71, 72, 73, 74, 75, 76, 77, 78, 79, 80, 81, 82, 83, 84, 85, 86, 87, 88, 89, 90, 91, 92, 93, 94, 95, 96, 97, 98, 99, 100, 101, 102, 103, 104, 105, 106, 107, 108, 109, 110, 111, 112, 113, 114, 115, 116, 117, 118, 119, 120, 121, 122, 123, 124, 125, 126, 127, 128, 129, 130] (by decide +kernel) (by decide +kernel)
set_option maxRecDepth 20000 in
theorem gX12_takesClause_X12_takesNumber : GoodIn wsX12_takesClause (wsV RX12 237 RX12 yX12_takesNumber wsX12_takesNumber) := goodIn_app (goodIn_of _ (by decide +kernel)) ggX12_takesClause_X12_takesNumber
set_option maxRecDepth 20000 in
theorem ggX12_takesClause_X12_takes : GoodIn wsX12_takesClause wsX12_takes := goodIn_r _ [24, 13, 9, 10, 11, 7, 12, 14, 15, 68, 69, 70, 71, 72, 73, 74, 75, 76, 77, 78, 79, 80, 81, 82, 83, 84, 85, 86, 87, 88, 89, 90, 91, 92, 93, 94, 95, 96, 97, 98, 99, 100, 101, 102, 103, 104, 105, 106, 107, 108, 109, 110, 111, 112, 113, 114, 115, 116, 117, 118, 119, 120, 121, 122, 123, 124, 125, 126, 127, 128, 129, 130] (by decide +kernel) (by decide +kernel)
set_option maxRecDepth 20000 in
theorem gX12_takesClause_X12_takes : GoodIn wsX12_takesClause (wsV RX12 222 RX12 yX12_takes wsX12_takes) := goodIn_app (goodIn_of _ (by decide +kernel)) ggX12_takesClause_X12_takes
set_option maxRecDepth 20000 in
theorem ggX12_takesClause_X12_takesE : GoodIn wsX12_takesClause wsX12_takesE := goodIn_r _ [40, 41, 42, 43, 44, 45, 13, 46, 9, 10, 11, 7, 12, 14, 15, 47, 48, 49, 50, 2, 51, 52, 53, 54, 33, 34, 35, 36, 25, 26, 27, 28, 29, 30, 31, 32, 55, 56, 57, 58, 59, 60, 61, 62, 63, 64, 65, 66, 67, 68, 69, 70, 71, 72, 73, 74, 75, 76, 77, 78, 79, 80, 81, 82, 83, 84, 85, 86, 87, 88, 89, 90, 91, 92, 93, 94, 95, 96, 97, 98, 99, 100, 101, 102, 103, 104, 105, 106, 107, 108, 109, 110, 111, 112, 113, 114, 115, 116, 117, 118, 119, 120, 121, 122, 123, 124, 125, 126, 127, 128, 129, 130] (by decide +kernel) (by decide +kernel)
set_option maxRecDepth 20000 in
theorem gX12_takesClause_X12_takesE : GoodIn wsX12_takesClause (wsV RX12 255 RX12 yX12_takesE wsX12_takesE) := goodIn_app (goodIn_of _ (by decide +kernel)) ggX12_takesClause_X12_takesE
theorem dX12_takesClause_0 : decode cX12_takesClause 0 = .ok (.aload_n 0, 1) := by decide +kernel
theorem dX12_takesClause_1 : decode cX12_takesClause 1 = .ok (.iload_n 1, 1) := by decide +kernel
theorem dX12_takesClause_2 : decode cX12_takesClause 2 = .ok (.invokevirtual 252, 3) := by decide +kernel
theorem dX12_takesClause_5 : decode cX12_takesClause 5 = .ok (.ifCond .eq 10, 3) := by decide +kernel
theorem dX12_takesClause_8 : decode cX12_takesClause 8 = .ok (.aload_n 0, 1) := by decide +kernel
theorem dX12_takesClause_9 : decode cX12_takesClause 9 = .ok (.invokevirtual 237, 3) := by decide +kernel
theorem dX12_takesClause_12 : decode cX12_takesClause 12 = .ok (.ifCond .ne 5, 3) := by decide +kernel
theorem dX12_takesClause_15 : decode cX12_takesClause 15 = .ok (.iconst 0, 1) := by decide +kernel
theorem dX12_takesClause_16 : decode cX12_takesClause 16 = .ok (.ireturn, 1) := by decide +kernel
theorem dX12_takesClause_17 : decode cX12_takesClause 17 = .ok (.aload_n 0, 1) := by decide +kernel
theorem dX12_takesClause_18 : decode cX12_takesClause 18 = .ok (.getfield 59, 3) := by decide +kernel
theorem dX12_takesClause_21 : decode cX12_takesClause 21 = .ok (.iload_n 1, 1) := by decide +kernel
theorem dX12_takesClause_22 : decode cX12_takesClause 22 = .ok (.aload_n 0, 1) := by decide +kernel
theorem dX12_takesClause_23 : decode cX12_takesClause 23 = .ok (.getfield 47, 3) := by decide +kernel
theorem dX12_takesClause_26 : decode cX12_takesClause 26 = .ok (.iastore, 1) := by decide +kernel
theorem dX12_takesClause_27 : decode cX12_takesClause 27 = .ok (.aload_n 0, 1) := by decide +kernel
theorem dX12_takesClause_28 : decode cX12_takesClause 28 = .ok (.getfield 56, 3) := by decide +kernel
theorem dX12_takesClause_31 : decode cX12_takesClause 31 = .ok (.iload_n 1, 1) := by decide +kernel
theorem dX12_takesClause_32 : decode cX12_takesClause 32 = .ok (.iaload, 1) := by decide +kernel
theorem dX12_takesClause_33 : decode cX12_takesClause 33 = .ok (.iconst 2, 1) := by decide +kernel
theorem dX12_takesClause_34 : decode cX12_takesClause 34 = .ok (.if_icmp .eq 20, 3) := by decide +kernel
theorem dX12_takesClause_37 : decode cX12_takesClause 37 = .ok (.aload_n 0, 1) := by decide +kernel
theorem dX12_takesClause_38 : decode cX12_takesClause 38 = .ok (.bipush 32, 2) := by decide +kernel
theorem dX12_takesClause_40 : decode cX12_takesClause 40 = .ok (.invokevirtual 222, 3) := by decide +kernel
theorem dX12_takesClause_43 : decode cX12_takesClause 43 = .ok (.ifCond .eq 15, 3) := by decide +kernel
theorem dX12_takesClause_46 : decode cX12_takesClause 46 = .ok (.aload_n 0, 1) := by decide +kernel
theorem dX12_takesClause_47 : decode cX12_takesClause 47 = .ok (.iload_n 1, 1) := by decide +kernel
theorem dX12_takesClause_48 : decode cX12_takesClause 48 = .ok (.invokevirtual 255, 3) := by decide +kernel
theorem dX12_takesClause_51 : decode cX12_takesClause 51 = .ok (.ifCond .eq 7, 3) := by decide +kernel
theorem dX12_takesClause_54 : decode cX12_takesClause 54 = .ok (.iconst 1, 1) := by decide +kernel
theorem dX12_takesClause_55 : decode cX12_takesClause 55 = .ok (.goto 4, 3) := by decide +kernel
theorem dX12_takesClause_58 : decode cX12_takesClause 58 = .ok (.iconst 0, 1) := by decide +kernel
theorem dX12_takesClause_59 : decode cX12_takesClause 59 = .ok (.ireturn, 1) := by decide +kernel
set_option maxRecDepth 20000 in
theorem ggX12_goesText_X12_takesClause : GoodIn wsX12_goesText wsX12_takesClause := goodIn_r _ [9, 10, 11, 12, 13, 14, 15, 8, 16, 17, 18, 19, 20, 1, 4, 21, 22, 23, 24, 25, 26, 27, 28, 29, 30, 31, 32, 33, 34, 35, 36, 37, 38, 39, 40, 41, 42, 43, 44, 45, 46, 47, 48, 49, 2, 50, 51, 52, 53, 54, 55, 56, 57, 58, 59, 60, 61, 62, 63, 64, 65, 66, 67, 68, 69, 70, 71, 72, 73, 74, 75, 76, 77, 78, 79, 80, 81, 82, 83, 84, 85, 86, 87, 88, 89, 90, 91, 92, 93, 94, 95, 96, 97, 98, 99, 100, 101, 102, 103, 104, 105, 106, 107, 108, 109, 110, 111, 112, 113, 114, 115, 116, 117, 118, 119, 120, 121, 122, 123, 124, 125, 126, 127, 128, 129, 130, 131, 132, 133, 134, 135] (by decide +kernel) (by decide +kernel)
set_option maxRecDepth 20000 in
theorem gX12_goesText_X12_takesClause : GoodIn wsX12_goesText (wsV RX12 258 RX12 yX12_takesClause wsX12_takesClause) := goodIn_app (goodIn_of _ (by decide +kernel)) ggX12_goesText_X12_takesClause
set_option maxRecDepth 20000 in
theorem ggX12_goesText_X12_takes : GoodIn wsX12_goesText wsX12_takes := goodIn_r _ [30, 1, 17, 18, 19, 8, 20, 4, 21, 73, 74, 75, 76, 77, 78, 79, 80, 81, 82, 83, 84, 85, 86, 87, 88, 89, 90, 91, 92, 93, 94, 95, 96, 97, 98, 99, 100, 101, 102, 103, 104, 105, 106, 107, 108, 109, 110, 111, 112, 113, 114, 115, 116, 117, 118, 119, 120, 121, 122, 123, 124, 125, 126, 127, 128, 129, 130, 131, 132, 133, 134, 135] (by decide +kernel) (by decide +kernel)
set_option maxRecDepth 20000 in
theorem gX12_goesText_X12_takes : GoodIn wsX12_goesText (wsV RX12 222 RX12 yX12_takes wsX12_takes) := goodIn_app (goodIn_of _ (by decide +kernel)) ggX12_goesText_X12_takes
theorem dX12_goesText_0 : decode cX12_goesText 0 = .ok (.aload_n 0, 1) := by decide +kernel
theorem dX12_goesText_1 : decode cX12_goesText 1 = .ok (.iconst 0, 1) := by decide +kernel
theorem dX12_goesText_2 : decode cX12_goesText 2 = .ok (.putfield 44, 3) := by decide +kernel
theorem dX12_goesText_5 : decode cX12_goesText 5 = .ok (.aload_n 0, 1) := by decide +kernel
theorem dX12_goesText_6 : decode cX12_goesText 6 = .ok (.bipush 100, 2) := by decide +kernel
theorem dX12_goesText_8 : decode cX12_goesText 8 = .ok (.iload_n 1, 1) := by decide +kernel
theorem dX12_goesText_9 : decode cX12_goesText 9 = .ok (.imul, 1) := by decide +kernel
theorem dX12_goesText_10 : decode cX12_goesText 10 = .ok (.putfield 74, 3) := by decide +kernel
theorem dX12_goesText_13 : decode cX12_goesText 13 = .ok (.iconst 0, 1) := by decide +kernel
theorem dX12_goesText_14 : decode cX12_goesText 14 = .ok (.istore_n 2, 1) := by decide +kernel
theorem dX12_goesText_15 : decode cX12_goesText 15 = .ok (.aload_n 0, 1) := by decide +kernel
theorem dX12_goesText_16 : decode cX12_goesText 16 = .ok (.bipush 10, 2) := by decide +kernel
theorem dX12_goesText_18 : decode cX12_goesText 18 = .ok (.iload_n 1, 1) := by decide +kernel
theorem dX12_goesText_19 : decode cX12_goesText 19 = .ok (.imul, 1) := by decide +kernel
theorem dX12_goesText_20 : decode cX12_goesText 20 = .ok (.iload_n 2, 1) := by decide +kernel
theorem dX12_goesText_21 : decode cX12_goesText 21 = .ok (.iadd, 1) := by decide +kernel
theorem dX12_goesText_22 : decode cX12_goesText 22 = .ok (.invokevirtual 258, 3) := by decide +kernel
theorem dX12_goesText_25 : decode cX12_goesText 25 = .ok (.ifCond .ne 5, 3) := by decide +kernel
theorem dX12_goesText_28 : decode cX12_goesText 28 = .ok (.iconst 0, 1) := by decide +kernel
theorem dX12_goesText_29 : decode cX12_goesText 29 = .ok (.ireturn, 1) := by decide +kernel
theorem dX12_goesText_30 : decode cX12_goesText 30 = .ok (.iinc 2 1, 3) := by decide +kernel
theorem dX12_goesText_33 : decode cX12_goesText 33 = .ok (.aload_n 0, 1) := by decide +kernel
theorem dX12_goesText_34 : decode cX12_goesText 34 = .ok (.getfield 53, 3) := by decide +kernel
theorem dX12_goesText_37 : decode cX12_goesText 37 = .ok (.iload_n 1, 1) := by decide +kernel
theorem dX12_goesText_38 : decode cX12_goesText 38 = .ok (.iload_n 2, 1) := by decide +kernel
theorem dX12_goesText_39 : decode cX12_goesText 39 = .ok (.iastore, 1) := by decide +kernel
theorem dX12_goesText_40 : decode cX12_goesText 40 = .ok (.aload_n 0, 1) := by decide +kernel
theorem dX12_goesText_41 : decode cX12_goesText 41 = .ok (.getfield 44, 3) := by decide +kernel
theorem dX12_goesText_44 : decode cX12_goesText 44 = .ok (.aload_n 0, 1) := by decide +kernel
theorem dX12_goesText_45 : decode cX12_goesText 45 = .ok (.getfield 41, 3) := by decide +kernel
theorem dX12_goesText_48 : decode cX12_goesText 48 = .ok (.if_icmp .ne 5, 3) := by decide +kernel
theorem dX12_goesText_51 : decode cX12_goesText 51 = .ok (.iconst 1, 1) := by decide +kernel
theorem dX12_goesText_52 : decode cX12_goesText 52 = .ok (.ireturn, 1) := by decide +kernel
theorem dX12_goesText_53 : decode cX12_goesText 53 = .ok (.iload_n 2, 1) := by decide +kernel
theorem dX12_goesText_54 : decode cX12_goesText 54 = .ok (.bipush 10, 2) := by decide +kernel
theorem dX12_goesText_56 : decode cX12_goesText 56 = .ok (.if_icmp .eq 12, 3) := by decide +kernel
theorem dX12_goesText_59 : decode cX12_goesText 59 = .ok (.aload_n 0, 1) := by decide +kernel
theorem dX12_goesText_60 : decode cX12_goesText 60 = .ok (.bipush 59, 2) := by decide +kernel
theorem dX12_goesText_62 : decode cX12_goesText 62 = .ok (.invokevirtual 222, 3) := by decide +kernel
theorem dX12_goesText_65 : decode cX12_goesText 65 = .ok (.ifCond .ne (-50), 3) := by decide +kernel
theorem dX12_goesText_68 : decode cX12_goesText 68 = .ok (.iconst 0, 1) := by decide +kernel
theorem dX12_goesText_69 : decode cX12_goesText 69 = .ok (.ireturn, 1) := by decide +kernel
set_option maxRecDepth 20000 in
theorem ggX12_archive_X12_goesText : GoodIn wsX12_archive wsX12_goesText := goodIn_r _ [9, 3, 10, 11, 2, 12, 13, 14, 8, 15, 16, 17, 18, 19, 20, 21, 22, 23, 24, 25, 26, 27, 28, 29, 30, 31, 32, 33, 34, 35, 36, 37, 38, 39, 40, 41, 42, 43, 44, 45, 46, 47, 48, 49, 50, 51, 52, 53, 54, 55, 56, 57, 58, 59, 60, 61, 62, 63, 64, 65, 66, 67, 68, 69, 70, 71, 72, 73, 74, 75, 76, 77, 78, 79, 80, 81, 82, 83, 84, 85, 86, 87, 88, 89, 90, 91, 92, 93, 94, 95, 96, 97, 98, 99, 100, 101, 102, 103, 104, 105, 106, 107, 108, 109, 110, 111, 112, 113, 114, 115, 116, 117, 118, 119, 120, 121, 122, 123, 124, 125, 126, 127, 128, 129, 130, 131, 132, 133, 134, 135, 136, 137, 138, 139, 140, 141] (by decide +kernel) (by decide +kernel)
set_option maxRecDepth 20000 in
theorem gX12_archive_X12_goesText : GoodIn wsX12_archive (wsV RX12 261 RX12 yX12_goesText wsX12_goesText) := goodIn_app (goodIn_of _ (by decide +kernel)) ggX12_archive_X12_goesText
theorem dX12_archive_0 : decode cX12_archive 0 = .ok (.aload_n 0, 1) := by decide +kernel
theorem dX12_archive_1 : decode cX12_archive 1 = .ok (.getfield 35, 3) := by decide +kernel
theorem dX12_archive_4 : decode cX12_archive 4 = .ok (.bipush 6, 2) := by decide +kernel
theorem dX12_archive_6 : decode cX12_archive 6 = .ok (.if_icmp .ne 6, 3) := by decide +kernel
theorem dX12_archive_9 : decode cX12_archive 9 = .ok (.bipush (-4), 2) := by decide +kernel
theorem dX12_archive_11 : decode cX12_archive 11 = .ok (.ireturn, 1) := by decide +kernel
theorem dX12_archive_12 : decode cX12_archive 12 = .ok (.aload_n 0, 1) := by decide +kernel
theorem dX12_archive_13 : decode cX12_archive 13 = .ok (.aload_n 0, 1) := by decide +kernel
theorem dX12_archive_14 : decode cX12_archive 14 = .ok (.getfield 35, 3) := by decide +kernel
theorem dX12_archive_17 : decode cX12_archive 17 = .ok (.invokevirtual 261, 3) := by decide +kernel
theorem dX12_archive_20 : decode cX12_archive 20 = .ok (.istore_n 1, 1) := by decide +kernel
theorem dX12_archive_21 : decode cX12_archive 21 = .ok (.aload_n 0, 1) := by decide +kernel
theorem dX12_archive_22 : decode cX12_archive 22 = .ok (.iconst 0, 1) := by decide +kernel
theorem dX12_archive_23 : decode cX12_archive 23 = .ok (.putfield 41, 3) := by decide +kernel
theorem dX12_archive_26 : decode cX12_archive 26 = .ok (.iload_n 1, 1) := by decide +kernel
theorem dX12_archive_27 : decode cX12_archive 27 = .ok (.ifCond .ne 11, 3) := by decide +kernel
theorem dX12_archive_30 : decode cX12_archive 30 = .ok (.bipush (-10), 2) := by decide +kernel
theorem dX12_archive_32 : decode cX12_archive 32 = .ok (.aload_n 0, 1) := by decide +kernel
theorem dX12_archive_33 : decode cX12_archive 33 = .ok (.getfield 44, 3) := by decide +kernel
theorem dX12_archive_36 : decode cX12_archive 36 = .ok (.isub, 1) := by decide +kernel
theorem dX12_archive_37 : decode cX12_archive 37 = .ok (.ireturn, 1) := by decide +kernel
theorem dX12_archive_38 : decode cX12_archive 38 = .ok (.aload_n 0, 1) := by decide +kernel
theorem dX12_archive_39 : decode cX12_archive 39 = .ok (.aload_n 0, 1) := by decide +kernel
theorem dX12_archive_40 : decode cX12_archive 40 = .ok (.getfield 35, 3) := by decide +kernel
theorem dX12_archive_43 : decode cX12_archive 43 = .ok (.putfield 38, 3) := by decide +kernel
theorem dX12_archive_46 : decode cX12_archive 46 = .ok (.aload_n 0, 1) := by decide +kernel
theorem dX12_archive_47 : decode cX12_archive 47 = .ok (.dup, 1) := by decide +kernel
theorem dX12_archive_48 : decode cX12_archive 48 = .ok (.getfield 35, 3) := by decide +kernel
theorem dX12_archive_51 : decode cX12_archive 51 = .ok (.iconst 1, 1) := by decide +kernel
theorem dX12_archive_52 : decode cX12_archive 52 = .ok (.iadd, 1) := by decide +kernel
theorem dX12_archive_53 : decode cX12_archive 53 = .ok (.putfield 35, 3) := by decide +kernel
theorem dX12_archive_56 : decode cX12_archive 56 = .ok (.aload_n 0, 1) := by decide +kernel
theorem dX12_archive_57 : decode cX12_archive 57 = .ok (.getfield 38, 3) := by decide +kernel
theorem dX12_archive_60 : decode cX12_archive 60 = .ok (.ireturn, 1) := by decide +kernel
theorem dX12_begin_0 : decode cX12_begin 0 = .ok (.aload_n 0, 1) := by decide +kernel
theorem dX12_begin_1 : decode cX12_begin 1 = .ok (.getfield 38, 3) := by decide +kernel
theorem dX12_begin_4 : decode cX12_begin 4 = .ok (.ifCond .ge 7, 3) := by decide +kernel
theorem dX12_begin_7 : decode cX12_begin 7 = .ok (.iconst 0, 1) := by decide +kernel
theorem dX12_begin_8 : decode cX12_begin 8 = .ok (.goto 10, 3) := by decide +kernel
theorem dX12_begin_11 : decode cX12_begin 11 = .ok (.bipush 10, 2) := by decide +kernel
theorem dX12_begin_13 : decode cX12_begin 13 = .ok (.aload_n 0, 1) := by decide +kernel
theorem dX12_begin_14 : decode cX12_begin 14 = .ok (.getfield 38, 3) := by decide +kernel
theorem dX12_begin_17 : decode cX12_begin 17 = .ok (.imul, 1) := by decide +kernel
theorem dX12_begin_18 : decode cX12_begin 18 = .ok (.ireturn, 1) := by decide +kernel
theorem dX12_behind_0 : decode cX12_behind 0 = .ok (.aload_n 0, 1) := by decide +kernel
theorem dX12_behind_1 : decode cX12_behind 1 = .ok (.getfield 38, 3) := by decide +kernel
theorem dX12_behind_4 : decode cX12_behind 4 = .ok (.ifCond .ge 7, 3) := by decide +kernel
theorem dX12_behind_7 : decode cX12_behind 7 = .ok (.iconst 0, 1) := by decide +kernel
theorem dX12_behind_8 : decode cX12_behind 8 = .ok (.goto 20, 3) := by decide +kernel
theorem dX12_behind_11 : decode cX12_behind 11 = .ok (.bipush 10, 2) := by decide +kernel
theorem dX12_behind_13 : decode cX12_behind 13 = .ok (.aload_n 0, 1) := by decide +kernel
theorem dX12_behind_14 : decode cX12_behind 14 = .ok (.getfield 38, 3) := by decide +kernel
theorem dX12_behind_17 : decode cX12_behind 17 = .ok (.imul, 1) := by decide +kernel
theorem dX12_behind_18 : decode cX12_behind 18 = .ok (.aload_n 0, 1) := by decide +kernel
theorem dX12_behind_19 : decode cX12_behind 19 = .ok (.getfield 53, 3) := by decide +kernel
theorem dX12_behind_22 : decode cX12_behind 22 = .ok (.aload_n 0, 1) := by decide +kernel
theorem dX12_behind_23 : decode cX12_behind 23 = .ok (.getfield 38, 3) := by decide +kernel
theorem dX12_behind_26 : decode cX12_behind 26 = .ok (.iaload, 1) := by decide +kernel
theorem dX12_behind_27 : decode cX12_behind 27 = .ok (.iadd, 1) := by decide +kernel
theorem dX12_behind_28 : decode cX12_behind 28 = .ok (.ireturn, 1) := by decide +kernel
set_option maxRecDepth 20000 in
theorem ggX12_keep_X12_begin : GoodIn wsX12_keep wsX12_begin := goodIn_r _ [7, 8, 14, 15, 16, 17, 18, 19, 20, 21, 22, 23, 24, 25, 26, 27, 28, 29, 30, 31, 32, 33, 34, 35, 36, 37, 38, 39, 40, 41, 42, 43, 44, 45, 46, 47, 48, 49, 50, 51, 52, 53, 54, 55, 56, 57, 58, 59, 60, 61, 62, 63, 64, 65, 66, 67, 68, 69, 70, 71, 72, 73, 74, 75, 76] (by decide +kernel) (by decide +kernel)
set_option maxRecDepth 20000 in
theorem gX12_keep_X12_begin : GoodIn wsX12_keep (wsV RX12 264 RX12 yX12_begin wsX12_begin) := goodIn_app (goodIn_of _ (by decide +kernel)) ggX12_keep_X12_begin
set_option maxRecDepth 20000 in
theorem ggX12_keep_X12_behind : GoodIn wsX12_keep wsX12_behind := goodIn_r _ [12, 8, 13, 14, 15, 16, 17, 18, 19, 20, 21, 22, 23, 24, 25, 26, 27, 28, 29, 30, 31, 32, 33, 34, 35, 36, 37, 38, 39, 40, 41, 42, 43, 44, 45, 46, 47, 48, 49, 50, 51, 52, 53, 54, 55, 56, 57, 58, 59, 60, 61, 62, 63, 64, 65, 66, 67, 68, 69, 70, 71, 72, 73, 74, 75, 76] (by decide +kernel) (by decide +kernel)
set_option maxRecDepth 20000 in
theorem gX12_keep_X12_behind : GoodIn wsX12_keep (wsV RX12 267 RX12 yX12_behind wsX12_behind) := goodIn_app (goodIn_of _ (by decide +kernel)) ggX12_keep_X12_behind
theorem dX12_keep_0 : decode cX12_keep 0 = .ok (.iconst 1, 1) := by decide +kernel
theorem dX12_keep_1 : decode cX12_keep 1 = .ok (.istore_n 1, 1) := by decide +kernel
theorem dX12_keep_2 : decode cX12_keep 2 = .ok (.aload_n 0, 1) := by decide +kernel
theorem dX12_keep_3 : decode cX12_keep 3 = .ok (.invokevirtual 264, 3) := by decide +kernel
theorem dX12_keep_6 : decode cX12_keep 6 = .ok (.istore_n 2, 1) := by decide +kernel
theorem dX12_keep_7 : decode cX12_keep 7 = .ok (.iload_n 2, 1) := by decide +kernel
theorem dX12_keep_8 : decode cX12_keep 8 = .ok (.aload_n 0, 1) := by decide +kernel
theorem dX12_keep_9 : decode cX12_keep 9 = .ok (.invokevirtual 267, 3) := by decide +kernel
theorem dX12_keep_12 : decode cX12_keep 12 = .ok (.if_icmp .ge 30, 3) := by decide +kernel
theorem dX12_keep_15 : decode cX12_keep 15 = .ok (.aload_n 0, 1) := by decide +kernel
theorem dX12_keep_16 : decode cX12_keep 16 = .ok (.getfield 56, 3) := by decide +kernel
theorem dX12_keep_19 : decode cX12_keep 19 = .ok (.iload_n 2, 1) := by decide +kernel
theorem dX12_keep_20 : decode cX12_keep 20 = .ok (.iaload, 1) := by decide +kernel
theorem dX12_keep_21 : decode cX12_keep 21 = .ok (.iconst 2, 1) := by decide +kernel
theorem dX12_keep_22 : decode cX12_keep 22 = .ok (.if_icmp .ne 12, 3) := by decide +kernel
theorem dX12_keep_25 : decode cX12_keep 25 = .ok (.aload_n 0, 1) := by decide +kernel
theorem dX12_keep_26 : decode cX12_keep 26 = .ok (.getfield 59, 3) := by decide +kernel
theorem dX12_keep_29 : decode cX12_keep 29 = .ok (.iload_n 2, 1) := by decide +kernel
theorem dX12_keep_30 : decode cX12_keep 30 = .ok (.iaload, 1) := by decide +kernel
theorem dX12_keep_31 : decode cX12_keep 31 = .ok (.goto 4, 3) := by decide +kernel
theorem dX12_keep_34 : decode cX12_keep 34 = .ok (.iload_n 1, 1) := by decide +kernel
theorem dX12_keep_35 : decode cX12_keep 35 = .ok (.istore_n 1, 1) := by decide +kernel
theorem dX12_keep_36 : decode cX12_keep 36 = .ok (.iinc 2 1, 3) := by decide +kernel
theorem dX12_keep_39 : decode cX12_keep 39 = .ok (.goto (-32), 3) := by decide +kernel
theorem dX12_keep_42 : decode cX12_keep 42 = .ok (.iload_n 1, 1) := by decide +kernel
theorem dX12_keep_43 : decode cX12_keep 43 = .ok (.ireturn, 1) := by decide +kernel
theorem dX12_factOf_0 : decode cX12_factOf 0 = .ok (.iload_n 1, 1) := by decide +kernel
theorem dX12_factOf_1 : decode cX12_factOf 1 = .ok (.tableswitch 64 0 4 #[35, 37, 44, 51, 56], 35) := by decide +kernel
theorem dX12_factOf_36 : decode cX12_factOf 36 = .ok (.iload_n 2, 1) := by decide +kernel
theorem dX12_factOf_37 : decode cX12_factOf 37 = .ok (.ireturn, 1) := by decide +kernel
theorem dX12_factOf_38 : decode cX12_factOf 38 = .ok (.aload_n 0, 1) := by decide +kernel
theorem dX12_factOf_39 : decode cX12_factOf 39 = .ok (.getfield 22, 3) := by decide +kernel
theorem dX12_factOf_42 : decode cX12_factOf 42 = .ok (.iload_n 2, 1) := by decide +kernel
theorem dX12_factOf_43 : decode cX12_factOf 43 = .ok (.iaload, 1) := by decide +kernel
theorem dX12_factOf_44 : decode cX12_factOf 44 = .ok (.ireturn, 1) := by decide +kernel
theorem dX12_factOf_45 : decode cX12_factOf 45 = .ok (.aload_n 0, 1) := by decide +kernel
theorem dX12_factOf_46 : decode cX12_factOf 46 = .ok (.getfield 26, 3) := by decide +kernel
theorem dX12_factOf_49 : decode cX12_factOf 49 = .ok (.iload_n 2, 1) := by decide +kernel
theorem dX12_factOf_50 : decode cX12_factOf 50 = .ok (.iaload, 1) := by decide +kernel
theorem dX12_factOf_51 : decode cX12_factOf 51 = .ok (.ireturn, 1) := by decide +kernel
theorem dX12_factOf_52 : decode cX12_factOf 52 = .ok (.iload_n 3, 1) := by decide +kernel
theorem dX12_factOf_53 : decode cX12_factOf 53 = .ok (.bipush 10, 2) := by decide +kernel
theorem dX12_factOf_55 : decode cX12_factOf 55 = .ok (.irem, 1) := by decide +kernel
theorem dX12_factOf_56 : decode cX12_factOf 56 = .ok (.ireturn, 1) := by decide +kernel
theorem dX12_factOf_57 : decode cX12_factOf 57 = .ok (.iload_n 3, 1) := by decide +kernel
theorem dX12_factOf_58 : decode cX12_factOf 58 = .ok (.bipush 10, 2) := by decide +kernel
theorem dX12_factOf_60 : decode cX12_factOf 60 = .ok (.idiv, 1) := by decide +kernel
theorem dX12_factOf_61 : decode cX12_factOf 61 = .ok (.bipush 10, 2) := by decide +kernel
theorem dX12_factOf_63 : decode cX12_factOf 63 = .ok (.irem, 1) := by decide +kernel
theorem dX12_factOf_64 : decode cX12_factOf 64 = .ok (.ireturn, 1) := by decide +kernel
theorem dX12_factOf_65 : decode cX12_factOf 65 = .ok (.iload 4, 2) := by decide +kernel
theorem dX12_factOf_67 : decode cX12_factOf 67 = .ok (.ireturn, 1) := by decide +kernel
set_option maxRecDepth 20000 in
theorem ggX12_holds_X12_factOf : GoodIn wsX12_holds wsX12_factOf := goodIn_r _ [9, 10, 11, 12, 13, 14, 15, 16, 17, 18, 19, 20, 21, 22, 23, 24, 25, 26, 27, 28, 29, 30, 31, 32, 33, 34, 35, 36, 37, 38, 39, 40, 41, 42, 43, 44, 45, 46, 47, 48, 49, 50, 51, 52, 53, 54, 55, 56, 57, 58, 59, 60, 61, 62, 63, 64, 65, 66, 67, 68, 69, 70, 71, 72, 73, 74] (by decide +kernel) (by decide +kernel)
set_option maxRecDepth 20000 in
theorem gX12_holds_X12_factOf : GoodIn wsX12_holds (wsV RX12 270 RX12 yX12_factOf wsX12_factOf) := goodIn_app (goodIn_of _ (by decide +kernel)) ggX12_holds_X12_factOf
theorem dX12_holds_0 : decode cX12_holds 0 = .ok (.iconst 0, 1) := by decide +kernel
theorem dX12_holds_1 : decode cX12_holds 1 = .ok (.istore 5, 2) := by decide +kernel
theorem dX12_holds_3 : decode cX12_holds 3 = .ok (.aload_n 0, 1) := by decide +kernel
theorem dX12_holds_4 : decode cX12_holds 4 = .ok (.getfield 62, 3) := by decide +kernel
theorem dX12_holds_7 : decode cX12_holds 7 = .ok (.iload_n 1, 1) := by decide +kernel
theorem dX12_holds_8 : decode cX12_holds 8 = .ok (.iaload, 1) := by decide +kernel
theorem dX12_holds_9 : decode cX12_holds 9 = .ok (.istore 6, 2) := by decide +kernel
theorem dX12_holds_11 : decode cX12_holds 11 = .ok (.iload 6, 2) := by decide +kernel
theorem dX12_holds_13 : decode cX12_holds 13 = .ok (.aload_n 0, 1) := by decide +kernel
theorem dX12_holds_14 : decode cX12_holds 14 = .ok (.getfield 65, 3) := by decide +kernel
theorem dX12_holds_17 : decode cX12_holds 17 = .ok (.iload_n 1, 1) := by decide +kernel
theorem dX12_holds_18 : decode cX12_holds 18 = .ok (.iaload, 1) := by decide +kernel
theorem dX12_holds_19 : decode cX12_holds 19 = .ok (.if_icmp .ge 236, 3) := by decide +kernel
theorem dX12_holds_22 : decode cX12_holds 22 = .ok (.aload_n 0, 1) := by decide +kernel
theorem dX12_holds_23 : decode cX12_holds 23 = .ok (.getfield 68, 3) := by decide +kernel
theorem dX12_holds_26 : decode cX12_holds 26 = .ok (.iload 6, 2) := by decide +kernel
theorem dX12_holds_28 : decode cX12_holds 28 = .ok (.iaload, 1) := by decide +kernel
theorem dX12_holds_29 : decode cX12_holds 29 = .ok (.istore 7, 2) := by decide +kernel
theorem dX12_holds_31 : decode cX12_holds 31 = .ok (.iload 7, 2) := by decide +kernel
theorem dX12_holds_33 : decode cX12_holds 33 = .ok (.bipush (-33), 2) := by decide +kernel
theorem dX12_holds_35 : decode cX12_holds 35 = .ok (.if_icmp .ne 32, 3) := by decide +kernel
theorem dX12_holds_38 : decode cX12_holds 38 = .ok (.aload_n 0, 1) := by decide +kernel
theorem dX12_holds_39 : decode cX12_holds 39 = .ok (.getfield 86, 3) := by decide +kernel
theorem dX12_holds_42 : decode cX12_holds 42 = .ok (.iload 5, 2) := by decide +kernel
theorem dX12_holds_44 : decode cX12_holds 44 = .ok (.iconst 1, 1) := by decide +kernel
theorem dX12_holds_45 : decode cX12_holds 45 = .ok (.isub, 1) := by decide +kernel
theorem dX12_holds_46 : decode cX12_holds 46 = .ok (.aload_n 0, 1) := by decide +kernel
theorem dX12_holds_47 : decode cX12_holds 47 = .ok (.getfield 86, 3) := by decide +kernel
theorem dX12_holds_50 : decode cX12_holds 50 = .ok (.iload 5, 2) := by decide +kernel
theorem dX12_holds_52 : decode cX12_holds 52 = .ok (.iconst 1, 1) := by decide +kernel
theorem dX12_holds_53 : decode cX12_holds 53 = .ok (.isub, 1) := by decide +kernel
theorem dX12_holds_54 : decode cX12_holds 54 = .ok (.baload, 1) := by decide +kernel
theorem dX12_holds_55 : decode cX12_holds 55 = .ok (.ifCond .ne 7, 3) := by decide +kernel
theorem dX12_holds_58 : decode cX12_holds 58 = .ok (.iconst 1, 1) := by decide +kernel
theorem dX12_holds_59 : decode cX12_holds 59 = .ok (.goto 4, 3) := by decide +kernel
theorem dX12_holds_62 : decode cX12_holds 62 = .ok (.iconst 0, 1) := by decide +kernel
theorem dX12_holds_63 : decode cX12_holds 63 = .ok (.bastore, 1) := by decide +kernel
theorem dX12_holds_64 : decode cX12_holds 64 = .ok (.goto 185, 3) := by decide +kernel
theorem dX12_holds_67 : decode cX12_holds 67 = .ok (.iload 7, 2) := by decide +kernel
theorem dX12_holds_69 : decode cX12_holds 69 = .ok (.ifCond .ge 82, 3) := by decide +kernel
theorem dX12_holds_72 : decode cX12_holds 72 = .ok (.iinc 5 (-1), 3) := by decide +kernel
theorem dX12_holds_75 : decode cX12_holds 75 = .ok (.aload_n 0, 1) := by decide +kernel
theorem dX12_holds_76 : decode cX12_holds 76 = .ok (.getfield 86, 3) := by decide +kernel
theorem dX12_holds_79 : decode cX12_holds 79 = .ok (.iload 5, 2) := by decide +kernel
theorem dX12_holds_81 : decode cX12_holds 81 = .ok (.iconst 1, 1) := by decide +kernel
theorem dX12_holds_82 : decode cX12_holds 82 = .ok (.isub, 1) := by decide +kernel
theorem dX12_holds_83 : decode cX12_holds 83 = .ok (.iload 7, 2) := by decide +kernel
theorem dX12_holds_85 : decode cX12_holds 85 = .ok (.bipush (-38), 2) := by decide +kernel
theorem dX12_holds_87 : decode cX12_holds 87 = .ok (.if_icmp .ne 33, 3) := by decide +kernel
theorem dX12_holds_90 : decode cX12_holds 90 = .ok (.aload_n 0, 1) := by decide +kernel
theorem dX12_holds_91 : decode cX12_holds 91 = .ok (.getfield 86, 3) := by decide +kernel
theorem dX12_holds_94 : decode cX12_holds 94 = .ok (.iload 5, 2) := by decide +kernel
theorem dX12_holds_96 : decode cX12_holds 96 = .ok (.iconst 1, 1) := by decide +kernel
theorem dX12_holds_97 : decode cX12_holds 97 = .ok (.isub, 1) := by decide +kernel
theorem dX12_holds_98 : decode cX12_holds 98 = .ok (.baload, 1) := by decide +kernel
theorem dX12_holds_99 : decode cX12_holds 99 = .ok (.ifCond .eq 17, 3) := by decide +kernel
theorem dX12_holds_102 : decode cX12_holds 102 = .ok (.aload_n 0, 1) := by decide +kernel
theorem dX12_holds_103 : decode cX12_holds 103 = .ok (.getfield 86, 3) := by decide +kernel
theorem dX12_holds_106 : decode cX12_holds 106 = .ok (.iload 5, 2) := by decide +kernel
theorem dX12_holds_108 : decode cX12_holds 108 = .ok (.baload, 1) := by decide +kernel
theorem dX12_holds_109 : decode cX12_holds 109 = .ok (.ifCond .eq 7, 3) := by decide +kernel
theorem dX12_holds_112 : decode cX12_holds 112 = .ok (.iconst 1, 1) := by decide +kernel
theorem dX12_holds_113 : decode cX12_holds 113 = .ok (.goto 34, 3) := by decide +kernel
theorem dX12_holds_116 : decode cX12_holds 116 = .ok (.iconst 0, 1) := by decide +kernel
theorem dX12_holds_117 : decode cX12_holds 117 = .ok (.goto 30, 3) := by decide +kernel
theorem dX12_holds_120 : decode cX12_holds 120 = .ok (.aload_n 0, 1) := by decide +kernel
theorem dX12_holds_121 : decode cX12_holds 121 = .ok (.getfield 86, 3) := by decide +kernel
theorem dX12_holds_124 : decode cX12_holds 124 = .ok (.iload 5, 2) := by decide +kernel
theorem dX12_holds_126 : decode cX12_holds 126 = .ok (.iconst 1, 1) := by decide +kernel
theorem dX12_holds_127 : decode cX12_holds 127 = .ok (.isub, 1) := by decide +kernel
theorem dX12_holds_128 : decode cX12_holds 128 = .ok (.baload, 1) := by decide +kernel
theorem dX12_holds_129 : decode cX12_holds 129 = .ok (.ifCond .ne 13, 3) := by decide +kernel
theorem dX12_holds_132 : decode cX12_holds 132 = .ok (.aload_n 0, 1) := by decide +kernel
theorem dX12_holds_133 : decode cX12_holds 133 = .ok (.getfield 86, 3) := by decide +kernel
theorem dX12_holds_136 : decode cX12_holds 136 = .ok (.iload 5, 2) := by decide +kernel
theorem dX12_holds_138 : decode cX12_holds 138 = .ok (.baload, 1) := by decide +kernel
theorem dX12_holds_139 : decode cX12_holds 139 = .ok (.ifCond .eq 7, 3) := by decide +kernel
theorem dX12_holds_142 : decode cX12_holds 142 = .ok (.iconst 1, 1) := by decide +kernel
theorem dX12_holds_143 : decode cX12_holds 143 = .ok (.goto 4, 3) := by decide +kernel
theorem dX12_holds_146 : decode cX12_holds 146 = .ok (.iconst 0, 1) := by decide +kernel
theorem dX12_holds_147 : decode cX12_holds 147 = .ok (.bastore, 1) := by decide +kernel
theorem dX12_holds_148 : decode cX12_holds 148 = .ok (.goto 101, 3) := by decide +kernel
theorem dX12_holds_151 : decode cX12_holds 151 = .ok (.aload_n 0, 1) := by decide +kernel
theorem dX12_holds_152 : decode cX12_holds 152 = .ok (.iload 7, 2) := by decide +kernel
theorem dX12_holds_154 : decode cX12_holds 154 = .ok (.sipush 1000, 3) := by decide +kernel
theorem dX12_holds_157 : decode cX12_holds 157 = .ok (.idiv, 1) := by decide +kernel
theorem dX12_holds_158 : decode cX12_holds 158 = .ok (.iload_n 2, 1) := by decide +kernel
theorem dX12_holds_159 : decode cX12_holds 159 = .ok (.iload_n 3, 1) := by decide +kernel
theorem dX12_holds_160 : decode cX12_holds 160 = .ok (.iload 4, 2) := by decide +kernel
theorem dX12_holds_162 : decode cX12_holds 162 = .ok (.invokevirtual 270, 3) := by decide +kernel
theorem dX12_holds_165 : decode cX12_holds 165 = .ok (.istore 8, 2) := by decide +kernel
theorem dX12_holds_167 : decode cX12_holds 167 = .ok (.iload 7, 2) := by decide +kernel
theorem dX12_holds_169 : decode cX12_holds 169 = .ok (.bipush 100, 2) := by decide +kernel
theorem dX12_holds_171 : decode cX12_holds 171 = .ok (.idiv, 1) := by decide +kernel
theorem dX12_holds_172 : decode cX12_holds 172 = .ok (.bipush 10, 2) := by decide +kernel
theorem dX12_holds_174 : decode cX12_holds 174 = .ok (.irem, 1) := by decide +kernel
theorem dX12_holds_175 : decode cX12_holds 175 = .ok (.istore 9, 2) := by decide +kernel
theorem dX12_holds_177 : decode cX12_holds 177 = .ok (.aload_n 0, 1) := by decide +kernel
theorem dX12_holds_178 : decode cX12_holds 178 = .ok (.getfield 86, 3) := by decide +kernel
theorem dX12_holds_181 : decode cX12_holds 181 = .ok (.iload 5, 2) := by decide +kernel
theorem dX12_holds_183 : decode cX12_holds 183 = .ok (.iload 9, 2) := by decide +kernel
theorem dX12_holds_185 : decode cX12_holds 185 = .ok (.ifCond .ne 21, 3) := by decide +kernel
theorem dX12_holds_188 : decode cX12_holds 188 = .ok (.iload 8, 2) := by decide +kernel
theorem dX12_holds_190 : decode cX12_holds 190 = .ok (.iload 7, 2) := by decide +kernel
theorem dX12_holds_192 : decode cX12_holds 192 = .ok (.bipush 100, 2) := by decide +kernel
theorem dX12_holds_194 : decode cX12_holds 194 = .ok (.irem, 1) := by decide +kernel
theorem dX12_holds_195 : decode cX12_holds 195 = .ok (.if_icmp .ge 7, 3) := by decide +kernel
theorem dX12_holds_198 : decode cX12_holds 198 = .ok (.iconst 1, 1) := by decide +kernel
theorem dX12_holds_199 : decode cX12_holds 199 = .ok (.goto 46, 3) := by decide +kernel
theorem dX12_holds_202 : decode cX12_holds 202 = .ok (.iconst 0, 1) := by decide +kernel
theorem dX12_holds_203 : decode cX12_holds 203 = .ok (.goto 42, 3) := by decide +kernel
theorem dX12_holds_206 : decode cX12_holds 206 = .ok (.iload 9, 2) := by decide +kernel
theorem dX12_holds_208 : decode cX12_holds 208 = .ok (.iconst 1, 1) := by decide +kernel
theorem dX12_holds_209 : decode cX12_holds 209 = .ok (.if_icmp .ne 21, 3) := by decide +kernel
theorem dX12_holds_212 : decode cX12_holds 212 = .ok (.iload 8, 2) := by decide +kernel
theorem dX12_holds_214 : decode cX12_holds 214 = .ok (.iload 7, 2) := by decide +kernel
theorem dX12_holds_216 : decode cX12_holds 216 = .ok (.bipush 100, 2) := by decide +kernel
theorem dX12_holds_218 : decode cX12_holds 218 = .ok (.irem, 1) := by decide +kernel
theorem dX12_holds_219 : decode cX12_holds 219 = .ok (.if_icmp .ne 7, 3) := by decide +kernel
theorem dX12_holds_222 : decode cX12_holds 222 = .ok (.iconst 1, 1) := by decide +kernel
theorem dX12_holds_223 : decode cX12_holds 223 = .ok (.goto 22, 3) := by decide +kernel
theorem dX12_holds_226 : decode cX12_holds 226 = .ok (.iconst 0, 1) := by decide +kernel
theorem dX12_holds_227 : decode cX12_holds 227 = .ok (.goto 18, 3) := by decide +kernel
theorem dX12_holds_230 : decode cX12_holds 230 = .ok (.iload 8, 2) := by decide +kernel
theorem dX12_holds_232 : decode cX12_holds 232 = .ok (.iload 7, 2) := by decide +kernel
theorem dX12_holds_234 : decode cX12_holds 234 = .ok (.bipush 100, 2) := by decide +kernel
theorem dX12_holds_236 : decode cX12_holds 236 = .ok (.irem, 1) := by decide +kernel
theorem dX12_holds_237 : decode cX12_holds 237 = .ok (.if_icmp .le 7, 3) := by decide +kernel
theorem dX12_holds_240 : decode cX12_holds 240 = .ok (.iconst 1, 1) := by decide +kernel
theorem dX12_holds_241 : decode cX12_holds 241 = .ok (.goto 4, 3) := by decide +kernel
theorem dX12_holds_244 : decode cX12_holds 244 = .ok (.iconst 0, 1) := by decide +kernel
theorem dX12_holds_245 : decode cX12_holds 245 = .ok (.bastore, 1) := by decide +kernel
theorem dX12_holds_246 : decode cX12_holds 246 = .ok (.iinc 5 1, 3) := by decide +kernel
theorem dX12_holds_249 : decode cX12_holds 249 = .ok (.iinc 6 1, 3) := by decide +kernel
theorem dX12_holds_252 : decode cX12_holds 252 = .ok (.goto (-241), 3) := by decide +kernel
theorem dX12_holds_255 : decode cX12_holds 255 = .ok (.aload_n 0, 1) := by decide +kernel
theorem dX12_holds_256 : decode cX12_holds 256 = .ok (.getfield 86, 3) := by decide +kernel
theorem dX12_holds_259 : decode cX12_holds 259 = .ok (.iconst 0, 1) := by decide +kernel
theorem dX12_holds_260 : decode cX12_holds 260 = .ok (.baload, 1) := by decide +kernel
theorem dX12_holds_261 : decode cX12_holds 261 = .ok (.ireturn, 1) := by decide +kernel
set_option maxRecDepth 20000 in
theorem ggX12_base_X12_begin : GoodIn wsX12_base wsX12_begin := goodIn_r _ [7, 8, 28, 29, 30, 31, 32, 33, 34, 35, 36, 37, 38, 39, 40, 41, 42, 43, 44, 45, 46, 47, 48, 49, 50, 51, 52, 53, 54, 55, 56, 57, 58, 59, 60, 61, 62, 63, 64, 65, 66, 67, 68, 69, 70, 71, 72, 73, 74, 75, 76, 77, 78, 79, 80, 81, 82, 83, 84, 85, 86, 87, 88, 89, 90] (by decide +kernel) (by decide +kernel)
set_option maxRecDepth 20000 in
theorem gX12_base_X12_begin : GoodIn wsX12_base (wsV RX12 264 RX12 yX12_begin wsX12_begin) := goodIn_app (goodIn_of _ (by decide +kernel)) ggX12_base_X12_begin
set_option maxRecDepth 20000 in
theorem ggX12_base_X12_behind : GoodIn wsX12_base wsX12_behind := goodIn_r _ [12, 8, 13, 28, 29, 30, 31, 32, 33, 34, 35, 36, 37, 38, 39, 40, 41, 42, 43, 44, 45, 46, 47, 48, 49, 50, 51, 52, 53, 54, 55, 56, 57, 58, 59, 60, 61, 62, 63, 64, 65, 66, 67, 68, 69, 70, 71, 72, 73, 74, 75, 76, 77, 78, 79, 80, 81, 82, 83, 84, 85, 86, 87, 88, 89, 90] (by decide +kernel) (by decide +kernel)
set_option maxRecDepth 20000 in
theorem gX12_base_X12_behind : GoodIn wsX12_base (wsV RX12 267 RX12 yX12_behind wsX12_behind) := goodIn_app (goodIn_of _ (by decide +kernel)) ggX12_base_X12_behind
set_option maxRecDepth 20000 in
theorem ggX12_base_X12_holds : GoodIn wsX12_base wsX12_holds := goodIn_r _ [17, 18, 19, 20, 21, 22, 23, 24, 6, 25, 26, 27, 28, 29, 30, 31, 32, 33, 34, 35, 36, 37, 38, 39, 40, 41, 42, 43, 44, 45, 46, 47, 48, 49, 50, 51, 52, 53, 54, 55, 56, 57, 58, 59, 60, 61, 62, 63, 64, 65, 66, 67, 68, 69, 70, 71, 72, 73, 74, 75, 76, 77, 78, 79, 80, 81, 82, 83, 84, 85, 86, 87, 88, 89, 90] (by decide +kernel) (by decide +kernel)
set_option maxRecDepth 20000 in
theorem gX12_base_X12_holds : GoodIn wsX12_base (wsV RX12 274 RX12 yX12_holds wsX12_holds) := goodIn_app (goodIn_of _ (by decide +kernel)) ggX12_base_X12_holds
theorem dX12_base_0 : decode cX12_base 0 = .ok (.bipush 10, 2) := by decide +kernel
theorem dX12_base_2 : decode cX12_base 2 = .ok (.istore 4, 2) := by decide +kernel
theorem dX12_base_4 : decode cX12_base 4 = .ok (.aload_n 0, 1) := by decide +kernel
theorem dX12_base_5 : decode cX12_base 5 = .ok (.invokevirtual 264, 3) := by decide +kernel
theorem dX12_base_8 : decode cX12_base 8 = .ok (.istore 5, 2) := by decide +kernel
theorem dX12_base_10 : decode cX12_base 10 = .ok (.iload 5, 2) := by decide +kernel
theorem dX12_base_12 : decode cX12_base 12 = .ok (.aload_n 0, 1) := by decide +kernel
theorem dX12_base_13 : decode cX12_base 13 = .ok (.invokevirtual 267, 3) := by decide +kernel
theorem dX12_base_16 : decode cX12_base 16 = .ok (.if_icmp .ge 68, 3) := by decide +kernel
theorem dX12_base_19 : decode cX12_base 19 = .ok (.aload_n 0, 1) := by decide +kernel
theorem dX12_base_20 : decode cX12_base 20 = .ok (.getfield 56, 3) := by decide +kernel
theorem dX12_base_23 : decode cX12_base 23 = .ok (.iload 5, 2) := by decide +kernel
theorem dX12_base_25 : decode cX12_base 25 = .ok (.iaload, 1) := by decide +kernel
theorem dX12_base_26 : decode cX12_base 26 = .ok (.iconst 1, 1) := by decide +kernel
theorem dX12_base_27 : decode cX12_base 27 = .ok (.if_icmp .gt 51, 3) := by decide +kernel
theorem dX12_base_30 : decode cX12_base 30 = .ok (.aload_n 0, 1) := by decide +kernel
theorem dX12_base_31 : decode cX12_base 31 = .ok (.iload 5, 2) := by decide +kernel
theorem dX12_base_33 : decode cX12_base 33 = .ok (.iload_n 1, 1) := by decide +kernel
theorem dX12_base_34 : decode cX12_base 34 = .ok (.iload_n 2, 1) := by decide +kernel
theorem dX12_base_35 : decode cX12_base 35 = .ok (.iload_n 3, 1) := by decide +kernel
theorem dX12_base_36 : decode cX12_base 36 = .ok (.invokevirtual 274, 3) := by decide +kernel
theorem dX12_base_39 : decode cX12_base 39 = .ok (.ifCond .ne 6, 3) := by decide +kernel
theorem dX12_base_42 : decode cX12_base 42 = .ok (.goto 36, 3) := by decide +kernel
theorem dX12_base_45 : decode cX12_base 45 = .ok (.iload 4, 2) := by decide +kernel
theorem dX12_base_47 : decode cX12_base 47 = .ok (.aload_n 0, 1) := by decide +kernel
theorem dX12_base_48 : decode cX12_base 48 = .ok (.getfield 56, 3) := by decide +kernel
theorem dX12_base_51 : decode cX12_base 51 = .ok (.iload 5, 2) := by decide +kernel
theorem dX12_base_53 : decode cX12_base 53 = .ok (.iaload, 1) := by decide +kernel
theorem dX12_base_54 : decode cX12_base 54 = .ok (.ifCond .ne 13, 3) := by decide +kernel
theorem dX12_base_57 : decode cX12_base 57 = .ok (.aload_n 0, 1) := by decide +kernel
theorem dX12_base_58 : decode cX12_base 58 = .ok (.getfield 59, 3) := by decide +kernel
theorem dX12_base_61 : decode cX12_base 61 = .ok (.iload 5, 2) := by decide +kernel
theorem dX12_base_63 : decode cX12_base 63 = .ok (.iaload, 1) := by decide +kernel
theorem dX12_base_64 : decode cX12_base 64 = .ok (.goto 11, 3) := by decide +kernel
theorem dX12_base_67 : decode cX12_base 67 = .ok (.aload_n 0, 1) := by decide +kernel
theorem dX12_base_68 : decode cX12_base 68 = .ok (.getfield 59, 3) := by decide +kernel
theorem dX12_base_71 : decode cX12_base 71 = .ok (.iload 5, 2) := by decide +kernel
theorem dX12_base_73 : decode cX12_base 73 = .ok (.iaload, 1) := by decide +kernel
theorem dX12_base_74 : decode cX12_base 74 = .ok (.ineg, 1) := by decide +kernel
theorem dX12_base_75 : decode cX12_base 75 = .ok (.iadd, 1) := by decide +kernel
theorem dX12_base_76 : decode cX12_base 76 = .ok (.istore 4, 2) := by decide +kernel
theorem dX12_base_78 : decode cX12_base 78 = .ok (.iinc 5 1, 3) := by decide +kernel
theorem dX12_base_81 : decode cX12_base 81 = .ok (.goto (-71), 3) := by decide +kernel
theorem dX12_base_84 : decode cX12_base 84 = .ok (.iload 4, 2) := by decide +kernel
theorem dX12_base_86 : decode cX12_base 86 = .ok (.ireturn, 1) := by decide +kernel
set_option maxRecDepth 20000 in
theorem ggX12_worthOf_X12_base : GoodIn wsX12_worthOf wsX12_base := goodIn_r _ [8, 9, 10, 11, 12, 13, 7, 14, 15, 16, 17, 18, 19, 20, 21, 22, 23, 24, 25, 26, 27, 28, 29, 30, 31, 32, 1, 2, 33, 34, 35, 36, 37, 38, 39, 40, 41, 42, 43, 44, 45, 46, 47, 48, 49, 50, 51, 52, 53, 54, 55, 56, 57, 58, 59, 60, 61, 62, 63, 64, 65, 66, 67, 68, 69, 70, 71, 72, 73, 74, 75, 76, 77, 78, 79, 80, 81, 82, 83, 84, 85, 86, 87, 88, 89, 90, 91, 92, 93, 94, 95] (by decide +kernel) (by decide +kernel)
set_option maxRecDepth 20000 in
theorem gX12_worthOf_X12_base : GoodIn wsX12_worthOf (wsV RX12 278 RX12 yX12_base wsX12_base) := goodIn_app (goodIn_of _ (by decide +kernel)) ggX12_worthOf_X12_base
theorem dX12_worthOf_0 : decode cX12_worthOf 0 = .ok (.aload_n 0, 1) := by decide +kernel
theorem dX12_worthOf_1 : decode cX12_worthOf 1 = .ok (.iload_n 1, 1) := by decide +kernel
theorem dX12_worthOf_2 : decode cX12_worthOf 2 = .ok (.iload_n 2, 1) := by decide +kernel
theorem dX12_worthOf_3 : decode cX12_worthOf 3 = .ok (.iload_n 3, 1) := by decide +kernel
theorem dX12_worthOf_4 : decode cX12_worthOf 4 = .ok (.invokevirtual 278, 3) := by decide +kernel
theorem dX12_worthOf_7 : decode cX12_worthOf 7 = .ok (.istore 4, 2) := by decide +kernel
theorem dX12_worthOf_9 : decode cX12_worthOf 9 = .ok (.iload_n 2, 1) := by decide +kernel
theorem dX12_worthOf_10 : decode cX12_worthOf 10 = .ok (.iconst 2, 1) := by decide +kernel
theorem dX12_worthOf_11 : decode cX12_worthOf 11 = .ok (.irem, 1) := by decide +kernel
theorem dX12_worthOf_12 : decode cX12_worthOf 12 = .ok (.iconst 1, 1) := by decide +kernel
theorem dX12_worthOf_13 : decode cX12_worthOf 13 = .ok (.if_icmp .ne 7, 3) := by decide +kernel
theorem dX12_worthOf_16 : decode cX12_worthOf 16 = .ok (.iconst 0, 1) := by decide +kernel
theorem dX12_worthOf_17 : decode cX12_worthOf 17 = .ok (.goto 5, 3) := by decide +kernel
theorem dX12_worthOf_20 : decode cX12_worthOf 20 = .ok (.iload 4, 2) := by decide +kernel
theorem dX12_worthOf_22 : decode cX12_worthOf 22 = .ok (.istore 5, 2) := by decide +kernel
theorem dX12_worthOf_24 : decode cX12_worthOf 24 = .ok (.iload 4, 2) := by decide +kernel
theorem dX12_worthOf_26 : decode cX12_worthOf 26 = .ok (.istore 6, 2) := by decide +kernel
theorem dX12_worthOf_28 : decode cX12_worthOf 28 = .ok (.aload_n 0, 1) := by decide +kernel
theorem dX12_worthOf_29 : decode cX12_worthOf 29 = .ok (.getfield 22, 3) := by decide +kernel
theorem dX12_worthOf_32 : decode cX12_worthOf 32 = .ok (.iload_n 1, 1) := by decide +kernel
theorem dX12_worthOf_33 : decode cX12_worthOf 33 = .ok (.iaload, 1) := by decide +kernel
theorem dX12_worthOf_34 : decode cX12_worthOf 34 = .ok (.tableswitch 125 1 6 #[38, 50, 57, 66, 89, 103], 38) := by decide +kernel
theorem dX12_worthOf_72 : decode cX12_worthOf 72 = .ok (.iload 4, 2) := by decide +kernel
theorem dX12_worthOf_74 : decode cX12_worthOf 74 = .ok (.iload_n 2, 1) := by decide +kernel
theorem dX12_worthOf_75 : decode cX12_worthOf 75 = .ok (.bipush 8, 2) := by decide +kernel
theorem dX12_worthOf_77 : decode cX12_worthOf 77 = .ok (.irem, 1) := by decide +kernel
theorem dX12_worthOf_78 : decode cX12_worthOf 78 = .ok (.iadd, 1) := by decide +kernel
theorem dX12_worthOf_79 : decode cX12_worthOf 79 = .ok (.istore 6, 2) := by decide +kernel
theorem dX12_worthOf_81 : decode cX12_worthOf 81 = .ok (.goto 78, 3) := by decide +kernel
theorem dX12_worthOf_84 : decode cX12_worthOf 84 = .ok (.iload 5, 2) := by decide +kernel
theorem dX12_worthOf_86 : decode cX12_worthOf 86 = .ok (.istore 6, 2) := by decide +kernel
theorem dX12_worthOf_88 : decode cX12_worthOf 88 = .ok (.goto 71, 3) := by decide +kernel
theorem dX12_worthOf_91 : decode cX12_worthOf 91 = .ok (.iload 4, 2) := by decide +kernel
theorem dX12_worthOf_93 : decode cX12_worthOf 93 = .ok (.iconst 2, 1) := by decide +kernel
theorem dX12_worthOf_94 : decode cX12_worthOf 94 = .ok (.idiv, 1) := by decide +kernel
theorem dX12_worthOf_95 : decode cX12_worthOf 95 = .ok (.istore 6, 2) := by decide +kernel
theorem dX12_worthOf_97 : decode cX12_worthOf 97 = .ok (.goto 62, 3) := by decide +kernel
theorem dX12_worthOf_100 : decode cX12_worthOf 100 = .ok (.iload 4, 2) := by decide +kernel
theorem dX12_worthOf_102 : decode cX12_worthOf 102 = .ok (.iload_n 2, 1) := by decide +kernel
theorem dX12_worthOf_103 : decode cX12_worthOf 103 = .ok (.bipush 8, 2) := by decide +kernel
theorem dX12_worthOf_105 : decode cX12_worthOf 105 = .ok (.irem, 1) := by decide +kernel
theorem dX12_worthOf_106 : decode cX12_worthOf 106 = .ok (.iadd, 1) := by decide +kernel
theorem dX12_worthOf_107 : decode cX12_worthOf 107 = .ok (.iload_n 3, 1) := by decide +kernel
theorem dX12_worthOf_108 : decode cX12_worthOf 108 = .ok (.iconst 1, 1) := by decide +kernel
theorem dX12_worthOf_109 : decode cX12_worthOf 109 = .ok (.if_icmp .ne 7, 3) := by decide +kernel
theorem dX12_worthOf_112 : decode cX12_worthOf 112 = .ok (.iconst 2, 1) := by decide +kernel
theorem dX12_worthOf_113 : decode cX12_worthOf 113 = .ok (.goto 4, 3) := by decide +kernel
theorem dX12_worthOf_116 : decode cX12_worthOf 116 = .ok (.iconst 1, 1) := by decide +kernel
theorem dX12_worthOf_117 : decode cX12_worthOf 117 = .ok (.imul, 1) := by decide +kernel
theorem dX12_worthOf_118 : decode cX12_worthOf 118 = .ok (.istore 6, 2) := by decide +kernel
theorem dX12_worthOf_120 : decode cX12_worthOf 120 = .ok (.goto 39, 3) := by decide +kernel
theorem dX12_worthOf_123 : decode cX12_worthOf 123 = .ok (.iload 5, 2) := by decide +kernel
theorem dX12_worthOf_125 : decode cX12_worthOf 125 = .ok (.aload_n 0, 1) := by decide +kernel
theorem dX12_worthOf_126 : decode cX12_worthOf 126 = .ok (.getfield 26, 3) := by decide +kernel
theorem dX12_worthOf_129 : decode cX12_worthOf 129 = .ok (.iload_n 1, 1) := by decide +kernel
theorem dX12_worthOf_130 : decode cX12_worthOf 130 = .ok (.iaload, 1) := by decide +kernel
theorem dX12_worthOf_131 : decode cX12_worthOf 131 = .ok (.iadd, 1) := by decide +kernel
theorem dX12_worthOf_132 : decode cX12_worthOf 132 = .ok (.istore 6, 2) := by decide +kernel
theorem dX12_worthOf_134 : decode cX12_worthOf 134 = .ok (.goto 25, 3) := by decide +kernel
theorem dX12_worthOf_137 : decode cX12_worthOf 137 = .ok (.iload 4, 2) := by decide +kernel
theorem dX12_worthOf_139 : decode cX12_worthOf 139 = .ok (.iconst 2, 1) := by decide +kernel
theorem dX12_worthOf_140 : decode cX12_worthOf 140 = .ok (.idiv, 1) := by decide +kernel
theorem dX12_worthOf_141 : decode cX12_worthOf 141 = .ok (.aload_n 0, 1) := by decide +kernel
theorem dX12_worthOf_142 : decode cX12_worthOf 142 = .ok (.getfield 32, 3) := by decide +kernel
theorem dX12_worthOf_145 : decode cX12_worthOf 145 = .ok (.iconst 4, 1) := by decide +kernel
theorem dX12_worthOf_146 : decode cX12_worthOf 146 = .ok (.iload_n 1, 1) := by decide +kernel
theorem dX12_worthOf_147 : decode cX12_worthOf 147 = .ok (.imul, 1) := by decide +kernel
theorem dX12_worthOf_148 : decode cX12_worthOf 148 = .ok (.iload_n 2, 1) := by decide +kernel
theorem dX12_worthOf_149 : decode cX12_worthOf 149 = .ok (.iconst 4, 1) := by decide +kernel
theorem dX12_worthOf_150 : decode cX12_worthOf 150 = .ok (.irem, 1) := by decide +kernel
theorem dX12_worthOf_151 : decode cX12_worthOf 151 = .ok (.iadd, 1) := by decide +kernel
theorem dX12_worthOf_152 : decode cX12_worthOf 152 = .ok (.iaload, 1) := by decide +kernel
theorem dX12_worthOf_153 : decode cX12_worthOf 153 = .ok (.iadd, 1) := by decide +kernel
theorem dX12_worthOf_154 : decode cX12_worthOf 154 = .ok (.istore 6, 2) := by decide +kernel
theorem dX12_worthOf_156 : decode cX12_worthOf 156 = .ok (.goto 3, 3) := by decide +kernel
theorem dX12_worthOf_159 : decode cX12_worthOf 159 = .ok (.iload 6, 2) := by decide +kernel
theorem dX12_worthOf_161 : decode cX12_worthOf 161 = .ok (.ifCond .ge 7, 3) := by decide +kernel
theorem dX12_worthOf_164 : decode cX12_worthOf 164 = .ok (.iconst 0, 1) := by decide +kernel
theorem dX12_worthOf_165 : decode cX12_worthOf 165 = .ok (.goto 5, 3) := by decide +kernel
theorem dX12_worthOf_168 : decode cX12_worthOf 168 = .ok (.iload 6, 2) := by decide +kernel
theorem dX12_worthOf_170 : decode cX12_worthOf 170 = .ok (.ireturn, 1) := by decide +kernel
set_option maxRecDepth 20000 in
theorem ggX12_of_X12_isNeed : GoodIn wsX12_of wsX12_isNeed := goodIn_r _ [10, 11, 12, 13, 14, 9, 15, 49, 50, 51, 52, 53, 54, 55, 56, 57, 58, 59, 60, 61, 62, 63, 64, 65, 66, 67, 68, 69, 70, 71, 72, 73, 74, 75, 76, 77, 78, 79, 80, 81, 82, 83, 84, 85, 86, 87, 88, 89, 90, 91, 92, 93, 94, 95, 96, 97, 98, 99, 100, 101, 102, 103, 104, 105, 106, 107, 108, 109, 110, 111] (by decide +kernel) (by decide +kernel)
set_option maxRecDepth 20000 in
theorem gX12_of_X12_isNeed : GoodIn wsX12_of (wsV RX12 215 RX12 yX12_isNeed wsX12_isNeed) := goodIn_app (goodIn_of _ (by decide +kernel)) ggX12_of_X12_isNeed
set_option maxRecDepth 20000 in
theorem ggX12_of_X12_worthOf : GoodIn wsX12_of wsX12_worthOf := goodIn_r _ [19, 1, 2, 20, 21, 22, 23, 9, 24, 25, 26, 27, 28, 29, 30, 31, 32, 33, 34, 35, 36, 37, 38, 39, 40, 41, 42, 43, 44, 45, 46, 47, 48, 49, 50, 51, 52, 53, 54, 55, 56, 57, 58, 59, 60, 61, 62, 63, 64, 65, 66, 67, 68, 69, 70, 71, 72, 73, 74, 75, 76, 77, 78, 79, 80, 81, 82, 83, 84, 85, 86, 87, 88, 89, 90, 91, 92, 93, 94, 95, 96, 97, 98, 99, 100, 101, 102, 103, 104, 105, 106, 107, 108, 109, 110, 111] (by decide +kernel) (by decide +kernel)
set_option maxRecDepth 20000 in
theorem gX12_of_X12_worthOf : GoodIn wsX12_of (wsV RX12 282 RX12 yX12_worthOf wsX12_worthOf) := goodIn_app (goodIn_of _ (by decide +kernel)) ggX12_of_X12_worthOf
theorem dX12_of_0 : decode cX12_of 0 = .ok (.aload_n 0, 1) := by decide +kernel
theorem dX12_of_1 : decode cX12_of 1 = .ok (.iload_n 1, 1) := by decide +kernel
theorem dX12_of_2 : decode cX12_of 2 = .ok (.invokevirtual 215, 3) := by decide +kernel
theorem dX12_of_5 : decode cX12_of 5 = .ok (.ifCond .ne 5, 3) := by decide +kernel
theorem dX12_of_8 : decode cX12_of 8 = .ok (.iconst (-1), 1) := by decide +kernel
theorem dX12_of_9 : decode cX12_of 9 = .ok (.ireturn, 1) := by decide +kernel
theorem dX12_of_10 : decode cX12_of 10 = .ok (.iload_n 2, 1) := by decide +kernel
theorem dX12_of_11 : decode cX12_of 11 = .ok (.tableswitch 64 0 3 #[29, 36, 43, 50], 29) := by decide +kernel
theorem dX12_of_40 : decode cX12_of 40 = .ok (.aload_n 0, 1) := by decide +kernel
theorem dX12_of_41 : decode cX12_of 41 = .ok (.getfield 22, 3) := by decide +kernel
theorem dX12_of_44 : decode cX12_of 44 = .ok (.iload_n 1, 1) := by decide +kernel
theorem dX12_of_45 : decode cX12_of 45 = .ok (.iaload, 1) := by decide +kernel
theorem dX12_of_46 : decode cX12_of 46 = .ok (.ireturn, 1) := by decide +kernel
theorem dX12_of_47 : decode cX12_of 47 = .ok (.aload_n 0, 1) := by decide +kernel
theorem dX12_of_48 : decode cX12_of 48 = .ok (.getfield 26, 3) := by decide +kernel
theorem dX12_of_51 : decode cX12_of 51 = .ok (.iload_n 1, 1) := by decide +kernel
theorem dX12_of_52 : decode cX12_of 52 = .ok (.iaload, 1) := by decide +kernel
theorem dX12_of_53 : decode cX12_of 53 = .ok (.ireturn, 1) := by decide +kernel
theorem dX12_of_54 : decode cX12_of 54 = .ok (.aload_n 0, 1) := by decide +kernel
theorem dX12_of_55 : decode cX12_of 55 = .ok (.getfield 29, 3) := by decide +kernel
theorem dX12_of_58 : decode cX12_of 58 = .ok (.iload_n 1, 1) := by decide +kernel
theorem dX12_of_59 : decode cX12_of 59 = .ok (.iaload, 1) := by decide +kernel
theorem dX12_of_60 : decode cX12_of 60 = .ok (.ireturn, 1) := by decide +kernel
theorem dX12_of_61 : decode cX12_of 61 = .ok (.aload_n 0, 1) := by decide +kernel
theorem dX12_of_62 : decode cX12_of 62 = .ok (.iload_n 1, 1) := by decide +kernel
theorem dX12_of_63 : decode cX12_of 63 = .ok (.aload_n 0, 1) := by decide +kernel
theorem dX12_of_64 : decode cX12_of 64 = .ok (.getfield 19, 3) := by decide +kernel
theorem dX12_of_67 : decode cX12_of 67 = .ok (.aload_n 0, 1) := by decide +kernel
theorem dX12_of_68 : decode cX12_of 68 = .ok (.getfield 13, 3) := by decide +kernel
theorem dX12_of_71 : decode cX12_of 71 = .ok (.invokevirtual 282, 3) := by decide +kernel
theorem dX12_of_74 : decode cX12_of 74 = .ok (.ireturn, 1) := by decide +kernel
theorem dX12_of_75 : decode cX12_of 75 = .ok (.iconst (-1), 1) := by decide +kernel
theorem dX12_of_76 : decode cX12_of 76 = .ok (.ireturn, 1) := by decide +kernel
set_option maxRecDepth 20000 in
theorem ggX12_worth_X12_isNeed : GoodIn wsX12_worth wsX12_isNeed := goodIn_r _ [6, 7, 8, 9, 10, 5, 11, 51, 52, 53, 54, 55, 56, 57, 58, 59, 60, 61, 62, 63, 64, 65, 66, 67, 68, 69, 70, 71, 72, 73, 74, 75, 76, 77, 78, 79, 80, 81, 82, 83, 84, 85, 86, 87, 88, 89, 90, 91, 92, 93, 94, 95, 96, 97, 98, 99, 100, 101, 102, 103, 104, 105, 106, 107, 108, 109, 110, 111, 112, 113] (by decide +kernel) (by decide +kernel)
set_option maxRecDepth 20000 in
theorem gX12_worth_X12_isNeed : GoodIn wsX12_worth (wsV RX12 215 RX12 yX12_isNeed wsX12_isNeed) := goodIn_app (goodIn_of _ (by decide +kernel)) ggX12_worth_X12_isNeed
set_option maxRecDepth 20000 in
theorem ggX12_worth_X12_in : GoodIn wsX12_worth wsX12_in := goodIn_r _ [11] (by decide +kernel) (by decide +kernel)
set_option maxRecDepth 20000 in
theorem gX12_worth_X12_in : GoodIn wsX12_worth (wsV RX12 207 RX12 yX12_in wsX12_in) := goodIn_app (goodIn_of _ (by decide +kernel)) ggX12_worth_X12_in
set_option maxRecDepth 20000 in
theorem ggX12_worth_X12_isDarks : GoodIn wsX12_worth wsX12_isDarks := goodIn_r _ [15, 8, 9, 10, 5, 11] (by decide +kernel) (by decide +kernel)
set_option maxRecDepth 20000 in
theorem gX12_worth_X12_isDarks : GoodIn wsX12_worth (wsV RX12 211 RX12 yX12_isDarks wsX12_isDarks) := goodIn_app (goodIn_of _ (by decide +kernel)) ggX12_worth_X12_isDarks
set_option maxRecDepth 20000 in
theorem ggX12_worth_X12_worthOf : GoodIn wsX12_worth wsX12_worthOf := goodIn_r _ [19, 20, 21, 22, 23, 24, 25, 5, 26, 27, 28, 29, 30, 31, 32, 33, 34, 35, 36, 37, 38, 39, 40, 41, 42, 43, 44, 45, 46, 47, 48, 49, 50, 51, 52, 53, 54, 55, 56, 57, 58, 59, 60, 61, 62, 63, 64, 65, 66, 67, 68, 69, 70, 71, 72, 73, 74, 75, 76, 77, 78, 79, 80, 81, 82, 83, 84, 85, 86, 87, 88, 89, 90, 91, 92, 93, 94, 95, 96, 97, 98, 99, 100, 101, 102, 103, 104, 105, 106, 107, 108, 109, 110, 111, 112, 113] (by decide +kernel) (by decide +kernel)
set_option maxRecDepth 20000 in
theorem gX12_worth_X12_worthOf : GoodIn wsX12_worth (wsV RX12 282 RX12 yX12_worthOf wsX12_worthOf) := goodIn_app (goodIn_of _ (by decide +kernel)) ggX12_worth_X12_worthOf
theorem dX12_worth_0 : decode cX12_worth 0 = .ok (.aload_n 0, 1) := by decide +kernel
theorem dX12_worth_1 : decode cX12_worth 1 = .ok (.iload_n 1, 1) := by decide +kernel
theorem dX12_worth_2 : decode cX12_worth 2 = .ok (.invokevirtual 215, 3) := by decide +kernel
theorem dX12_worth_5 : decode cX12_worth 5 = .ok (.ifCond .ne 5, 3) := by decide +kernel
theorem dX12_worth_8 : decode cX12_worth 8 = .ok (.iconst (-1), 1) := by decide +kernel
theorem dX12_worth_9 : decode cX12_worth 9 = .ok (.ireturn, 1) := by decide +kernel
theorem dX12_worth_10 : decode cX12_worth 10 = .ok (.aload_n 0, 1) := by decide +kernel
theorem dX12_worth_11 : decode cX12_worth 11 = .ok (.iload_n 2, 1) := by decide +kernel
theorem dX12_worth_12 : decode cX12_worth 12 = .ok (.iconst 0, 1) := by decide +kernel
theorem dX12_worth_13 : decode cX12_worth 13 = .ok (.bipush 60, 2) := by decide +kernel
theorem dX12_worth_15 : decode cX12_worth 15 = .ok (.invokevirtual 207, 3) := by decide +kernel
theorem dX12_worth_18 : decode cX12_worth 18 = .ok (.ifCond .eq 26, 3) := by decide +kernel
theorem dX12_worth_21 : decode cX12_worth 21 = .ok (.aload_n 0, 1) := by decide +kernel
theorem dX12_worth_22 : decode cX12_worth 22 = .ok (.iload_n 3, 1) := by decide +kernel
theorem dX12_worth_23 : decode cX12_worth 23 = .ok (.invokevirtual 211, 3) := by decide +kernel
theorem dX12_worth_26 : decode cX12_worth 26 = .ok (.ifCond .eq 18, 3) := by decide +kernel
theorem dX12_worth_29 : decode cX12_worth 29 = .ok (.aload_n 0, 1) := by decide +kernel
theorem dX12_worth_30 : decode cX12_worth 30 = .ok (.iload_n 1, 1) := by decide +kernel
theorem dX12_worth_31 : decode cX12_worth 31 = .ok (.aload_n 0, 1) := by decide +kernel
theorem dX12_worth_32 : decode cX12_worth 32 = .ok (.getfield 19, 3) := by decide +kernel
theorem dX12_worth_35 : decode cX12_worth 35 = .ok (.iload_n 2, 1) := by decide +kernel
theorem dX12_worth_36 : decode cX12_worth 36 = .ok (.iadd, 1) := by decide +kernel
theorem dX12_worth_37 : decode cX12_worth 37 = .ok (.iload_n 3, 1) := by decide +kernel
theorem dX12_worth_38 : decode cX12_worth 38 = .ok (.invokevirtual 282, 3) := by decide +kernel
theorem dX12_worth_41 : decode cX12_worth 41 = .ok (.goto 5, 3) := by decide +kernel
theorem dX12_worth_44 : decode cX12_worth 44 = .ok (.bipush (-2), 2) := by decide +kernel
theorem dX12_worth_46 : decode cX12_worth 46 = .ok (.ireturn, 1) := by decide +kernel
theorem dX12_held_0 : decode cX12_held 0 = .ok (.iload_n 1, 1) := by decide +kernel
theorem dX12_held_1 : decode cX12_held 1 = .ok (.ldc_w 285, 3) := by decide +kernel
theorem dX12_held_4 : decode cX12_held 4 = .ok (.if_icmp .le 9, 3) := by decide +kernel
theorem dX12_held_7 : decode cX12_held 7 = .ok (.ldc_w 285, 3) := by decide +kernel
theorem dX12_held_10 : decode cX12_held 10 = .ok (.goto 17, 3) := by decide +kernel
theorem dX12_held_13 : decode cX12_held 13 = .ok (.iload_n 1, 1) := by decide +kernel
theorem dX12_held_14 : decode cX12_held 14 = .ok (.ldc_w 286, 3) := by decide +kernel
theorem dX12_held_17 : decode cX12_held 17 = .ok (.if_icmp .ge 9, 3) := by decide +kernel
theorem dX12_held_20 : decode cX12_held 20 = .ok (.ldc_w 286, 3) := by decide +kernel
theorem dX12_held_23 : decode cX12_held 23 = .ok (.goto 4, 3) := by decide +kernel
theorem dX12_held_26 : decode cX12_held 26 = .ok (.iload_n 1, 1) := by decide +kernel
theorem dX12_held_27 : decode cX12_held 27 = .ok (.ireturn, 1) := by decide +kernel
set_option maxRecDepth 20000 in
theorem ggX12_serve_X12_isNeed : GoodIn wsX12_serve wsX12_isNeed := goodIn_r _ [11, 12, 13, 14, 15, 10, 16, 62, 63, 64, 65, 66, 67, 68, 69, 70, 71, 72, 73, 74, 75, 76, 77, 78, 79, 80, 81, 82, 83, 84, 85, 86, 87, 88, 89, 90, 91, 92, 93, 94, 95, 96, 97, 98, 99, 100, 101, 102, 103, 104, 105, 106, 107, 108, 109, 110, 111, 112, 113, 114, 115, 116, 117, 118, 119, 120, 121, 122, 123, 124] (by decide +kernel) (by decide +kernel)
set_option maxRecDepth 20000 in
theorem gX12_serve_X12_isNeed : GoodIn wsX12_serve (wsV RX12 215 RX12 yX12_isNeed wsX12_isNeed) := goodIn_app (goodIn_of _ (by decide +kernel)) ggX12_serve_X12_isNeed
set_option maxRecDepth 20000 in
theorem ggX12_serve_X12_worthOf : GoodIn wsX12_serve wsX12_worthOf := goodIn_r _ [20, 21, 22, 23, 24, 25, 26, 10, 27, 28, 29, 30, 31, 32, 33, 34, 35, 36, 37, 38, 39, 40, 41, 42, 43, 44, 45, 46, 47, 48, 49, 50, 51, 62, 63, 64, 65, 66, 67, 68, 69, 70, 71, 72, 73, 74, 75, 76, 77, 78, 79, 80, 81, 82, 83, 84, 85, 86, 87, 88, 89, 90, 91, 92, 93, 94, 95, 96, 97, 98, 99, 100, 101, 102, 103, 104, 105, 106, 107, 108, 109, 110, 111, 112, 113, 114, 115, 116, 117, 118, 119, 120, 121, 122, 123, 124] (by decide +kernel) (by decide +kernel)
set_option maxRecDepth 20000 in
theorem gX12_serve_X12_worthOf : GoodIn wsX12_serve (wsV RX12 282 RX12 yX12_worthOf wsX12_worthOf) := goodIn_app (goodIn_of _ (by decide +kernel)) ggX12_serve_X12_worthOf
set_option maxRecDepth 20000 in
theorem ggX12_serve_X12_keep : GoodIn wsX12_serve wsX12_keep := goodIn_r _ [55, 28, 29, 30, 31, 32, 10, 33, 34, 35, 36, 37, 38, 39, 62, 63, 64, 65, 66, 67, 68, 69, 70, 71, 72, 73, 74, 75, 76, 77, 78, 79, 80, 81, 82, 83, 84, 85, 86, 87, 88, 89, 90, 91, 92, 93, 94, 95, 96, 97, 98, 99, 100, 101, 102, 103, 104, 105, 106, 107, 108, 109, 110, 111, 112, 113, 114, 115, 116, 117, 118, 119, 120, 121, 122, 123, 124] (by decide +kernel) (by decide +kernel)
set_option maxRecDepth 20000 in
theorem gX12_serve_X12_keep : GoodIn wsX12_serve (wsV RX12 289 RX12 yX12_keep wsX12_keep) := goodIn_app (goodIn_of _ (by decide +kernel)) ggX12_serve_X12_keep
set_option maxRecDepth 20000 in
theorem ggX12_serve_X12_held : GoodIn wsX12_serve wsX12_held := goodIn_r _ [59, 60, 61] (by decide +kernel) (by decide +kernel)
set_option maxRecDepth 20000 in
theorem gX12_serve_X12_held : GoodIn wsX12_serve (wsV RX12 292 RX12 yX12_held wsX12_held) := goodIn_app (goodIn_of _ (by decide +kernel)) ggX12_serve_X12_held
theorem dX12_serve_0 : decode cX12_serve 0 = .ok (.aload_n 0, 1) := by decide +kernel
theorem dX12_serve_1 : decode cX12_serve 1 = .ok (.iload_n 1, 1) := by decide +kernel
theorem dX12_serve_2 : decode cX12_serve 2 = .ok (.invokevirtual 215, 3) := by decide +kernel
theorem dX12_serve_5 : decode cX12_serve 5 = .ok (.ifCond .ne 7, 3) := by decide +kernel
theorem dX12_serve_8 : decode cX12_serve 8 = .ok (.ldc_w 287, 3) := by decide +kernel
theorem dX12_serve_11 : decode cX12_serve 11 = .ok (.ireturn, 1) := by decide +kernel
theorem dX12_serve_12 : decode cX12_serve 12 = .ok (.aload_n 0, 1) := by decide +kernel
theorem dX12_serve_13 : decode cX12_serve 13 = .ok (.getfield 13, 3) := by decide +kernel
theorem dX12_serve_16 : decode cX12_serve 16 = .ok (.ifCond .eq 25, 3) := by decide +kernel
theorem dX12_serve_19 : decode cX12_serve 19 = .ok (.aload_n 0, 1) := by decide +kernel
theorem dX12_serve_20 : decode cX12_serve 20 = .ok (.getfield 19, 3) := by decide +kernel
theorem dX12_serve_23 : decode cX12_serve 23 = .ok (.sipush 9999, 3) := by decide +kernel
theorem dX12_serve_26 : decode cX12_serve 26 = .ok (.if_icmp .eq 15, 3) := by decide +kernel
theorem dX12_serve_29 : decode cX12_serve 29 = .ok (.aload_n 0, 1) := by decide +kernel
theorem dX12_serve_30 : decode cX12_serve 30 = .ok (.getfield 29, 3) := by decide +kernel
theorem dX12_serve_33 : decode cX12_serve 33 = .ok (.iload_n 1, 1) := by decide +kernel
theorem dX12_serve_34 : decode cX12_serve 34 = .ok (.iaload, 1) := by decide +kernel
theorem dX12_serve_35 : decode cX12_serve 35 = .ok (.sipush 9999, 3) := by decide +kernel
theorem dX12_serve_38 : decode cX12_serve 38 = .ok (.if_icmp .ne 7, 3) := by decide +kernel
theorem dX12_serve_41 : decode cX12_serve 41 = .ok (.ldc_w 288, 3) := by decide +kernel
theorem dX12_serve_44 : decode cX12_serve 44 = .ok (.ireturn, 1) := by decide +kernel
theorem dX12_serve_45 : decode cX12_serve 45 = .ok (.aload_n 0, 1) := by decide +kernel
theorem dX12_serve_46 : decode cX12_serve 46 = .ok (.iload_n 1, 1) := by decide +kernel
theorem dX12_serve_47 : decode cX12_serve 47 = .ok (.aload_n 0, 1) := by decide +kernel
theorem dX12_serve_48 : decode cX12_serve 48 = .ok (.getfield 19, 3) := by decide +kernel
theorem dX12_serve_51 : decode cX12_serve 51 = .ok (.aload_n 0, 1) := by decide +kernel
theorem dX12_serve_52 : decode cX12_serve 52 = .ok (.getfield 13, 3) := by decide +kernel
theorem dX12_serve_55 : decode cX12_serve 55 = .ok (.invokevirtual 282, 3) := by decide +kernel
theorem dX12_serve_58 : decode cX12_serve 58 = .ok (.istore_n 2, 1) := by decide +kernel
theorem dX12_serve_59 : decode cX12_serve 59 = .ok (.aload_n 0, 1) := by decide +kernel
theorem dX12_serve_60 : decode cX12_serve 60 = .ok (.dup, 1) := by decide +kernel
theorem dX12_serve_61 : decode cX12_serve 61 = .ok (.getfield 13, 3) := by decide +kernel
theorem dX12_serve_64 : decode cX12_serve 64 = .ok (.iconst 1, 1) := by decide +kernel
theorem dX12_serve_65 : decode cX12_serve 65 = .ok (.isub, 1) := by decide +kernel
theorem dX12_serve_66 : decode cX12_serve 66 = .ok (.putfield 13, 3) := by decide +kernel
theorem dX12_serve_69 : decode cX12_serve 69 = .ok (.aload_n 0, 1) := by decide +kernel
theorem dX12_serve_70 : decode cX12_serve 70 = .ok (.getfield 29, 3) := by decide +kernel
theorem dX12_serve_73 : decode cX12_serve 73 = .ok (.iload_n 1, 1) := by decide +kernel
theorem dX12_serve_74 : decode cX12_serve 74 = .ok (.dup2, 1) := by decide +kernel
theorem dX12_serve_75 : decode cX12_serve 75 = .ok (.iaload, 1) := by decide +kernel
theorem dX12_serve_76 : decode cX12_serve 76 = .ok (.iconst 1, 1) := by decide +kernel
theorem dX12_serve_77 : decode cX12_serve 77 = .ok (.iadd, 1) := by decide +kernel
theorem dX12_serve_78 : decode cX12_serve 78 = .ok (.iastore, 1) := by decide +kernel
theorem dX12_serve_79 : decode cX12_serve 79 = .ok (.aload_n 0, 1) := by decide +kernel
theorem dX12_serve_80 : decode cX12_serve 80 = .ok (.aload_n 0, 1) := by decide +kernel
theorem dX12_serve_81 : decode cX12_serve 81 = .ok (.aload_n 0, 1) := by decide +kernel
theorem dX12_serve_82 : decode cX12_serve 82 = .ok (.getfield 16, 3) := by decide +kernel
theorem dX12_serve_85 : decode cX12_serve 85 = .ok (.iload_n 2, 1) := by decide +kernel
theorem dX12_serve_86 : decode cX12_serve 86 = .ok (.iadd, 1) := by decide +kernel
theorem dX12_serve_87 : decode cX12_serve 87 = .ok (.aload_n 0, 1) := by decide +kernel
theorem dX12_serve_88 : decode cX12_serve 88 = .ok (.invokevirtual 289, 3) := by decide +kernel
theorem dX12_serve_91 : decode cX12_serve 91 = .ok (.aload_n 0, 1) := by decide +kernel
theorem dX12_serve_92 : decode cX12_serve 92 = .ok (.getfield 13, 3) := by decide +kernel
theorem dX12_serve_95 : decode cX12_serve 95 = .ok (.imul, 1) := by decide +kernel
theorem dX12_serve_96 : decode cX12_serve 96 = .ok (.isub, 1) := by decide +kernel
theorem dX12_serve_97 : decode cX12_serve 97 = .ok (.invokevirtual 292, 3) := by decide +kernel
theorem dX12_serve_100 : decode cX12_serve 100 = .ok (.putfield 16, 3) := by decide +kernel
theorem dX12_serve_103 : decode cX12_serve 103 = .ok (.aload_n 0, 1) := by decide +kernel
theorem dX12_serve_104 : decode cX12_serve 104 = .ok (.dup, 1) := by decide +kernel
theorem dX12_serve_105 : decode cX12_serve 105 = .ok (.getfield 19, 3) := by decide +kernel
theorem dX12_serve_108 : decode cX12_serve 108 = .ok (.iconst 1, 1) := by decide +kernel
theorem dX12_serve_109 : decode cX12_serve 109 = .ok (.iadd, 1) := by decide +kernel
theorem dX12_serve_110 : decode cX12_serve 110 = .ok (.putfield 19, 3) := by decide +kernel
theorem dX12_serve_113 : decode cX12_serve 113 = .ok (.aload_n 0, 1) := by decide +kernel
theorem dX12_serve_114 : decode cX12_serve 114 = .ok (.getfield 16, 3) := by decide +kernel
theorem dX12_serve_117 : decode cX12_serve 117 = .ok (.ireturn, 1) := by decide +kernel
set_option maxRecDepth 20000 in
theorem ggX12_spare_X12_isNeed : GoodIn wsX12_spare wsX12_isNeed := goodIn_r _ [10, 11, 12, 13, 14, 9, 15, 38, 39, 40, 41, 42, 43, 44, 45, 46, 47, 48, 49, 50, 51, 52, 53, 54, 55, 56, 57, 58, 59, 60, 61, 62, 63, 64, 65, 66, 67, 68, 69, 70, 71, 72, 73, 74, 75, 76, 77, 78, 79, 80, 81, 82, 83, 84, 85, 86, 87, 88, 89, 90, 91, 92, 93, 94, 95, 96, 97, 98, 99, 100] (by decide +kernel) (by decide +kernel)
set_option maxRecDepth 20000 in
theorem gX12_spare_X12_isNeed : GoodIn wsX12_spare (wsV RX12 215 RX12 yX12_isNeed wsX12_isNeed) := goodIn_app (goodIn_of _ (by decide +kernel)) ggX12_spare_X12_isNeed
set_option maxRecDepth 20000 in
theorem ggX12_spare_X12_keep : GoodIn wsX12_spare wsX12_keep := goodIn_r _ [19, 20, 21, 22, 23, 24, 9, 25, 26, 27, 28, 29, 30, 31, 38, 39, 40, 41, 42, 43, 44, 45, 46, 47, 48, 49, 50, 51, 52, 53, 54, 55, 56, 57, 58, 59, 60, 61, 62, 63, 64, 65, 66, 67, 68, 69, 70, 71, 72, 73, 74, 75, 76, 77, 78, 79, 80, 81, 82, 83, 84, 85, 86, 87, 88, 89, 90, 91, 92, 93, 94, 95, 96, 97, 98, 99, 100] (by decide +kernel) (by decide +kernel)
set_option maxRecDepth 20000 in
theorem gX12_spare_X12_keep : GoodIn wsX12_spare (wsV RX12 289 RX12 yX12_keep wsX12_keep) := goodIn_app (goodIn_of _ (by decide +kernel)) ggX12_spare_X12_keep
set_option maxRecDepth 20000 in
theorem ggX12_spare_X12_held : GoodIn wsX12_spare wsX12_held := goodIn_r _ [35, 36, 37] (by decide +kernel) (by decide +kernel)
set_option maxRecDepth 20000 in
theorem gX12_spare_X12_held : GoodIn wsX12_spare (wsV RX12 292 RX12 yX12_held wsX12_held) := goodIn_app (goodIn_of _ (by decide +kernel)) ggX12_spare_X12_held
theorem dX12_spare_0 : decode cX12_spare 0 = .ok (.aload_n 0, 1) := by decide +kernel
theorem dX12_spare_1 : decode cX12_spare 1 = .ok (.iload_n 1, 1) := by decide +kernel
theorem dX12_spare_2 : decode cX12_spare 2 = .ok (.invokevirtual 215, 3) := by decide +kernel
theorem dX12_spare_5 : decode cX12_spare 5 = .ok (.ifCond .ne 7, 3) := by decide +kernel
theorem dX12_spare_8 : decode cX12_spare 8 = .ok (.ldc_w 287, 3) := by decide +kernel
theorem dX12_spare_11 : decode cX12_spare 11 = .ok (.ireturn, 1) := by decide +kernel
theorem dX12_spare_12 : decode cX12_spare 12 = .ok (.aload_n 0, 1) := by decide +kernel
theorem dX12_spare_13 : decode cX12_spare 13 = .ok (.getfield 19, 3) := by decide +kernel
theorem dX12_spare_16 : decode cX12_spare 16 = .ok (.sipush 9999, 3) := by decide +kernel
theorem dX12_spare_19 : decode cX12_spare 19 = .ok (.if_icmp .ne 7, 3) := by decide +kernel
theorem dX12_spare_22 : decode cX12_spare 22 = .ok (.ldc_w 288, 3) := by decide +kernel
theorem dX12_spare_25 : decode cX12_spare 25 = .ok (.ireturn, 1) := by decide +kernel
theorem dX12_spare_26 : decode cX12_spare 26 = .ok (.aload_n 0, 1) := by decide +kernel
theorem dX12_spare_27 : decode cX12_spare 27 = .ok (.aload_n 0, 1) := by decide +kernel
theorem dX12_spare_28 : decode cX12_spare 28 = .ok (.aload_n 0, 1) := by decide +kernel
theorem dX12_spare_29 : decode cX12_spare 29 = .ok (.getfield 16, 3) := by decide +kernel
theorem dX12_spare_32 : decode cX12_spare 32 = .ok (.aload_n 0, 1) := by decide +kernel
theorem dX12_spare_33 : decode cX12_spare 33 = .ok (.invokevirtual 289, 3) := by decide +kernel
theorem dX12_spare_36 : decode cX12_spare 36 = .ok (.aload_n 0, 1) := by decide +kernel
theorem dX12_spare_37 : decode cX12_spare 37 = .ok (.getfield 13, 3) := by decide +kernel
theorem dX12_spare_40 : decode cX12_spare 40 = .ok (.imul, 1) := by decide +kernel
theorem dX12_spare_41 : decode cX12_spare 41 = .ok (.isub, 1) := by decide +kernel
theorem dX12_spare_42 : decode cX12_spare 42 = .ok (.invokevirtual 292, 3) := by decide +kernel
theorem dX12_spare_45 : decode cX12_spare 45 = .ok (.putfield 16, 3) := by decide +kernel
theorem dX12_spare_48 : decode cX12_spare 48 = .ok (.aload_n 0, 1) := by decide +kernel
theorem dX12_spare_49 : decode cX12_spare 49 = .ok (.dup, 1) := by decide +kernel
theorem dX12_spare_50 : decode cX12_spare 50 = .ok (.getfield 19, 3) := by decide +kernel
theorem dX12_spare_53 : decode cX12_spare 53 = .ok (.iconst 1, 1) := by decide +kernel
theorem dX12_spare_54 : decode cX12_spare 54 = .ok (.iadd, 1) := by decide +kernel
theorem dX12_spare_55 : decode cX12_spare 55 = .ok (.putfield 19, 3) := by decide +kernel
theorem dX12_spare_58 : decode cX12_spare 58 = .ok (.aload_n 0, 1) := by decide +kernel
theorem dX12_spare_59 : decode cX12_spare 59 = .ok (.getfield 16, 3) := by decide +kernel
theorem dX12_spare_62 : decode cX12_spare 62 = .ok (.ireturn, 1) := by decide +kernel
set_option maxRecDepth 20000 in
theorem ggX12_told_X12_keep : GoodIn wsX12_told wsX12_keep := goodIn_r _ [9, 10, 11, 12, 13, 14, 8, 15, 16, 17, 18, 19, 20, 21, 22, 23, 24, 25, 26, 27, 28, 29, 30, 31, 32, 33, 34, 35, 36, 37, 38, 39, 40, 41, 42, 43, 44, 45, 46, 47, 48, 49, 50, 51, 52, 53, 54, 55, 56, 57, 58, 59, 60, 61, 62, 63, 64, 65, 66, 67, 68, 69, 70, 71, 72, 73, 74, 75, 76, 77, 78, 79, 80, 81, 82, 83, 84] (by decide +kernel) (by decide +kernel)
set_option maxRecDepth 20000 in
theorem gX12_told_X12_keep : GoodIn wsX12_told (wsV RX12 289 RX12 yX12_keep wsX12_keep) := goodIn_app (goodIn_of _ (by decide +kernel)) ggX12_told_X12_keep
theorem dX12_told_0 : decode cX12_told 0 = .ok (.iload_n 1, 1) := by decide +kernel
theorem dX12_told_1 : decode cX12_told 1 = .ok (.tableswitch 51 0 3 #[31, 36, 41, 46], 31) := by decide +kernel
theorem dX12_told_32 : decode cX12_told 32 = .ok (.aload_n 0, 1) := by decide +kernel
theorem dX12_told_33 : decode cX12_told 33 = .ok (.getfield 19, 3) := by decide +kernel
theorem dX12_told_36 : decode cX12_told 36 = .ok (.ireturn, 1) := by decide +kernel
theorem dX12_told_37 : decode cX12_told 37 = .ok (.aload_n 0, 1) := by decide +kernel
theorem dX12_told_38 : decode cX12_told 38 = .ok (.getfield 13, 3) := by decide +kernel
theorem dX12_told_41 : decode cX12_told 41 = .ok (.ireturn, 1) := by decide +kernel
theorem dX12_told_42 : decode cX12_told 42 = .ok (.aload_n 0, 1) := by decide +kernel
theorem dX12_told_43 : decode cX12_told 43 = .ok (.getfield 16, 3) := by decide +kernel
theorem dX12_told_46 : decode cX12_told 46 = .ok (.ireturn, 1) := by decide +kernel
theorem dX12_told_47 : decode cX12_told 47 = .ok (.aload_n 0, 1) := by decide +kernel
theorem dX12_told_48 : decode cX12_told 48 = .ok (.invokevirtual 289, 3) := by decide +kernel
theorem dX12_told_51 : decode cX12_told 51 = .ok (.ireturn, 1) := by decide +kernel
theorem dX12_told_52 : decode cX12_told 52 = .ok (.ldc_w 287, 3) := by decide +kernel
theorem dX12_told_55 : decode cX12_told 55 = .ok (.ireturn, 1) := by decide +kernel
theorem dX12_ways_0 : decode cX12_ways 0 = .ok (.lconst 1, 1) := by decide +kernel
theorem dX12_ways_1 : decode cX12_ways 1 = .ok (.lstore_n 2, 1) := by decide +kernel
theorem dX12_ways_2 : decode cX12_ways 2 = .ok (.iconst 0, 1) := by decide +kernel
theorem dX12_ways_3 : decode cX12_ways 3 = .ok (.istore 4, 2) := by decide +kernel
theorem dX12_ways_5 : decode cX12_ways 5 = .ok (.iload 4, 2) := by decide +kernel
theorem dX12_ways_7 : decode cX12_ways 7 = .ok (.iload_n 1, 1) := by decide +kernel
theorem dX12_ways_8 : decode cX12_ways 8 = .ok (.if_icmp .ge 17, 3) := by decide +kernel
theorem dX12_ways_11 : decode cX12_ways 11 = .ok (.lload_n 2, 1) := by decide +kernel
theorem dX12_ways_12 : decode cX12_ways 12 = .ok (.aload_n 0, 1) := by decide +kernel
theorem dX12_ways_13 : decode cX12_ways 13 = .ok (.getfield 7, 3) := by decide +kernel
theorem dX12_ways_16 : decode cX12_ways 16 = .ok (.i2l, 1) := by decide +kernel
theorem dX12_ways_17 : decode cX12_ways 17 = .ok (.lmul, 1) := by decide +kernel
theorem dX12_ways_18 : decode cX12_ways 18 = .ok (.lstore_n 2, 1) := by decide +kernel
theorem dX12_ways_19 : decode cX12_ways 19 = .ok (.iinc 4 1, 3) := by decide +kernel
theorem dX12_ways_22 : decode cX12_ways 22 = .ok (.goto (-17), 3) := by decide +kernel
theorem dX12_ways_25 : decode cX12_ways 25 = .ok (.lload_n 2, 1) := by decide +kernel
theorem dX12_ways_26 : decode cX12_ways 26 = .ok (.lreturn, 1) := by decide +kernel
set_option maxRecDepth 20000 in
theorem ggX12_ifServed_X12_ways : GoodIn wsX12_ifServed wsX12_ways := goodIn_r _ [7, 8, 48, 49, 50, 51, 52, 53, 54, 55, 56, 57, 58, 59, 60, 61, 62, 63, 64, 65, 66, 67, 68, 69, 70, 71, 72, 73, 74, 75, 76, 77, 78, 79, 80, 81, 82, 83, 84, 85, 86, 87, 88, 89, 90, 91, 92, 93, 94, 95, 96, 97, 98, 99, 100, 101, 102, 103, 104, 105, 106, 107, 108, 109, 110] (by decide +kernel) (by decide +kernel)
set_option maxRecDepth 20000 in
theorem gX12_ifServed_X12_ways : GoodIn wsX12_ifServed (wsV RX12 295 RX12 yX12_ways wsX12_ways) := goodIn_app (goodIn_of _ (by decide +kernel)) ggX12_ifServed_X12_ways
set_option maxRecDepth 20000 in
theorem ggX12_ifServed_X12_worthOf : GoodIn wsX12_ifServed wsX12_worthOf := goodIn_r _ [12, 13, 14, 15, 16, 17, 18, 6, 19, 20, 21, 22, 23, 24, 25, 26, 27, 28, 29, 30, 31, 32, 33, 34, 35, 36, 37, 38, 39, 40, 41, 42, 43, 48, 49, 50, 51, 52, 53, 54, 55, 56, 57, 58, 59, 60, 61, 62, 63, 64, 65, 66, 67, 68, 69, 70, 71, 72, 73, 74, 75, 76, 77, 78, 79, 80, 81, 82, 83, 84, 85, 86, 87, 88, 89, 90, 91, 92, 93, 94, 95, 96, 97, 98, 99, 100, 101, 102, 103, 104, 105, 106, 107, 108, 109, 110] (by decide +kernel) (by decide +kernel)
set_option maxRecDepth 20000 in
theorem gX12_ifServed_X12_worthOf : GoodIn wsX12_ifServed (wsV RX12 282 RX12 yX12_worthOf wsX12_worthOf) := goodIn_app (goodIn_of _ (by decide +kernel)) ggX12_ifServed_X12_worthOf
set_option maxRecDepth 20000 in
theorem ggX12_ifServed_X12_keep : GoodIn wsX12_ifServed wsX12_keep := goodIn_r _ [47, 20, 21, 22, 23, 24, 6, 25, 26, 27, 28, 29, 30, 31, 48, 49, 50, 51, 52, 53, 54, 55, 56, 57, 58, 59, 60, 61, 62, 63, 64, 65, 66, 67, 68, 69, 70, 71, 72, 73, 74, 75, 76, 77, 78, 79, 80, 81, 82, 83, 84, 85, 86, 87, 88, 89, 90, 91, 92, 93, 94, 95, 96, 97, 98, 99, 100, 101, 102, 103, 104, 105, 106, 107, 108, 109, 110] (by decide +kernel) (by decide +kernel)
set_option maxRecDepth 20000 in
theorem gX12_ifServed_X12_keep : GoodIn wsX12_ifServed (wsV RX12 289 RX12 yX12_keep wsX12_keep) := goodIn_app (goodIn_of _ (by decide +kernel)) ggX12_ifServed_X12_keep
theorem dX12_ifServed_0 : decode cX12_ifServed 0 = .ok (.aload_n 0, 1) := by decide +kernel
theorem dX12_ifServed_1 : decode cX12_ifServed 1 = .ok (.iload_n 3, 1) := by decide +kernel
theorem dX12_ifServed_2 : decode cX12_ifServed 2 = .ok (.iload_n 2, 1) := by decide +kernel
theorem dX12_ifServed_3 : decode cX12_ifServed 3 = .ok (.isub, 1) := by decide +kernel
theorem dX12_ifServed_4 : decode cX12_ifServed 4 = .ok (.iconst 1, 1) := by decide +kernel
theorem dX12_ifServed_5 : decode cX12_ifServed 5 = .ok (.isub, 1) := by decide +kernel
theorem dX12_ifServed_6 : decode cX12_ifServed 6 = .ok (.invokevirtual 295, 3) := by decide +kernel
theorem dX12_ifServed_9 : decode cX12_ifServed 9 = .ok (.aload_n 0, 1) := by decide +kernel
theorem dX12_ifServed_10 : decode cX12_ifServed 10 = .ok (.iload_n 1, 1) := by decide +kernel
theorem dX12_ifServed_11 : decode cX12_ifServed 11 = .ok (.aload_n 0, 1) := by decide +kernel
theorem dX12_ifServed_12 : decode cX12_ifServed 12 = .ok (.getfield 19, 3) := by decide +kernel
theorem dX12_ifServed_15 : decode cX12_ifServed 15 = .ok (.iload_n 2, 1) := by decide +kernel
theorem dX12_ifServed_16 : decode cX12_ifServed 16 = .ok (.iadd, 1) := by decide +kernel
theorem dX12_ifServed_17 : decode cX12_ifServed 17 = .ok (.iload 4, 2) := by decide +kernel
theorem dX12_ifServed_19 : decode cX12_ifServed 19 = .ok (.invokevirtual 282, 3) := by decide +kernel
theorem dX12_ifServed_22 : decode cX12_ifServed 22 = .ok (.aload_n 0, 1) := by decide +kernel
theorem dX12_ifServed_23 : decode cX12_ifServed 23 = .ok (.invokevirtual 289, 3) := by decide +kernel
theorem dX12_ifServed_26 : decode cX12_ifServed 26 = .ok (.iload 4, 2) := by decide +kernel
theorem dX12_ifServed_28 : decode cX12_ifServed 28 = .ok (.iconst 1, 1) := by decide +kernel
theorem dX12_ifServed_29 : decode cX12_ifServed 29 = .ok (.isub, 1) := by decide +kernel
theorem dX12_ifServed_30 : decode cX12_ifServed 30 = .ok (.imul, 1) := by decide +kernel
theorem dX12_ifServed_31 : decode cX12_ifServed 31 = .ok (.isub, 1) := by decide +kernel
theorem dX12_ifServed_32 : decode cX12_ifServed 32 = .ok (.i2l, 1) := by decide +kernel
theorem dX12_ifServed_33 : decode cX12_ifServed 33 = .ok (.lmul, 1) := by decide +kernel
theorem dX12_ifServed_34 : decode cX12_ifServed 34 = .ok (.aload_n 0, 1) := by decide +kernel
theorem dX12_ifServed_35 : decode cX12_ifServed 35 = .ok (.getfield 90, 3) := by decide +kernel
theorem dX12_ifServed_38 : decode cX12_ifServed 38 = .ok (.bipush 10, 2) := by decide +kernel
theorem dX12_ifServed_40 : decode cX12_ifServed 40 = .ok (.iload_n 2, 1) := by decide +kernel
theorem dX12_ifServed_41 : decode cX12_ifServed 41 = .ok (.imul, 1) := by decide +kernel
theorem dX12_ifServed_42 : decode cX12_ifServed 42 = .ok (.bipush 10, 2) := by decide +kernel
theorem dX12_ifServed_44 : decode cX12_ifServed 44 = .ok (.iadd, 1) := by decide +kernel
theorem dX12_ifServed_45 : decode cX12_ifServed 45 = .ok (.iload 4, 2) := by decide +kernel
theorem dX12_ifServed_47 : decode cX12_ifServed 47 = .ok (.iadd, 1) := by decide +kernel
theorem dX12_ifServed_48 : decode cX12_ifServed 48 = .ok (.iconst 1, 1) := by decide +kernel
theorem dX12_ifServed_49 : decode cX12_ifServed 49 = .ok (.isub, 1) := by decide +kernel
theorem dX12_ifServed_50 : decode cX12_ifServed 50 = .ok (.laload, 1) := by decide +kernel
theorem dX12_ifServed_51 : decode cX12_ifServed 51 = .ok (.ladd, 1) := by decide +kernel
theorem dX12_ifServed_52 : decode cX12_ifServed 52 = .ok (.lreturn, 1) := by decide +kernel
set_option maxRecDepth 20000 in
theorem ggX12_ifSpared_X12_ways : GoodIn wsX12_ifSpared wsX12_ways := goodIn_r _ [6, 7, 24, 25, 26, 27, 28, 29, 30, 31, 32, 33, 34, 35, 36, 37, 38, 39, 40, 41, 42, 43, 44, 45, 46, 47, 48, 49, 50, 51, 52, 53, 54, 55, 56, 57, 58, 59, 60, 61, 62, 63, 64, 65, 66, 67, 68, 69, 70, 71, 72, 73, 74, 75, 76, 77, 78, 79, 80, 81, 82, 83, 84, 85, 86] (by decide +kernel) (by decide +kernel)
set_option maxRecDepth 20000 in
theorem gX12_ifSpared_X12_ways : GoodIn wsX12_ifSpared (wsV RX12 295 RX12 yX12_ways wsX12_ways) := goodIn_app (goodIn_of _ (by decide +kernel)) ggX12_ifSpared_X12_ways
set_option maxRecDepth 20000 in
theorem ggX12_ifSpared_X12_keep : GoodIn wsX12_ifSpared wsX12_keep := goodIn_r _ [11, 12, 13, 14, 15, 16, 5, 17, 18, 19, 20, 21, 22, 23, 24, 25, 26, 27, 28, 29, 30, 31, 32, 33, 34, 35, 36, 37, 38, 39, 40, 41, 42, 43, 44, 45, 46, 47, 48, 49, 50, 51, 52, 53, 54, 55, 56, 57, 58, 59, 60, 61, 62, 63, 64, 65, 66, 67, 68, 69, 70, 71, 72, 73, 74, 75, 76, 77, 78, 79, 80, 81, 82, 83, 84, 85, 86] (by decide +kernel) (by decide +kernel)
set_option maxRecDepth 20000 in
theorem gX12_ifSpared_X12_keep : GoodIn wsX12_ifSpared (wsV RX12 289 RX12 yX12_keep wsX12_keep) := goodIn_app (goodIn_of _ (by decide +kernel)) ggX12_ifSpared_X12_keep
theorem dX12_ifSpared_0 : decode cX12_ifSpared 0 = .ok (.aload_n 0, 1) := by decide +kernel
theorem dX12_ifSpared_1 : decode cX12_ifSpared 1 = .ok (.iload_n 2, 1) := by decide +kernel
theorem dX12_ifSpared_2 : decode cX12_ifSpared 2 = .ok (.iload_n 1, 1) := by decide +kernel
theorem dX12_ifSpared_3 : decode cX12_ifSpared 3 = .ok (.isub, 1) := by decide +kernel
theorem dX12_ifSpared_4 : decode cX12_ifSpared 4 = .ok (.iconst 1, 1) := by decide +kernel
theorem dX12_ifSpared_5 : decode cX12_ifSpared 5 = .ok (.isub, 1) := by decide +kernel
theorem dX12_ifSpared_6 : decode cX12_ifSpared 6 = .ok (.invokevirtual 295, 3) := by decide +kernel
theorem dX12_ifSpared_9 : decode cX12_ifSpared 9 = .ok (.aload_n 0, 1) := by decide +kernel
theorem dX12_ifSpared_10 : decode cX12_ifSpared 10 = .ok (.invokevirtual 289, 3) := by decide +kernel
theorem dX12_ifSpared_13 : decode cX12_ifSpared 13 = .ok (.ineg, 1) := by decide +kernel
theorem dX12_ifSpared_14 : decode cX12_ifSpared 14 = .ok (.iload_n 3, 1) := by decide +kernel
theorem dX12_ifSpared_15 : decode cX12_ifSpared 15 = .ok (.imul, 1) := by decide +kernel
theorem dX12_ifSpared_16 : decode cX12_ifSpared 16 = .ok (.i2l, 1) := by decide +kernel
theorem dX12_ifSpared_17 : decode cX12_ifSpared 17 = .ok (.lmul, 1) := by decide +kernel
theorem dX12_ifSpared_18 : decode cX12_ifSpared 18 = .ok (.aload_n 0, 1) := by decide +kernel
theorem dX12_ifSpared_19 : decode cX12_ifSpared 19 = .ok (.getfield 90, 3) := by decide +kernel
theorem dX12_ifSpared_22 : decode cX12_ifSpared 22 = .ok (.bipush 10, 2) := by decide +kernel
theorem dX12_ifSpared_24 : decode cX12_ifSpared 24 = .ok (.iload_n 1, 1) := by decide +kernel
theorem dX12_ifSpared_25 : decode cX12_ifSpared 25 = .ok (.imul, 1) := by decide +kernel
theorem dX12_ifSpared_26 : decode cX12_ifSpared 26 = .ok (.bipush 10, 2) := by decide +kernel
theorem dX12_ifSpared_28 : decode cX12_ifSpared 28 = .ok (.iadd, 1) := by decide +kernel
theorem dX12_ifSpared_29 : decode cX12_ifSpared 29 = .ok (.iload_n 3, 1) := by decide +kernel
theorem dX12_ifSpared_30 : decode cX12_ifSpared 30 = .ok (.iadd, 1) := by decide +kernel
theorem dX12_ifSpared_31 : decode cX12_ifSpared 31 = .ok (.laload, 1) := by decide +kernel
theorem dX12_ifSpared_32 : decode cX12_ifSpared 32 = .ok (.ladd, 1) := by decide +kernel
theorem dX12_ifSpared_33 : decode cX12_ifSpared 33 = .ok (.lreturn, 1) := by decide +kernel
set_option maxRecDepth 20000 in
theorem ggX12_gainOf_X12_ifSpared : GoodIn wsX12_gainOf wsX12_ifSpared := goodIn_r _ [7, 8, 9, 10, 11, 6, 12, 13, 14, 15, 16, 17, 18, 19, 20, 21, 22, 23, 24, 25, 26, 27, 28, 29, 61, 62, 63, 64, 65, 66, 67, 68, 69, 70, 71, 72, 73, 74, 75, 76, 77, 78, 79, 80, 81, 82, 83, 84, 85, 86, 87, 88, 89, 90, 91, 92, 93, 94, 95, 96, 97, 98, 99, 100, 101, 102, 103, 104, 105, 106, 107, 108, 109, 110, 111, 112, 113, 114, 115, 116, 117, 118, 119, 120, 121, 122, 123] (by decide +kernel) (by decide +kernel)
set_option maxRecDepth 20000 in
theorem gX12_gainOf_X12_ifSpared : GoodIn wsX12_gainOf (wsV RX12 299 RX12 yX12_ifSpared wsX12_ifSpared) := goodIn_app (goodIn_of _ (by decide +kernel)) ggX12_gainOf_X12_ifSpared
set_option maxRecDepth 20000 in
theorem ggX12_gainOf_X12_ifServed : GoodIn wsX12_gainOf wsX12_ifServed := goodIn_r _ [33, 1, 8, 9, 10, 11, 6, 12, 13, 34, 35, 36, 37, 38, 39, 40, 41, 42, 43, 44, 18, 19, 20, 21, 22, 23, 24, 25, 26, 27, 28, 29, 45, 46, 47, 48, 49, 50, 51, 52, 53, 54, 55, 56, 14, 15, 16, 17, 61, 62, 63, 64, 65, 66, 67, 68, 69, 70, 71, 72, 73, 74, 75, 76, 77, 78, 79, 80, 81, 82, 83, 84, 85, 86, 87, 88, 89, 90, 91, 92, 93, 94, 95, 96, 97, 98, 99, 100, 101, 102, 103, 104, 105, 106, 107, 108, 109, 110, 111, 112, 113, 114, 115, 116, 117, 118, 119, 120, 121, 122, 123] (by decide +kernel) (by decide +kernel)
set_option maxRecDepth 20000 in
theorem gX12_gainOf_X12_ifServed : GoodIn wsX12_gainOf (wsV RX12 303 RX12 yX12_ifServed wsX12_ifServed) := goodIn_app (goodIn_of _ (by decide +kernel)) ggX12_gainOf_X12_ifServed
set_option maxRecDepth 20000 in
theorem ggX12_gainOf_X12_worthOf : GoodIn wsX12_gainOf wsX12_worthOf := goodIn_r _ [37, 38, 39, 40, 41, 42, 43, 6, 44, 18, 19, 20, 21, 22, 23, 24, 25, 26, 27, 28, 29, 45, 46, 47, 48, 49, 50, 51, 52, 53, 54, 55, 56, 61, 62, 63, 64, 65, 66, 67, 68, 69, 70, 71, 72, 73, 74, 75, 76, 77, 78, 79, 80, 81, 82, 83, 84, 85, 86, 87, 88, 89, 90, 91, 92, 93, 94, 95, 96, 97, 98, 99, 100, 101, 102, 103, 104, 105, 106, 107, 108, 109, 110, 111, 112, 113, 114, 115, 116, 117, 118, 119, 120, 121, 122, 123] (by decide +kernel) (by decide +kernel)
set_option maxRecDepth 20000 in
theorem gX12_gainOf_X12_worthOf : GoodIn wsX12_gainOf (wsV RX12 282 RX12 yX12_worthOf wsX12_worthOf) := goodIn_app (goodIn_of _ (by decide +kernel)) ggX12_gainOf_X12_worthOf
set_option maxRecDepth 20000 in
theorem ggX12_gainOf_X12_has : GoodIn wsX12_gainOf wsX12_has := goodIn_r _ [60] (by decide +kernel) (by decide +kernel)
set_option maxRecDepth 20000 in
theorem gX12_gainOf_X12_has : GoodIn wsX12_gainOf (wsV RX12 203 RX12 yX12_has wsX12_has) := goodIn_app (goodIn_of _ (by decide +kernel)) ggX12_gainOf_X12_has
theorem dX12_gainOf_0 : decode cX12_gainOf 0 = .ok (.aload_n 0, 1) := by decide +kernel
theorem dX12_gainOf_1 : decode cX12_gainOf 1 = .ok (.iload_n 3, 1) := by decide +kernel
theorem dX12_gainOf_2 : decode cX12_gainOf 2 = .ok (.iload 4, 2) := by decide +kernel
theorem dX12_gainOf_4 : decode cX12_gainOf 4 = .ok (.iload 5, 2) := by decide +kernel
theorem dX12_gainOf_6 : decode cX12_gainOf 6 = .ok (.invokevirtual 299, 3) := by decide +kernel
theorem dX12_gainOf_9 : decode cX12_gainOf 9 = .ok (.lstore 6, 2) := by decide +kernel
theorem dX12_gainOf_11 : decode cX12_gainOf 11 = .ok (.iload 5, 2) := by decide +kernel
theorem dX12_gainOf_13 : decode cX12_gainOf 13 = .ok (.ifCond .ne 6, 3) := by decide +kernel
theorem dX12_gainOf_16 : decode cX12_gainOf 16 = .ok (.lload 6, 2) := by decide +kernel
theorem dX12_gainOf_18 : decode cX12_gainOf 18 = .ok (.lreturn, 1) := by decide +kernel
theorem dX12_gainOf_19 : decode cX12_gainOf 19 = .ok (.aload_n 0, 1) := by decide +kernel
theorem dX12_gainOf_20 : decode cX12_gainOf 20 = .ok (.iload_n 2, 1) := by decide +kernel
theorem dX12_gainOf_21 : decode cX12_gainOf 21 = .ok (.iload_n 3, 1) := by decide +kernel
theorem dX12_gainOf_22 : decode cX12_gainOf 22 = .ok (.iload 4, 2) := by decide +kernel
theorem dX12_gainOf_24 : decode cX12_gainOf 24 = .ok (.iload 5, 2) := by decide +kernel
theorem dX12_gainOf_26 : decode cX12_gainOf 26 = .ok (.invokevirtual 303, 3) := by decide +kernel
theorem dX12_gainOf_29 : decode cX12_gainOf 29 = .ok (.lstore 8, 2) := by decide +kernel
theorem dX12_gainOf_31 : decode cX12_gainOf 31 = .ok (.iload_n 1, 1) := by decide +kernel
theorem dX12_gainOf_32 : decode cX12_gainOf 32 = .ok (.ifCond .ne 19, 3) := by decide +kernel
theorem dX12_gainOf_35 : decode cX12_gainOf 35 = .ok (.lload 8, 2) := by decide +kernel
theorem dX12_gainOf_37 : decode cX12_gainOf 37 = .ok (.lload 6, 2) := by decide +kernel
theorem dX12_gainOf_39 : decode cX12_gainOf 39 = .ok (.lcmp, 1) := by decide +kernel
theorem dX12_gainOf_40 : decode cX12_gainOf 40 = .ok (.ifCond .le 8, 3) := by decide +kernel
theorem dX12_gainOf_43 : decode cX12_gainOf 43 = .ok (.lload 8, 2) := by decide +kernel
theorem dX12_gainOf_45 : decode cX12_gainOf 45 = .ok (.goto 5, 3) := by decide +kernel
theorem dX12_gainOf_48 : decode cX12_gainOf 48 = .ok (.lload 6, 2) := by decide +kernel
theorem dX12_gainOf_50 : decode cX12_gainOf 50 = .ok (.lreturn, 1) := by decide +kernel
theorem dX12_gainOf_51 : decode cX12_gainOf 51 = .ok (.iload_n 1, 1) := by decide +kernel
theorem dX12_gainOf_52 : decode cX12_gainOf 52 = .ok (.iconst 1, 1) := by decide +kernel
theorem dX12_gainOf_53 : decode cX12_gainOf 53 = .ok (.if_icmp .ne 27, 3) := by decide +kernel
theorem dX12_gainOf_56 : decode cX12_gainOf 56 = .ok (.aload_n 0, 1) := by decide +kernel
theorem dX12_gainOf_57 : decode cX12_gainOf 57 = .ok (.iload_n 2, 1) := by decide +kernel
theorem dX12_gainOf_58 : decode cX12_gainOf 58 = .ok (.aload_n 0, 1) := by decide +kernel
theorem dX12_gainOf_59 : decode cX12_gainOf 59 = .ok (.getfield 19, 3) := by decide +kernel
theorem dX12_gainOf_62 : decode cX12_gainOf 62 = .ok (.iload_n 3, 1) := by decide +kernel
theorem dX12_gainOf_63 : decode cX12_gainOf 63 = .ok (.iadd, 1) := by decide +kernel
theorem dX12_gainOf_64 : decode cX12_gainOf 64 = .ok (.iload 5, 2) := by decide +kernel
theorem dX12_gainOf_66 : decode cX12_gainOf 66 = .ok (.invokevirtual 282, 3) := by decide +kernel
theorem dX12_gainOf_69 : decode cX12_gainOf 69 = .ok (.ifCond .le 7, 3) := by decide +kernel
theorem dX12_gainOf_72 : decode cX12_gainOf 72 = .ok (.iconst 1, 1) := by decide +kernel
theorem dX12_gainOf_73 : decode cX12_gainOf 73 = .ok (.goto 16, 3) := by decide +kernel
theorem dX12_gainOf_76 : decode cX12_gainOf 76 = .ok (.iconst 0, 1) := by decide +kernel
theorem dX12_gainOf_77 : decode cX12_gainOf 77 = .ok (.goto 12, 3) := by decide +kernel
theorem dX12_gainOf_80 : decode cX12_gainOf 80 = .ok (.aload_n 0, 1) := by decide +kernel
theorem dX12_gainOf_81 : decode cX12_gainOf 81 = .ok (.aload_n 0, 1) := by decide +kernel
theorem dX12_gainOf_82 : decode cX12_gainOf 82 = .ok (.getfield 94, 3) := by decide +kernel
theorem dX12_gainOf_85 : decode cX12_gainOf 85 = .ok (.iload_n 2, 1) := by decide +kernel
theorem dX12_gainOf_86 : decode cX12_gainOf 86 = .ok (.invokevirtual 203, 3) := by decide +kernel
theorem dX12_gainOf_89 : decode cX12_gainOf 89 = .ok (.istore 10, 2) := by decide +kernel
theorem dX12_gainOf_91 : decode cX12_gainOf 91 = .ok (.iload 10, 2) := by decide +kernel
theorem dX12_gainOf_93 : decode cX12_gainOf 93 = .ok (.ifCond .eq 8, 3) := by decide +kernel
theorem dX12_gainOf_96 : decode cX12_gainOf 96 = .ok (.lload 8, 2) := by decide +kernel
theorem dX12_gainOf_98 : decode cX12_gainOf 98 = .ok (.goto 5, 3) := by decide +kernel
theorem dX12_gainOf_101 : decode cX12_gainOf 101 = .ok (.lload 6, 2) := by decide +kernel
theorem dX12_gainOf_103 : decode cX12_gainOf 103 = .ok (.lreturn, 1) := by decide +kernel
set_option maxRecDepth 20000 in
theorem ggX12_layGains_X12_gainOf : GoodIn wsX12_layGains wsX12_gainOf := goodIn_r _ [7, 8, 9, 10, 11, 12, 6, 13, 1, 14, 15, 16, 17, 2, 18, 19, 20, 21, 22, 23, 24, 25, 26, 27, 28, 29, 30, 31, 32, 33, 34, 35, 36, 37, 38, 39, 40, 41, 42, 43, 44, 45, 46, 47, 48, 49, 50, 51, 52, 53, 54, 55, 56, 57, 58, 59, 60, 61, 62, 63, 64, 65, 66, 67, 68, 69, 70, 71, 72, 73, 74, 75, 76, 77, 78, 79, 80, 81, 82, 83, 84, 85, 86, 87, 88, 89, 90, 91, 92, 93, 94, 95, 96, 97, 98, 99, 100, 101, 102, 103, 104, 105, 106, 107, 108, 109, 110, 111, 112, 113, 114, 115, 116, 117, 118, 119, 120, 121, 122, 123, 124, 125, 126, 127] (by decide +kernel) (by decide +kernel)
set_option maxRecDepth 20000 in
theorem gX12_layGains_X12_gainOf : GoodIn wsX12_layGains (wsV RX12 307 RX12 yX12_gainOf wsX12_gainOf) := goodIn_app (goodIn_of _ (by decide +kernel)) ggX12_layGains_X12_gainOf
theorem dX12_layGains_0 : decode cX12_layGains 0 = .ok (.iconst 0, 1) := by decide +kernel
theorem dX12_layGains_1 : decode cX12_layGains 1 = .ok (.istore_n 3, 1) := by decide +kernel
theorem dX12_layGains_2 : decode cX12_layGains 2 = .ok (.iload_n 3, 1) := by decide +kernel
theorem dX12_layGains_3 : decode cX12_layGains 3 = .ok (.bipush 9, 2) := by decide +kernel
theorem dX12_layGains_5 : decode cX12_layGains 5 = .ok (.if_icmp .ge 21, 3) := by decide +kernel
theorem dX12_layGains_8 : decode cX12_layGains 8 = .ok (.aload_n 0, 1) := by decide +kernel
theorem dX12_layGains_9 : decode cX12_layGains 9 = .ok (.getfield 90, 3) := by decide +kernel
theorem dX12_layGains_12 : decode cX12_layGains 12 = .ok (.bipush 10, 2) := by decide +kernel
theorem dX12_layGains_14 : decode cX12_layGains 14 = .ok (.iload_n 2, 1) := by decide +kernel
theorem dX12_layGains_15 : decode cX12_layGains 15 = .ok (.imul, 1) := by decide +kernel
theorem dX12_layGains_16 : decode cX12_layGains 16 = .ok (.iload_n 3, 1) := by decide +kernel
theorem dX12_layGains_17 : decode cX12_layGains 17 = .ok (.iadd, 1) := by decide +kernel
theorem dX12_layGains_18 : decode cX12_layGains 18 = .ok (.lconst 0, 1) := by decide +kernel
theorem dX12_layGains_19 : decode cX12_layGains 19 = .ok (.lastore, 1) := by decide +kernel
theorem dX12_layGains_20 : decode cX12_layGains 20 = .ok (.iinc 3 1, 3) := by decide +kernel
theorem dX12_layGains_23 : decode cX12_layGains 23 = .ok (.goto (-21), 3) := by decide +kernel
theorem dX12_layGains_26 : decode cX12_layGains 26 = .ok (.iload_n 2, 1) := by decide +kernel
theorem dX12_layGains_27 : decode cX12_layGains 27 = .ok (.iconst 1, 1) := by decide +kernel
theorem dX12_layGains_28 : decode cX12_layGains 28 = .ok (.isub, 1) := by decide +kernel
theorem dX12_layGains_29 : decode cX12_layGains 29 = .ok (.istore_n 3, 1) := by decide +kernel
theorem dX12_layGains_30 : decode cX12_layGains 30 = .ok (.iload_n 3, 1) := by decide +kernel
theorem dX12_layGains_31 : decode cX12_layGains 31 = .ok (.ifCond .lt 76, 3) := by decide +kernel
theorem dX12_layGains_34 : decode cX12_layGains 34 = .ok (.iconst 0, 1) := by decide +kernel
theorem dX12_layGains_35 : decode cX12_layGains 35 = .ok (.istore 4, 2) := by decide +kernel
theorem dX12_layGains_37 : decode cX12_layGains 37 = .ok (.iload 4, 2) := by decide +kernel
theorem dX12_layGains_39 : decode cX12_layGains 39 = .ok (.bipush 9, 2) := by decide +kernel
theorem dX12_layGains_41 : decode cX12_layGains 41 = .ok (.if_icmp .ge 60, 3) := by decide +kernel
theorem dX12_layGains_44 : decode cX12_layGains 44 = .ok (.lconst 0, 1) := by decide +kernel
theorem dX12_layGains_45 : decode cX12_layGains 45 = .ok (.lstore 5, 2) := by decide +kernel
theorem dX12_layGains_47 : decode cX12_layGains 47 = .ok (.iconst 0, 1) := by decide +kernel
theorem dX12_layGains_48 : decode cX12_layGains 48 = .ok (.istore 7, 2) := by decide +kernel
theorem dX12_layGains_50 : decode cX12_layGains 50 = .ok (.iload 7, 2) := by decide +kernel
theorem dX12_layGains_52 : decode cX12_layGains 52 = .ok (.aload_n 0, 1) := by decide +kernel
theorem dX12_layGains_53 : decode cX12_layGains 53 = .ok (.getfield 7, 3) := by decide +kernel
theorem dX12_layGains_56 : decode cX12_layGains 56 = .ok (.if_icmp .ge 25, 3) := by decide +kernel
theorem dX12_layGains_59 : decode cX12_layGains 59 = .ok (.lload 5, 2) := by decide +kernel
theorem dX12_layGains_61 : decode cX12_layGains 61 = .ok (.aload_n 0, 1) := by decide +kernel
theorem dX12_layGains_62 : decode cX12_layGains 62 = .ok (.iload_n 1, 1) := by decide +kernel
theorem dX12_layGains_63 : decode cX12_layGains 63 = .ok (.iload 7, 2) := by decide +kernel
theorem dX12_layGains_65 : decode cX12_layGains 65 = .ok (.iload_n 3, 1) := by decide +kernel
theorem dX12_layGains_66 : decode cX12_layGains 66 = .ok (.iload_n 2, 1) := by decide +kernel
theorem dX12_layGains_67 : decode cX12_layGains 67 = .ok (.iload 4, 2) := by decide +kernel
theorem dX12_layGains_69 : decode cX12_layGains 69 = .ok (.invokevirtual 307, 3) := by decide +kernel
theorem dX12_layGains_72 : decode cX12_layGains 72 = .ok (.ladd, 1) := by decide +kernel
theorem dX12_layGains_73 : decode cX12_layGains 73 = .ok (.lstore 5, 2) := by decide +kernel
theorem dX12_layGains_75 : decode cX12_layGains 75 = .ok (.iinc 7 1, 3) := by decide +kernel
theorem dX12_layGains_78 : decode cX12_layGains 78 = .ok (.goto (-28), 3) := by decide +kernel
theorem dX12_layGains_81 : decode cX12_layGains 81 = .ok (.aload_n 0, 1) := by decide +kernel
theorem dX12_layGains_82 : decode cX12_layGains 82 = .ok (.getfield 90, 3) := by decide +kernel
theorem dX12_layGains_85 : decode cX12_layGains 85 = .ok (.bipush 10, 2) := by decide +kernel
theorem dX12_layGains_87 : decode cX12_layGains 87 = .ok (.iload_n 3, 1) := by decide +kernel
theorem dX12_layGains_88 : decode cX12_layGains 88 = .ok (.imul, 1) := by decide +kernel
theorem dX12_layGains_89 : decode cX12_layGains 89 = .ok (.iload 4, 2) := by decide +kernel
theorem dX12_layGains_91 : decode cX12_layGains 91 = .ok (.iadd, 1) := by decide +kernel
theorem dX12_layGains_92 : decode cX12_layGains 92 = .ok (.lload 5, 2) := by decide +kernel
theorem dX12_layGains_94 : decode cX12_layGains 94 = .ok (.lastore, 1) := by decide +kernel
theorem dX12_layGains_95 : decode cX12_layGains 95 = .ok (.iinc 4 1, 3) := by decide +kernel
theorem dX12_layGains_98 : decode cX12_layGains 98 = .ok (.goto (-61), 3) := by decide +kernel
theorem dX12_layGains_101 : decode cX12_layGains 101 = .ok (.iinc 3 (-1), 3) := by decide +kernel
theorem dX12_layGains_104 : decode cX12_layGains 104 = .ok (.goto (-74), 3) := by decide +kernel
theorem dX12_layGains_107 : decode cX12_layGains 107 = .ok (.return_, 1) := by decide +kernel
theorem dX12_divisor_0 : decode cX12_divisor 0 = .ok (.lload_n 1, 1) := by decide +kernel
theorem dX12_divisor_1 : decode cX12_divisor 1 = .ok (.lconst 0, 1) := by decide +kernel
theorem dX12_divisor_2 : decode cX12_divisor 2 = .ok (.lcmp, 1) := by decide +kernel
theorem dX12_divisor_3 : decode cX12_divisor 3 = .ok (.ifCond .ge 8, 3) := by decide +kernel
theorem dX12_divisor_6 : decode cX12_divisor 6 = .ok (.lload_n 1, 1) := by decide +kernel
theorem dX12_divisor_7 : decode cX12_divisor 7 = .ok (.lneg, 1) := by decide +kernel
theorem dX12_divisor_8 : decode cX12_divisor 8 = .ok (.goto 4, 3) := by decide +kernel
theorem dX12_divisor_11 : decode cX12_divisor 11 = .ok (.lload_n 1, 1) := by decide +kernel
theorem dX12_divisor_12 : decode cX12_divisor 12 = .ok (.lstore 5, 2) := by decide +kernel
theorem dX12_divisor_14 : decode cX12_divisor 14 = .ok (.lload_n 3, 1) := by decide +kernel
theorem dX12_divisor_15 : decode cX12_divisor 15 = .ok (.lstore 7, 2) := by decide +kernel
theorem dX12_divisor_17 : decode cX12_divisor 17 = .ok (.lload 7, 2) := by decide +kernel
theorem dX12_divisor_19 : decode cX12_divisor 19 = .ok (.lconst 0, 1) := by decide +kernel
theorem dX12_divisor_20 : decode cX12_divisor 20 = .ok (.lcmp, 1) := by decide +kernel
theorem dX12_divisor_21 : decode cX12_divisor 21 = .ok (.ifCond .eq 21, 3) := by decide +kernel
theorem dX12_divisor_24 : decode cX12_divisor 24 = .ok (.lload 5, 2) := by decide +kernel
theorem dX12_divisor_26 : decode cX12_divisor 26 = .ok (.lload 7, 2) := by decide +kernel
theorem dX12_divisor_28 : decode cX12_divisor 28 = .ok (.lrem, 1) := by decide +kernel
theorem dX12_divisor_29 : decode cX12_divisor 29 = .ok (.lstore 9, 2) := by decide +kernel
theorem dX12_divisor_31 : decode cX12_divisor 31 = .ok (.lload 7, 2) := by decide +kernel
theorem dX12_divisor_33 : decode cX12_divisor 33 = .ok (.lstore 5, 2) := by decide +kernel
theorem dX12_divisor_35 : decode cX12_divisor 35 = .ok (.lload 9, 2) := by decide +kernel
theorem dX12_divisor_37 : decode cX12_divisor 37 = .ok (.lstore 7, 2) := by decide +kernel
theorem dX12_divisor_39 : decode cX12_divisor 39 = .ok (.goto (-22), 3) := by decide +kernel
theorem dX12_divisor_42 : decode cX12_divisor 42 = .ok (.lload 5, 2) := by decide +kernel
theorem dX12_divisor_44 : decode cX12_divisor 44 = .ok (.lreturn, 1) := by decide +kernel
set_option maxRecDepth 20000 in
theorem ggX12_lowest_X12_divisor : GoodIn wsX12_lowest wsX12_divisor := goodIn_r _ [5] (by decide +kernel) (by decide +kernel)
set_option maxRecDepth 20000 in
theorem gX12_lowest_X12_divisor : GoodIn wsX12_lowest (wsV RX12 311 RX12 yX12_divisor wsX12_divisor) := goodIn_app (goodIn_of _ (by decide +kernel)) ggX12_lowest_X12_divisor
theorem dX12_lowest_0 : decode cX12_lowest 0 = .ok (.aload_n 0, 1) := by decide +kernel
theorem dX12_lowest_1 : decode cX12_lowest 1 = .ok (.lload_n 1, 1) := by decide +kernel
theorem dX12_lowest_2 : decode cX12_lowest 2 = .ok (.lload_n 3, 1) := by decide +kernel
theorem dX12_lowest_3 : decode cX12_lowest 3 = .ok (.invokevirtual 311, 3) := by decide +kernel
theorem dX12_lowest_6 : decode cX12_lowest 6 = .ok (.lstore 6, 2) := by decide +kernel
theorem dX12_lowest_8 : decode cX12_lowest 8 = .ok (.iload 5, 2) := by decide +kernel
theorem dX12_lowest_10 : decode cX12_lowest 10 = .ok (.ifCond .ne 10, 3) := by decide +kernel
theorem dX12_lowest_13 : decode cX12_lowest 13 = .ok (.lload_n 1, 1) := by decide +kernel
theorem dX12_lowest_14 : decode cX12_lowest 14 = .ok (.lload 6, 2) := by decide +kernel
theorem dX12_lowest_16 : decode cX12_lowest 16 = .ok (.ldiv, 1) := by decide +kernel
theorem dX12_lowest_17 : decode cX12_lowest 17 = .ok (.goto 7, 3) := by decide +kernel
theorem dX12_lowest_20 : decode cX12_lowest 20 = .ok (.lload_n 3, 1) := by decide +kernel
theorem dX12_lowest_21 : decode cX12_lowest 21 = .ok (.lload 6, 2) := by decide +kernel
theorem dX12_lowest_23 : decode cX12_lowest 23 = .ok (.ldiv, 1) := by decide +kernel
theorem dX12_lowest_24 : decode cX12_lowest 24 = .ok (.lreturn, 1) := by decide +kernel
set_option maxRecDepth 20000 in
theorem ggX12_isYears_X12_in : GoodIn wsX12_isYears wsX12_in := goodIn_r _ [5] (by decide +kernel) (by decide +kernel)
set_option maxRecDepth 20000 in
theorem gX12_isYears_X12_in : GoodIn wsX12_isYears (wsV RX12 207 RX12 yX12_in wsX12_in) := goodIn_app (goodIn_of _ (by decide +kernel)) ggX12_isYears_X12_in
theorem dX12_isYears_0 : decode cX12_isYears 0 = .ok (.aload_n 0, 1) := by decide +kernel
theorem dX12_isYears_1 : decode cX12_isYears 1 = .ok (.iload_n 1, 1) := by decide +kernel
theorem dX12_isYears_2 : decode cX12_isYears 2 = .ok (.iconst 0, 1) := by decide +kernel
theorem dX12_isYears_3 : decode cX12_isYears 3 = .ok (.bipush 8, 2) := by decide +kernel
theorem dX12_isYears_5 : decode cX12_isYears 5 = .ok (.invokevirtual 207, 3) := by decide +kernel
theorem dX12_isYears_8 : decode cX12_isYears 8 = .ok (.ireturn, 1) := by decide +kernel
set_option maxRecDepth 20000 in
theorem ggX12_isAsked_X12_isYears : GoodIn wsX12_isAsked wsX12_isYears := goodIn_r _ [6, 7, 8, 9, 5, 10] (by decide +kernel) (by decide +kernel)
set_option maxRecDepth 20000 in
theorem gX12_isAsked_X12_isYears : GoodIn wsX12_isAsked (wsV RX12 315 RX12 yX12_isYears wsX12_isYears) := goodIn_app (goodIn_of _ (by decide +kernel)) ggX12_isAsked_X12_isYears
set_option maxRecDepth 20000 in
theorem ggX12_isAsked_X12_in : GoodIn wsX12_isAsked wsX12_in := goodIn_r _ [10] (by decide +kernel) (by decide +kernel)
set_option maxRecDepth 20000 in
theorem gX12_isAsked_X12_in : GoodIn wsX12_isAsked (wsV RX12 207 RX12 yX12_in wsX12_in) := goodIn_app (goodIn_of _ (by decide +kernel)) ggX12_isAsked_X12_in
theorem dX12_isAsked_0 : decode cX12_isAsked 0 = .ok (.aload_n 0, 1) := by decide +kernel
theorem dX12_isAsked_1 : decode cX12_isAsked 1 = .ok (.iload_n 1, 1) := by decide +kernel
theorem dX12_isAsked_2 : decode cX12_isAsked 2 = .ok (.invokevirtual 315, 3) := by decide +kernel
theorem dX12_isAsked_5 : decode cX12_isAsked 5 = .ok (.ifCond .eq 24, 3) := by decide +kernel
theorem dX12_isAsked_8 : decode cX12_isAsked 8 = .ok (.aload_n 0, 1) := by decide +kernel
theorem dX12_isAsked_9 : decode cX12_isAsked 9 = .ok (.iload_n 2, 1) := by decide +kernel
theorem dX12_isAsked_10 : decode cX12_isAsked 10 = .ok (.iconst 0, 1) := by decide +kernel
theorem dX12_isAsked_11 : decode cX12_isAsked 11 = .ok (.iconst 1, 1) := by decide +kernel
theorem dX12_isAsked_12 : decode cX12_isAsked 12 = .ok (.invokevirtual 207, 3) := by decide +kernel
theorem dX12_isAsked_15 : decode cX12_isAsked 15 = .ok (.ifCond .eq 14, 3) := by decide +kernel
theorem dX12_isAsked_18 : decode cX12_isAsked 18 = .ok (.aload_n 0, 1) := by decide +kernel
theorem dX12_isAsked_19 : decode cX12_isAsked 19 = .ok (.getfield 7, 3) := by decide +kernel
theorem dX12_isAsked_22 : decode cX12_isAsked 22 = .ok (.ifCond .le 7, 3) := by decide +kernel
theorem dX12_isAsked_25 : decode cX12_isAsked 25 = .ok (.iconst 1, 1) := by decide +kernel
theorem dX12_isAsked_26 : decode cX12_isAsked 26 = .ok (.goto 4, 3) := by decide +kernel
theorem dX12_isAsked_29 : decode cX12_isAsked 29 = .ok (.iconst 0, 1) := by decide +kernel
theorem dX12_isAsked_30 : decode cX12_isAsked 30 = .ok (.ireturn, 1) := by decide +kernel
set_option maxRecDepth 20000 in
theorem ggX12_mean_X12_isAsked : GoodIn wsX12_mean wsX12_isAsked := goodIn_r _ [8, 9, 10, 11, 12, 7, 13, 14, 15, 16, 17, 91, 92, 93, 94, 95, 96, 97, 98, 99, 100, 101, 102, 103, 104, 105, 106, 107, 108, 109, 110, 111, 112, 113, 114, 115, 116, 117, 118, 119, 120, 121, 122, 123, 124, 125, 126, 127, 128, 129, 130, 131, 132, 133, 134, 135, 136, 137, 138, 139, 140, 141, 142, 143, 144, 145, 146, 147, 148, 149, 150, 151, 152, 153] (by decide +kernel) (by decide +kernel)
set_option maxRecDepth 20000 in
theorem gX12_mean_X12_isAsked : GoodIn wsX12_mean (wsV RX12 318 RX12 yX12_isAsked wsX12_isAsked) := goodIn_app (goodIn_of _ (by decide +kernel)) ggX12_mean_X12_isAsked
set_option maxRecDepth 20000 in
theorem ggX12_mean_X12_layGains : GoodIn wsX12_mean wsX12_layGains := goodIn_r _ [21, 2, 9, 22, 23, 24, 7, 25, 26, 27, 28, 29, 30, 31, 32, 33, 34, 35, 36, 37, 38, 39, 40, 41, 42, 43, 44, 45, 46, 47, 48, 49, 50, 51, 52, 53, 54, 55, 56, 57, 58, 59, 60, 61, 62, 63, 64, 65, 66, 67, 68, 69, 70, 71, 72, 73, 74, 75, 76, 77, 78, 79, 80, 81, 82, 91, 92, 93, 94, 95, 96, 97, 98, 99, 100, 101, 102, 103, 104, 105, 106, 107, 108, 109, 110, 111, 112, 113, 114, 115, 116, 117, 118, 119, 120, 121, 122, 123, 124, 125, 126, 127, 128, 129, 130, 131, 132, 133, 134, 135, 136, 137, 138, 139, 140, 141, 142, 143, 144, 145, 146, 147, 148, 149, 150, 151, 152, 153] (by decide +kernel) (by decide +kernel)
set_option maxRecDepth 20000 in
theorem gX12_mean_X12_layGains : GoodIn wsX12_mean (wsV RX12 323 RX12 yX12_layGains wsX12_layGains) := goodIn_app (goodIn_of _ (by decide +kernel)) ggX12_mean_X12_layGains
set_option maxRecDepth 20000 in
theorem ggX12_mean_X12_ways : GoodIn wsX12_mean wsX12_ways := goodIn_r _ [35, 9, 91, 92, 93, 94, 95, 96, 97, 98, 99, 100, 101, 102, 103, 104, 105, 106, 107, 108, 109, 110, 111, 112, 113, 114, 115, 116, 117, 118, 119, 120, 121, 122, 123, 124, 125, 126, 127, 128, 129, 130, 131, 132, 133, 134, 135, 136, 137, 138, 139, 140, 141, 142, 143, 144, 145, 146, 147, 148, 149, 150, 151, 152, 153] (by decide +kernel) (by decide +kernel)
set_option maxRecDepth 20000 in
theorem gX12_mean_X12_ways : GoodIn wsX12_mean (wsV RX12 295 RX12 yX12_ways wsX12_ways) := goodIn_app (goodIn_of _ (by decide +kernel)) ggX12_mean_X12_ways
set_option maxRecDepth 20000 in
theorem ggX12_mean_X12_lowest : GoodIn wsX12_mean wsX12_lowest := goodIn_r _ [86, 87, 88, 89, 7, 90] (by decide +kernel) (by decide +kernel)
set_option maxRecDepth 20000 in
theorem gX12_mean_X12_lowest : GoodIn wsX12_mean (wsV RX12 327 RX12 yX12_lowest wsX12_lowest) := goodIn_app (goodIn_of _ (by decide +kernel)) ggX12_mean_X12_lowest
theorem dX12_mean_0 : decode cX12_mean 0 = .ok (.aload_n 0, 1) := by decide +kernel
theorem dX12_mean_1 : decode cX12_mean 1 = .ok (.iload_n 1, 1) := by decide +kernel
theorem dX12_mean_2 : decode cX12_mean 2 = .ok (.iload_n 2, 1) := by decide +kernel
theorem dX12_mean_3 : decode cX12_mean 3 = .ok (.invokevirtual 318, 3) := by decide +kernel
theorem dX12_mean_6 : decode cX12_mean 6 = .ok (.ifCond .ne 7, 3) := by decide +kernel
theorem dX12_mean_9 : decode cX12_mean 9 = .ok (.ldc2_w 321, 3) := by decide +kernel
theorem dX12_mean_12 : decode cX12_mean 12 = .ok (.lreturn, 1) := by decide +kernel
theorem dX12_mean_13 : decode cX12_mean 13 = .ok (.aload_n 0, 1) := by decide +kernel
theorem dX12_mean_14 : decode cX12_mean 14 = .ok (.iconst 0, 1) := by decide +kernel
theorem dX12_mean_15 : decode cX12_mean 15 = .ok (.iload_n 1, 1) := by decide +kernel
theorem dX12_mean_16 : decode cX12_mean 16 = .ok (.invokevirtual 323, 3) := by decide +kernel
theorem dX12_mean_19 : decode cX12_mean 19 = .ok (.aload_n 0, 1) := by decide +kernel
theorem dX12_mean_20 : decode cX12_mean 20 = .ok (.aload_n 0, 1) := by decide +kernel
theorem dX12_mean_21 : decode cX12_mean 21 = .ok (.getfield 90, 3) := by decide +kernel
theorem dX12_mean_24 : decode cX12_mean 24 = .ok (.aload_n 0, 1) := by decide +kernel
theorem dX12_mean_25 : decode cX12_mean 25 = .ok (.getfield 13, 3) := by decide +kernel
theorem dX12_mean_28 : decode cX12_mean 28 = .ok (.laload, 1) := by decide +kernel
theorem dX12_mean_29 : decode cX12_mean 29 = .ok (.aload_n 0, 1) := by decide +kernel
theorem dX12_mean_30 : decode cX12_mean 30 = .ok (.iload_n 1, 1) := by decide +kernel
theorem dX12_mean_31 : decode cX12_mean 31 = .ok (.invokevirtual 295, 3) := by decide +kernel
theorem dX12_mean_34 : decode cX12_mean 34 = .ok (.iload_n 2, 1) := by decide +kernel
theorem dX12_mean_35 : decode cX12_mean 35 = .ok (.invokevirtual 327, 3) := by decide +kernel
theorem dX12_mean_38 : decode cX12_mean 38 = .ok (.lreturn, 1) := by decide +kernel
set_option maxRecDepth 20000 in
theorem ggX12_price_X12_isAsked : GoodIn wsX12_price wsX12_isAsked := goodIn_r _ [8, 9, 10, 11, 12, 7, 13, 14, 15, 16, 17, 91, 92, 93, 94, 95, 96, 97, 98, 99, 100, 101, 102, 103, 104, 105, 106, 107, 108, 109, 110, 111, 112, 113, 114, 115, 116, 117, 118, 119, 120, 121, 122, 123, 124, 125, 126, 127, 128, 129, 130, 131, 132, 133, 134, 135, 136, 137, 138, 139, 140, 141, 142, 143, 144, 145, 146, 147, 148, 149, 150, 151, 152, 153] (by decide +kernel) (by decide +kernel)
set_option maxRecDepth 20000 in
theorem gX12_price_X12_isAsked : GoodIn wsX12_price (wsV RX12 318 RX12 yX12_isAsked wsX12_isAsked) := goodIn_app (goodIn_of _ (by decide +kernel)) ggX12_price_X12_isAsked
set_option maxRecDepth 20000 in
theorem ggX12_price_X12_layGains : GoodIn wsX12_price wsX12_layGains := goodIn_r _ [21, 3, 9, 22, 23, 24, 7, 25, 26, 27, 28, 29, 30, 31, 32, 33, 34, 35, 36, 37, 38, 39, 40, 41, 42, 43, 44, 45, 46, 47, 48, 49, 50, 51, 52, 53, 54, 55, 56, 57, 58, 59, 60, 61, 62, 63, 64, 65, 66, 67, 68, 69, 70, 71, 72, 73, 74, 75, 76, 77, 78, 79, 80, 81, 82, 91, 92, 93, 94, 95, 96, 97, 98, 99, 100, 101, 102, 103, 104, 105, 106, 107, 108, 109, 110, 111, 112, 113, 114, 115, 116, 117, 118, 119, 120, 121, 122, 123, 124, 125, 126, 127, 128, 129, 130, 131, 132, 133, 134, 135, 136, 137, 138, 139, 140, 141, 142, 143, 144, 145, 146, 147, 148, 149, 150, 151, 152, 153] (by decide +kernel) (by decide +kernel)
set_option maxRecDepth 20000 in
theorem gX12_price_X12_layGains : GoodIn wsX12_price (wsV RX12 323 RX12 yX12_layGains wsX12_layGains) := goodIn_app (goodIn_of _ (by decide +kernel)) ggX12_price_X12_layGains
set_option maxRecDepth 20000 in
theorem ggX12_price_X12_ways : GoodIn wsX12_price wsX12_ways := goodIn_r _ [35, 9, 91, 92, 93, 94, 95, 96, 97, 98, 99, 100, 101, 102, 103, 104, 105, 106, 107, 108, 109, 110, 111, 112, 113, 114, 115, 116, 117, 118, 119, 120, 121, 122, 123, 124, 125, 126, 127, 128, 129, 130, 131, 132, 133, 134, 135, 136, 137, 138, 139, 140, 141, 142, 143, 144, 145, 146, 147, 148, 149, 150, 151, 152, 153] (by decide +kernel) (by decide +kernel)
set_option maxRecDepth 20000 in
theorem gX12_price_X12_ways : GoodIn wsX12_price (wsV RX12 295 RX12 yX12_ways wsX12_ways) := goodIn_app (goodIn_of _ (by decide +kernel)) ggX12_price_X12_ways
set_option maxRecDepth 20000 in
theorem ggX12_price_X12_lowest : GoodIn wsX12_price wsX12_lowest := goodIn_r _ [86, 87, 88, 89, 7, 90] (by decide +kernel) (by decide +kernel)
set_option maxRecDepth 20000 in
theorem gX12_price_X12_lowest : GoodIn wsX12_price (wsV RX12 327 RX12 yX12_lowest wsX12_lowest) := goodIn_app (goodIn_of _ (by decide +kernel)) ggX12_price_X12_lowest
theorem dX12_price_0 : decode cX12_price 0 = .ok (.aload_n 0, 1) := by decide +kernel
theorem dX12_price_1 : decode cX12_price 1 = .ok (.iload_n 1, 1) := by decide +kernel
theorem dX12_price_2 : decode cX12_price 2 = .ok (.iload_n 2, 1) := by decide +kernel
theorem dX12_price_3 : decode cX12_price 3 = .ok (.invokevirtual 318, 3) := by decide +kernel
theorem dX12_price_6 : decode cX12_price 6 = .ok (.ifCond .eq 12, 3) := by decide +kernel
theorem dX12_price_9 : decode cX12_price 9 = .ok (.aload_n 0, 1) := by decide +kernel
theorem dX12_price_10 : decode cX12_price 10 = .ok (.getfield 13, 3) := by decide +kernel
theorem dX12_price_13 : decode cX12_price 13 = .ok (.bipush 8, 2) := by decide +kernel
theorem dX12_price_15 : decode cX12_price 15 = .ok (.if_icmp .ne 7, 3) := by decide +kernel
theorem dX12_price_18 : decode cX12_price 18 = .ok (.ldc2_w 321, 3) := by decide +kernel
theorem dX12_price_21 : decode cX12_price 21 = .ok (.lreturn, 1) := by decide +kernel
theorem dX12_price_22 : decode cX12_price 22 = .ok (.aload_n 0, 1) := by decide +kernel
theorem dX12_price_23 : decode cX12_price 23 = .ok (.iconst 0, 1) := by decide +kernel
theorem dX12_price_24 : decode cX12_price 24 = .ok (.iload_n 1, 1) := by decide +kernel
theorem dX12_price_25 : decode cX12_price 25 = .ok (.invokevirtual 323, 3) := by decide +kernel
theorem dX12_price_28 : decode cX12_price 28 = .ok (.aload_n 0, 1) := by decide +kernel
theorem dX12_price_29 : decode cX12_price 29 = .ok (.aload_n 0, 1) := by decide +kernel
theorem dX12_price_30 : decode cX12_price 30 = .ok (.getfield 90, 3) := by decide +kernel
theorem dX12_price_33 : decode cX12_price 33 = .ok (.aload_n 0, 1) := by decide +kernel
theorem dX12_price_34 : decode cX12_price 34 = .ok (.getfield 13, 3) := by decide +kernel
theorem dX12_price_37 : decode cX12_price 37 = .ok (.iconst 1, 1) := by decide +kernel
theorem dX12_price_38 : decode cX12_price 38 = .ok (.iadd, 1) := by decide +kernel
theorem dX12_price_39 : decode cX12_price 39 = .ok (.laload, 1) := by decide +kernel
theorem dX12_price_40 : decode cX12_price 40 = .ok (.aload_n 0, 1) := by decide +kernel
theorem dX12_price_41 : decode cX12_price 41 = .ok (.getfield 90, 3) := by decide +kernel
theorem dX12_price_44 : decode cX12_price 44 = .ok (.aload_n 0, 1) := by decide +kernel
theorem dX12_price_45 : decode cX12_price 45 = .ok (.getfield 13, 3) := by decide +kernel
theorem dX12_price_48 : decode cX12_price 48 = .ok (.laload, 1) := by decide +kernel
theorem dX12_price_49 : decode cX12_price 49 = .ok (.lsub, 1) := by decide +kernel
theorem dX12_price_50 : decode cX12_price 50 = .ok (.aload_n 0, 1) := by decide +kernel
theorem dX12_price_51 : decode cX12_price 51 = .ok (.iload_n 1, 1) := by decide +kernel
theorem dX12_price_52 : decode cX12_price 52 = .ok (.invokevirtual 295, 3) := by decide +kernel
theorem dX12_price_55 : decode cX12_price 55 = .ok (.iload_n 2, 1) := by decide +kernel
theorem dX12_price_56 : decode cX12_price 56 = .ok (.invokevirtual 327, 3) := by decide +kernel
theorem dX12_price_59 : decode cX12_price 59 = .ok (.lreturn, 1) := by decide +kernel
set_option maxRecDepth 20000 in
theorem ggX12_greedy_X12_isAsked : GoodIn wsX12_greedy wsX12_isAsked := goodIn_r _ [8, 9, 10, 11, 12, 7, 13, 14, 15, 16, 17, 91, 92, 93, 94, 95, 96, 97, 98, 99, 100, 101, 102, 103, 104, 105, 106, 107, 108, 109, 110, 111, 112, 113, 114, 115, 116, 117, 118, 119, 120, 121, 122, 123, 124, 125, 126, 127, 128, 129, 130, 131, 132, 133, 134, 135, 136, 137, 138, 139, 140, 141, 142, 143, 144, 145, 146, 147, 148, 149, 150, 151, 152, 153] (by decide +kernel) (by decide +kernel)
set_option maxRecDepth 20000 in
theorem gX12_greedy_X12_isAsked : GoodIn wsX12_greedy (wsV RX12 318 RX12 yX12_isAsked wsX12_isAsked) := goodIn_app (goodIn_of _ (by decide +kernel)) ggX12_greedy_X12_isAsked
set_option maxRecDepth 20000 in
theorem ggX12_greedy_X12_layGains : GoodIn wsX12_greedy wsX12_layGains := goodIn_r _ [21, 2, 9, 22, 23, 24, 7, 25, 26, 27, 28, 29, 30, 31, 32, 33, 34, 35, 36, 37, 38, 39, 40, 41, 42, 43, 44, 45, 46, 47, 48, 49, 50, 51, 52, 53, 54, 55, 56, 57, 58, 59, 60, 61, 62, 63, 64, 65, 66, 67, 68, 69, 70, 71, 72, 73, 74, 75, 76, 77, 78, 79, 80, 81, 82, 91, 92, 93, 94, 95, 96, 97, 98, 99, 100, 101, 102, 103, 104, 105, 106, 107, 108, 109, 110, 111, 112, 113, 114, 115, 116, 117, 118, 119, 120, 121, 122, 123, 124, 125, 126, 127, 128, 129, 130, 131, 132, 133, 134, 135, 136, 137, 138, 139, 140, 141, 142, 143, 144, 145, 146, 147, 148, 149, 150, 151, 152, 153] (by decide +kernel) (by decide +kernel)
set_option maxRecDepth 20000 in
theorem gX12_greedy_X12_layGains : GoodIn wsX12_greedy (wsV RX12 323 RX12 yX12_layGains wsX12_layGains) := goodIn_app (goodIn_of _ (by decide +kernel)) ggX12_greedy_X12_layGains
set_option maxRecDepth 20000 in
theorem ggX12_greedy_X12_ways : GoodIn wsX12_greedy wsX12_ways := goodIn_r _ [35, 9, 91, 92, 93, 94, 95, 96, 97, 98, 99, 100, 101, 102, 103, 104, 105, 106, 107, 108, 109, 110, 111, 112, 113, 114, 115, 116, 117, 118, 119, 120, 121, 122, 123, 124, 125, 126, 127, 128, 129, 130, 131, 132, 133, 134, 135, 136, 137, 138, 139, 140, 141, 142, 143, 144, 145, 146, 147, 148, 149, 150, 151, 152, 153] (by decide +kernel) (by decide +kernel)
set_option maxRecDepth 20000 in
theorem gX12_greedy_X12_ways : GoodIn wsX12_greedy (wsV RX12 295 RX12 yX12_ways wsX12_ways) := goodIn_app (goodIn_of _ (by decide +kernel)) ggX12_greedy_X12_ways
set_option maxRecDepth 20000 in
theorem ggX12_greedy_X12_lowest : GoodIn wsX12_greedy wsX12_lowest := goodIn_r _ [86, 87, 88, 89, 7, 90] (by decide +kernel) (by decide +kernel)
set_option maxRecDepth 20000 in
theorem gX12_greedy_X12_lowest : GoodIn wsX12_greedy (wsV RX12 327 RX12 yX12_lowest wsX12_lowest) := goodIn_app (goodIn_of _ (by decide +kernel)) ggX12_greedy_X12_lowest
theorem dX12_greedy_0 : decode cX12_greedy 0 = .ok (.aload_n 0, 1) := by decide +kernel
theorem dX12_greedy_1 : decode cX12_greedy 1 = .ok (.iload_n 1, 1) := by decide +kernel
theorem dX12_greedy_2 : decode cX12_greedy 2 = .ok (.iload_n 2, 1) := by decide +kernel
theorem dX12_greedy_3 : decode cX12_greedy 3 = .ok (.invokevirtual 318, 3) := by decide +kernel
theorem dX12_greedy_6 : decode cX12_greedy 6 = .ok (.ifCond .ne 7, 3) := by decide +kernel
theorem dX12_greedy_9 : decode cX12_greedy 9 = .ok (.ldc2_w 321, 3) := by decide +kernel
theorem dX12_greedy_12 : decode cX12_greedy 12 = .ok (.lreturn, 1) := by decide +kernel
theorem dX12_greedy_13 : decode cX12_greedy 13 = .ok (.aload_n 0, 1) := by decide +kernel
theorem dX12_greedy_14 : decode cX12_greedy 14 = .ok (.iconst 1, 1) := by decide +kernel
theorem dX12_greedy_15 : decode cX12_greedy 15 = .ok (.iload_n 1, 1) := by decide +kernel
theorem dX12_greedy_16 : decode cX12_greedy 16 = .ok (.invokevirtual 323, 3) := by decide +kernel
theorem dX12_greedy_19 : decode cX12_greedy 19 = .ok (.aload_n 0, 1) := by decide +kernel
theorem dX12_greedy_20 : decode cX12_greedy 20 = .ok (.aload_n 0, 1) := by decide +kernel
theorem dX12_greedy_21 : decode cX12_greedy 21 = .ok (.getfield 90, 3) := by decide +kernel
theorem dX12_greedy_24 : decode cX12_greedy 24 = .ok (.aload_n 0, 1) := by decide +kernel
theorem dX12_greedy_25 : decode cX12_greedy 25 = .ok (.getfield 13, 3) := by decide +kernel
theorem dX12_greedy_28 : decode cX12_greedy 28 = .ok (.laload, 1) := by decide +kernel
theorem dX12_greedy_29 : decode cX12_greedy 29 = .ok (.aload_n 0, 1) := by decide +kernel
theorem dX12_greedy_30 : decode cX12_greedy 30 = .ok (.iload_n 1, 1) := by decide +kernel
theorem dX12_greedy_31 : decode cX12_greedy 31 = .ok (.invokevirtual 295, 3) := by decide +kernel
theorem dX12_greedy_34 : decode cX12_greedy 34 = .ok (.iload_n 2, 1) := by decide +kernel
theorem dX12_greedy_35 : decode cX12_greedy 35 = .ok (.invokevirtual 327, 3) := by decide +kernel
theorem dX12_greedy_38 : decode cX12_greedy 38 = .ok (.lreturn, 1) := by decide +kernel
set_option maxRecDepth 20000 in
theorem ggX12_only_X12_in : GoodIn wsX12_only wsX12_in := goodIn_r _ [9] (by decide +kernel) (by decide +kernel)
set_option maxRecDepth 20000 in
theorem gX12_only_X12_in : GoodIn wsX12_only (wsV RX12 207 RX12 yX12_in wsX12_in) := goodIn_app (goodIn_of _ (by decide +kernel)) ggX12_only_X12_in
set_option maxRecDepth 20000 in
theorem ggX12_only_X12_isAsked : GoodIn wsX12_only wsX12_isAsked := goodIn_r _ [13, 14, 15, 16, 17, 8, 18, 5, 6, 7, 9, 91, 92, 93, 94, 95, 96, 97, 98, 99, 100, 101, 102, 103, 104, 105, 106, 107, 108, 109, 110, 111, 112, 113, 114, 115, 116, 117, 118, 119, 120, 121, 122, 123, 124, 125, 126, 127, 128, 129, 130, 131, 132, 133, 134, 135, 136, 137, 138, 139, 140, 141, 142, 143, 144, 145, 146, 147, 148, 149, 150, 151, 152, 153] (by decide +kernel) (by decide +kernel)
set_option maxRecDepth 20000 in
theorem gX12_only_X12_isAsked : GoodIn wsX12_only (wsV RX12 318 RX12 yX12_isAsked wsX12_isAsked) := goodIn_app (goodIn_of _ (by decide +kernel)) ggX12_only_X12_isAsked
set_option maxRecDepth 20000 in
theorem ggX12_only_X12_layGains : GoodIn wsX12_only wsX12_layGains := goodIn_r _ [22, 3, 14, 23, 24, 25, 8, 26, 27, 2, 28, 29, 30, 31, 32, 33, 34, 35, 36, 37, 38, 39, 40, 41, 42, 43, 44, 45, 46, 47, 48, 49, 50, 51, 52, 53, 54, 55, 56, 57, 58, 59, 60, 61, 62, 63, 64, 65, 66, 67, 68, 69, 70, 71, 72, 73, 74, 75, 76, 77, 78, 79, 80, 81, 82, 91, 92, 93, 94, 95, 96, 97, 98, 99, 100, 101, 102, 103, 104, 105, 106, 107, 108, 109, 110, 111, 112, 113, 114, 115, 116, 117, 118, 119, 120, 121, 122, 123, 124, 125, 126, 127, 128, 129, 130, 131, 132, 133, 134, 135, 136, 137, 138, 139, 140, 141, 142, 143, 144, 145, 146, 147, 148, 149, 150, 151, 152, 153] (by decide +kernel) (by decide +kernel)
set_option maxRecDepth 20000 in
theorem gX12_only_X12_layGains : GoodIn wsX12_only (wsV RX12 323 RX12 yX12_layGains wsX12_layGains) := goodIn_app (goodIn_of _ (by decide +kernel)) ggX12_only_X12_layGains
set_option maxRecDepth 20000 in
theorem ggX12_only_X12_ways : GoodIn wsX12_only wsX12_ways := goodIn_r _ [35, 14, 91, 92, 93, 94, 95, 96, 97, 98, 99, 100, 101, 102, 103, 104, 105, 106, 107, 108, 109, 110, 111, 112, 113, 114, 115, 116, 117, 118, 119, 120, 121, 122, 123, 124, 125, 126, 127, 128, 129, 130, 131, 132, 133, 134, 135, 136, 137, 138, 139, 140, 141, 142, 143, 144, 145, 146, 147, 148, 149, 150, 151, 152, 153] (by decide +kernel) (by decide +kernel)
set_option maxRecDepth 20000 in
theorem gX12_only_X12_ways : GoodIn wsX12_only (wsV RX12 295 RX12 yX12_ways wsX12_ways) := goodIn_app (goodIn_of _ (by decide +kernel)) ggX12_only_X12_ways
set_option maxRecDepth 20000 in
theorem ggX12_only_X12_lowest : GoodIn wsX12_only wsX12_lowest := goodIn_r _ [86, 87, 88, 89, 8, 90] (by decide +kernel) (by decide +kernel)
set_option maxRecDepth 20000 in
theorem gX12_only_X12_lowest : GoodIn wsX12_only (wsV RX12 327 RX12 yX12_lowest wsX12_lowest) := goodIn_app (goodIn_of _ (by decide +kernel)) ggX12_only_X12_lowest
theorem dX12_only_0 : decode cX12_only 0 = .ok (.aload_n 0, 1) := by decide +kernel
theorem dX12_only_1 : decode cX12_only 1 = .ok (.iload_n 1, 1) := by decide +kernel
theorem dX12_only_2 : decode cX12_only 2 = .ok (.iconst 0, 1) := by decide +kernel
theorem dX12_only_3 : decode cX12_only 3 = .ok (.bipush 63, 2) := by decide +kernel
theorem dX12_only_5 : decode cX12_only 5 = .ok (.invokevirtual 207, 3) := by decide +kernel
theorem dX12_only_8 : decode cX12_only 8 = .ok (.ifCond .eq 12, 3) := by decide +kernel
theorem dX12_only_11 : decode cX12_only 11 = .ok (.aload_n 0, 1) := by decide +kernel
theorem dX12_only_12 : decode cX12_only 12 = .ok (.iload_n 2, 1) := by decide +kernel
theorem dX12_only_13 : decode cX12_only 13 = .ok (.iload_n 3, 1) := by decide +kernel
theorem dX12_only_14 : decode cX12_only 14 = .ok (.invokevirtual 318, 3) := by decide +kernel
theorem dX12_only_17 : decode cX12_only 17 = .ok (.ifCond .ne 7, 3) := by decide +kernel
theorem dX12_only_20 : decode cX12_only 20 = .ok (.ldc2_w 321, 3) := by decide +kernel
theorem dX12_only_23 : decode cX12_only 23 = .ok (.lreturn, 1) := by decide +kernel
theorem dX12_only_24 : decode cX12_only 24 = .ok (.aload_n 0, 1) := by decide +kernel
theorem dX12_only_25 : decode cX12_only 25 = .ok (.iload_n 1, 1) := by decide +kernel
theorem dX12_only_26 : decode cX12_only 26 = .ok (.putfield 94, 3) := by decide +kernel
theorem dX12_only_29 : decode cX12_only 29 = .ok (.aload_n 0, 1) := by decide +kernel
theorem dX12_only_30 : decode cX12_only 30 = .ok (.iconst 2, 1) := by decide +kernel
theorem dX12_only_31 : decode cX12_only 31 = .ok (.iload_n 2, 1) := by decide +kernel
theorem dX12_only_32 : decode cX12_only 32 = .ok (.invokevirtual 323, 3) := by decide +kernel
theorem dX12_only_35 : decode cX12_only 35 = .ok (.aload_n 0, 1) := by decide +kernel
theorem dX12_only_36 : decode cX12_only 36 = .ok (.aload_n 0, 1) := by decide +kernel
theorem dX12_only_37 : decode cX12_only 37 = .ok (.getfield 90, 3) := by decide +kernel
theorem dX12_only_40 : decode cX12_only 40 = .ok (.aload_n 0, 1) := by decide +kernel
theorem dX12_only_41 : decode cX12_only 41 = .ok (.getfield 13, 3) := by decide +kernel
theorem dX12_only_44 : decode cX12_only 44 = .ok (.laload, 1) := by decide +kernel
theorem dX12_only_45 : decode cX12_only 45 = .ok (.aload_n 0, 1) := by decide +kernel
theorem dX12_only_46 : decode cX12_only 46 = .ok (.iload_n 2, 1) := by decide +kernel
theorem dX12_only_47 : decode cX12_only 47 = .ok (.invokevirtual 295, 3) := by decide +kernel
theorem dX12_only_50 : decode cX12_only 50 = .ok (.iload_n 3, 1) := by decide +kernel
theorem dX12_only_51 : decode cX12_only 51 = .ok (.invokevirtual 327, 3) := by decide +kernel
theorem dX12_only_54 : decode cX12_only 54 = .ok (.lreturn, 1) := by decide +kernel
set_option maxRecDepth 20000 in
theorem ggX12_chosen_X12_isYears : GoodIn wsX12_chosen wsX12_isYears := goodIn_r _ [9, 10, 11, 12, 8, 13] (by decide +kernel) (by decide +kernel)
set_option maxRecDepth 20000 in
theorem gX12_chosen_X12_isYears : GoodIn wsX12_chosen (wsV RX12 315 RX12 yX12_isYears wsX12_isYears) := goodIn_app (goodIn_of _ (by decide +kernel)) ggX12_chosen_X12_isYears
set_option maxRecDepth 20000 in
theorem ggX12_chosen_X12_layGains : GoodIn wsX12_chosen wsX12_layGains := goodIn_r _ [17, 3, 1, 18, 19, 20, 8, 21, 22, 2, 23, 24, 25, 26, 27, 28, 29, 30, 31, 32, 33, 34, 35, 36, 37, 38, 39, 40, 41, 42, 43, 44, 45, 46, 47, 48, 49, 50, 51, 52, 53, 54, 55, 56, 57, 58, 59, 60, 61, 62, 63, 64, 65, 66, 67, 68, 69, 70, 71, 72, 73, 74, 75, 76, 77, 78, 79, 80, 81, 82, 83, 84, 85, 86, 87, 88, 89, 90, 91, 92, 93, 94, 95, 96, 97, 98, 99, 100, 101, 102, 103, 104, 105, 106, 107, 108, 109, 110, 111, 112, 113, 114, 115, 116, 117, 118, 119, 120, 121, 122, 123, 124, 125, 126, 127, 128, 129, 130, 131, 132, 133, 134, 135, 136, 137, 138, 139, 140] (by decide +kernel) (by decide +kernel)
set_option maxRecDepth 20000 in
theorem gX12_chosen_X12_layGains : GoodIn wsX12_chosen (wsV RX12 323 RX12 yX12_layGains wsX12_layGains) := goodIn_app (goodIn_of _ (by decide +kernel)) ggX12_chosen_X12_layGains
theorem dX12_chosen_0 : decode cX12_chosen 0 = .ok (.aload_n 0, 1) := by decide +kernel
theorem dX12_chosen_1 : decode cX12_chosen 1 = .ok (.iload_n 1, 1) := by decide +kernel
theorem dX12_chosen_2 : decode cX12_chosen 2 = .ok (.invokevirtual 315, 3) := by decide +kernel
theorem dX12_chosen_5 : decode cX12_chosen 5 = .ok (.ifCond .ne 6, 3) := by decide +kernel
theorem dX12_chosen_8 : decode cX12_chosen 8 = .ok (.bipush (-2), 2) := by decide +kernel
theorem dX12_chosen_10 : decode cX12_chosen 10 = .ok (.ireturn, 1) := by decide +kernel
theorem dX12_chosen_11 : decode cX12_chosen 11 = .ok (.aload_n 0, 1) := by decide +kernel
theorem dX12_chosen_12 : decode cX12_chosen 12 = .ok (.getfield 7, 3) := by decide +kernel
theorem dX12_chosen_15 : decode cX12_chosen 15 = .ok (.ifCond .ne 6, 3) := by decide +kernel
theorem dX12_chosen_18 : decode cX12_chosen 18 = .ok (.bipush (-5), 2) := by decide +kernel
theorem dX12_chosen_20 : decode cX12_chosen 20 = .ok (.ireturn, 1) := by decide +kernel
theorem dX12_chosen_21 : decode cX12_chosen 21 = .ok (.bipush (-5), 2) := by decide +kernel
theorem dX12_chosen_23 : decode cX12_chosen 23 = .ok (.istore_n 2, 1) := by decide +kernel
theorem dX12_chosen_24 : decode cX12_chosen 24 = .ok (.lconst 0, 1) := by decide +kernel
theorem dX12_chosen_25 : decode cX12_chosen 25 = .ok (.lstore_n 3, 1) := by decide +kernel
theorem dX12_chosen_26 : decode cX12_chosen 26 = .ok (.iconst 0, 1) := by decide +kernel
theorem dX12_chosen_27 : decode cX12_chosen 27 = .ok (.istore 5, 2) := by decide +kernel
theorem dX12_chosen_29 : decode cX12_chosen 29 = .ok (.iload 5, 2) := by decide +kernel
theorem dX12_chosen_31 : decode cX12_chosen 31 = .ok (.iconst 1, 1) := by decide +kernel
theorem dX12_chosen_32 : decode cX12_chosen 32 = .ok (.aload_n 0, 1) := by decide +kernel
theorem dX12_chosen_33 : decode cX12_chosen 33 = .ok (.getfield 7, 3) := by decide +kernel
theorem dX12_chosen_36 : decode cX12_chosen 36 = .ok (.ishl, 1) := by decide +kernel
theorem dX12_chosen_37 : decode cX12_chosen 37 = .ok (.if_icmp .ge 55, 3) := by decide +kernel
theorem dX12_chosen_40 : decode cX12_chosen 40 = .ok (.aload_n 0, 1) := by decide +kernel
theorem dX12_chosen_41 : decode cX12_chosen 41 = .ok (.iload 5, 2) := by decide +kernel
theorem dX12_chosen_43 : decode cX12_chosen 43 = .ok (.putfield 94, 3) := by decide +kernel
theorem dX12_chosen_46 : decode cX12_chosen 46 = .ok (.aload_n 0, 1) := by decide +kernel
theorem dX12_chosen_47 : decode cX12_chosen 47 = .ok (.iconst 2, 1) := by decide +kernel
theorem dX12_chosen_48 : decode cX12_chosen 48 = .ok (.iload_n 1, 1) := by decide +kernel
theorem dX12_chosen_49 : decode cX12_chosen 49 = .ok (.invokevirtual 323, 3) := by decide +kernel
theorem dX12_chosen_52 : decode cX12_chosen 52 = .ok (.iload_n 2, 1) := by decide +kernel
theorem dX12_chosen_53 : decode cX12_chosen 53 = .ok (.ifCond .lt 20, 3) := by decide +kernel
theorem dX12_chosen_56 : decode cX12_chosen 56 = .ok (.aload_n 0, 1) := by decide +kernel
theorem dX12_chosen_57 : decode cX12_chosen 57 = .ok (.getfield 90, 3) := by decide +kernel
theorem dX12_chosen_60 : decode cX12_chosen 60 = .ok (.aload_n 0, 1) := by decide +kernel
theorem dX12_chosen_61 : decode cX12_chosen 61 = .ok (.getfield 13, 3) := by decide +kernel
theorem dX12_chosen_64 : decode cX12_chosen 64 = .ok (.laload, 1) := by decide +kernel
theorem dX12_chosen_65 : decode cX12_chosen 65 = .ok (.lload_n 3, 1) := by decide +kernel
theorem dX12_chosen_66 : decode cX12_chosen 66 = .ok (.lcmp, 1) := by decide +kernel
theorem dX12_chosen_67 : decode cX12_chosen 67 = .ok (.ifCond .gt 6, 3) := by decide +kernel
theorem dX12_chosen_70 : decode cX12_chosen 70 = .ok (.goto 16, 3) := by decide +kernel
theorem dX12_chosen_73 : decode cX12_chosen 73 = .ok (.iload 5, 2) := by decide +kernel
theorem dX12_chosen_75 : decode cX12_chosen 75 = .ok (.istore_n 2, 1) := by decide +kernel
theorem dX12_chosen_76 : decode cX12_chosen 76 = .ok (.aload_n 0, 1) := by decide +kernel
theorem dX12_chosen_77 : decode cX12_chosen 77 = .ok (.getfield 90, 3) := by decide +kernel
theorem dX12_chosen_80 : decode cX12_chosen 80 = .ok (.aload_n 0, 1) := by decide +kernel
theorem dX12_chosen_81 : decode cX12_chosen 81 = .ok (.getfield 13, 3) := by decide +kernel
theorem dX12_chosen_84 : decode cX12_chosen 84 = .ok (.laload, 1) := by decide +kernel
theorem dX12_chosen_85 : decode cX12_chosen 85 = .ok (.lstore_n 3, 1) := by decide +kernel
theorem dX12_chosen_86 : decode cX12_chosen 86 = .ok (.iinc 5 1, 3) := by decide +kernel
theorem dX12_chosen_89 : decode cX12_chosen 89 = .ok (.goto (-60), 3) := by decide +kernel
theorem dX12_chosen_92 : decode cX12_chosen 92 = .ok (.iload_n 2, 1) := by decide +kernel
theorem dX12_chosen_93 : decode cX12_chosen 93 = .ok (.ireturn, 1) := by decide +kernel
set_option maxRecDepth 20000 in
theorem ggX12_wise_X12_isNeed : GoodIn wsX12_wise wsX12_isNeed := goodIn_r _ [6, 7, 8, 9, 10, 5, 11, 78, 79, 80, 81, 82, 83, 84, 85, 86, 87, 88, 89, 90, 91, 92, 93, 94, 95, 96, 97, 98, 99, 100, 101, 102, 103, 104, 105, 106, 107, 108, 109, 110, 111, 112, 113, 114, 115, 116, 117, 118, 119, 120, 121, 122, 123, 124, 125, 126, 127, 128, 129, 130, 131, 132, 133, 134, 135, 136, 137, 138, 139, 140] (by decide +kernel) (by decide +kernel)
set_option maxRecDepth 20000 in
theorem gX12_wise_X12_isNeed : GoodIn wsX12_wise (wsV RX12 215 RX12 yX12_isNeed wsX12_isNeed) := goodIn_app (goodIn_of _ (by decide +kernel)) ggX12_wise_X12_isNeed
set_option maxRecDepth 20000 in
theorem ggX12_wise_X12_in : GoodIn wsX12_wise wsX12_in := goodIn_r _ [11] (by decide +kernel) (by decide +kernel)
set_option maxRecDepth 20000 in
theorem gX12_wise_X12_in : GoodIn wsX12_wise (wsV RX12 207 RX12 yX12_in wsX12_in) := goodIn_app (goodIn_of _ (by decide +kernel)) ggX12_wise_X12_in
set_option maxRecDepth 20000 in
theorem ggX12_wise_X12_layGains : GoodIn wsX12_wise wsX12_layGains := goodIn_r _ [15, 16, 7, 17, 18, 19, 5, 20, 21, 22, 23, 24, 25, 26, 27, 28, 29, 30, 31, 32, 33, 34, 35, 36, 37, 38, 39, 40, 41, 42, 43, 44, 45, 46, 47, 48, 49, 50, 51, 52, 53, 54, 55, 56, 57, 58, 59, 60, 61, 62, 63, 64, 65, 66, 67, 68, 69, 70, 71, 72, 73, 74, 75, 76, 77, 78, 79, 80, 81, 82, 83, 84, 85, 86, 87, 88, 89, 90, 91, 92, 93, 94, 95, 96, 97, 98, 99, 100, 101, 102, 103, 104, 105, 106, 107, 108, 109, 110, 111, 112, 113, 114, 115, 116, 117, 118, 119, 120, 121, 122, 123, 124, 125, 126, 127, 128, 129, 130, 131, 132, 133, 134, 135, 136, 137, 138, 139, 140] (by decide +kernel) (by decide +kernel)
set_option maxRecDepth 20000 in
theorem gX12_wise_X12_layGains : GoodIn wsX12_wise (wsV RX12 323 RX12 yX12_layGains wsX12_layGains) := goodIn_app (goodIn_of _ (by decide +kernel)) ggX12_wise_X12_layGains
set_option maxRecDepth 20000 in
theorem ggX12_wise_X12_ifServed : GoodIn wsX12_wise wsX12_ifServed := goodIn_r _ [50, 21, 16, 27, 28, 29, 5, 30, 7, 51, 52, 53, 54, 55, 56, 57, 58, 59, 60, 61, 35, 36, 37, 38, 39, 40, 41, 42, 43, 44, 45, 46, 62, 63, 64, 65, 66, 67, 68, 69, 70, 71, 72, 73, 31, 32, 33, 34, 78, 79, 80, 81, 82, 83, 84, 85, 86, 87, 88, 89, 90, 91, 92, 93, 94, 95, 96, 97, 98, 99, 100, 101, 102, 103, 104, 105, 106, 107, 108, 109, 110, 111, 112, 113, 114, 115, 116, 117, 118, 119, 120, 121, 122, 123, 124, 125, 126, 127, 128, 129, 130, 131, 132, 133, 134, 135, 136, 137, 138, 139, 140] (by decide +kernel) (by decide +kernel)
set_option maxRecDepth 20000 in
theorem gX12_wise_X12_ifServed : GoodIn wsX12_wise (wsV RX12 303 RX12 yX12_ifServed wsX12_ifServed) := goodIn_app (goodIn_of _ (by decide +kernel)) ggX12_wise_X12_ifServed
set_option maxRecDepth 20000 in
theorem ggX12_wise_X12_ifSpared : GoodIn wsX12_wise wsX12_ifSpared := goodIn_r _ [26, 16, 27, 28, 29, 5, 30, 7, 31, 32, 33, 34, 35, 36, 37, 38, 39, 40, 41, 42, 43, 44, 45, 46, 78, 79, 80, 81, 82, 83, 84, 85, 86, 87, 88, 89, 90, 91, 92, 93, 94, 95, 96, 97, 98, 99, 100, 101, 102, 103, 104, 105, 106, 107, 108, 109, 110, 111, 112, 113, 114, 115, 116, 117, 118, 119, 120, 121, 122, 123, 124, 125, 126, 127, 128, 129, 130, 131, 132, 133, 134, 135, 136, 137, 138, 139, 140] (by decide +kernel) (by decide +kernel)
set_option maxRecDepth 20000 in
theorem gX12_wise_X12_ifSpared : GoodIn wsX12_wise (wsV RX12 299 RX12 yX12_ifSpared wsX12_ifSpared) := goodIn_app (goodIn_of _ (by decide +kernel)) ggX12_wise_X12_ifSpared
theorem dX12_wise_0 : decode cX12_wise 0 = .ok (.aload_n 0, 1) := by decide +kernel
theorem dX12_wise_1 : decode cX12_wise 1 = .ok (.iload_n 1, 1) := by decide +kernel
theorem dX12_wise_2 : decode cX12_wise 2 = .ok (.invokevirtual 215, 3) := by decide +kernel
theorem dX12_wise_5 : decode cX12_wise 5 = .ok (.ifCond .ne 5, 3) := by decide +kernel
theorem dX12_wise_8 : decode cX12_wise 8 = .ok (.iconst (-1), 1) := by decide +kernel
theorem dX12_wise_9 : decode cX12_wise 9 = .ok (.ireturn, 1) := by decide +kernel
theorem dX12_wise_10 : decode cX12_wise 10 = .ok (.aload_n 0, 1) := by decide +kernel
theorem dX12_wise_11 : decode cX12_wise 11 = .ok (.iload_n 2, 1) := by decide +kernel
theorem dX12_wise_12 : decode cX12_wise 12 = .ok (.iconst 1, 1) := by decide +kernel
theorem dX12_wise_13 : decode cX12_wise 13 = .ok (.bipush 8, 2) := by decide +kernel
theorem dX12_wise_15 : decode cX12_wise 15 = .ok (.invokevirtual 207, 3) := by decide +kernel
theorem dX12_wise_18 : decode cX12_wise 18 = .ok (.ifCond .ne 6, 3) := by decide +kernel
theorem dX12_wise_21 : decode cX12_wise 21 = .ok (.bipush (-2), 2) := by decide +kernel
theorem dX12_wise_23 : decode cX12_wise 23 = .ok (.ireturn, 1) := by decide +kernel
theorem dX12_wise_24 : decode cX12_wise 24 = .ok (.aload_n 0, 1) := by decide +kernel
theorem dX12_wise_25 : decode cX12_wise 25 = .ok (.getfield 13, 3) := by decide +kernel
theorem dX12_wise_28 : decode cX12_wise 28 = .ok (.ifCond .ne 5, 3) := by decide +kernel
theorem dX12_wise_31 : decode cX12_wise 31 = .ok (.iconst 0, 1) := by decide +kernel
theorem dX12_wise_32 : decode cX12_wise 32 = .ok (.ireturn, 1) := by decide +kernel
theorem dX12_wise_33 : decode cX12_wise 33 = .ok (.aload_n 0, 1) := by decide +kernel
theorem dX12_wise_34 : decode cX12_wise 34 = .ok (.iconst 0, 1) := by decide +kernel
theorem dX12_wise_35 : decode cX12_wise 35 = .ok (.iload_n 2, 1) := by decide +kernel
theorem dX12_wise_36 : decode cX12_wise 36 = .ok (.invokevirtual 323, 3) := by decide +kernel
theorem dX12_wise_39 : decode cX12_wise 39 = .ok (.aload_n 0, 1) := by decide +kernel
theorem dX12_wise_40 : decode cX12_wise 40 = .ok (.iload_n 1, 1) := by decide +kernel
theorem dX12_wise_41 : decode cX12_wise 41 = .ok (.iconst 0, 1) := by decide +kernel
theorem dX12_wise_42 : decode cX12_wise 42 = .ok (.iload_n 2, 1) := by decide +kernel
theorem dX12_wise_43 : decode cX12_wise 43 = .ok (.aload_n 0, 1) := by decide +kernel
theorem dX12_wise_44 : decode cX12_wise 44 = .ok (.getfield 13, 3) := by decide +kernel
theorem dX12_wise_47 : decode cX12_wise 47 = .ok (.invokevirtual 303, 3) := by decide +kernel
theorem dX12_wise_50 : decode cX12_wise 50 = .ok (.aload_n 0, 1) := by decide +kernel
theorem dX12_wise_51 : decode cX12_wise 51 = .ok (.iconst 0, 1) := by decide +kernel
theorem dX12_wise_52 : decode cX12_wise 52 = .ok (.iload_n 2, 1) := by decide +kernel
theorem dX12_wise_53 : decode cX12_wise 53 = .ok (.aload_n 0, 1) := by decide +kernel
theorem dX12_wise_54 : decode cX12_wise 54 = .ok (.getfield 13, 3) := by decide +kernel
theorem dX12_wise_57 : decode cX12_wise 57 = .ok (.invokevirtual 299, 3) := by decide +kernel
theorem dX12_wise_60 : decode cX12_wise 60 = .ok (.lcmp, 1) := by decide +kernel
theorem dX12_wise_61 : decode cX12_wise 61 = .ok (.ifCond .le 7, 3) := by decide +kernel
theorem dX12_wise_64 : decode cX12_wise 64 = .ok (.iconst 1, 1) := by decide +kernel
theorem dX12_wise_65 : decode cX12_wise 65 = .ok (.goto 4, 3) := by decide +kernel
theorem dX12_wise_68 : decode cX12_wise 68 = .ok (.iconst 0, 1) := by decide +kernel
theorem dX12_wise_69 : decode cX12_wise 69 = .ok (.ireturn, 1) := by decide +kernel
set_option maxRecDepth 20000 in
theorem ggX12_spent_X12_isAsked : GoodIn wsX12_spent wsX12_isAsked := goodIn_r _ [9, 3, 10, 11, 12, 8, 13, 14, 15, 16, 17, 92, 93, 94, 95, 96, 97, 98, 99, 100, 101, 102, 103, 104, 105, 106, 107, 108, 109, 110, 111, 112, 113, 114, 115, 116, 117, 118, 119, 120, 121, 122, 123, 124, 125, 126, 127, 128, 129, 130, 131, 132, 133, 134, 135, 136, 137, 138, 139, 140, 141, 142, 143, 144, 145, 146, 147, 148, 149, 150, 151, 152, 153, 154] (by decide +kernel) (by decide +kernel)
set_option maxRecDepth 20000 in
theorem gX12_spent_X12_isAsked : GoodIn wsX12_spent (wsV RX12 318 RX12 yX12_isAsked wsX12_isAsked) := goodIn_app (goodIn_of _ (by decide +kernel)) ggX12_spent_X12_isAsked
set_option maxRecDepth 20000 in
theorem ggX12_spent_X12_layGains : GoodIn wsX12_spent wsX12_layGains := goodIn_r _ [21, 22, 3, 23, 24, 25, 8, 26, 27, 28, 29, 30, 31, 32, 33, 34, 35, 36, 37, 38, 39, 40, 41, 42, 43, 44, 45, 46, 47, 48, 49, 50, 51, 52, 53, 54, 55, 56, 57, 58, 59, 60, 61, 62, 63, 64, 65, 66, 67, 68, 69, 70, 71, 72, 73, 74, 75, 76, 77, 78, 79, 80, 81, 82, 83, 92, 93, 94, 95, 96, 97, 98, 99, 100, 101, 102, 103, 104, 105, 106, 107, 108, 109, 110, 111, 112, 113, 114, 115, 116, 117, 118, 119, 120, 121, 122, 123, 124, 125, 126, 127, 128, 129, 130, 131, 132, 133, 134, 135, 136, 137, 138, 139, 140, 141, 142, 143, 144, 145, 146, 147, 148, 149, 150, 151, 152, 153, 154] (by decide +kernel) (by decide +kernel)
set_option maxRecDepth 20000 in
theorem gX12_spent_X12_layGains : GoodIn wsX12_spent (wsV RX12 323 RX12 yX12_layGains wsX12_layGains) := goodIn_app (goodIn_of _ (by decide +kernel)) ggX12_spent_X12_layGains
set_option maxRecDepth 20000 in
theorem ggX12_spent_X12_ifServed : GoodIn wsX12_spent wsX12_ifServed := goodIn_r _ [56, 27, 22, 33, 34, 35, 8, 36, 3, 57, 58, 59, 60, 61, 62, 63, 64, 65, 66, 67, 41, 42, 43, 44, 45, 46, 47, 48, 49, 50, 51, 52, 68, 69, 70, 71, 72, 73, 74, 75, 76, 77, 78, 79, 37, 38, 39, 40, 92, 93, 94, 95, 96, 97, 98, 99, 100, 101, 102, 103, 104, 105, 106, 107, 108, 109, 110, 111, 112, 113, 114, 115, 116, 117, 118, 119, 120, 121, 122, 123, 124, 125, 126, 127, 128, 129, 130, 131, 132, 133, 134, 135, 136, 137, 138, 139, 140, 141, 142, 143, 144, 145, 146, 147, 148, 149, 150, 151, 152, 153, 154] (by decide +kernel) (by decide +kernel)
set_option maxRecDepth 20000 in
theorem gX12_spent_X12_ifServed : GoodIn wsX12_spent (wsV RX12 303 RX12 yX12_ifServed wsX12_ifServed) := goodIn_app (goodIn_of _ (by decide +kernel)) ggX12_spent_X12_ifServed
set_option maxRecDepth 20000 in
theorem ggX12_spent_X12_ifSpared : GoodIn wsX12_spent wsX12_ifSpared := goodIn_r _ [32, 22, 33, 34, 35, 8, 36, 3, 37, 38, 39, 40, 41, 42, 43, 44, 45, 46, 47, 48, 49, 50, 51, 52, 92, 93, 94, 95, 96, 97, 98, 99, 100, 101, 102, 103, 104, 105, 106, 107, 108, 109, 110, 111, 112, 113, 114, 115, 116, 117, 118, 119, 120, 121, 122, 123, 124, 125, 126, 127, 128, 129, 130, 131, 132, 133, 134, 135, 136, 137, 138, 139, 140, 141, 142, 143, 144, 145, 146, 147, 148, 149, 150, 151, 152, 153, 154] (by decide +kernel) (by decide +kernel)
set_option maxRecDepth 20000 in
theorem gX12_spent_X12_ifSpared : GoodIn wsX12_spent (wsV RX12 299 RX12 yX12_ifSpared wsX12_ifSpared) := goodIn_app (goodIn_of _ (by decide +kernel)) ggX12_spent_X12_ifSpared
set_option maxRecDepth 20000 in
theorem ggX12_spent_X12_ways : GoodIn wsX12_spent wsX12_ways := goodIn_r _ [36, 3, 92, 93, 94, 95, 96, 97, 98, 99, 100, 101, 102, 103, 104, 105, 106, 107, 108, 109, 110, 111, 112, 113, 114, 115, 116, 117, 118, 119, 120, 121, 122, 123, 124, 125, 126, 127, 128, 129, 130, 131, 132, 133, 134, 135, 136, 137, 138, 139, 140, 141, 142, 143, 144, 145, 146, 147, 148, 149, 150, 151, 152, 153, 154] (by decide +kernel) (by decide +kernel)
set_option maxRecDepth 20000 in
theorem gX12_spent_X12_ways : GoodIn wsX12_spent (wsV RX12 295 RX12 yX12_ways wsX12_ways) := goodIn_app (goodIn_of _ (by decide +kernel)) ggX12_spent_X12_ways
set_option maxRecDepth 20000 in
theorem ggX12_spent_X12_lowest : GoodIn wsX12_spent wsX12_lowest := goodIn_r _ [87, 88, 89, 90, 8, 91] (by decide +kernel) (by decide +kernel)
set_option maxRecDepth 20000 in
theorem gX12_spent_X12_lowest : GoodIn wsX12_spent (wsV RX12 327 RX12 yX12_lowest wsX12_lowest) := goodIn_app (goodIn_of _ (by decide +kernel)) ggX12_spent_X12_lowest
theorem dX12_spent_0 : decode cX12_spent 0 = .ok (.aload_n 0, 1) := by decide +kernel
theorem dX12_spent_1 : decode cX12_spent 1 = .ok (.iload_n 1, 1) := by decide +kernel
theorem dX12_spent_2 : decode cX12_spent 2 = .ok (.iload_n 2, 1) := by decide +kernel
theorem dX12_spent_3 : decode cX12_spent 3 = .ok (.invokevirtual 318, 3) := by decide +kernel
theorem dX12_spent_6 : decode cX12_spent 6 = .ok (.ifCond .ne 7, 3) := by decide +kernel
theorem dX12_spent_9 : decode cX12_spent 9 = .ok (.ldc2_w 321, 3) := by decide +kernel
theorem dX12_spent_12 : decode cX12_spent 12 = .ok (.lreturn, 1) := by decide +kernel
theorem dX12_spent_13 : decode cX12_spent 13 = .ok (.aload_n 0, 1) := by decide +kernel
theorem dX12_spent_14 : decode cX12_spent 14 = .ok (.iconst 0, 1) := by decide +kernel
theorem dX12_spent_15 : decode cX12_spent 15 = .ok (.iload_n 1, 1) := by decide +kernel
theorem dX12_spent_16 : decode cX12_spent 16 = .ok (.invokevirtual 323, 3) := by decide +kernel
theorem dX12_spent_19 : decode cX12_spent 19 = .ok (.iconst 0, 1) := by decide +kernel
theorem dX12_spent_20 : decode cX12_spent 20 = .ok (.istore_n 3, 1) := by decide +kernel
theorem dX12_spent_21 : decode cX12_spent 21 = .ok (.iload_n 3, 1) := by decide +kernel
theorem dX12_spent_22 : decode cX12_spent 22 = .ok (.bipush 9, 2) := by decide +kernel
theorem dX12_spent_24 : decode cX12_spent 24 = .ok (.if_icmp .ge 29, 3) := by decide +kernel
theorem dX12_spent_27 : decode cX12_spent 27 = .ok (.aload_n 0, 1) := by decide +kernel
theorem dX12_spent_28 : decode cX12_spent 28 = .ok (.getfield 97, 3) := by decide +kernel
theorem dX12_spent_31 : decode cX12_spent 31 = .ok (.bipush 10, 2) := by decide +kernel
theorem dX12_spent_33 : decode cX12_spent 33 = .ok (.iload_n 1, 1) := by decide +kernel
theorem dX12_spent_34 : decode cX12_spent 34 = .ok (.imul, 1) := by decide +kernel
theorem dX12_spent_35 : decode cX12_spent 35 = .ok (.iload_n 3, 1) := by decide +kernel
theorem dX12_spent_36 : decode cX12_spent 36 = .ok (.iadd, 1) := by decide +kernel
theorem dX12_spent_37 : decode cX12_spent 37 = .ok (.iload_n 3, 1) := by decide +kernel
theorem dX12_spent_38 : decode cX12_spent 38 = .ok (.ifCond .ne 7, 3) := by decide +kernel
theorem dX12_spent_41 : decode cX12_spent 41 = .ok (.lconst 1, 1) := by decide +kernel
theorem dX12_spent_42 : decode cX12_spent 42 = .ok (.goto 4, 3) := by decide +kernel
theorem dX12_spent_45 : decode cX12_spent 45 = .ok (.lconst 0, 1) := by decide +kernel
theorem dX12_spent_46 : decode cX12_spent 46 = .ok (.lastore, 1) := by decide +kernel
theorem dX12_spent_47 : decode cX12_spent 47 = .ok (.iinc 3 1, 3) := by decide +kernel
theorem dX12_spent_50 : decode cX12_spent 50 = .ok (.goto (-29), 3) := by decide +kernel
theorem dX12_spent_53 : decode cX12_spent 53 = .ok (.iload_n 1, 1) := by decide +kernel
theorem dX12_spent_54 : decode cX12_spent 54 = .ok (.iconst 1, 1) := by decide +kernel
theorem dX12_spent_55 : decode cX12_spent 55 = .ok (.isub, 1) := by decide +kernel
theorem dX12_spent_56 : decode cX12_spent 56 = .ok (.istore_n 3, 1) := by decide +kernel
theorem dX12_spent_57 : decode cX12_spent 57 = .ok (.iload_n 3, 1) := by decide +kernel
theorem dX12_spent_58 : decode cX12_spent 58 = .ok (.ifCond .lt 114, 3) := by decide +kernel
theorem dX12_spent_61 : decode cX12_spent 61 = .ok (.iconst 0, 1) := by decide +kernel
theorem dX12_spent_62 : decode cX12_spent 62 = .ok (.istore 4, 2) := by decide +kernel
theorem dX12_spent_64 : decode cX12_spent 64 = .ok (.iload 4, 2) := by decide +kernel
theorem dX12_spent_66 : decode cX12_spent 66 = .ok (.bipush 9, 2) := by decide +kernel
theorem dX12_spent_68 : decode cX12_spent 68 = .ok (.if_icmp .ge 98, 3) := by decide +kernel
theorem dX12_spent_71 : decode cX12_spent 71 = .ok (.lconst 0, 1) := by decide +kernel
theorem dX12_spent_72 : decode cX12_spent 72 = .ok (.lstore 5, 2) := by decide +kernel
theorem dX12_spent_74 : decode cX12_spent 74 = .ok (.iconst 0, 1) := by decide +kernel
theorem dX12_spent_75 : decode cX12_spent 75 = .ok (.istore 7, 2) := by decide +kernel
theorem dX12_spent_77 : decode cX12_spent 77 = .ok (.iload 7, 2) := by decide +kernel
theorem dX12_spent_79 : decode cX12_spent 79 = .ok (.aload_n 0, 1) := by decide +kernel
theorem dX12_spent_80 : decode cX12_spent 80 = .ok (.getfield 7, 3) := by decide +kernel
theorem dX12_spent_83 : decode cX12_spent 83 = .ok (.if_icmp .ge 63, 3) := by decide +kernel
theorem dX12_spent_86 : decode cX12_spent 86 = .ok (.lload 5, 2) := by decide +kernel
theorem dX12_spent_88 : decode cX12_spent 88 = .ok (.aload_n 0, 1) := by decide +kernel
theorem dX12_spent_89 : decode cX12_spent 89 = .ok (.getfield 97, 3) := by decide +kernel
theorem dX12_spent_92 : decode cX12_spent 92 = .ok (.bipush 10, 2) := by decide +kernel
theorem dX12_spent_94 : decode cX12_spent 94 = .ok (.iload_n 3, 1) := by decide +kernel
theorem dX12_spent_95 : decode cX12_spent 95 = .ok (.imul, 1) := by decide +kernel
theorem dX12_spent_96 : decode cX12_spent 96 = .ok (.bipush 10, 2) := by decide +kernel
theorem dX12_spent_98 : decode cX12_spent 98 = .ok (.iadd, 1) := by decide +kernel
theorem dX12_spent_99 : decode cX12_spent 99 = .ok (.iload 4, 2) := by decide +kernel
theorem dX12_spent_101 : decode cX12_spent 101 = .ok (.ifCond .le 32, 3) := by decide +kernel
theorem dX12_spent_104 : decode cX12_spent 104 = .ok (.aload_n 0, 1) := by decide +kernel
theorem dX12_spent_105 : decode cX12_spent 105 = .ok (.iload 7, 2) := by decide +kernel
theorem dX12_spent_107 : decode cX12_spent 107 = .ok (.iload_n 3, 1) := by decide +kernel
theorem dX12_spent_108 : decode cX12_spent 108 = .ok (.iload_n 1, 1) := by decide +kernel
theorem dX12_spent_109 : decode cX12_spent 109 = .ok (.iload 4, 2) := by decide +kernel
theorem dX12_spent_111 : decode cX12_spent 111 = .ok (.invokevirtual 303, 3) := by decide +kernel
theorem dX12_spent_114 : decode cX12_spent 114 = .ok (.aload_n 0, 1) := by decide +kernel
theorem dX12_spent_115 : decode cX12_spent 115 = .ok (.iload_n 3, 1) := by decide +kernel
theorem dX12_spent_116 : decode cX12_spent 116 = .ok (.iload_n 1, 1) := by decide +kernel
theorem dX12_spent_117 : decode cX12_spent 117 = .ok (.iload 4, 2) := by decide +kernel
theorem dX12_spent_119 : decode cX12_spent 119 = .ok (.invokevirtual 299, 3) := by decide +kernel
theorem dX12_spent_122 : decode cX12_spent 122 = .ok (.lcmp, 1) := by decide +kernel
theorem dX12_spent_123 : decode cX12_spent 123 = .ok (.ifCond .le 10, 3) := by decide +kernel
theorem dX12_spent_126 : decode cX12_spent 126 = .ok (.iload 4, 2) := by decide +kernel
theorem dX12_spent_128 : decode cX12_spent 128 = .ok (.iconst 1, 1) := by decide +kernel
theorem dX12_spent_129 : decode cX12_spent 129 = .ok (.isub, 1) := by decide +kernel
theorem dX12_spent_130 : decode cX12_spent 130 = .ok (.goto 5, 3) := by decide +kernel
theorem dX12_spent_133 : decode cX12_spent 133 = .ok (.iload 4, 2) := by decide +kernel
theorem dX12_spent_135 : decode cX12_spent 135 = .ok (.iadd, 1) := by decide +kernel
theorem dX12_spent_136 : decode cX12_spent 136 = .ok (.laload, 1) := by decide +kernel
theorem dX12_spent_137 : decode cX12_spent 137 = .ok (.ladd, 1) := by decide +kernel
theorem dX12_spent_138 : decode cX12_spent 138 = .ok (.lstore 5, 2) := by decide +kernel
theorem dX12_spent_140 : decode cX12_spent 140 = .ok (.iinc 7 1, 3) := by decide +kernel
theorem dX12_spent_143 : decode cX12_spent 143 = .ok (.goto (-66), 3) := by decide +kernel
theorem dX12_spent_146 : decode cX12_spent 146 = .ok (.aload_n 0, 1) := by decide +kernel
theorem dX12_spent_147 : decode cX12_spent 147 = .ok (.getfield 97, 3) := by decide +kernel
theorem dX12_spent_150 : decode cX12_spent 150 = .ok (.bipush 10, 2) := by decide +kernel
theorem dX12_spent_152 : decode cX12_spent 152 = .ok (.iload_n 3, 1) := by decide +kernel
theorem dX12_spent_153 : decode cX12_spent 153 = .ok (.imul, 1) := by decide +kernel
theorem dX12_spent_154 : decode cX12_spent 154 = .ok (.iload 4, 2) := by decide +kernel
theorem dX12_spent_156 : decode cX12_spent 156 = .ok (.iadd, 1) := by decide +kernel
theorem dX12_spent_157 : decode cX12_spent 157 = .ok (.lload 5, 2) := by decide +kernel
theorem dX12_spent_159 : decode cX12_spent 159 = .ok (.lastore, 1) := by decide +kernel
theorem dX12_spent_160 : decode cX12_spent 160 = .ok (.iinc 4 1, 3) := by decide +kernel
theorem dX12_spent_163 : decode cX12_spent 163 = .ok (.goto (-99), 3) := by decide +kernel
theorem dX12_spent_166 : decode cX12_spent 166 = .ok (.iinc 3 (-1), 3) := by decide +kernel
theorem dX12_spent_169 : decode cX12_spent 169 = .ok (.goto (-112), 3) := by decide +kernel
theorem dX12_spent_172 : decode cX12_spent 172 = .ok (.aload_n 0, 1) := by decide +kernel
theorem dX12_spent_173 : decode cX12_spent 173 = .ok (.aload_n 0, 1) := by decide +kernel
theorem dX12_spent_174 : decode cX12_spent 174 = .ok (.getfield 97, 3) := by decide +kernel
theorem dX12_spent_177 : decode cX12_spent 177 = .ok (.aload_n 0, 1) := by decide +kernel
theorem dX12_spent_178 : decode cX12_spent 178 = .ok (.getfield 13, 3) := by decide +kernel
theorem dX12_spent_181 : decode cX12_spent 181 = .ok (.laload, 1) := by decide +kernel
theorem dX12_spent_182 : decode cX12_spent 182 = .ok (.aload_n 0, 1) := by decide +kernel
theorem dX12_spent_183 : decode cX12_spent 183 = .ok (.iload_n 1, 1) := by decide +kernel
theorem dX12_spent_184 : decode cX12_spent 184 = .ok (.invokevirtual 295, 3) := by decide +kernel
theorem dX12_spent_187 : decode cX12_spent 187 = .ok (.iload_n 2, 1) := by decide +kernel
theorem dX12_spent_188 : decode cX12_spent 188 = .ok (.invokevirtual 327, 3) := by decide +kernel
theorem dX12_spent_191 : decode cX12_spent 191 = .ok (.lreturn, 1) := by decide +kernel
set_option maxRecDepth 20000 in
theorem ggX12_threshold_X12_in : GoodIn wsX12_threshold wsX12_in := goodIn_r _ [8] (by decide +kernel) (by decide +kernel)
set_option maxRecDepth 20000 in
theorem gX12_threshold_X12_in : GoodIn wsX12_threshold (wsV RX12 207 RX12 yX12_in wsX12_in) := goodIn_app (goodIn_of _ (by decide +kernel)) ggX12_threshold_X12_in
set_option maxRecDepth 20000 in
theorem ggX12_threshold_X12_layGains : GoodIn wsX12_threshold wsX12_layGains := goodIn_r _ [12, 3, 2, 13, 14, 15, 7, 16, 17, 18, 19, 20, 21, 22, 23, 24, 25, 26, 27, 28, 29, 30, 31, 32, 33, 34, 35, 36, 37, 38, 39, 40, 41, 42, 43, 44, 45, 46, 47, 48, 49, 50, 51, 52, 53, 54, 55, 56, 57, 58, 59, 60, 61, 62, 63, 64, 65, 66, 67, 68, 69, 70, 71, 72, 73, 74, 75, 76, 77, 78, 79, 80, 81, 82, 83, 84, 85, 86, 87, 88, 89, 90, 91, 92, 93, 94, 95, 96, 97, 98, 99, 100, 101, 102, 103, 104, 105, 106, 107, 108, 109, 110, 111, 112, 113, 114, 115, 116, 117, 118, 119, 120, 121, 122, 123, 124, 125, 126, 127, 128, 129, 130, 131, 132, 133, 134, 135, 136] (by decide +kernel) (by decide +kernel)
set_option maxRecDepth 20000 in
theorem gX12_threshold_X12_layGains : GoodIn wsX12_threshold (wsV RX12 323 RX12 yX12_layGains wsX12_layGains) := goodIn_app (goodIn_of _ (by decide +kernel)) ggX12_threshold_X12_layGains
set_option maxRecDepth 20000 in
theorem ggX12_threshold_X12_ifSpared : GoodIn wsX12_threshold wsX12_ifSpared := goodIn_r _ [22, 3, 23, 24, 25, 7, 26, 2, 27, 28, 29, 30, 31, 32, 33, 34, 35, 36, 37, 38, 39, 40, 41, 42, 74, 75, 76, 77, 78, 79, 80, 81, 82, 83, 84, 85, 86, 87, 88, 89, 90, 91, 92, 93, 94, 95, 96, 97, 98, 99, 100, 101, 102, 103, 104, 105, 106, 107, 108, 109, 110, 111, 112, 113, 114, 115, 116, 117, 118, 119, 120, 121, 122, 123, 124, 125, 126, 127, 128, 129, 130, 131, 132, 133, 134, 135, 136] (by decide +kernel) (by decide +kernel)
set_option maxRecDepth 20000 in
theorem gX12_threshold_X12_ifSpared : GoodIn wsX12_threshold (wsV RX12 299 RX12 yX12_ifSpared wsX12_ifSpared) := goodIn_app (goodIn_of _ (by decide +kernel)) ggX12_threshold_X12_ifSpared
set_option maxRecDepth 20000 in
theorem ggX12_threshold_X12_ways : GoodIn wsX12_threshold wsX12_ways := goodIn_r _ [26, 2, 74, 75, 76, 77, 78, 79, 80, 81, 82, 83, 84, 85, 86, 87, 88, 89, 90, 91, 92, 93, 94, 95, 96, 97, 98, 99, 100, 101, 102, 103, 104, 105, 106, 107, 108, 109, 110, 111, 112, 113, 114, 115, 116, 117, 118, 119, 120, 121, 122, 123, 124, 125, 126, 127, 128, 129, 130, 131, 132, 133, 134, 135, 136] (by decide +kernel) (by decide +kernel)
set_option maxRecDepth 20000 in
theorem gX12_threshold_X12_ways : GoodIn wsX12_threshold (wsV RX12 295 RX12 yX12_ways wsX12_ways) := goodIn_app (goodIn_of _ (by decide +kernel)) ggX12_threshold_X12_ways
set_option maxRecDepth 20000 in
theorem ggX12_threshold_X12_keep : GoodIn wsX12_threshold wsX12_keep := goodIn_r _ [30, 31, 32, 33, 34, 35, 7, 36, 37, 38, 39, 40, 41, 42, 74, 75, 76, 77, 78, 79, 80, 81, 82, 83, 84, 85, 86, 87, 88, 89, 90, 91, 92, 93, 94, 95, 96, 97, 98, 99, 100, 101, 102, 103, 104, 105, 106, 107, 108, 109, 110, 111, 112, 113, 114, 115, 116, 117, 118, 119, 120, 121, 122, 123, 124, 125, 126, 127, 128, 129, 130, 131, 132, 133, 134, 135, 136] (by decide +kernel) (by decide +kernel)
set_option maxRecDepth 20000 in
theorem gX12_threshold_X12_keep : GoodIn wsX12_threshold (wsV RX12 289 RX12 yX12_keep wsX12_keep) := goodIn_app (goodIn_of _ (by decide +kernel)) ggX12_threshold_X12_keep
theorem dX12_threshold_0 : decode cX12_threshold 0 = .ok (.aload_n 0, 1) := by decide +kernel
theorem dX12_threshold_1 : decode cX12_threshold 1 = .ok (.iload_n 1, 1) := by decide +kernel
theorem dX12_threshold_2 : decode cX12_threshold 2 = .ok (.iconst 1, 1) := by decide +kernel
theorem dX12_threshold_3 : decode cX12_threshold 3 = .ok (.bipush 8, 2) := by decide +kernel
theorem dX12_threshold_5 : decode cX12_threshold 5 = .ok (.invokevirtual 207, 3) := by decide +kernel
theorem dX12_threshold_8 : decode cX12_threshold 8 = .ok (.ifCond .ne 6, 3) := by decide +kernel
theorem dX12_threshold_11 : decode cX12_threshold 11 = .ok (.bipush (-2), 2) := by decide +kernel
theorem dX12_threshold_13 : decode cX12_threshold 13 = .ok (.ireturn, 1) := by decide +kernel
theorem dX12_threshold_14 : decode cX12_threshold 14 = .ok (.aload_n 0, 1) := by decide +kernel
theorem dX12_threshold_15 : decode cX12_threshold 15 = .ok (.getfield 13, 3) := by decide +kernel
theorem dX12_threshold_18 : decode cX12_threshold 18 = .ok (.ifCond .eq 10, 3) := by decide +kernel
theorem dX12_threshold_21 : decode cX12_threshold 21 = .ok (.aload_n 0, 1) := by decide +kernel
theorem dX12_threshold_22 : decode cX12_threshold 22 = .ok (.getfield 7, 3) := by decide +kernel
theorem dX12_threshold_25 : decode cX12_threshold 25 = .ok (.ifCond .ne 6, 3) := by decide +kernel
theorem dX12_threshold_28 : decode cX12_threshold 28 = .ok (.bipush (-5), 2) := by decide +kernel
theorem dX12_threshold_30 : decode cX12_threshold 30 = .ok (.ireturn, 1) := by decide +kernel
theorem dX12_threshold_31 : decode cX12_threshold 31 = .ok (.aload_n 0, 1) := by decide +kernel
theorem dX12_threshold_32 : decode cX12_threshold 32 = .ok (.iconst 0, 1) := by decide +kernel
theorem dX12_threshold_33 : decode cX12_threshold 33 = .ok (.iload_n 1, 1) := by decide +kernel
theorem dX12_threshold_34 : decode cX12_threshold 34 = .ok (.invokevirtual 323, 3) := by decide +kernel
theorem dX12_threshold_37 : decode cX12_threshold 37 = .ok (.aload_n 0, 1) := by decide +kernel
theorem dX12_threshold_38 : decode cX12_threshold 38 = .ok (.iconst 0, 1) := by decide +kernel
theorem dX12_threshold_39 : decode cX12_threshold 39 = .ok (.iload_n 1, 1) := by decide +kernel
theorem dX12_threshold_40 : decode cX12_threshold 40 = .ok (.aload_n 0, 1) := by decide +kernel
theorem dX12_threshold_41 : decode cX12_threshold 41 = .ok (.getfield 13, 3) := by decide +kernel
theorem dX12_threshold_44 : decode cX12_threshold 44 = .ok (.invokevirtual 299, 3) := by decide +kernel
theorem dX12_threshold_47 : decode cX12_threshold 47 = .ok (.lstore_n 2, 1) := by decide +kernel
theorem dX12_threshold_48 : decode cX12_threshold 48 = .ok (.iconst 0, 1) := by decide +kernel
theorem dX12_threshold_49 : decode cX12_threshold 49 = .ok (.istore 4, 2) := by decide +kernel
theorem dX12_threshold_51 : decode cX12_threshold 51 = .ok (.iload 4, 2) := by decide +kernel
theorem dX12_threshold_53 : decode cX12_threshold 53 = .ok (.sipush 1000, 3) := by decide +kernel
theorem dX12_threshold_56 : decode cX12_threshold 56 = .ok (.if_icmp .ge 55, 3) := by decide +kernel
theorem dX12_threshold_59 : decode cX12_threshold 59 = .ok (.aload_n 0, 1) := by decide +kernel
theorem dX12_threshold_60 : decode cX12_threshold 60 = .ok (.iload_n 1, 1) := by decide +kernel
theorem dX12_threshold_61 : decode cX12_threshold 61 = .ok (.iconst 1, 1) := by decide +kernel
theorem dX12_threshold_62 : decode cX12_threshold 62 = .ok (.isub, 1) := by decide +kernel
theorem dX12_threshold_63 : decode cX12_threshold 63 = .ok (.invokevirtual 295, 3) := by decide +kernel
theorem dX12_threshold_66 : decode cX12_threshold 66 = .ok (.iload 4, 2) := by decide +kernel
theorem dX12_threshold_68 : decode cX12_threshold 68 = .ok (.aload_n 0, 1) := by decide +kernel
theorem dX12_threshold_69 : decode cX12_threshold 69 = .ok (.invokevirtual 289, 3) := by decide +kernel
theorem dX12_threshold_72 : decode cX12_threshold 72 = .ok (.aload_n 0, 1) := by decide +kernel
theorem dX12_threshold_73 : decode cX12_threshold 73 = .ok (.getfield 13, 3) := by decide +kernel
theorem dX12_threshold_76 : decode cX12_threshold 76 = .ok (.iconst 1, 1) := by decide +kernel
theorem dX12_threshold_77 : decode cX12_threshold 77 = .ok (.isub, 1) := by decide +kernel
theorem dX12_threshold_78 : decode cX12_threshold 78 = .ok (.imul, 1) := by decide +kernel
theorem dX12_threshold_79 : decode cX12_threshold 79 = .ok (.isub, 1) := by decide +kernel
theorem dX12_threshold_80 : decode cX12_threshold 80 = .ok (.i2l, 1) := by decide +kernel
theorem dX12_threshold_81 : decode cX12_threshold 81 = .ok (.lmul, 1) := by decide +kernel
theorem dX12_threshold_82 : decode cX12_threshold 82 = .ok (.aload_n 0, 1) := by decide +kernel
theorem dX12_threshold_83 : decode cX12_threshold 83 = .ok (.getfield 90, 3) := by decide +kernel
theorem dX12_threshold_86 : decode cX12_threshold 86 = .ok (.bipush 10, 2) := by decide +kernel
theorem dX12_threshold_88 : decode cX12_threshold 88 = .ok (.aload_n 0, 1) := by decide +kernel
theorem dX12_threshold_89 : decode cX12_threshold 89 = .ok (.getfield 13, 3) := by decide +kernel
theorem dX12_threshold_92 : decode cX12_threshold 92 = .ok (.iadd, 1) := by decide +kernel
theorem dX12_threshold_93 : decode cX12_threshold 93 = .ok (.iconst 1, 1) := by decide +kernel
theorem dX12_threshold_94 : decode cX12_threshold 94 = .ok (.isub, 1) := by decide +kernel
theorem dX12_threshold_95 : decode cX12_threshold 95 = .ok (.laload, 1) := by decide +kernel
theorem dX12_threshold_96 : decode cX12_threshold 96 = .ok (.ladd, 1) := by decide +kernel
theorem dX12_threshold_97 : decode cX12_threshold 97 = .ok (.lload_n 2, 1) := by decide +kernel
theorem dX12_threshold_98 : decode cX12_threshold 98 = .ok (.lcmp, 1) := by decide +kernel
theorem dX12_threshold_99 : decode cX12_threshold 99 = .ok (.ifCond .le 6, 3) := by decide +kernel
theorem dX12_threshold_102 : decode cX12_threshold 102 = .ok (.iload 4, 2) := by decide +kernel
theorem dX12_threshold_104 : decode cX12_threshold 104 = .ok (.ireturn, 1) := by decide +kernel
theorem dX12_threshold_105 : decode cX12_threshold 105 = .ok (.iinc 4 1, 3) := by decide +kernel
theorem dX12_threshold_108 : decode cX12_threshold 108 = .ok (.goto (-57), 3) := by decide +kernel
theorem dX12_threshold_111 : decode cX12_threshold 111 = .ok (.bipush (-5), 2) := by decide +kernel
theorem dX12_threshold_113 : decode cX12_threshold 113 = .ok (.ireturn, 1) := by decide +kernel
set_option maxRecDepth 20000 in
theorem ggX12_century_X12_isNeed : GoodIn wsX12_century wsX12_isNeed := goodIn_r _ [7, 8, 9, 10, 11, 6, 12, 13, 14, 15, 16, 17, 18, 19, 20, 21, 22, 23, 24, 25, 26, 27, 28, 29, 30, 31, 32, 33, 34, 35, 36, 37, 38, 39, 40, 41, 42, 43, 44, 45, 46, 47, 48, 49, 50, 51, 52, 53, 54, 55, 56, 57, 58, 59, 60, 61, 62, 63, 64, 65, 66, 67, 68, 69, 70, 71, 72, 73, 74, 75] (by decide +kernel) (by decide +kernel)
set_option maxRecDepth 20000 in
theorem gX12_century_X12_isNeed : GoodIn wsX12_century (wsV RX12 215 RX12 yX12_isNeed wsX12_isNeed) := goodIn_app (goodIn_of _ (by decide +kernel)) ggX12_century_X12_isNeed
theorem dX12_century_0 : decode cX12_century 0 = .ok (.iload_n 1, 1) := by decide +kernel
theorem dX12_century_1 : decode cX12_century 1 = .ok (.iconst (-1), 1) := by decide +kernel
theorem dX12_century_2 : decode cX12_century 2 = .ok (.if_icmp .ne 10, 3) := by decide +kernel
theorem dX12_century_5 : decode cX12_century 5 = .ok (.aload_n 0, 1) := by decide +kernel
theorem dX12_century_6 : decode cX12_century 6 = .ok (.iconst 0, 1) := by decide +kernel
theorem dX12_century_7 : decode cX12_century 7 = .ok (.putfield 100, 3) := by decide +kernel
theorem dX12_century_10 : decode cX12_century 10 = .ok (.iconst 0, 1) := by decide +kernel
theorem dX12_century_11 : decode cX12_century 11 = .ok (.ireturn, 1) := by decide +kernel
theorem dX12_century_12 : decode cX12_century 12 = .ok (.aload_n 0, 1) := by decide +kernel
theorem dX12_century_13 : decode cX12_century 13 = .ok (.iload_n 1, 1) := by decide +kernel
theorem dX12_century_14 : decode cX12_century 14 = .ok (.invokevirtual 215, 3) := by decide +kernel
theorem dX12_century_17 : decode cX12_century 17 = .ok (.ifCond .ne 5, 3) := by decide +kernel
theorem dX12_century_20 : decode cX12_century 20 = .ok (.iconst (-1), 1) := by decide +kernel
theorem dX12_century_21 : decode cX12_century 21 = .ok (.ireturn, 1) := by decide +kernel
theorem dX12_century_22 : decode cX12_century 22 = .ok (.aload_n 0, 1) := by decide +kernel
theorem dX12_century_23 : decode cX12_century 23 = .ok (.getfield 100, 3) := by decide +kernel
theorem dX12_century_26 : decode cX12_century 26 = .ok (.bipush 8, 2) := by decide +kernel
theorem dX12_century_28 : decode cX12_century 28 = .ok (.if_icmp .ne 6, 3) := by decide +kernel
theorem dX12_century_31 : decode cX12_century 31 = .ok (.bipush (-4), 2) := by decide +kernel
theorem dX12_century_33 : decode cX12_century 33 = .ok (.ireturn, 1) := by decide +kernel
theorem dX12_century_34 : decode cX12_century 34 = .ok (.aload_n 0, 1) := by decide +kernel
theorem dX12_century_35 : decode cX12_century 35 = .ok (.getfield 103, 3) := by decide +kernel
theorem dX12_century_38 : decode cX12_century 38 = .ok (.aload_n 0, 1) := by decide +kernel
theorem dX12_century_39 : decode cX12_century 39 = .ok (.getfield 100, 3) := by decide +kernel
theorem dX12_century_42 : decode cX12_century 42 = .ok (.iload_n 1, 1) := by decide +kernel
theorem dX12_century_43 : decode cX12_century 43 = .ok (.iastore, 1) := by decide +kernel
theorem dX12_century_44 : decode cX12_century 44 = .ok (.aload_n 0, 1) := by decide +kernel
theorem dX12_century_45 : decode cX12_century 45 = .ok (.dup, 1) := by decide +kernel
theorem dX12_century_46 : decode cX12_century 46 = .ok (.getfield 100, 3) := by decide +kernel
theorem dX12_century_49 : decode cX12_century 49 = .ok (.iconst 1, 1) := by decide +kernel
theorem dX12_century_50 : decode cX12_century 50 = .ok (.iadd, 1) := by decide +kernel
theorem dX12_century_51 : decode cX12_century 51 = .ok (.putfield 100, 3) := by decide +kernel
theorem dX12_century_54 : decode cX12_century 54 = .ok (.aload_n 0, 1) := by decide +kernel
theorem dX12_century_55 : decode cX12_century 55 = .ok (.getfield 100, 3) := by decide +kernel
theorem dX12_century_58 : decode cX12_century 58 = .ok (.ireturn, 1) := by decide +kernel
set_option maxRecDepth 20000 in
theorem ggX12_gainBy_X12_has : GoodIn wsX12_gainBy wsX12_has := goodIn_r _ [9] (by decide +kernel) (by decide +kernel)
set_option maxRecDepth 20000 in
theorem gX12_gainBy_X12_has : GoodIn wsX12_gainBy (wsV RX12 203 RX12 yX12_has wsX12_has) := goodIn_app (goodIn_of _ (by decide +kernel)) ggX12_gainBy_X12_has
set_option maxRecDepth 20000 in
theorem ggX12_gainBy_X12_worthOf : GoodIn wsX12_gainBy wsX12_worthOf := goodIn_r _ [13, 14, 15, 16, 17, 18, 19, 8, 20, 21, 22, 23, 24, 25, 26, 27, 28, 29, 30, 31, 32, 33, 34, 35, 36, 37, 38, 39, 40, 41, 42, 43, 44, 49, 50, 51, 52, 53, 54, 55, 56, 57, 58, 59, 60, 61, 62, 63, 64, 65, 66, 67, 68, 69, 70, 71, 72, 73, 74, 75, 76, 77, 78, 79, 80, 81, 82, 83, 84, 85, 86, 87, 88, 89, 90, 91, 92, 93, 94, 95, 96, 97, 98, 99, 100, 101, 102, 103, 104, 105, 106, 107, 108, 109, 110, 111] (by decide +kernel) (by decide +kernel)
set_option maxRecDepth 20000 in
theorem gX12_gainBy_X12_worthOf : GoodIn wsX12_gainBy (wsV RX12 282 RX12 yX12_worthOf wsX12_worthOf) := goodIn_app (goodIn_of _ (by decide +kernel)) ggX12_gainBy_X12_worthOf
set_option maxRecDepth 20000 in
theorem ggX12_gainBy_X12_keep : GoodIn wsX12_gainBy wsX12_keep := goodIn_r _ [48, 21, 22, 23, 24, 25, 8, 26, 27, 28, 29, 30, 31, 32, 49, 50, 51, 52, 53, 54, 55, 56, 57, 58, 59, 60, 61, 62, 63, 64, 65, 66, 67, 68, 69, 70, 71, 72, 73, 74, 75, 76, 77, 78, 79, 80, 81, 82, 83, 84, 85, 86, 87, 88, 89, 90, 91, 92, 93, 94, 95, 96, 97, 98, 99, 100, 101, 102, 103, 104, 105, 106, 107, 108, 109, 110, 111] (by decide +kernel) (by decide +kernel)
set_option maxRecDepth 20000 in
theorem gX12_gainBy_X12_keep : GoodIn wsX12_gainBy (wsV RX12 289 RX12 yX12_keep wsX12_keep) := goodIn_app (goodIn_of _ (by decide +kernel)) ggX12_gainBy_X12_keep
theorem dX12_gainBy_0 : decode cX12_gainBy 0 = .ok (.aload_n 0, 1) := by decide +kernel
theorem dX12_gainBy_1 : decode cX12_gainBy 1 = .ok (.getfield 13, 3) := by decide +kernel
theorem dX12_gainBy_4 : decode cX12_gainBy 4 = .ok (.istore_n 2, 1) := by decide +kernel
theorem dX12_gainBy_5 : decode cX12_gainBy 5 = .ok (.iconst 0, 1) := by decide +kernel
theorem dX12_gainBy_6 : decode cX12_gainBy 6 = .ok (.istore_n 3, 1) := by decide +kernel
theorem dX12_gainBy_7 : decode cX12_gainBy 7 = .ok (.iconst 0, 1) := by decide +kernel
theorem dX12_gainBy_8 : decode cX12_gainBy 8 = .ok (.istore 4, 2) := by decide +kernel
theorem dX12_gainBy_10 : decode cX12_gainBy 10 = .ok (.iload 4, 2) := by decide +kernel
theorem dX12_gainBy_12 : decode cX12_gainBy 12 = .ok (.aload_n 0, 1) := by decide +kernel
theorem dX12_gainBy_13 : decode cX12_gainBy 13 = .ok (.getfield 100, 3) := by decide +kernel
theorem dX12_gainBy_16 : decode cX12_gainBy 16 = .ok (.if_icmp .ge 57, 3) := by decide +kernel
theorem dX12_gainBy_19 : decode cX12_gainBy 19 = .ok (.aload_n 0, 1) := by decide +kernel
theorem dX12_gainBy_20 : decode cX12_gainBy 20 = .ok (.iload_n 1, 1) := by decide +kernel
theorem dX12_gainBy_21 : decode cX12_gainBy 21 = .ok (.iload 4, 2) := by decide +kernel
theorem dX12_gainBy_23 : decode cX12_gainBy 23 = .ok (.invokevirtual 203, 3) := by decide +kernel
theorem dX12_gainBy_26 : decode cX12_gainBy 26 = .ok (.ifCond .eq 32, 3) := by decide +kernel
theorem dX12_gainBy_29 : decode cX12_gainBy 29 = .ok (.iload_n 2, 1) := by decide +kernel
theorem dX12_gainBy_30 : decode cX12_gainBy 30 = .ok (.ifCond .le 28, 3) := by decide +kernel
theorem dX12_gainBy_33 : decode cX12_gainBy 33 = .ok (.iload_n 3, 1) := by decide +kernel
theorem dX12_gainBy_34 : decode cX12_gainBy 34 = .ok (.aload_n 0, 1) := by decide +kernel
theorem dX12_gainBy_35 : decode cX12_gainBy 35 = .ok (.aload_n 0, 1) := by decide +kernel
theorem dX12_gainBy_36 : decode cX12_gainBy 36 = .ok (.getfield 103, 3) := by decide +kernel
theorem dX12_gainBy_39 : decode cX12_gainBy 39 = .ok (.iload 4, 2) := by decide +kernel
theorem dX12_gainBy_41 : decode cX12_gainBy 41 = .ok (.iaload, 1) := by decide +kernel
theorem dX12_gainBy_42 : decode cX12_gainBy 42 = .ok (.aload_n 0, 1) := by decide +kernel
theorem dX12_gainBy_43 : decode cX12_gainBy 43 = .ok (.getfield 19, 3) := by decide +kernel
theorem dX12_gainBy_46 : decode cX12_gainBy 46 = .ok (.iload 4, 2) := by decide +kernel
theorem dX12_gainBy_48 : decode cX12_gainBy 48 = .ok (.iadd, 1) := by decide +kernel
theorem dX12_gainBy_49 : decode cX12_gainBy 49 = .ok (.iload_n 2, 1) := by decide +kernel
theorem dX12_gainBy_50 : decode cX12_gainBy 50 = .ok (.invokevirtual 282, 3) := by decide +kernel
theorem dX12_gainBy_53 : decode cX12_gainBy 53 = .ok (.iadd, 1) := by decide +kernel
theorem dX12_gainBy_54 : decode cX12_gainBy 54 = .ok (.istore_n 3, 1) := by decide +kernel
theorem dX12_gainBy_55 : decode cX12_gainBy 55 = .ok (.iinc 2 (-1), 3) := by decide +kernel
theorem dX12_gainBy_58 : decode cX12_gainBy 58 = .ok (.iload_n 3, 1) := by decide +kernel
theorem dX12_gainBy_59 : decode cX12_gainBy 59 = .ok (.aload_n 0, 1) := by decide +kernel
theorem dX12_gainBy_60 : decode cX12_gainBy 60 = .ok (.invokevirtual 289, 3) := by decide +kernel
theorem dX12_gainBy_63 : decode cX12_gainBy 63 = .ok (.iload_n 2, 1) := by decide +kernel
theorem dX12_gainBy_64 : decode cX12_gainBy 64 = .ok (.imul, 1) := by decide +kernel
theorem dX12_gainBy_65 : decode cX12_gainBy 65 = .ok (.isub, 1) := by decide +kernel
theorem dX12_gainBy_66 : decode cX12_gainBy 66 = .ok (.istore_n 3, 1) := by decide +kernel
theorem dX12_gainBy_67 : decode cX12_gainBy 67 = .ok (.iinc 4 1, 3) := by decide +kernel
theorem dX12_gainBy_70 : decode cX12_gainBy 70 = .ok (.goto (-60), 3) := by decide +kernel
theorem dX12_gainBy_73 : decode cX12_gainBy 73 = .ok (.iload_n 3, 1) := by decide +kernel
theorem dX12_gainBy_74 : decode cX12_gainBy 74 = .ok (.ireturn, 1) := by decide +kernel
set_option maxRecDepth 20000 in
theorem ggX12_bestSet_X12_bits : GoodIn wsX12_bestSet wsX12_bits := goodIn_r _ [7, 8, 9, 10, 6, 11] (by decide +kernel) (by decide +kernel)
set_option maxRecDepth 20000 in
theorem gX12_bestSet_X12_bits : GoodIn wsX12_bestSet (wsV RX12 331 RX12 yX12_bits wsX12_bits) := goodIn_app (goodIn_of _ (by decide +kernel)) ggX12_bestSet_X12_bits
set_option maxRecDepth 20000 in
theorem ggX12_bestSet_X12_gainBy : GoodIn wsX12_bestSet wsX12_gainBy := goodIn_r _ [15, 2, 1, 16, 17, 8, 9, 10, 6, 11, 18, 19, 20, 21, 22, 23, 24, 25, 26, 27, 28, 29, 30, 31, 32, 33, 34, 35, 36, 37, 38, 39, 40, 41, 42, 43, 44, 45, 46, 47, 48, 49, 50, 51, 52, 53, 54, 55, 56, 57, 58, 59, 60, 61, 62, 63, 64, 65, 66, 67, 68, 69, 70, 71, 72, 73, 74, 75, 76, 77, 78, 79, 80, 81, 82, 83, 84, 85, 86, 87, 88, 89, 90, 91, 92, 93, 94, 95, 96, 97, 98, 99, 100, 101, 102, 103, 104, 105, 106, 107, 108, 109, 110, 111, 112, 113, 114, 115, 116, 117, 118, 119] (by decide +kernel) (by decide +kernel)
set_option maxRecDepth 20000 in
theorem gX12_bestSet_X12_gainBy : GoodIn wsX12_bestSet (wsV RX12 334 RX12 yX12_gainBy wsX12_gainBy) := goodIn_app (goodIn_of _ (by decide +kernel)) ggX12_bestSet_X12_gainBy
theorem dX12_bestSet_0 : decode cX12_bestSet 0 = .ok (.iconst 0, 1) := by decide +kernel
theorem dX12_bestSet_1 : decode cX12_bestSet 1 = .ok (.istore_n 1, 1) := by decide +kernel
theorem dX12_bestSet_2 : decode cX12_bestSet 2 = .ok (.iconst 1, 1) := by decide +kernel
theorem dX12_bestSet_3 : decode cX12_bestSet 3 = .ok (.istore_n 2, 1) := by decide +kernel
theorem dX12_bestSet_4 : decode cX12_bestSet 4 = .ok (.iload_n 2, 1) := by decide +kernel
theorem dX12_bestSet_5 : decode cX12_bestSet 5 = .ok (.iconst 1, 1) := by decide +kernel
theorem dX12_bestSet_6 : decode cX12_bestSet 6 = .ok (.aload_n 0, 1) := by decide +kernel
theorem dX12_bestSet_7 : decode cX12_bestSet 7 = .ok (.getfield 100, 3) := by decide +kernel
theorem dX12_bestSet_10 : decode cX12_bestSet 10 = .ok (.ishl, 1) := by decide +kernel
theorem dX12_bestSet_11 : decode cX12_bestSet 11 = .ok (.if_icmp .ge 36, 3) := by decide +kernel
theorem dX12_bestSet_14 : decode cX12_bestSet 14 = .ok (.aload_n 0, 1) := by decide +kernel
theorem dX12_bestSet_15 : decode cX12_bestSet 15 = .ok (.iload_n 2, 1) := by decide +kernel
theorem dX12_bestSet_16 : decode cX12_bestSet 16 = .ok (.invokevirtual 331, 3) := by decide +kernel
theorem dX12_bestSet_19 : decode cX12_bestSet 19 = .ok (.aload_n 0, 1) := by decide +kernel
theorem dX12_bestSet_20 : decode cX12_bestSet 20 = .ok (.getfield 13, 3) := by decide +kernel
theorem dX12_bestSet_23 : decode cX12_bestSet 23 = .ok (.if_icmp .gt 18, 3) := by decide +kernel
theorem dX12_bestSet_26 : decode cX12_bestSet 26 = .ok (.aload_n 0, 1) := by decide +kernel
theorem dX12_bestSet_27 : decode cX12_bestSet 27 = .ok (.iload_n 2, 1) := by decide +kernel
theorem dX12_bestSet_28 : decode cX12_bestSet 28 = .ok (.invokevirtual 334, 3) := by decide +kernel
theorem dX12_bestSet_31 : decode cX12_bestSet 31 = .ok (.aload_n 0, 1) := by decide +kernel
theorem dX12_bestSet_32 : decode cX12_bestSet 32 = .ok (.iload_n 1, 1) := by decide +kernel
theorem dX12_bestSet_33 : decode cX12_bestSet 33 = .ok (.invokevirtual 334, 3) := by decide +kernel
theorem dX12_bestSet_36 : decode cX12_bestSet 36 = .ok (.if_icmp .le 5, 3) := by decide +kernel
theorem dX12_bestSet_39 : decode cX12_bestSet 39 = .ok (.iload_n 2, 1) := by decide +kernel
theorem dX12_bestSet_40 : decode cX12_bestSet 40 = .ok (.istore_n 1, 1) := by decide +kernel
theorem dX12_bestSet_41 : decode cX12_bestSet 41 = .ok (.iinc 2 1, 3) := by decide +kernel
theorem dX12_bestSet_44 : decode cX12_bestSet 44 = .ok (.goto (-40), 3) := by decide +kernel
theorem dX12_bestSet_47 : decode cX12_bestSet 47 = .ok (.iload_n 1, 1) := by decide +kernel
theorem dX12_bestSet_48 : decode cX12_bestSet 48 = .ok (.ireturn, 1) := by decide +kernel
set_option maxRecDepth 20000 in
theorem ggX12_plan_X12_in : GoodIn wsX12_plan wsX12_in := goodIn_r _ [6] (by decide +kernel) (by decide +kernel)
set_option maxRecDepth 20000 in
theorem gX12_plan_X12_in : GoodIn wsX12_plan (wsV RX12 207 RX12 yX12_in wsX12_in) := goodIn_app (goodIn_of _ (by decide +kernel)) ggX12_plan_X12_in
set_option maxRecDepth 20000 in
theorem ggX12_plan_X12_bestSet : GoodIn wsX12_plan wsX12_bestSet := goodIn_r _ [10, 11, 12, 13, 14, 15, 5, 16, 17, 18, 19, 20, 21, 22, 23, 24, 25, 26, 27, 28, 29, 30, 31, 32, 33, 34, 35, 36, 37, 38, 39, 40, 41, 42, 43, 44, 45, 46, 47, 48, 49, 50, 51, 52, 53, 54, 55, 56, 57, 58, 59, 60, 61, 62, 63, 64, 65, 66, 67, 68, 69, 70, 71, 72, 73, 74, 75, 76, 77, 78, 79, 80, 81, 82, 83, 84, 85, 86, 87, 88, 89, 90, 91, 92, 93, 94, 95, 96, 97, 98, 99, 100, 101, 102, 103, 104, 105, 106, 107, 108, 109, 110, 111, 112, 113, 114, 115, 116, 117, 118, 119, 120, 121, 122, 123, 124, 125, 126, 127, 128] (by decide +kernel) (by decide +kernel)
set_option maxRecDepth 20000 in
theorem gX12_plan_X12_bestSet : GoodIn wsX12_plan (wsV RX12 337 RX12 yX12_bestSet wsX12_bestSet) := goodIn_app (goodIn_of _ (by decide +kernel)) ggX12_plan_X12_bestSet
set_option maxRecDepth 20000 in
theorem ggX12_plan_X12_gainBy : GoodIn wsX12_plan wsX12_gainBy := goodIn_r _ [24, 12, 11, 25, 26, 17, 18, 19, 5, 20, 27, 28, 29, 30, 31, 32, 33, 34, 35, 36, 37, 38, 39, 40, 41, 42, 43, 44, 45, 46, 47, 48, 49, 50, 51, 52, 53, 54, 55, 56, 57, 58, 59, 60, 61, 62, 63, 64, 65, 66, 67, 68, 69, 70, 71, 72, 73, 74, 75, 76, 77, 78, 79, 80, 81, 82, 83, 84, 85, 86, 87, 88, 89, 90, 91, 92, 93, 94, 95, 96, 97, 98, 99, 100, 101, 102, 103, 104, 105, 106, 107, 108, 109, 110, 111, 112, 113, 114, 115, 116, 117, 118, 119, 120, 121, 122, 123, 124, 125, 126, 127, 128] (by decide +kernel) (by decide +kernel)
set_option maxRecDepth 20000 in
theorem gX12_plan_X12_gainBy : GoodIn wsX12_plan (wsV RX12 334 RX12 yX12_gainBy wsX12_gainBy) := goodIn_app (goodIn_of _ (by decide +kernel)) ggX12_plan_X12_gainBy
theorem dX12_plan_0 : decode cX12_plan 0 = .ok (.aload_n 0, 1) := by decide +kernel
theorem dX12_plan_1 : decode cX12_plan 1 = .ok (.iload_n 1, 1) := by decide +kernel
theorem dX12_plan_2 : decode cX12_plan 2 = .ok (.iconst 0, 1) := by decide +kernel
theorem dX12_plan_3 : decode cX12_plan 3 = .ok (.iconst 1, 1) := by decide +kernel
theorem dX12_plan_4 : decode cX12_plan 4 = .ok (.invokevirtual 207, 3) := by decide +kernel
theorem dX12_plan_7 : decode cX12_plan 7 = .ok (.ifCond .ne 7, 3) := by decide +kernel
theorem dX12_plan_10 : decode cX12_plan 10 = .ok (.ldc_w 287, 3) := by decide +kernel
theorem dX12_plan_13 : decode cX12_plan 13 = .ok (.ireturn, 1) := by decide +kernel
theorem dX12_plan_14 : decode cX12_plan 14 = .ok (.iload_n 1, 1) := by decide +kernel
theorem dX12_plan_15 : decode cX12_plan 15 = .ok (.ifCond .ne 10, 3) := by decide +kernel
theorem dX12_plan_18 : decode cX12_plan 18 = .ok (.aload_n 0, 1) := by decide +kernel
theorem dX12_plan_19 : decode cX12_plan 19 = .ok (.invokevirtual 337, 3) := by decide +kernel
theorem dX12_plan_22 : decode cX12_plan 22 = .ok (.goto 11, 3) := by decide +kernel
theorem dX12_plan_25 : decode cX12_plan 25 = .ok (.aload_n 0, 1) := by decide +kernel
theorem dX12_plan_26 : decode cX12_plan 26 = .ok (.aload_n 0, 1) := by decide +kernel
theorem dX12_plan_27 : decode cX12_plan 27 = .ok (.invokevirtual 337, 3) := by decide +kernel
theorem dX12_plan_30 : decode cX12_plan 30 = .ok (.invokevirtual 334, 3) := by decide +kernel
theorem dX12_plan_33 : decode cX12_plan 33 = .ok (.ireturn, 1) := by decide +kernel
set_option maxRecDepth 20000 in
theorem ggX12_ends_X12_in : GoodIn wsX12_ends wsX12_in := goodIn_r _ [6] (by decide +kernel) (by decide +kernel)
set_option maxRecDepth 20000 in
theorem gX12_ends_X12_in : GoodIn wsX12_ends (wsV RX12 207 RX12 yX12_in wsX12_in) := goodIn_app (goodIn_of _ (by decide +kernel)) ggX12_ends_X12_in
set_option maxRecDepth 20000 in
theorem ggX12_ends_X12_gainBy : GoodIn wsX12_ends wsX12_gainBy := goodIn_r _ [10, 11, 12, 13, 14, 15, 16, 17, 5, 18, 19, 20, 21, 22, 23, 24, 25, 26, 27, 28, 29, 30, 31, 32, 33, 34, 35, 36, 37, 38, 39, 40, 41, 42, 43, 44, 45, 46, 47, 48, 49, 50, 51, 52, 53, 54, 55, 56, 57, 58, 59, 60, 61, 62, 63, 64, 65, 66, 67, 68, 69, 70, 71, 72, 73, 74, 75, 76, 77, 78, 79, 80, 81, 82, 83, 84, 85, 86, 87, 88, 89, 90, 91, 92, 93, 94, 95, 96, 97, 98, 99, 100, 101, 102, 103, 104, 105, 106, 107, 108, 109, 110, 111, 112, 113, 114, 115, 116, 117, 118, 119, 120] (by decide +kernel) (by decide +kernel)
set_option maxRecDepth 20000 in
theorem gX12_ends_X12_gainBy : GoodIn wsX12_ends (wsV RX12 334 RX12 yX12_gainBy wsX12_gainBy) := goodIn_app (goodIn_of _ (by decide +kernel)) ggX12_ends_X12_gainBy
theorem dX12_ends_0 : decode cX12_ends 0 = .ok (.aload_n 0, 1) := by decide +kernel
theorem dX12_ends_1 : decode cX12_ends 1 = .ok (.iload_n 1, 1) := by decide +kernel
theorem dX12_ends_2 : decode cX12_ends 2 = .ok (.iconst 0, 1) := by decide +kernel
theorem dX12_ends_3 : decode cX12_ends 3 = .ok (.iconst 1, 1) := by decide +kernel
theorem dX12_ends_4 : decode cX12_ends 4 = .ok (.invokevirtual 207, 3) := by decide +kernel
theorem dX12_ends_7 : decode cX12_ends 7 = .ok (.ifCond .ne 7, 3) := by decide +kernel
theorem dX12_ends_10 : decode cX12_ends 10 = .ok (.ldc_w 287, 3) := by decide +kernel
theorem dX12_ends_13 : decode cX12_ends 13 = .ok (.ireturn, 1) := by decide +kernel
theorem dX12_ends_14 : decode cX12_ends 14 = .ok (.iload_n 1, 1) := by decide +kernel
theorem dX12_ends_15 : decode cX12_ends 15 = .ok (.ifCond .ne 11, 3) := by decide +kernel
theorem dX12_ends_18 : decode cX12_ends 18 = .ok (.aload_n 0, 1) := by decide +kernel
theorem dX12_ends_19 : decode cX12_ends 19 = .ok (.iconst 0, 1) := by decide +kernel
theorem dX12_ends_20 : decode cX12_ends 20 = .ok (.invokevirtual 334, 3) := by decide +kernel
theorem dX12_ends_23 : decode cX12_ends 23 = .ok (.goto 10, 3) := by decide +kernel
theorem dX12_ends_26 : decode cX12_ends 26 = .ok (.aload_n 0, 1) := by decide +kernel
theorem dX12_ends_27 : decode cX12_ends 27 = .ok (.sipush 255, 3) := by decide +kernel
theorem dX12_ends_30 : decode cX12_ends 30 = .ok (.invokevirtual 334, 3) := by decide +kernel
theorem dX12_ends_33 : decode cX12_ends 33 = .ok (.ireturn, 1) := by decide +kernel
set_option maxRecDepth 20000 in
theorem ggX12_see_X12_isNeed : GoodIn wsX12_see wsX12_isNeed := goodIn_r _ [9, 10, 11, 12, 13, 8, 14, 15, 16, 17, 18, 19, 20, 21, 22, 23, 24, 25, 26, 27, 28, 29, 30, 31, 32, 33, 34, 35, 36, 37, 38, 39, 40, 41, 42, 43, 44, 45, 46, 47, 48, 49, 50, 51, 52, 53, 54, 55, 56, 57, 58, 59, 60, 61, 62, 63, 64, 65, 66, 67, 68, 69, 70, 71, 72, 73, 74, 75, 76, 77] (by decide +kernel) (by decide +kernel)
set_option maxRecDepth 20000 in
theorem gX12_see_X12_isNeed : GoodIn wsX12_see (wsV RX12 215 RX12 yX12_isNeed wsX12_isNeed) := goodIn_app (goodIn_of _ (by decide +kernel)) ggX12_see_X12_isNeed
set_option maxRecDepth 20000 in
theorem ggX12_see_X12_in : GoodIn wsX12_see wsX12_in := goodIn_r _ [14] (by decide +kernel) (by decide +kernel)
set_option maxRecDepth 20000 in
theorem gX12_see_X12_in : GoodIn wsX12_see (wsV RX12 207 RX12 yX12_in wsX12_in) := goodIn_app (goodIn_of _ (by decide +kernel)) ggX12_see_X12_in
theorem dX12_see_0 : decode cX12_see 0 = .ok (.iload_n 1, 1) := by decide +kernel
theorem dX12_see_1 : decode cX12_see 1 = .ok (.iconst (-1), 1) := by decide +kernel
theorem dX12_see_2 : decode cX12_see 2 = .ok (.if_icmp .ne 10, 3) := by decide +kernel
theorem dX12_see_5 : decode cX12_see 5 = .ok (.aload_n 0, 1) := by decide +kernel
theorem dX12_see_6 : decode cX12_see 6 = .ok (.iconst 0, 1) := by decide +kernel
theorem dX12_see_7 : decode cX12_see 7 = .ok (.putfield 106, 3) := by decide +kernel
theorem dX12_see_10 : decode cX12_see 10 = .ok (.iconst 0, 1) := by decide +kernel
theorem dX12_see_11 : decode cX12_see 11 = .ok (.ireturn, 1) := by decide +kernel
theorem dX12_see_12 : decode cX12_see 12 = .ok (.aload_n 0, 1) := by decide +kernel
theorem dX12_see_13 : decode cX12_see 13 = .ok (.iload_n 1, 1) := by decide +kernel
theorem dX12_see_14 : decode cX12_see 14 = .ok (.invokevirtual 215, 3) := by decide +kernel
theorem dX12_see_17 : decode cX12_see 17 = .ok (.ifCond .ne 5, 3) := by decide +kernel
theorem dX12_see_20 : decode cX12_see 20 = .ok (.iconst (-1), 1) := by decide +kernel
theorem dX12_see_21 : decode cX12_see 21 = .ok (.ireturn, 1) := by decide +kernel
theorem dX12_see_22 : decode cX12_see 22 = .ok (.aload_n 0, 1) := by decide +kernel
theorem dX12_see_23 : decode cX12_see 23 = .ok (.iload_n 2, 1) := by decide +kernel
theorem dX12_see_24 : decode cX12_see 24 = .ok (.iconst 0, 1) := by decide +kernel
theorem dX12_see_25 : decode cX12_see 25 = .ok (.sipush 999, 3) := by decide +kernel
theorem dX12_see_28 : decode cX12_see 28 = .ok (.invokevirtual 207, 3) := by decide +kernel
theorem dX12_see_31 : decode cX12_see 31 = .ok (.ifCond .eq 14, 3) := by decide +kernel
theorem dX12_see_34 : decode cX12_see 34 = .ok (.aload_n 0, 1) := by decide +kernel
theorem dX12_see_35 : decode cX12_see 35 = .ok (.iload_n 3, 1) := by decide +kernel
theorem dX12_see_36 : decode cX12_see 36 = .ok (.iconst 0, 1) := by decide +kernel
theorem dX12_see_37 : decode cX12_see 37 = .ok (.bipush 20, 2) := by decide +kernel
theorem dX12_see_39 : decode cX12_see 39 = .ok (.invokevirtual 207, 3) := by decide +kernel
theorem dX12_see_42 : decode cX12_see 42 = .ok (.ifCond .ne 6, 3) := by decide +kernel
theorem dX12_see_45 : decode cX12_see 45 = .ok (.bipush (-2), 2) := by decide +kernel
theorem dX12_see_47 : decode cX12_see 47 = .ok (.ireturn, 1) := by decide +kernel
theorem dX12_see_48 : decode cX12_see 48 = .ok (.aload_n 0, 1) := by decide +kernel
theorem dX12_see_49 : decode cX12_see 49 = .ok (.getfield 106, 3) := by decide +kernel
theorem dX12_see_52 : decode cX12_see 52 = .ok (.iconst 5, 1) := by decide +kernel
theorem dX12_see_53 : decode cX12_see 53 = .ok (.if_icmp .ne 6, 3) := by decide +kernel
theorem dX12_see_56 : decode cX12_see 56 = .ok (.bipush (-4), 2) := by decide +kernel
theorem dX12_see_58 : decode cX12_see 58 = .ok (.ireturn, 1) := by decide +kernel
theorem dX12_see_59 : decode cX12_see 59 = .ok (.aload_n 0, 1) := by decide +kernel
theorem dX12_see_60 : decode cX12_see 60 = .ok (.getfield 112, 3) := by decide +kernel
theorem dX12_see_63 : decode cX12_see 63 = .ok (.aload_n 0, 1) := by decide +kernel
theorem dX12_see_64 : decode cX12_see 64 = .ok (.getfield 106, 3) := by decide +kernel
theorem dX12_see_67 : decode cX12_see 67 = .ok (.iload_n 1, 1) := by decide +kernel
theorem dX12_see_68 : decode cX12_see 68 = .ok (.iastore, 1) := by decide +kernel
theorem dX12_see_69 : decode cX12_see 69 = .ok (.aload_n 0, 1) := by decide +kernel
theorem dX12_see_70 : decode cX12_see 70 = .ok (.getfield 115, 3) := by decide +kernel
theorem dX12_see_73 : decode cX12_see 73 = .ok (.aload_n 0, 1) := by decide +kernel
theorem dX12_see_74 : decode cX12_see 74 = .ok (.getfield 106, 3) := by decide +kernel
theorem dX12_see_77 : decode cX12_see 77 = .ok (.iload_n 2, 1) := by decide +kernel
theorem dX12_see_78 : decode cX12_see 78 = .ok (.iastore, 1) := by decide +kernel
theorem dX12_see_79 : decode cX12_see 79 = .ok (.aload_n 0, 1) := by decide +kernel
theorem dX12_see_80 : decode cX12_see 80 = .ok (.getfield 118, 3) := by decide +kernel
theorem dX12_see_83 : decode cX12_see 83 = .ok (.aload_n 0, 1) := by decide +kernel
theorem dX12_see_84 : decode cX12_see 84 = .ok (.getfield 106, 3) := by decide +kernel
theorem dX12_see_87 : decode cX12_see 87 = .ok (.iload_n 3, 1) := by decide +kernel
theorem dX12_see_88 : decode cX12_see 88 = .ok (.iastore, 1) := by decide +kernel
theorem dX12_see_89 : decode cX12_see 89 = .ok (.aload_n 0, 1) := by decide +kernel
theorem dX12_see_90 : decode cX12_see 90 = .ok (.dup, 1) := by decide +kernel
theorem dX12_see_91 : decode cX12_see 91 = .ok (.getfield 106, 3) := by decide +kernel
theorem dX12_see_94 : decode cX12_see 94 = .ok (.iconst 1, 1) := by decide +kernel
theorem dX12_see_95 : decode cX12_see 95 = .ok (.iadd, 1) := by decide +kernel
theorem dX12_see_96 : decode cX12_see 96 = .ok (.putfield 106, 3) := by decide +kernel
theorem dX12_see_99 : decode cX12_see 99 = .ok (.aload_n 0, 1) := by decide +kernel
theorem dX12_see_100 : decode cX12_see 100 = .ok (.getfield 106, 3) := by decide +kernel
theorem dX12_see_103 : decode cX12_see 103 = .ok (.ireturn, 1) := by decide +kernel
set_option maxRecDepth 20000 in
theorem ggX12_isSeen_X12_worthOf : GoodIn wsX12_isSeen wsX12_worthOf := goodIn_r _ [10, 11, 12, 13, 14, 15, 16, 9, 17, 18, 19, 20, 21, 22, 23, 24, 25, 26, 27, 28, 29, 30, 31, 32, 33, 34, 35, 36, 37, 38, 39, 40, 41, 42, 43, 44, 45, 46, 47, 48, 49, 50, 51, 52, 53, 54, 55, 56, 57, 58, 59, 60, 61, 62, 63, 64, 65, 66, 67, 68, 69, 70, 71, 72, 73, 74, 75, 76, 77, 78, 79, 80, 81, 82, 83, 84, 85, 86, 87, 88, 89, 90, 91, 92, 93, 94, 95, 96, 97, 98, 99, 100, 101, 102, 103, 104] (by decide +kernel) (by decide +kernel)
set_option maxRecDepth 20000 in
theorem gX12_isSeen_X12_worthOf : GoodIn wsX12_isSeen (wsV RX12 282 RX12 yX12_worthOf wsX12_worthOf) := goodIn_app (goodIn_of _ (by decide +kernel)) ggX12_isSeen_X12_worthOf
theorem dX12_isSeen_0 : decode cX12_isSeen 0 = .ok (.iconst 0, 1) := by decide +kernel
theorem dX12_isSeen_1 : decode cX12_isSeen 1 = .ok (.istore_n 2, 1) := by decide +kernel
theorem dX12_isSeen_2 : decode cX12_isSeen 2 = .ok (.iload_n 2, 1) := by decide +kernel
theorem dX12_isSeen_3 : decode cX12_isSeen 3 = .ok (.aload_n 0, 1) := by decide +kernel
theorem dX12_isSeen_4 : decode cX12_isSeen 4 = .ok (.getfield 106, 3) := by decide +kernel
theorem dX12_isSeen_7 : decode cX12_isSeen 7 = .ok (.if_icmp .ge 42, 3) := by decide +kernel
theorem dX12_isSeen_10 : decode cX12_isSeen 10 = .ok (.aload_n 0, 1) := by decide +kernel
theorem dX12_isSeen_11 : decode cX12_isSeen 11 = .ok (.aload_n 0, 1) := by decide +kernel
theorem dX12_isSeen_12 : decode cX12_isSeen 12 = .ok (.getfield 112, 3) := by decide +kernel
theorem dX12_isSeen_15 : decode cX12_isSeen 15 = .ok (.iload_n 2, 1) := by decide +kernel
theorem dX12_isSeen_16 : decode cX12_isSeen 16 = .ok (.iaload, 1) := by decide +kernel
theorem dX12_isSeen_17 : decode cX12_isSeen 17 = .ok (.aload_n 0, 1) := by decide +kernel
theorem dX12_isSeen_18 : decode cX12_isSeen 18 = .ok (.getfield 19, 3) := by decide +kernel
theorem dX12_isSeen_21 : decode cX12_isSeen 21 = .ok (.aload_n 0, 1) := by decide +kernel
theorem dX12_isSeen_22 : decode cX12_isSeen 22 = .ok (.getfield 118, 3) := by decide +kernel
theorem dX12_isSeen_25 : decode cX12_isSeen 25 = .ok (.iload_n 2, 1) := by decide +kernel
theorem dX12_isSeen_26 : decode cX12_isSeen 26 = .ok (.iaload, 1) := by decide +kernel
theorem dX12_isSeen_27 : decode cX12_isSeen 27 = .ok (.iadd, 1) := by decide +kernel
theorem dX12_isSeen_28 : decode cX12_isSeen 28 = .ok (.iload_n 1, 1) := by decide +kernel
theorem dX12_isSeen_29 : decode cX12_isSeen 29 = .ok (.invokevirtual 282, 3) := by decide +kernel
theorem dX12_isSeen_32 : decode cX12_isSeen 32 = .ok (.aload_n 0, 1) := by decide +kernel
theorem dX12_isSeen_33 : decode cX12_isSeen 33 = .ok (.getfield 115, 3) := by decide +kernel
theorem dX12_isSeen_36 : decode cX12_isSeen 36 = .ok (.iload_n 2, 1) := by decide +kernel
theorem dX12_isSeen_37 : decode cX12_isSeen 37 = .ok (.iaload, 1) := by decide +kernel
theorem dX12_isSeen_38 : decode cX12_isSeen 38 = .ok (.if_icmp .eq 5, 3) := by decide +kernel
theorem dX12_isSeen_41 : decode cX12_isSeen 41 = .ok (.iconst 0, 1) := by decide +kernel
theorem dX12_isSeen_42 : decode cX12_isSeen 42 = .ok (.ireturn, 1) := by decide +kernel
theorem dX12_isSeen_43 : decode cX12_isSeen 43 = .ok (.iinc 2 1, 3) := by decide +kernel
theorem dX12_isSeen_46 : decode cX12_isSeen 46 = .ok (.goto (-44), 3) := by decide +kernel
theorem dX12_isSeen_49 : decode cX12_isSeen 49 = .ok (.iconst 1, 1) := by decide +kernel
theorem dX12_isSeen_50 : decode cX12_isSeen 50 = .ok (.ireturn, 1) := by decide +kernel
set_option maxRecDepth 20000 in
theorem ggX12_can_X12_isNeed : GoodIn wsX12_can wsX12_isNeed := goodIn_r _ [7, 8, 9, 10, 11, 6, 12, 56, 57, 58, 59, 60, 61, 62, 63, 64, 65, 66, 67, 68, 69, 70, 71, 72, 73, 74, 75, 76, 77, 78, 79, 80, 81, 82, 83, 84, 85, 86, 87, 88, 89, 90, 91, 92, 93, 94, 95, 96, 97, 98, 99, 100, 101, 102, 103, 104, 105, 106, 107, 108, 109, 110, 111, 112, 113, 114, 115, 116, 117, 118] (by decide +kernel) (by decide +kernel)
set_option maxRecDepth 20000 in
theorem gX12_can_X12_isNeed : GoodIn wsX12_can (wsV RX12 215 RX12 yX12_isNeed wsX12_isNeed) := goodIn_app (goodIn_of _ (by decide +kernel)) ggX12_can_X12_isNeed
set_option maxRecDepth 20000 in
theorem ggX12_can_X12_in : GoodIn wsX12_can wsX12_in := goodIn_r _ [12] (by decide +kernel) (by decide +kernel)
set_option maxRecDepth 20000 in
theorem gX12_can_X12_in : GoodIn wsX12_can (wsV RX12 207 RX12 yX12_in wsX12_in) := goodIn_app (goodIn_of _ (by decide +kernel)) ggX12_can_X12_in
set_option maxRecDepth 20000 in
theorem ggX12_can_X12_isSeen : GoodIn wsX12_can wsX12_isSeen := goodIn_r _ [16, 17, 18, 19, 20, 21, 22, 23, 24, 6, 25, 26, 1, 27, 28, 29, 30, 31, 32, 33, 34, 35, 36, 37, 38, 39, 40, 41, 42, 43, 44, 45, 46, 47, 48, 49, 50, 51, 52, 53, 54, 55, 56, 57, 58, 59, 60, 61, 62, 63, 64, 65, 66, 67, 68, 69, 70, 71, 72, 73, 74, 75, 76, 77, 78, 79, 80, 81, 82, 83, 84, 85, 86, 87, 88, 89, 90, 91, 92, 93, 94, 95, 96, 97, 98, 99, 100, 101, 102, 103, 104, 105, 106, 107, 108, 109, 110, 111, 112, 113, 114, 115, 116, 117, 118] (by decide +kernel) (by decide +kernel)
set_option maxRecDepth 20000 in
theorem gX12_can_X12_isSeen : GoodIn wsX12_can (wsV RX12 340 RX12 yX12_isSeen wsX12_isSeen) := goodIn_app (goodIn_of _ (by decide +kernel)) ggX12_can_X12_isSeen
theorem dX12_can_0 : decode cX12_can 0 = .ok (.aload_n 0, 1) := by decide +kernel
theorem dX12_can_1 : decode cX12_can 1 = .ok (.iload_n 1, 1) := by decide +kernel
theorem dX12_can_2 : decode cX12_can 2 = .ok (.invokevirtual 215, 3) := by decide +kernel
theorem dX12_can_5 : decode cX12_can 5 = .ok (.ifCond .eq 13, 3) := by decide +kernel
theorem dX12_can_8 : decode cX12_can 8 = .ok (.aload_n 0, 1) := by decide +kernel
theorem dX12_can_9 : decode cX12_can 9 = .ok (.iload_n 2, 1) := by decide +kernel
theorem dX12_can_10 : decode cX12_can 10 = .ok (.iconst 0, 1) := by decide +kernel
theorem dX12_can_11 : decode cX12_can 11 = .ok (.iconst 1, 1) := by decide +kernel
theorem dX12_can_12 : decode cX12_can 12 = .ok (.invokevirtual 207, 3) := by decide +kernel
theorem dX12_can_15 : decode cX12_can 15 = .ok (.ifCond .ne 5, 3) := by decide +kernel
theorem dX12_can_18 : decode cX12_can 18 = .ok (.iconst (-1), 1) := by decide +kernel
theorem dX12_can_19 : decode cX12_can 19 = .ok (.ireturn, 1) := by decide +kernel
theorem dX12_can_20 : decode cX12_can 20 = .ok (.aload_n 0, 1) := by decide +kernel
theorem dX12_can_21 : decode cX12_can 21 = .ok (.getfield 26, 3) := by decide +kernel
theorem dX12_can_24 : decode cX12_can 24 = .ok (.iload_n 1, 1) := by decide +kernel
theorem dX12_can_25 : decode cX12_can 25 = .ok (.iaload, 1) := by decide +kernel
theorem dX12_can_26 : decode cX12_can 26 = .ok (.istore_n 3, 1) := by decide +kernel
theorem dX12_can_27 : decode cX12_can 27 = .ok (.iconst 0, 1) := by decide +kernel
theorem dX12_can_28 : decode cX12_can 28 = .ok (.istore 4, 2) := by decide +kernel
theorem dX12_can_30 : decode cX12_can 30 = .ok (.bipush (-5), 2) := by decide +kernel
theorem dX12_can_32 : decode cX12_can 32 = .ok (.istore 5, 2) := by decide +kernel
theorem dX12_can_34 : decode cX12_can 34 = .ok (.bipush 9, 2) := by decide +kernel
theorem dX12_can_36 : decode cX12_can 36 = .ok (.istore 6, 2) := by decide +kernel
theorem dX12_can_38 : decode cX12_can 38 = .ok (.iload 6, 2) := by decide +kernel
theorem dX12_can_40 : decode cX12_can 40 = .ok (.ifCond .lt 38, 3) := by decide +kernel
theorem dX12_can_43 : decode cX12_can 43 = .ok (.aload_n 0, 1) := by decide +kernel
theorem dX12_can_44 : decode cX12_can 44 = .ok (.getfield 26, 3) := by decide +kernel
theorem dX12_can_47 : decode cX12_can 47 = .ok (.iload_n 1, 1) := by decide +kernel
theorem dX12_can_48 : decode cX12_can 48 = .ok (.iload 6, 2) := by decide +kernel
theorem dX12_can_50 : decode cX12_can 50 = .ok (.iastore, 1) := by decide +kernel
theorem dX12_can_51 : decode cX12_can 51 = .ok (.aload_n 0, 1) := by decide +kernel
theorem dX12_can_52 : decode cX12_can 52 = .ok (.aload_n 0, 1) := by decide +kernel
theorem dX12_can_53 : decode cX12_can 53 = .ok (.getfield 13, 3) := by decide +kernel
theorem dX12_can_56 : decode cX12_can 56 = .ok (.invokevirtual 340, 3) := by decide +kernel
theorem dX12_can_59 : decode cX12_can 59 = .ok (.ifCond .ne 6, 3) := by decide +kernel
theorem dX12_can_62 : decode cX12_can 62 = .ok (.goto 10, 3) := by decide +kernel
theorem dX12_can_65 : decode cX12_can 65 = .ok (.iinc 4 1, 3) := by decide +kernel
theorem dX12_can_68 : decode cX12_can 68 = .ok (.iload 6, 2) := by decide +kernel
theorem dX12_can_70 : decode cX12_can 70 = .ok (.istore 5, 2) := by decide +kernel
theorem dX12_can_72 : decode cX12_can 72 = .ok (.iinc 6 (-1), 3) := by decide +kernel
theorem dX12_can_75 : decode cX12_can 75 = .ok (.goto (-37), 3) := by decide +kernel
theorem dX12_can_78 : decode cX12_can 78 = .ok (.aload_n 0, 1) := by decide +kernel
theorem dX12_can_79 : decode cX12_can 79 = .ok (.getfield 26, 3) := by decide +kernel
theorem dX12_can_82 : decode cX12_can 82 = .ok (.iload_n 1, 1) := by decide +kernel
theorem dX12_can_83 : decode cX12_can 83 = .ok (.iload_n 3, 1) := by decide +kernel
theorem dX12_can_84 : decode cX12_can 84 = .ok (.iastore, 1) := by decide +kernel
theorem dX12_can_85 : decode cX12_can 85 = .ok (.iload_n 2, 1) := by decide +kernel
theorem dX12_can_86 : decode cX12_can 86 = .ok (.ifCond .ne 8, 3) := by decide +kernel
theorem dX12_can_89 : decode cX12_can 89 = .ok (.iload 4, 2) := by decide +kernel
theorem dX12_can_91 : decode cX12_can 91 = .ok (.goto 5, 3) := by decide +kernel
theorem dX12_can_94 : decode cX12_can 94 = .ok (.iload 5, 2) := by decide +kernel
theorem dX12_can_96 : decode cX12_can 96 = .ok (.ireturn, 1) := by decide +kernel
set_option maxRecDepth 20000 in
theorem ggX12_darked_X12_in : GoodIn wsX12_darked wsX12_in := goodIn_r _ [5] (by decide +kernel) (by decide +kernel)
set_option maxRecDepth 20000 in
theorem gX12_darked_X12_in : GoodIn wsX12_darked (wsV RX12 207 RX12 yX12_in wsX12_in) := goodIn_app (goodIn_of _ (by decide +kernel)) ggX12_darked_X12_in
set_option maxRecDepth 20000 in
theorem ggX12_darked_X12_isSeen : GoodIn wsX12_darked wsX12_isSeen := goodIn_r _ [9, 10, 11, 12, 13, 14, 15, 16, 17, 4, 18, 19, 20, 21, 22, 23, 24, 25, 26, 27, 28, 29, 30, 31, 32, 33, 34, 35, 36, 37, 38, 39, 40, 41, 42, 43, 44, 45, 46, 47, 48, 49, 50, 51, 52, 53, 54, 55, 56, 57, 58, 59, 60, 61, 62, 63, 64, 65, 66, 67, 68, 69, 70, 71, 72, 73, 74, 75, 76, 77, 78, 79, 80, 81, 82, 83, 84, 85, 86, 87, 88, 89, 90, 91, 92, 93, 94, 95, 96, 97, 98, 99, 100, 101, 102, 103, 104, 105, 106, 107, 108, 109, 110, 111, 112] (by decide +kernel) (by decide +kernel)
set_option maxRecDepth 20000 in
theorem gX12_darked_X12_isSeen : GoodIn wsX12_darked (wsV RX12 340 RX12 yX12_isSeen wsX12_isSeen) := goodIn_app (goodIn_of _ (by decide +kernel)) ggX12_darked_X12_isSeen
theorem dX12_darked_0 : decode cX12_darked 0 = .ok (.aload_n 0, 1) := by decide +kernel
theorem dX12_darked_1 : decode cX12_darked 1 = .ok (.iload_n 1, 1) := by decide +kernel
theorem dX12_darked_2 : decode cX12_darked 2 = .ok (.iconst 0, 1) := by decide +kernel
theorem dX12_darked_3 : decode cX12_darked 3 = .ok (.iconst 1, 1) := by decide +kernel
theorem dX12_darked_4 : decode cX12_darked 4 = .ok (.invokevirtual 207, 3) := by decide +kernel
theorem dX12_darked_7 : decode cX12_darked 7 = .ok (.ifCond .ne 5, 3) := by decide +kernel
theorem dX12_darked_10 : decode cX12_darked 10 = .ok (.iconst (-1), 1) := by decide +kernel
theorem dX12_darked_11 : decode cX12_darked 11 = .ok (.ireturn, 1) := by decide +kernel
theorem dX12_darked_12 : decode cX12_darked 12 = .ok (.iconst 0, 1) := by decide +kernel
theorem dX12_darked_13 : decode cX12_darked 13 = .ok (.istore_n 2, 1) := by decide +kernel
theorem dX12_darked_14 : decode cX12_darked 14 = .ok (.bipush (-5), 2) := by decide +kernel
theorem dX12_darked_16 : decode cX12_darked 16 = .ok (.istore_n 3, 1) := by decide +kernel
theorem dX12_darked_17 : decode cX12_darked 17 = .ok (.bipush 8, 2) := by decide +kernel
theorem dX12_darked_19 : decode cX12_darked 19 = .ok (.istore 4, 2) := by decide +kernel
theorem dX12_darked_21 : decode cX12_darked 21 = .ok (.iload 4, 2) := by decide +kernel
theorem dX12_darked_23 : decode cX12_darked 23 = .ok (.ifCond .lt 27, 3) := by decide +kernel
theorem dX12_darked_26 : decode cX12_darked 26 = .ok (.aload_n 0, 1) := by decide +kernel
theorem dX12_darked_27 : decode cX12_darked 27 = .ok (.iload 4, 2) := by decide +kernel
theorem dX12_darked_29 : decode cX12_darked 29 = .ok (.invokevirtual 340, 3) := by decide +kernel
theorem dX12_darked_32 : decode cX12_darked 32 = .ok (.ifCond .ne 6, 3) := by decide +kernel
theorem dX12_darked_35 : decode cX12_darked 35 = .ok (.goto 9, 3) := by decide +kernel
theorem dX12_darked_38 : decode cX12_darked 38 = .ok (.iinc 2 1, 3) := by decide +kernel
theorem dX12_darked_41 : decode cX12_darked 41 = .ok (.iload 4, 2) := by decide +kernel
theorem dX12_darked_43 : decode cX12_darked 43 = .ok (.istore_n 3, 1) := by decide +kernel
theorem dX12_darked_44 : decode cX12_darked 44 = .ok (.iinc 4 (-1), 3) := by decide +kernel
theorem dX12_darked_47 : decode cX12_darked 47 = .ok (.goto (-26), 3) := by decide +kernel
theorem dX12_darked_50 : decode cX12_darked 50 = .ok (.iload_n 1, 1) := by decide +kernel
theorem dX12_darked_51 : decode cX12_darked 51 = .ok (.ifCond .ne 7, 3) := by decide +kernel
theorem dX12_darked_54 : decode cX12_darked 54 = .ok (.iload_n 2, 1) := by decide +kernel
theorem dX12_darked_55 : decode cX12_darked 55 = .ok (.goto 4, 3) := by decide +kernel
theorem dX12_darked_58 : decode cX12_darked 58 = .ok (.iload_n 3, 1) := by decide +kernel
theorem dX12_darked_59 : decode cX12_darked 59 = .ok (.ireturn, 1) := by decide +kernel
set_option maxRecDepth 20000 in
theorem ggX12_book_X12_isNeed : GoodIn wsX12_book wsX12_isNeed := goodIn_r _ [8, 9, 10, 11, 12, 7, 13, 14, 15, 16, 17, 18, 19, 20, 21, 22, 23, 24, 25, 26, 27, 28, 29, 30, 31, 32, 33, 34, 35, 36, 37, 38, 39, 40, 41, 42, 43, 44, 45, 46, 47, 48, 49, 50, 51, 52, 53, 54, 55, 56, 57, 58, 59, 60, 61, 62, 63, 64, 65, 66, 67, 68, 69, 70, 71, 72, 73, 74, 75, 76] (by decide +kernel) (by decide +kernel)
set_option maxRecDepth 20000 in
theorem gX12_book_X12_isNeed : GoodIn wsX12_book (wsV RX12 215 RX12 yX12_isNeed wsX12_isNeed) := goodIn_app (goodIn_of _ (by decide +kernel)) ggX12_book_X12_isNeed
set_option maxRecDepth 20000 in
theorem ggX12_book_X12_in : GoodIn wsX12_book wsX12_in := goodIn_r _ [13] (by decide +kernel) (by decide +kernel)
set_option maxRecDepth 20000 in
theorem gX12_book_X12_in : GoodIn wsX12_book (wsV RX12 207 RX12 yX12_in wsX12_in) := goodIn_app (goodIn_of _ (by decide +kernel)) ggX12_book_X12_in
theorem dX12_book_0 : decode cX12_book 0 = .ok (.iload_n 1, 1) := by decide +kernel
theorem dX12_book_1 : decode cX12_book 1 = .ok (.iconst (-1), 1) := by decide +kernel
theorem dX12_book_2 : decode cX12_book 2 = .ok (.if_icmp .ne 10, 3) := by decide +kernel
theorem dX12_book_5 : decode cX12_book 5 = .ok (.aload_n 0, 1) := by decide +kernel
theorem dX12_book_6 : decode cX12_book 6 = .ok (.iconst 0, 1) := by decide +kernel
theorem dX12_book_7 : decode cX12_book 7 = .ok (.putfield 109, 3) := by decide +kernel
theorem dX12_book_10 : decode cX12_book 10 = .ok (.iconst 0, 1) := by decide +kernel
theorem dX12_book_11 : decode cX12_book 11 = .ok (.ireturn, 1) := by decide +kernel
theorem dX12_book_12 : decode cX12_book 12 = .ok (.aload_n 0, 1) := by decide +kernel
theorem dX12_book_13 : decode cX12_book 13 = .ok (.iload_n 1, 1) := by decide +kernel
theorem dX12_book_14 : decode cX12_book 14 = .ok (.invokevirtual 215, 3) := by decide +kernel
theorem dX12_book_17 : decode cX12_book 17 = .ok (.ifCond .ne 5, 3) := by decide +kernel
theorem dX12_book_20 : decode cX12_book 20 = .ok (.iconst (-1), 1) := by decide +kernel
theorem dX12_book_21 : decode cX12_book 21 = .ok (.ireturn, 1) := by decide +kernel
theorem dX12_book_22 : decode cX12_book 22 = .ok (.aload_n 0, 1) := by decide +kernel
theorem dX12_book_23 : decode cX12_book 23 = .ok (.iload_n 2, 1) := by decide +kernel
theorem dX12_book_24 : decode cX12_book 24 = .ok (.iconst 0, 1) := by decide +kernel
theorem dX12_book_25 : decode cX12_book 25 = .ok (.sipush 9999, 3) := by decide +kernel
theorem dX12_book_28 : decode cX12_book 28 = .ok (.invokevirtual 207, 3) := by decide +kernel
theorem dX12_book_31 : decode cX12_book 31 = .ok (.ifCond .ne 6, 3) := by decide +kernel
theorem dX12_book_34 : decode cX12_book 34 = .ok (.bipush (-2), 2) := by decide +kernel
theorem dX12_book_36 : decode cX12_book 36 = .ok (.ireturn, 1) := by decide +kernel
theorem dX12_book_37 : decode cX12_book 37 = .ok (.aload_n 0, 1) := by decide +kernel
theorem dX12_book_38 : decode cX12_book 38 = .ok (.getfield 109, 3) := by decide +kernel
theorem dX12_book_41 : decode cX12_book 41 = .ok (.bipush 8, 2) := by decide +kernel
theorem dX12_book_43 : decode cX12_book 43 = .ok (.if_icmp .ne 6, 3) := by decide +kernel
theorem dX12_book_46 : decode cX12_book 46 = .ok (.bipush (-4), 2) := by decide +kernel
theorem dX12_book_48 : decode cX12_book 48 = .ok (.ireturn, 1) := by decide +kernel
theorem dX12_book_49 : decode cX12_book 49 = .ok (.aload_n 0, 1) := by decide +kernel
theorem dX12_book_50 : decode cX12_book 50 = .ok (.getfield 121, 3) := by decide +kernel
theorem dX12_book_53 : decode cX12_book 53 = .ok (.aload_n 0, 1) := by decide +kernel
theorem dX12_book_54 : decode cX12_book 54 = .ok (.getfield 109, 3) := by decide +kernel
theorem dX12_book_57 : decode cX12_book 57 = .ok (.iload_n 1, 1) := by decide +kernel
theorem dX12_book_58 : decode cX12_book 58 = .ok (.iastore, 1) := by decide +kernel
theorem dX12_book_59 : decode cX12_book 59 = .ok (.aload_n 0, 1) := by decide +kernel
theorem dX12_book_60 : decode cX12_book 60 = .ok (.getfield 124, 3) := by decide +kernel
theorem dX12_book_63 : decode cX12_book 63 = .ok (.aload_n 0, 1) := by decide +kernel
theorem dX12_book_64 : decode cX12_book 64 = .ok (.getfield 109, 3) := by decide +kernel
theorem dX12_book_67 : decode cX12_book 67 = .ok (.iload_n 2, 1) := by decide +kernel
theorem dX12_book_68 : decode cX12_book 68 = .ok (.iastore, 1) := by decide +kernel
theorem dX12_book_69 : decode cX12_book 69 = .ok (.aload_n 0, 1) := by decide +kernel
theorem dX12_book_70 : decode cX12_book 70 = .ok (.dup, 1) := by decide +kernel
theorem dX12_book_71 : decode cX12_book 71 = .ok (.getfield 109, 3) := by decide +kernel
theorem dX12_book_74 : decode cX12_book 74 = .ok (.iconst 1, 1) := by decide +kernel
theorem dX12_book_75 : decode cX12_book 75 = .ok (.iadd, 1) := by decide +kernel
theorem dX12_book_76 : decode cX12_book 76 = .ok (.putfield 109, 3) := by decide +kernel
theorem dX12_book_79 : decode cX12_book 79 = .ok (.aload_n 0, 1) := by decide +kernel
theorem dX12_book_80 : decode cX12_book 80 = .ok (.getfield 109, 3) := by decide +kernel
theorem dX12_book_83 : decode cX12_book 83 = .ok (.ireturn, 1) := by decide +kernel
theorem dX12_looked_0 : decode cX12_looked 0 = .ok (.iconst 0, 1) := by decide +kernel
theorem dX12_looked_1 : decode cX12_looked 1 = .ok (.istore_n 1, 1) := by decide +kernel
theorem dX12_looked_2 : decode cX12_looked 2 = .ok (.iload_n 1, 1) := by decide +kernel
theorem dX12_looked_3 : decode cX12_looked 3 = .ok (.aload_n 0, 1) := by decide +kernel
theorem dX12_looked_4 : decode cX12_looked 4 = .ok (.getfield 109, 3) := by decide +kernel
theorem dX12_looked_7 : decode cX12_looked 7 = .ok (.if_icmp .ge 31, 3) := by decide +kernel
theorem dX12_looked_10 : decode cX12_looked 10 = .ok (.aload_n 0, 1) := by decide +kernel
theorem dX12_looked_11 : decode cX12_looked 11 = .ok (.getfield 29, 3) := by decide +kernel
theorem dX12_looked_14 : decode cX12_looked 14 = .ok (.aload_n 0, 1) := by decide +kernel
theorem dX12_looked_15 : decode cX12_looked 15 = .ok (.getfield 121, 3) := by decide +kernel
theorem dX12_looked_18 : decode cX12_looked 18 = .ok (.iload_n 1, 1) := by decide +kernel
theorem dX12_looked_19 : decode cX12_looked 19 = .ok (.iaload, 1) := by decide +kernel
theorem dX12_looked_20 : decode cX12_looked 20 = .ok (.iaload, 1) := by decide +kernel
theorem dX12_looked_21 : decode cX12_looked 21 = .ok (.aload_n 0, 1) := by decide +kernel
theorem dX12_looked_22 : decode cX12_looked 22 = .ok (.getfield 124, 3) := by decide +kernel
theorem dX12_looked_25 : decode cX12_looked 25 = .ok (.iload_n 1, 1) := by decide +kernel
theorem dX12_looked_26 : decode cX12_looked 26 = .ok (.iaload, 1) := by decide +kernel
theorem dX12_looked_27 : decode cX12_looked 27 = .ok (.if_icmp .eq 5, 3) := by decide +kernel
theorem dX12_looked_30 : decode cX12_looked 30 = .ok (.iload_n 1, 1) := by decide +kernel
theorem dX12_looked_31 : decode cX12_looked 31 = .ok (.ireturn, 1) := by decide +kernel
theorem dX12_looked_32 : decode cX12_looked 32 = .ok (.iinc 1 1, 3) := by decide +kernel
theorem dX12_looked_35 : decode cX12_looked 35 = .ok (.goto (-33), 3) := by decide +kernel
theorem dX12_looked_38 : decode cX12_looked 38 = .ok (.bipush (-5), 2) := by decide +kernel
theorem dX12_looked_40 : decode cX12_looked 40 = .ok (.ireturn, 1) := by decide +kernel
set_option maxRecDepth 20000 in
theorem ggX12_judge_X12_isTape : GoodIn wsX12_judge wsX12_isTape := goodIn_r _ [11, 12, 13, 14, 10, 15] (by decide +kernel) (by decide +kernel)
set_option maxRecDepth 20000 in
theorem gX12_judge_X12_isTape : GoodIn wsX12_judge (wsV RX12 343 RX12 yX12_isTape wsX12_isTape) := goodIn_app (goodIn_of _ (by decide +kernel)) ggX12_judge_X12_isTape
set_option maxRecDepth 20000 in
theorem ggX12_judge_X12_worthOf : GoodIn wsX12_judge wsX12_worthOf := goodIn_r _ [19, 20, 21, 22, 23, 24, 25, 10, 26, 27, 28, 29, 30, 31, 32, 33, 34, 35, 36, 37, 38, 39, 40, 41, 42, 43, 44, 45, 46, 47, 48, 49, 50, 51, 52, 53, 54, 55, 56, 57, 58, 59, 60, 61, 62, 63, 64, 65, 66, 67, 68, 69, 70, 71, 72, 73, 74, 75, 76, 77, 78, 79, 80, 81, 82, 83, 84, 85, 86, 87, 88, 89, 90, 91, 92, 93, 94, 95, 96, 97, 98, 99, 100, 101, 102, 103, 104, 105, 106, 107, 108, 109, 110, 111, 112, 113] (by decide +kernel) (by decide +kernel)
set_option maxRecDepth 20000 in
theorem gX12_judge_X12_worthOf : GoodIn wsX12_judge (wsV RX12 282 RX12 yX12_worthOf wsX12_worthOf) := goodIn_app (goodIn_of _ (by decide +kernel)) ggX12_judge_X12_worthOf
theorem dX12_judge_0 : decode cX12_judge 0 = .ok (.aload_n 0, 1) := by decide +kernel
theorem dX12_judge_1 : decode cX12_judge 1 = .ok (.iload_n 1, 1) := by decide +kernel
theorem dX12_judge_2 : decode cX12_judge 2 = .ok (.invokevirtual 343, 3) := by decide +kernel
theorem dX12_judge_5 : decode cX12_judge 5 = .ok (.ifCond .ne 5, 3) := by decide +kernel
theorem dX12_judge_8 : decode cX12_judge 8 = .ok (.iconst (-1), 1) := by decide +kernel
theorem dX12_judge_9 : decode cX12_judge 9 = .ok (.ireturn, 1) := by decide +kernel
theorem dX12_judge_10 : decode cX12_judge 10 = .ok (.aload_n 0, 1) := by decide +kernel
theorem dX12_judge_11 : decode cX12_judge 11 = .ok (.getfield 191, 3) := by decide +kernel
theorem dX12_judge_14 : decode cX12_judge 14 = .ok (.iload_n 1, 1) := by decide +kernel
theorem dX12_judge_15 : decode cX12_judge 15 = .ok (.iaload, 1) := by decide +kernel
theorem dX12_judge_16 : decode cX12_judge 16 = .ok (.ifCond .lt 16, 3) := by decide +kernel
theorem dX12_judge_19 : decode cX12_judge 19 = .ok (.aload_n 0, 1) := by decide +kernel
theorem dX12_judge_20 : decode cX12_judge 20 = .ok (.getfield 191, 3) := by decide +kernel
theorem dX12_judge_23 : decode cX12_judge 23 = .ok (.iload_n 1, 1) := by decide +kernel
theorem dX12_judge_24 : decode cX12_judge 24 = .ok (.iaload, 1) := by decide +kernel
theorem dX12_judge_25 : decode cX12_judge 25 = .ok (.iconst 2, 1) := by decide +kernel
theorem dX12_judge_26 : decode cX12_judge 26 = .ok (.if_icmp .eq 6, 3) := by decide +kernel
theorem dX12_judge_29 : decode cX12_judge 29 = .ok (.bipush (-12), 2) := by decide +kernel
theorem dX12_judge_31 : decode cX12_judge 31 = .ok (.ireturn, 1) := by decide +kernel
theorem dX12_judge_32 : decode cX12_judge 32 = .ok (.iconst 0, 1) := by decide +kernel
theorem dX12_judge_33 : decode cX12_judge 33 = .ok (.istore_n 3, 1) := by decide +kernel
theorem dX12_judge_34 : decode cX12_judge 34 = .ok (.iload_n 3, 1) := by decide +kernel
theorem dX12_judge_35 : decode cX12_judge 35 = .ok (.aload_n 0, 1) := by decide +kernel
theorem dX12_judge_36 : decode cX12_judge 36 = .ok (.getfield 7, 3) := by decide +kernel
theorem dX12_judge_39 : decode cX12_judge 39 = .ok (.if_icmp .ge 74, 3) := by decide +kernel
theorem dX12_judge_42 : decode cX12_judge 42 = .ok (.aload_n 0, 1) := by decide +kernel
theorem dX12_judge_43 : decode cX12_judge 43 = .ok (.getfield 191, 3) := by decide +kernel
theorem dX12_judge_46 : decode cX12_judge 46 = .ok (.iload_n 1, 1) := by decide +kernel
theorem dX12_judge_47 : decode cX12_judge 47 = .ok (.iaload, 1) := by decide +kernel
theorem dX12_judge_48 : decode cX12_judge 48 = .ok (.ifCond .lt 21, 3) := by decide +kernel
theorem dX12_judge_51 : decode cX12_judge 51 = .ok (.iload_n 2, 1) := by decide +kernel
theorem dX12_judge_52 : decode cX12_judge 52 = .ok (.ifCond .lt 17, 3) := by decide +kernel
theorem dX12_judge_55 : decode cX12_judge 55 = .ok (.iload_n 2, 1) := by decide +kernel
theorem dX12_judge_56 : decode cX12_judge 56 = .ok (.aload_n 0, 1) := by decide +kernel
theorem dX12_judge_57 : decode cX12_judge 57 = .ok (.getfield 194, 3) := by decide +kernel
theorem dX12_judge_60 : decode cX12_judge 60 = .ok (.iload_n 1, 1) := by decide +kernel
theorem dX12_judge_61 : decode cX12_judge 61 = .ok (.iaload, 1) := by decide +kernel
theorem dX12_judge_62 : decode cX12_judge 62 = .ok (.iload_n 3, 1) := by decide +kernel
theorem dX12_judge_63 : decode cX12_judge 63 = .ok (.isub, 1) := by decide +kernel
theorem dX12_judge_64 : decode cX12_judge 64 = .ok (.iconst 1, 1) := by decide +kernel
theorem dX12_judge_65 : decode cX12_judge 65 = .ok (.isub, 1) := by decide +kernel
theorem dX12_judge_66 : decode cX12_judge 66 = .ok (.if_icmp .le 8, 3) := by decide +kernel
theorem dX12_judge_69 : decode cX12_judge 69 = .ok (.bipush 100, 2) := by decide +kernel
theorem dX12_judge_71 : decode cX12_judge 71 = .ok (.iload_n 3, 1) := by decide +kernel
theorem dX12_judge_72 : decode cX12_judge 72 = .ok (.iadd, 1) := by decide +kernel
theorem dX12_judge_73 : decode cX12_judge 73 = .ok (.ireturn, 1) := by decide +kernel
theorem dX12_judge_74 : decode cX12_judge 74 = .ok (.aload_n 0, 1) := by decide +kernel
theorem dX12_judge_75 : decode cX12_judge 75 = .ok (.getfield 197, 3) := by decide +kernel
theorem dX12_judge_78 : decode cX12_judge 78 = .ok (.bipush 60, 2) := by decide +kernel
theorem dX12_judge_80 : decode cX12_judge 80 = .ok (.iload_n 1, 1) := by decide +kernel
theorem dX12_judge_81 : decode cX12_judge 81 = .ok (.imul, 1) := by decide +kernel
theorem dX12_judge_82 : decode cX12_judge 82 = .ok (.iload_n 2, 1) := by decide +kernel
theorem dX12_judge_83 : decode cX12_judge 83 = .ok (.iadd, 1) := by decide +kernel
theorem dX12_judge_84 : decode cX12_judge 84 = .ok (.iload_n 3, 1) := by decide +kernel
theorem dX12_judge_85 : decode cX12_judge 85 = .ok (.iadd, 1) := by decide +kernel
theorem dX12_judge_86 : decode cX12_judge 86 = .ok (.laload, 1) := by decide +kernel
theorem dX12_judge_87 : decode cX12_judge 87 = .ok (.aload_n 0, 1) := by decide +kernel
theorem dX12_judge_88 : decode cX12_judge 88 = .ok (.iload_n 3, 1) := by decide +kernel
theorem dX12_judge_89 : decode cX12_judge 89 = .ok (.aload_n 0, 1) := by decide +kernel
theorem dX12_judge_90 : decode cX12_judge 90 = .ok (.getfield 19, 3) := by decide +kernel
theorem dX12_judge_93 : decode cX12_judge 93 = .ok (.aload_n 0, 1) := by decide +kernel
theorem dX12_judge_94 : decode cX12_judge 94 = .ok (.getfield 13, 3) := by decide +kernel
theorem dX12_judge_97 : decode cX12_judge 97 = .ok (.invokevirtual 282, 3) := by decide +kernel
theorem dX12_judge_100 : decode cX12_judge 100 = .ok (.i2l, 1) := by decide +kernel
theorem dX12_judge_101 : decode cX12_judge 101 = .ok (.lcmp, 1) := by decide +kernel
theorem dX12_judge_102 : decode cX12_judge 102 = .ok (.ifCond .eq 5, 3) := by decide +kernel
theorem dX12_judge_105 : decode cX12_judge 105 = .ok (.iload_n 3, 1) := by decide +kernel
theorem dX12_judge_106 : decode cX12_judge 106 = .ok (.ireturn, 1) := by decide +kernel
theorem dX12_judge_107 : decode cX12_judge 107 = .ok (.iinc 3 1, 3) := by decide +kernel
theorem dX12_judge_110 : decode cX12_judge 110 = .ok (.goto (-76), 3) := by decide +kernel
theorem dX12_judge_113 : decode cX12_judge 113 = .ok (.bipush (-5), 2) := by decide +kernel
theorem dX12_judge_115 : decode cX12_judge 115 = .ok (.ireturn, 1) := by decide +kernel
theorem dX12_image_0 : decode cX12_image 0 = .ok (.aload_n 0, 1) := by decide +kernel
theorem dX12_image_1 : decode cX12_image 1 = .ok (.iconst 1, 1) := by decide +kernel
theorem dX12_image_2 : decode cX12_image 2 = .ok (.putfield 127, 3) := by decide +kernel
theorem dX12_image_5 : decode cX12_image 5 = .ok (.aload_n 0, 1) := by decide +kernel
theorem dX12_image_6 : decode cX12_image 6 = .ok (.aload_n 0, 1) := by decide +kernel
theorem dX12_image_7 : decode cX12_image 7 = .ok (.getfield 38, 3) := by decide +kernel
theorem dX12_image_10 : decode cX12_image 10 = .ok (.putfield 131, 3) := by decide +kernel
theorem dX12_image_13 : decode cX12_image 13 = .ok (.aload_n 0, 1) := by decide +kernel
theorem dX12_image_14 : decode cX12_image 14 = .ok (.aload_n 0, 1) := by decide +kernel
theorem dX12_image_15 : decode cX12_image 15 = .ok (.getfield 7, 3) := by decide +kernel
theorem dX12_image_18 : decode cX12_image 18 = .ok (.putfield 134, 3) := by decide +kernel
theorem dX12_image_21 : decode cX12_image 21 = .ok (.aload_n 0, 1) := by decide +kernel
theorem dX12_image_22 : decode cX12_image 22 = .ok (.aload_n 0, 1) := by decide +kernel
theorem dX12_image_23 : decode cX12_image 23 = .ok (.getfield 13, 3) := by decide +kernel
theorem dX12_image_26 : decode cX12_image 26 = .ok (.putfield 137, 3) := by decide +kernel
theorem dX12_image_29 : decode cX12_image 29 = .ok (.aload_n 0, 1) := by decide +kernel
theorem dX12_image_30 : decode cX12_image 30 = .ok (.aload_n 0, 1) := by decide +kernel
theorem dX12_image_31 : decode cX12_image 31 = .ok (.getfield 16, 3) := by decide +kernel
theorem dX12_image_34 : decode cX12_image 34 = .ok (.putfield 140, 3) := by decide +kernel
theorem dX12_image_37 : decode cX12_image 37 = .ok (.aload_n 0, 1) := by decide +kernel
theorem dX12_image_38 : decode cX12_image 38 = .ok (.aload_n 0, 1) := by decide +kernel
theorem dX12_image_39 : decode cX12_image 39 = .ok (.getfield 19, 3) := by decide +kernel
theorem dX12_image_42 : decode cX12_image 42 = .ok (.putfield 143, 3) := by decide +kernel
theorem dX12_image_45 : decode cX12_image 45 = .ok (.aload_n 0, 1) := by decide +kernel
theorem dX12_image_46 : decode cX12_image 46 = .ok (.aload_n 0, 1) := by decide +kernel
theorem dX12_image_47 : decode cX12_image 47 = .ok (.getfield 100, 3) := by decide +kernel
theorem dX12_image_50 : decode cX12_image 50 = .ok (.putfield 146, 3) := by decide +kernel
theorem dX12_image_53 : decode cX12_image 53 = .ok (.aload_n 0, 1) := by decide +kernel
theorem dX12_image_54 : decode cX12_image 54 = .ok (.aload_n 0, 1) := by decide +kernel
theorem dX12_image_55 : decode cX12_image 55 = .ok (.getfield 106, 3) := by decide +kernel
theorem dX12_image_58 : decode cX12_image 58 = .ok (.putfield 149, 3) := by decide +kernel
theorem dX12_image_61 : decode cX12_image 61 = .ok (.aload_n 0, 1) := by decide +kernel
theorem dX12_image_62 : decode cX12_image 62 = .ok (.aload_n 0, 1) := by decide +kernel
theorem dX12_image_63 : decode cX12_image 63 = .ok (.getfield 109, 3) := by decide +kernel
theorem dX12_image_66 : decode cX12_image 66 = .ok (.putfield 152, 3) := by decide +kernel
theorem dX12_image_69 : decode cX12_image 69 = .ok (.iconst 0, 1) := by decide +kernel
theorem dX12_image_70 : decode cX12_image 70 = .ok (.istore_n 1, 1) := by decide +kernel
theorem dX12_image_71 : decode cX12_image 71 = .ok (.iload_n 1, 1) := by decide +kernel
theorem dX12_image_72 : decode cX12_image 72 = .ok (.bipush 6, 2) := by decide +kernel
theorem dX12_image_74 : decode cX12_image 74 = .ok (.if_icmp .ge 45, 3) := by decide +kernel
theorem dX12_image_77 : decode cX12_image 77 = .ok (.aload_n 0, 1) := by decide +kernel
theorem dX12_image_78 : decode cX12_image 78 = .ok (.getfield 155, 3) := by decide +kernel
theorem dX12_image_81 : decode cX12_image 81 = .ok (.iload_n 1, 1) := by decide +kernel
theorem dX12_image_82 : decode cX12_image 82 = .ok (.aload_n 0, 1) := by decide +kernel
theorem dX12_image_83 : decode cX12_image 83 = .ok (.getfield 22, 3) := by decide +kernel
theorem dX12_image_86 : decode cX12_image 86 = .ok (.iload_n 1, 1) := by decide +kernel
theorem dX12_image_87 : decode cX12_image 87 = .ok (.iaload, 1) := by decide +kernel
theorem dX12_image_88 : decode cX12_image 88 = .ok (.iastore, 1) := by decide +kernel
theorem dX12_image_89 : decode cX12_image 89 = .ok (.aload_n 0, 1) := by decide +kernel
theorem dX12_image_90 : decode cX12_image 90 = .ok (.getfield 158, 3) := by decide +kernel
theorem dX12_image_93 : decode cX12_image 93 = .ok (.iload_n 1, 1) := by decide +kernel
theorem dX12_image_94 : decode cX12_image 94 = .ok (.aload_n 0, 1) := by decide +kernel
theorem dX12_image_95 : decode cX12_image 95 = .ok (.getfield 26, 3) := by decide +kernel
theorem dX12_image_98 : decode cX12_image 98 = .ok (.iload_n 1, 1) := by decide +kernel
theorem dX12_image_99 : decode cX12_image 99 = .ok (.iaload, 1) := by decide +kernel
theorem dX12_image_100 : decode cX12_image 100 = .ok (.iastore, 1) := by decide +kernel
theorem dX12_image_101 : decode cX12_image 101 = .ok (.aload_n 0, 1) := by decide +kernel
theorem dX12_image_102 : decode cX12_image 102 = .ok (.getfield 161, 3) := by decide +kernel
theorem dX12_image_105 : decode cX12_image 105 = .ok (.iload_n 1, 1) := by decide +kernel
theorem dX12_image_106 : decode cX12_image 106 = .ok (.aload_n 0, 1) := by decide +kernel
theorem dX12_image_107 : decode cX12_image 107 = .ok (.getfield 29, 3) := by decide +kernel
theorem dX12_image_110 : decode cX12_image 110 = .ok (.iload_n 1, 1) := by decide +kernel
theorem dX12_image_111 : decode cX12_image 111 = .ok (.iaload, 1) := by decide +kernel
theorem dX12_image_112 : decode cX12_image 112 = .ok (.iastore, 1) := by decide +kernel
theorem dX12_image_113 : decode cX12_image 113 = .ok (.iinc 1 1, 3) := by decide +kernel
theorem dX12_image_116 : decode cX12_image 116 = .ok (.goto (-45), 3) := by decide +kernel
theorem dX12_image_119 : decode cX12_image 119 = .ok (.iconst 0, 1) := by decide +kernel
theorem dX12_image_120 : decode cX12_image 120 = .ok (.istore_n 1, 1) := by decide +kernel
theorem dX12_image_121 : decode cX12_image 121 = .ok (.iload_n 1, 1) := by decide +kernel
theorem dX12_image_122 : decode cX12_image 122 = .ok (.bipush 24, 2) := by decide +kernel
theorem dX12_image_124 : decode cX12_image 124 = .ok (.if_icmp .ge 21, 3) := by decide +kernel
theorem dX12_image_127 : decode cX12_image 127 = .ok (.aload_n 0, 1) := by decide +kernel
theorem dX12_image_128 : decode cX12_image 128 = .ok (.getfield 164, 3) := by decide +kernel
theorem dX12_image_131 : decode cX12_image 131 = .ok (.iload_n 1, 1) := by decide +kernel
theorem dX12_image_132 : decode cX12_image 132 = .ok (.aload_n 0, 1) := by decide +kernel
theorem dX12_image_133 : decode cX12_image 133 = .ok (.getfield 32, 3) := by decide +kernel
theorem dX12_image_136 : decode cX12_image 136 = .ok (.iload_n 1, 1) := by decide +kernel
theorem dX12_image_137 : decode cX12_image 137 = .ok (.iaload, 1) := by decide +kernel
theorem dX12_image_138 : decode cX12_image 138 = .ok (.iastore, 1) := by decide +kernel
theorem dX12_image_139 : decode cX12_image 139 = .ok (.iinc 1 1, 3) := by decide +kernel
theorem dX12_image_142 : decode cX12_image 142 = .ok (.goto (-21), 3) := by decide +kernel
theorem dX12_image_145 : decode cX12_image 145 = .ok (.iconst 0, 1) := by decide +kernel
theorem dX12_image_146 : decode cX12_image 146 = .ok (.istore_n 1, 1) := by decide +kernel
theorem dX12_image_147 : decode cX12_image 147 = .ok (.iload_n 1, 1) := by decide +kernel
theorem dX12_image_148 : decode cX12_image 148 = .ok (.iconst 5, 1) := by decide +kernel
theorem dX12_image_149 : decode cX12_image 149 = .ok (.if_icmp .ge 45, 3) := by decide +kernel
theorem dX12_image_152 : decode cX12_image 152 = .ok (.aload_n 0, 1) := by decide +kernel
theorem dX12_image_153 : decode cX12_image 153 = .ok (.getfield 170, 3) := by decide +kernel
theorem dX12_image_156 : decode cX12_image 156 = .ok (.iload_n 1, 1) := by decide +kernel
theorem dX12_image_157 : decode cX12_image 157 = .ok (.aload_n 0, 1) := by decide +kernel
theorem dX12_image_158 : decode cX12_image 158 = .ok (.getfield 112, 3) := by decide +kernel
theorem dX12_image_161 : decode cX12_image 161 = .ok (.iload_n 1, 1) := by decide +kernel
theorem dX12_image_162 : decode cX12_image 162 = .ok (.iaload, 1) := by decide +kernel
theorem dX12_image_163 : decode cX12_image 163 = .ok (.iastore, 1) := by decide +kernel
theorem dX12_image_164 : decode cX12_image 164 = .ok (.aload_n 0, 1) := by decide +kernel
theorem dX12_image_165 : decode cX12_image 165 = .ok (.getfield 173, 3) := by decide +kernel
theorem dX12_image_168 : decode cX12_image 168 = .ok (.iload_n 1, 1) := by decide +kernel
theorem dX12_image_169 : decode cX12_image 169 = .ok (.aload_n 0, 1) := by decide +kernel
theorem dX12_image_170 : decode cX12_image 170 = .ok (.getfield 115, 3) := by decide +kernel
theorem dX12_image_173 : decode cX12_image 173 = .ok (.iload_n 1, 1) := by decide +kernel
theorem dX12_image_174 : decode cX12_image 174 = .ok (.iaload, 1) := by decide +kernel
theorem dX12_image_175 : decode cX12_image 175 = .ok (.iastore, 1) := by decide +kernel
theorem dX12_image_176 : decode cX12_image 176 = .ok (.aload_n 0, 1) := by decide +kernel
theorem dX12_image_177 : decode cX12_image 177 = .ok (.getfield 176, 3) := by decide +kernel
theorem dX12_image_180 : decode cX12_image 180 = .ok (.iload_n 1, 1) := by decide +kernel
theorem dX12_image_181 : decode cX12_image 181 = .ok (.aload_n 0, 1) := by decide +kernel
theorem dX12_image_182 : decode cX12_image 182 = .ok (.getfield 118, 3) := by decide +kernel
theorem dX12_image_185 : decode cX12_image 185 = .ok (.iload_n 1, 1) := by decide +kernel
theorem dX12_image_186 : decode cX12_image 186 = .ok (.iaload, 1) := by decide +kernel
theorem dX12_image_187 : decode cX12_image 187 = .ok (.iastore, 1) := by decide +kernel
theorem dX12_image_188 : decode cX12_image 188 = .ok (.iinc 1 1, 3) := by decide +kernel
theorem dX12_image_191 : decode cX12_image 191 = .ok (.goto (-44), 3) := by decide +kernel
theorem dX12_image_194 : decode cX12_image 194 = .ok (.iconst 0, 1) := by decide +kernel
theorem dX12_image_195 : decode cX12_image 195 = .ok (.istore_n 1, 1) := by decide +kernel
theorem dX12_image_196 : decode cX12_image 196 = .ok (.iload_n 1, 1) := by decide +kernel
theorem dX12_image_197 : decode cX12_image 197 = .ok (.bipush 8, 2) := by decide +kernel
theorem dX12_image_199 : decode cX12_image 199 = .ok (.if_icmp .ge 45, 3) := by decide +kernel
theorem dX12_image_202 : decode cX12_image 202 = .ok (.aload_n 0, 1) := by decide +kernel
theorem dX12_image_203 : decode cX12_image 203 = .ok (.getfield 167, 3) := by decide +kernel
theorem dX12_image_206 : decode cX12_image 206 = .ok (.iload_n 1, 1) := by decide +kernel
theorem dX12_image_207 : decode cX12_image 207 = .ok (.aload_n 0, 1) := by decide +kernel
theorem dX12_image_208 : decode cX12_image 208 = .ok (.getfield 103, 3) := by decide +kernel
theorem dX12_image_211 : decode cX12_image 211 = .ok (.iload_n 1, 1) := by decide +kernel
theorem dX12_image_212 : decode cX12_image 212 = .ok (.iaload, 1) := by decide +kernel
theorem dX12_image_213 : decode cX12_image 213 = .ok (.iastore, 1) := by decide +kernel
theorem dX12_image_214 : decode cX12_image 214 = .ok (.aload_n 0, 1) := by decide +kernel
theorem dX12_image_215 : decode cX12_image 215 = .ok (.getfield 179, 3) := by decide +kernel
theorem dX12_image_218 : decode cX12_image 218 = .ok (.iload_n 1, 1) := by decide +kernel
theorem dX12_image_219 : decode cX12_image 219 = .ok (.aload_n 0, 1) := by decide +kernel
theorem dX12_image_220 : decode cX12_image 220 = .ok (.getfield 121, 3) := by decide +kernel
theorem dX12_image_223 : decode cX12_image 223 = .ok (.iload_n 1, 1) := by decide +kernel
theorem dX12_image_224 : decode cX12_image 224 = .ok (.iaload, 1) := by decide +kernel
theorem dX12_image_225 : decode cX12_image 225 = .ok (.iastore, 1) := by decide +kernel
theorem dX12_image_226 : decode cX12_image 226 = .ok (.aload_n 0, 1) := by decide +kernel
theorem dX12_image_227 : decode cX12_image 227 = .ok (.getfield 182, 3) := by decide +kernel
theorem dX12_image_230 : decode cX12_image 230 = .ok (.iload_n 1, 1) := by decide +kernel
theorem dX12_image_231 : decode cX12_image 231 = .ok (.aload_n 0, 1) := by decide +kernel
theorem dX12_image_232 : decode cX12_image 232 = .ok (.getfield 124, 3) := by decide +kernel
theorem dX12_image_235 : decode cX12_image 235 = .ok (.iload_n 1, 1) := by decide +kernel
theorem dX12_image_236 : decode cX12_image 236 = .ok (.iaload, 1) := by decide +kernel
theorem dX12_image_237 : decode cX12_image 237 = .ok (.iastore, 1) := by decide +kernel
theorem dX12_image_238 : decode cX12_image 238 = .ok (.iinc 1 1, 3) := by decide +kernel
theorem dX12_image_241 : decode cX12_image 241 = .ok (.goto (-45), 3) := by decide +kernel
theorem dX12_image_244 : decode cX12_image 244 = .ok (.aload_n 0, 1) := by decide +kernel
theorem dX12_image_245 : decode cX12_image 245 = .ok (.getfield 7, 3) := by decide +kernel
theorem dX12_image_248 : decode cX12_image 248 = .ok (.ireturn, 1) := by decide +kernel
theorem dX12_undo_0 : decode cX12_undo 0 = .ok (.aload_n 0, 1) := by decide +kernel
theorem dX12_undo_1 : decode cX12_undo 1 = .ok (.getfield 127, 3) := by decide +kernel
theorem dX12_undo_4 : decode cX12_undo 4 = .ok (.ifCond .ne 6, 3) := by decide +kernel
theorem dX12_undo_7 : decode cX12_undo 7 = .ok (.bipush (-3), 2) := by decide +kernel
theorem dX12_undo_9 : decode cX12_undo 9 = .ok (.ireturn, 1) := by decide +kernel
theorem dX12_undo_10 : decode cX12_undo 10 = .ok (.aload_n 0, 1) := by decide +kernel
theorem dX12_undo_11 : decode cX12_undo 11 = .ok (.aload_n 0, 1) := by decide +kernel
theorem dX12_undo_12 : decode cX12_undo 12 = .ok (.getfield 131, 3) := by decide +kernel
theorem dX12_undo_15 : decode cX12_undo 15 = .ok (.putfield 38, 3) := by decide +kernel
theorem dX12_undo_18 : decode cX12_undo 18 = .ok (.aload_n 0, 1) := by decide +kernel
theorem dX12_undo_19 : decode cX12_undo 19 = .ok (.aload_n 0, 1) := by decide +kernel
theorem dX12_undo_20 : decode cX12_undo 20 = .ok (.getfield 134, 3) := by decide +kernel
theorem dX12_undo_23 : decode cX12_undo 23 = .ok (.putfield 7, 3) := by decide +kernel
theorem dX12_undo_26 : decode cX12_undo 26 = .ok (.aload_n 0, 1) := by decide +kernel
theorem dX12_undo_27 : decode cX12_undo 27 = .ok (.aload_n 0, 1) := by decide +kernel
theorem dX12_undo_28 : decode cX12_undo 28 = .ok (.getfield 137, 3) := by decide +kernel
theorem dX12_undo_31 : decode cX12_undo 31 = .ok (.putfield 13, 3) := by decide +kernel
theorem dX12_undo_34 : decode cX12_undo 34 = .ok (.aload_n 0, 1) := by decide +kernel
theorem dX12_undo_35 : decode cX12_undo 35 = .ok (.aload_n 0, 1) := by decide +kernel
theorem dX12_undo_36 : decode cX12_undo 36 = .ok (.getfield 140, 3) := by decide +kernel
theorem dX12_undo_39 : decode cX12_undo 39 = .ok (.putfield 16, 3) := by decide +kernel
theorem dX12_undo_42 : decode cX12_undo 42 = .ok (.aload_n 0, 1) := by decide +kernel
theorem dX12_undo_43 : decode cX12_undo 43 = .ok (.aload_n 0, 1) := by decide +kernel
theorem dX12_undo_44 : decode cX12_undo 44 = .ok (.getfield 143, 3) := by decide +kernel
theorem dX12_undo_47 : decode cX12_undo 47 = .ok (.putfield 19, 3) := by decide +kernel
theorem dX12_undo_50 : decode cX12_undo 50 = .ok (.aload_n 0, 1) := by decide +kernel
theorem dX12_undo_51 : decode cX12_undo 51 = .ok (.aload_n 0, 1) := by decide +kernel
theorem dX12_undo_52 : decode cX12_undo 52 = .ok (.getfield 146, 3) := by decide +kernel
theorem dX12_undo_55 : decode cX12_undo 55 = .ok (.putfield 100, 3) := by decide +kernel
theorem dX12_undo_58 : decode cX12_undo 58 = .ok (.aload_n 0, 1) := by decide +kernel
theorem dX12_undo_59 : decode cX12_undo 59 = .ok (.aload_n 0, 1) := by decide +kernel
theorem dX12_undo_60 : decode cX12_undo 60 = .ok (.getfield 149, 3) := by decide +kernel
theorem dX12_undo_63 : decode cX12_undo 63 = .ok (.putfield 106, 3) := by decide +kernel
theorem dX12_undo_66 : decode cX12_undo 66 = .ok (.aload_n 0, 1) := by decide +kernel
theorem dX12_undo_67 : decode cX12_undo 67 = .ok (.aload_n 0, 1) := by decide +kernel
theorem dX12_undo_68 : decode cX12_undo 68 = .ok (.getfield 152, 3) := by decide +kernel
theorem dX12_undo_71 : decode cX12_undo 71 = .ok (.putfield 109, 3) := by decide +kernel
theorem dX12_undo_74 : decode cX12_undo 74 = .ok (.iconst 0, 1) := by decide +kernel
theorem dX12_undo_75 : decode cX12_undo 75 = .ok (.istore_n 1, 1) := by decide +kernel
theorem dX12_undo_76 : decode cX12_undo 76 = .ok (.iload_n 1, 1) := by decide +kernel
theorem dX12_undo_77 : decode cX12_undo 77 = .ok (.bipush 6, 2) := by decide +kernel
theorem dX12_undo_79 : decode cX12_undo 79 = .ok (.if_icmp .ge 45, 3) := by decide +kernel
theorem dX12_undo_82 : decode cX12_undo 82 = .ok (.aload_n 0, 1) := by decide +kernel
theorem dX12_undo_83 : decode cX12_undo 83 = .ok (.getfield 22, 3) := by decide +kernel
theorem dX12_undo_86 : decode cX12_undo 86 = .ok (.iload_n 1, 1) := by decide +kernel
theorem dX12_undo_87 : decode cX12_undo 87 = .ok (.aload_n 0, 1) := by decide +kernel
theorem dX12_undo_88 : decode cX12_undo 88 = .ok (.getfield 155, 3) := by decide +kernel
theorem dX12_undo_91 : decode cX12_undo 91 = .ok (.iload_n 1, 1) := by decide +kernel
theorem dX12_undo_92 : decode cX12_undo 92 = .ok (.iaload, 1) := by decide +kernel
theorem dX12_undo_93 : decode cX12_undo 93 = .ok (.iastore, 1) := by decide +kernel
theorem dX12_undo_94 : decode cX12_undo 94 = .ok (.aload_n 0, 1) := by decide +kernel
theorem dX12_undo_95 : decode cX12_undo 95 = .ok (.getfield 26, 3) := by decide +kernel
theorem dX12_undo_98 : decode cX12_undo 98 = .ok (.iload_n 1, 1) := by decide +kernel
theorem dX12_undo_99 : decode cX12_undo 99 = .ok (.aload_n 0, 1) := by decide +kernel
theorem dX12_undo_100 : decode cX12_undo 100 = .ok (.getfield 158, 3) := by decide +kernel
theorem dX12_undo_103 : decode cX12_undo 103 = .ok (.iload_n 1, 1) := by decide +kernel
theorem dX12_undo_104 : decode cX12_undo 104 = .ok (.iaload, 1) := by decide +kernel
theorem dX12_undo_105 : decode cX12_undo 105 = .ok (.iastore, 1) := by decide +kernel
theorem dX12_undo_106 : decode cX12_undo 106 = .ok (.aload_n 0, 1) := by decide +kernel
theorem dX12_undo_107 : decode cX12_undo 107 = .ok (.getfield 29, 3) := by decide +kernel
theorem dX12_undo_110 : decode cX12_undo 110 = .ok (.iload_n 1, 1) := by decide +kernel
theorem dX12_undo_111 : decode cX12_undo 111 = .ok (.aload_n 0, 1) := by decide +kernel
theorem dX12_undo_112 : decode cX12_undo 112 = .ok (.getfield 161, 3) := by decide +kernel
theorem dX12_undo_115 : decode cX12_undo 115 = .ok (.iload_n 1, 1) := by decide +kernel
theorem dX12_undo_116 : decode cX12_undo 116 = .ok (.iaload, 1) := by decide +kernel
theorem dX12_undo_117 : decode cX12_undo 117 = .ok (.iastore, 1) := by decide +kernel
theorem dX12_undo_118 : decode cX12_undo 118 = .ok (.iinc 1 1, 3) := by decide +kernel
theorem dX12_undo_121 : decode cX12_undo 121 = .ok (.goto (-45), 3) := by decide +kernel
theorem dX12_undo_124 : decode cX12_undo 124 = .ok (.iconst 0, 1) := by decide +kernel
theorem dX12_undo_125 : decode cX12_undo 125 = .ok (.istore_n 1, 1) := by decide +kernel
theorem dX12_undo_126 : decode cX12_undo 126 = .ok (.iload_n 1, 1) := by decide +kernel
theorem dX12_undo_127 : decode cX12_undo 127 = .ok (.bipush 24, 2) := by decide +kernel
theorem dX12_undo_129 : decode cX12_undo 129 = .ok (.if_icmp .ge 21, 3) := by decide +kernel
theorem dX12_undo_132 : decode cX12_undo 132 = .ok (.aload_n 0, 1) := by decide +kernel
theorem dX12_undo_133 : decode cX12_undo 133 = .ok (.getfield 32, 3) := by decide +kernel
theorem dX12_undo_136 : decode cX12_undo 136 = .ok (.iload_n 1, 1) := by decide +kernel
theorem dX12_undo_137 : decode cX12_undo 137 = .ok (.aload_n 0, 1) := by decide +kernel
theorem dX12_undo_138 : decode cX12_undo 138 = .ok (.getfield 164, 3) := by decide +kernel
theorem dX12_undo_141 : decode cX12_undo 141 = .ok (.iload_n 1, 1) := by decide +kernel
theorem dX12_undo_142 : decode cX12_undo 142 = .ok (.iaload, 1) := by decide +kernel
theorem dX12_undo_143 : decode cX12_undo 143 = .ok (.iastore, 1) := by decide +kernel
theorem dX12_undo_144 : decode cX12_undo 144 = .ok (.iinc 1 1, 3) := by decide +kernel
theorem dX12_undo_147 : decode cX12_undo 147 = .ok (.goto (-21), 3) := by decide +kernel
theorem dX12_undo_150 : decode cX12_undo 150 = .ok (.iconst 0, 1) := by decide +kernel
theorem dX12_undo_151 : decode cX12_undo 151 = .ok (.istore_n 1, 1) := by decide +kernel
theorem dX12_undo_152 : decode cX12_undo 152 = .ok (.iload_n 1, 1) := by decide +kernel
theorem dX12_undo_153 : decode cX12_undo 153 = .ok (.iconst 5, 1) := by decide +kernel
theorem dX12_undo_154 : decode cX12_undo 154 = .ok (.if_icmp .ge 45, 3) := by decide +kernel
theorem dX12_undo_157 : decode cX12_undo 157 = .ok (.aload_n 0, 1) := by decide +kernel
theorem dX12_undo_158 : decode cX12_undo 158 = .ok (.getfield 112, 3) := by decide +kernel
theorem dX12_undo_161 : decode cX12_undo 161 = .ok (.iload_n 1, 1) := by decide +kernel
theorem dX12_undo_162 : decode cX12_undo 162 = .ok (.aload_n 0, 1) := by decide +kernel
theorem dX12_undo_163 : decode cX12_undo 163 = .ok (.getfield 170, 3) := by decide +kernel
theorem dX12_undo_166 : decode cX12_undo 166 = .ok (.iload_n 1, 1) := by decide +kernel
theorem dX12_undo_167 : decode cX12_undo 167 = .ok (.iaload, 1) := by decide +kernel
theorem dX12_undo_168 : decode cX12_undo 168 = .ok (.iastore, 1) := by decide +kernel
theorem dX12_undo_169 : decode cX12_undo 169 = .ok (.aload_n 0, 1) := by decide +kernel
theorem dX12_undo_170 : decode cX12_undo 170 = .ok (.getfield 115, 3) := by decide +kernel
theorem dX12_undo_173 : decode cX12_undo 173 = .ok (.iload_n 1, 1) := by decide +kernel
theorem dX12_undo_174 : decode cX12_undo 174 = .ok (.aload_n 0, 1) := by decide +kernel
theorem dX12_undo_175 : decode cX12_undo 175 = .ok (.getfield 173, 3) := by decide +kernel
theorem dX12_undo_178 : decode cX12_undo 178 = .ok (.iload_n 1, 1) := by decide +kernel
theorem dX12_undo_179 : decode cX12_undo 179 = .ok (.iaload, 1) := by decide +kernel
theorem dX12_undo_180 : decode cX12_undo 180 = .ok (.iastore, 1) := by decide +kernel
theorem dX12_undo_181 : decode cX12_undo 181 = .ok (.aload_n 0, 1) := by decide +kernel
theorem dX12_undo_182 : decode cX12_undo 182 = .ok (.getfield 118, 3) := by decide +kernel
theorem dX12_undo_185 : decode cX12_undo 185 = .ok (.iload_n 1, 1) := by decide +kernel
theorem dX12_undo_186 : decode cX12_undo 186 = .ok (.aload_n 0, 1) := by decide +kernel
theorem dX12_undo_187 : decode cX12_undo 187 = .ok (.getfield 176, 3) := by decide +kernel
theorem dX12_undo_190 : decode cX12_undo 190 = .ok (.iload_n 1, 1) := by decide +kernel
theorem dX12_undo_191 : decode cX12_undo 191 = .ok (.iaload, 1) := by decide +kernel
theorem dX12_undo_192 : decode cX12_undo 192 = .ok (.iastore, 1) := by decide +kernel
theorem dX12_undo_193 : decode cX12_undo 193 = .ok (.iinc 1 1, 3) := by decide +kernel
theorem dX12_undo_196 : decode cX12_undo 196 = .ok (.goto (-44), 3) := by decide +kernel
theorem dX12_undo_199 : decode cX12_undo 199 = .ok (.iconst 0, 1) := by decide +kernel
theorem dX12_undo_200 : decode cX12_undo 200 = .ok (.istore_n 1, 1) := by decide +kernel
theorem dX12_undo_201 : decode cX12_undo 201 = .ok (.iload_n 1, 1) := by decide +kernel
theorem dX12_undo_202 : decode cX12_undo 202 = .ok (.bipush 8, 2) := by decide +kernel
theorem dX12_undo_204 : decode cX12_undo 204 = .ok (.if_icmp .ge 45, 3) := by decide +kernel
theorem dX12_undo_207 : decode cX12_undo 207 = .ok (.aload_n 0, 1) := by decide +kernel
theorem dX12_undo_208 : decode cX12_undo 208 = .ok (.getfield 103, 3) := by decide +kernel
theorem dX12_undo_211 : decode cX12_undo 211 = .ok (.iload_n 1, 1) := by decide +kernel
theorem dX12_undo_212 : decode cX12_undo 212 = .ok (.aload_n 0, 1) := by decide +kernel
theorem dX12_undo_213 : decode cX12_undo 213 = .ok (.getfield 167, 3) := by decide +kernel
theorem dX12_undo_216 : decode cX12_undo 216 = .ok (.iload_n 1, 1) := by decide +kernel
theorem dX12_undo_217 : decode cX12_undo 217 = .ok (.iaload, 1) := by decide +kernel
theorem dX12_undo_218 : decode cX12_undo 218 = .ok (.iastore, 1) := by decide +kernel
theorem dX12_undo_219 : decode cX12_undo 219 = .ok (.aload_n 0, 1) := by decide +kernel
theorem dX12_undo_220 : decode cX12_undo 220 = .ok (.getfield 121, 3) := by decide +kernel
theorem dX12_undo_223 : decode cX12_undo 223 = .ok (.iload_n 1, 1) := by decide +kernel
theorem dX12_undo_224 : decode cX12_undo 224 = .ok (.aload_n 0, 1) := by decide +kernel
theorem dX12_undo_225 : decode cX12_undo 225 = .ok (.getfield 179, 3) := by decide +kernel
theorem dX12_undo_228 : decode cX12_undo 228 = .ok (.iload_n 1, 1) := by decide +kernel
theorem dX12_undo_229 : decode cX12_undo 229 = .ok (.iaload, 1) := by decide +kernel
theorem dX12_undo_230 : decode cX12_undo 230 = .ok (.iastore, 1) := by decide +kernel
theorem dX12_undo_231 : decode cX12_undo 231 = .ok (.aload_n 0, 1) := by decide +kernel
theorem dX12_undo_232 : decode cX12_undo 232 = .ok (.getfield 124, 3) := by decide +kernel
theorem dX12_undo_235 : decode cX12_undo 235 = .ok (.iload_n 1, 1) := by decide +kernel
theorem dX12_undo_236 : decode cX12_undo 236 = .ok (.aload_n 0, 1) := by decide +kernel
theorem dX12_undo_237 : decode cX12_undo 237 = .ok (.getfield 182, 3) := by decide +kernel
theorem dX12_undo_240 : decode cX12_undo 240 = .ok (.iload_n 1, 1) := by decide +kernel
theorem dX12_undo_241 : decode cX12_undo 241 = .ok (.iaload, 1) := by decide +kernel
theorem dX12_undo_242 : decode cX12_undo 242 = .ok (.iastore, 1) := by decide +kernel
theorem dX12_undo_243 : decode cX12_undo 243 = .ok (.iinc 1 1, 3) := by decide +kernel
theorem dX12_undo_246 : decode cX12_undo 246 = .ok (.goto (-45), 3) := by decide +kernel
theorem dX12_undo_249 : decode cX12_undo 249 = .ok (.aload_n 0, 1) := by decide +kernel
theorem dX12_undo_250 : decode cX12_undo 250 = .ok (.getfield 7, 3) := by decide +kernel
theorem dX12_undo_253 : decode cX12_undo 253 = .ok (.ireturn, 1) := by decide +kernel
theorem dX12_body_0 : decode cX12_body 0 = .ok (.aload_n 0, 1) := by decide +kernel
theorem dX12_body_1 : decode cX12_body 1 = .ok (.getfield 185, 3) := by decide +kernel
theorem dX12_body_4 : decode cX12_body 4 = .ok (.bipush 20, 2) := by decide +kernel
theorem dX12_body_6 : decode cX12_body 6 = .ok (.if_icmp .ge 13, 3) := by decide +kernel
theorem dX12_body_9 : decode cX12_body 9 = .ok (.aload_n 0, 1) := by decide +kernel
theorem dX12_body_10 : decode cX12_body 10 = .ok (.getfield 188, 3) := by decide +kernel
theorem dX12_body_13 : decode cX12_body 13 = .ok (.aload_n 0, 1) := by decide +kernel
theorem dX12_body_14 : decode cX12_body 14 = .ok (.getfield 185, 3) := by decide +kernel
theorem dX12_body_17 : decode cX12_body 17 = .ok (.iload_n 1, 1) := by decide +kernel
theorem dX12_body_18 : decode cX12_body 18 = .ok (.iastore, 1) := by decide +kernel
theorem dX12_body_19 : decode cX12_body 19 = .ok (.aload_n 0, 1) := by decide +kernel
theorem dX12_body_20 : decode cX12_body 20 = .ok (.dup, 1) := by decide +kernel
theorem dX12_body_21 : decode cX12_body 21 = .ok (.getfield 185, 3) := by decide +kernel
theorem dX12_body_24 : decode cX12_body 24 = .ok (.iconst 1, 1) := by decide +kernel
theorem dX12_body_25 : decode cX12_body 25 = .ok (.iadd, 1) := by decide +kernel
theorem dX12_body_26 : decode cX12_body 26 = .ok (.putfield 185, 3) := by decide +kernel
theorem dX12_body_29 : decode cX12_body 29 = .ok (.return_, 1) := by decide +kernel
set_option maxRecDepth 20000 in
theorem ggX12_needDarkens_X12_body : GoodIn wsX12_needDarkens wsX12_body := goodIn_r _ [5, 6, 7, 8, 9, 10, 11, 12, 13, 14, 15, 16, 17, 18, 19, 20, 21, 22, 23, 24, 25, 26, 27, 28, 29, 30, 31, 32, 33, 34, 35, 36, 37, 38, 39, 40, 41, 42, 43, 44, 45, 46, 47, 48, 49, 50, 51, 52, 53, 54, 55, 56, 57, 58, 59, 60, 61, 62, 63, 64, 65, 66, 67, 68, 69, 70] (by decide +kernel) (by decide +kernel)
set_option maxRecDepth 20000 in
theorem gX12_needDarkens_X12_body : GoodIn wsX12_needDarkens (wsV RX12 346 RX12 yX12_body wsX12_body) := goodIn_app (goodIn_of _ (by decide +kernel)) ggX12_needDarkens_X12_body
theorem dX12_needDarkens_0 : decode cX12_needDarkens 0 = .ok (.aload_n 0, 1) := by decide +kernel
theorem dX12_needDarkens_1 : decode cX12_needDarkens 1 = .ok (.bipush 10, 2) := by decide +kernel
theorem dX12_needDarkens_3 : decode cX12_needDarkens 3 = .ok (.invokevirtual 346, 3) := by decide +kernel
theorem dX12_needDarkens_6 : decode cX12_needDarkens 6 = .ok (.iload_n 2, 1) := by decide +kernel
theorem dX12_needDarkens_7 : decode cX12_needDarkens 7 = .ok (.iload_n 1, 1) := by decide +kernel
theorem dX12_needDarkens_8 : decode cX12_needDarkens 8 = .ok (.iadd, 1) := by decide +kernel
theorem dX12_needDarkens_9 : decode cX12_needDarkens 9 = .ok (.ireturn, 1) := by decide +kernel
set_option maxRecDepth 20000 in
theorem ggX12_darkensAct_X12_body : GoodIn wsX12_darkensAct wsX12_body := goodIn_r _ [7, 8, 9, 14, 15, 16, 17, 18, 19, 20, 21, 22, 23, 24, 25, 26, 27, 28, 29, 30, 31, 32, 33, 34, 35, 36, 37, 38, 39, 40, 41, 42, 43, 44, 45, 46, 47, 48, 49, 50, 51, 52, 53, 54, 55, 56, 57, 58, 59, 60, 61, 62, 63, 64, 65, 66, 67, 68, 69, 70, 71, 72, 73, 74, 75, 76] (by decide +kernel) (by decide +kernel)
set_option maxRecDepth 20000 in
theorem gX12_darkensAct_X12_body : GoodIn wsX12_darkensAct (wsV RX12 346 RX12 yX12_body wsX12_body) := goodIn_app (goodIn_of _ (by decide +kernel)) ggX12_darkensAct_X12_body
set_option maxRecDepth 20000 in
theorem ggX12_darkensAct_X12_needDarkens : GoodIn wsX12_darkensAct wsX12_needDarkens := goodIn_r _ [13, 3, 4, 5, 6, 7, 8, 9, 14, 15, 16, 17, 18, 19, 20, 21, 22, 23, 24, 25, 26, 27, 28, 29, 30, 31, 32, 33, 34, 35, 36, 37, 38, 39, 40, 41, 42, 43, 44, 45, 46, 47, 48, 49, 50, 51, 52, 53, 54, 55, 56, 57, 58, 59, 60, 61, 62, 63, 64, 65, 66, 67, 68, 69, 70, 71, 72, 73, 74, 75, 76] (by decide +kernel) (by decide +kernel)
set_option maxRecDepth 20000 in
theorem gX12_darkensAct_X12_needDarkens : GoodIn wsX12_darkensAct (wsV RX12 349 RX12 yX12_needDarkens wsX12_needDarkens) := goodIn_app (goodIn_of _ (by decide +kernel)) ggX12_darkensAct_X12_needDarkens
theorem dX12_darkensAct_0 : decode cX12_darkensAct 0 = .ok (.aload_n 0, 1) := by decide +kernel
theorem dX12_darkensAct_1 : decode cX12_darkensAct 1 = .ok (.getfield 22, 3) := by decide +kernel
theorem dX12_darkensAct_4 : decode cX12_darkensAct 4 = .ok (.iload_n 1, 1) := by decide +kernel
theorem dX12_darkensAct_5 : decode cX12_darkensAct 5 = .ok (.iaload, 1) := by decide +kernel
theorem dX12_darkensAct_6 : decode cX12_darkensAct 6 = .ok (.tableswitch 83 2 6 #[34, 83, 49, 34, 63], 34) := by decide +kernel
theorem dX12_darkensAct_40 : decode cX12_darkensAct 40 = .ok (.aload_n 0, 1) := by decide +kernel
theorem dX12_darkensAct_41 : decode cX12_darkensAct 41 = .ok (.bipush 30, 2) := by decide +kernel
theorem dX12_darkensAct_43 : decode cX12_darkensAct 43 = .ok (.invokevirtual 346, 3) := by decide +kernel
theorem dX12_darkensAct_46 : decode cX12_darkensAct 46 = .ok (.aload_n 0, 1) := by decide +kernel
theorem dX12_darkensAct_47 : decode cX12_darkensAct 47 = .ok (.iload_n 1, 1) := by decide +kernel
theorem dX12_darkensAct_48 : decode cX12_darkensAct 48 = .ok (.iload_n 2, 1) := by decide +kernel
theorem dX12_darkensAct_49 : decode cX12_darkensAct 49 = .ok (.iconst 3, 1) := by decide +kernel
theorem dX12_darkensAct_50 : decode cX12_darkensAct 50 = .ok (.imul, 1) := by decide +kernel
theorem dX12_darkensAct_51 : decode cX12_darkensAct 51 = .ok (.invokevirtual 349, 3) := by decide +kernel
theorem dX12_darkensAct_54 : decode cX12_darkensAct 54 = .ok (.ireturn, 1) := by decide +kernel
theorem dX12_darkensAct_55 : decode cX12_darkensAct 55 = .ok (.aload_n 0, 1) := by decide +kernel
theorem dX12_darkensAct_56 : decode cX12_darkensAct 56 = .ok (.bipush 50, 2) := by decide +kernel
theorem dX12_darkensAct_58 : decode cX12_darkensAct 58 = .ok (.invokevirtual 346, 3) := by decide +kernel
theorem dX12_darkensAct_61 : decode cX12_darkensAct 61 = .ok (.aload_n 0, 1) := by decide +kernel
theorem dX12_darkensAct_62 : decode cX12_darkensAct 62 = .ok (.iload_n 1, 1) := by decide +kernel
theorem dX12_darkensAct_63 : decode cX12_darkensAct 63 = .ok (.iload_n 2, 1) := by decide +kernel
theorem dX12_darkensAct_64 : decode cX12_darkensAct 64 = .ok (.invokevirtual 349, 3) := by decide +kernel
theorem dX12_darkensAct_67 : decode cX12_darkensAct 67 = .ok (.ineg, 1) := by decide +kernel
theorem dX12_darkensAct_68 : decode cX12_darkensAct 68 = .ok (.ireturn, 1) := by decide +kernel
theorem dX12_darkensAct_69 : decode cX12_darkensAct 69 = .ok (.aload_n 0, 1) := by decide +kernel
theorem dX12_darkensAct_70 : decode cX12_darkensAct 70 = .ok (.bipush 71, 2) := by decide +kernel
theorem dX12_darkensAct_72 : decode cX12_darkensAct 72 = .ok (.invokevirtual 346, 3) := by decide +kernel
theorem dX12_darkensAct_75 : decode cX12_darkensAct 75 = .ok (.aload_n 0, 1) := by decide +kernel
theorem dX12_darkensAct_76 : decode cX12_darkensAct 76 = .ok (.iload_n 1, 1) := by decide +kernel
theorem dX12_darkensAct_77 : decode cX12_darkensAct 77 = .ok (.iload_n 2, 1) := by decide +kernel
theorem dX12_darkensAct_78 : decode cX12_darkensAct 78 = .ok (.invokevirtual 349, 3) := by decide +kernel
theorem dX12_darkensAct_81 : decode cX12_darkensAct 81 = .ok (.aload_n 0, 1) := by decide +kernel
theorem dX12_darkensAct_82 : decode cX12_darkensAct 82 = .ok (.getfield 26, 3) := by decide +kernel
theorem dX12_darkensAct_85 : decode cX12_darkensAct 85 = .ok (.iload_n 1, 1) := by decide +kernel
theorem dX12_darkensAct_86 : decode cX12_darkensAct 86 = .ok (.iaload, 1) := by decide +kernel
theorem dX12_darkensAct_87 : decode cX12_darkensAct 87 = .ok (.ixor, 1) := by decide +kernel
theorem dX12_darkensAct_88 : decode cX12_darkensAct 88 = .ok (.ireturn, 1) := by decide +kernel
theorem dX12_darkensAct_89 : decode cX12_darkensAct 89 = .ok (.aload_n 0, 1) := by decide +kernel
theorem dX12_darkensAct_90 : decode cX12_darkensAct 90 = .ok (.iload_n 1, 1) := by decide +kernel
theorem dX12_darkensAct_91 : decode cX12_darkensAct 91 = .ok (.iload_n 2, 1) := by decide +kernel
theorem dX12_darkensAct_92 : decode cX12_darkensAct 92 = .ok (.invokevirtual 349, 3) := by decide +kernel
theorem dX12_darkensAct_95 : decode cX12_darkensAct 95 = .ok (.ireturn, 1) := by decide +kernel
set_option maxRecDepth 20000 in
theorem ggX12_needPleads_X12_body : GoodIn wsX12_needPleads wsX12_body := goodIn_r _ [6, 7, 8, 18, 19, 20, 21, 22, 23, 24, 25, 26, 27, 28, 29, 30, 31, 32, 33, 34, 35, 36, 37, 38, 39, 40, 41, 42, 43, 44, 45, 46, 47, 48, 49, 50, 51, 52, 53, 54, 55, 56, 57, 58, 59, 60, 61, 62, 63, 64, 65, 66, 67, 68, 69, 70, 71, 72, 73, 74, 75, 76, 77, 78, 79, 80] (by decide +kernel) (by decide +kernel)
set_option maxRecDepth 20000 in
theorem gX12_needPleads_X12_body : GoodIn wsX12_needPleads (wsV RX12 346 RX12 yX12_body wsX12_body) := goodIn_app (goodIn_of _ (by decide +kernel)) ggX12_needPleads_X12_body
set_option maxRecDepth 20000 in
theorem ggX12_needPleads_X12_darkensAct : GoodIn wsX12_needPleads wsX12_darkensAct := goodIn_r _ [12, 13, 1, 2, 3, 4, 5, 6, 7, 8, 14, 15, 16, 17, 18, 19, 20, 21, 22, 23, 24, 25, 26, 27, 28, 29, 30, 31, 32, 33, 34, 35, 36, 37, 38, 39, 40, 41, 42, 43, 44, 45, 46, 47, 48, 49, 50, 51, 52, 53, 54, 55, 56, 57, 58, 59, 60, 61, 62, 63, 64, 65, 66, 67, 68, 69, 70, 71, 72, 73, 74, 75, 76, 77, 78, 79, 80] (by decide +kernel) (by decide +kernel)
set_option maxRecDepth 20000 in
theorem gX12_needPleads_X12_darkensAct : GoodIn wsX12_needPleads (wsV RX12 353 RX12 yX12_darkensAct wsX12_darkensAct) := goodIn_app (goodIn_of _ (by decide +kernel)) ggX12_needPleads_X12_darkensAct
theorem dX12_needPleads_0 : decode cX12_needPleads 0 = .ok (.aload_n 0, 1) := by decide +kernel
theorem dX12_needPleads_1 : decode cX12_needPleads 1 = .ok (.bipush 11, 2) := by decide +kernel
theorem dX12_needPleads_3 : decode cX12_needPleads 3 = .ok (.invokevirtual 346, 3) := by decide +kernel
theorem dX12_needPleads_6 : decode cX12_needPleads 6 = .ok (.aload_n 0, 1) := by decide +kernel
theorem dX12_needPleads_7 : decode cX12_needPleads 7 = .ok (.iload_n 1, 1) := by decide +kernel
theorem dX12_needPleads_8 : decode cX12_needPleads 8 = .ok (.iload_n 2, 1) := by decide +kernel
theorem dX12_needPleads_9 : decode cX12_needPleads 9 = .ok (.invokevirtual 353, 3) := by decide +kernel
theorem dX12_needPleads_12 : decode cX12_needPleads 12 = .ok (.aload_n 0, 1) := by decide +kernel
theorem dX12_needPleads_13 : decode cX12_needPleads 13 = .ok (.getfield 26, 3) := by decide +kernel
theorem dX12_needPleads_16 : decode cX12_needPleads 16 = .ok (.iload_n 1, 1) := by decide +kernel
theorem dX12_needPleads_17 : decode cX12_needPleads 17 = .ok (.iaload, 1) := by decide +kernel
theorem dX12_needPleads_18 : decode cX12_needPleads 18 = .ok (.isub, 1) := by decide +kernel
theorem dX12_needPleads_19 : decode cX12_needPleads 19 = .ok (.ireturn, 1) := by decide +kernel
set_option maxRecDepth 20000 in
theorem ggX12_siegePleads_X12_body : GoodIn wsX12_siegePleads wsX12_body := goodIn_r _ [5, 6, 7, 22, 23, 24, 25, 26, 27, 28, 29, 30, 31, 32, 33, 34, 35, 36, 37, 38, 39, 40, 41, 42, 43, 44, 45, 46, 47, 48, 49, 50, 51, 52, 53, 54, 55, 56, 57, 58, 59, 60, 61, 62, 63, 64, 65, 66, 67, 68, 69, 70, 71, 72, 73, 74, 75, 76, 77, 78, 79, 80, 81, 82, 83, 84] (by decide +kernel) (by decide +kernel)
set_option maxRecDepth 20000 in
theorem gX12_siegePleads_X12_body : GoodIn wsX12_siegePleads (wsV RX12 346 RX12 yX12_body wsX12_body) := goodIn_app (goodIn_of _ (by decide +kernel)) ggX12_siegePleads_X12_body
set_option maxRecDepth 20000 in
theorem ggX12_siegePleads_X12_needPleads : GoodIn wsX12_siegePleads wsX12_needPleads := goodIn_r _ [11, 12, 1, 2, 3, 4, 5, 6, 7, 13, 14, 15, 16, 17, 18, 19, 20, 21, 22, 23, 24, 25, 26, 27, 28, 29, 30, 31, 32, 33, 34, 35, 36, 37, 38, 39, 40, 41, 42, 43, 44, 45, 46, 47, 48, 49, 50, 51, 52, 53, 54, 55, 56, 57, 58, 59, 60, 61, 62, 63, 64, 65, 66, 67, 68, 69, 70, 71, 72, 73, 74, 75, 76, 77, 78, 79, 80, 81, 82, 83, 84] (by decide +kernel) (by decide +kernel)
set_option maxRecDepth 20000 in
theorem gX12_siegePleads_X12_needPleads : GoodIn wsX12_siegePleads (wsV RX12 356 RX12 yX12_needPleads wsX12_needPleads) := goodIn_app (goodIn_of _ (by decide +kernel)) ggX12_siegePleads_X12_needPleads
theorem dX12_siegePleads_0 : decode cX12_siegePleads 0 = .ok (.aload_n 0, 1) := by decide +kernel
theorem dX12_siegePleads_1 : decode cX12_siegePleads 1 = .ok (.bipush 20, 2) := by decide +kernel
theorem dX12_siegePleads_3 : decode cX12_siegePleads 3 = .ok (.invokevirtual 346, 3) := by decide +kernel
theorem dX12_siegePleads_6 : decode cX12_siegePleads 6 = .ok (.aload_n 0, 1) := by decide +kernel
theorem dX12_siegePleads_7 : decode cX12_siegePleads 7 = .ok (.iload_n 1, 1) := by decide +kernel
theorem dX12_siegePleads_8 : decode cX12_siegePleads 8 = .ok (.iload_n 2, 1) := by decide +kernel
theorem dX12_siegePleads_9 : decode cX12_siegePleads 9 = .ok (.invokevirtual 356, 3) := by decide +kernel
theorem dX12_siegePleads_12 : decode cX12_siegePleads 12 = .ok (.bipush 6, 2) := by decide +kernel
theorem dX12_siegePleads_14 : decode cX12_siegePleads 14 = .ok (.ixor, 1) := by decide +kernel
theorem dX12_siegePleads_15 : decode cX12_siegePleads 15 = .ok (.ireturn, 1) := by decide +kernel
set_option maxRecDepth 20000 in
theorem ggX12_pleadsAct_X12_siegePleads : GoodIn wsX12_pleadsAct wsX12_siegePleads := goodIn_r _ [6, 7, 8, 9, 5, 10, 11, 12, 13, 14, 15, 16, 17, 18, 19, 20, 21, 1, 22, 23, 24, 25, 26, 27, 28, 29, 30, 31, 32, 33, 34, 35, 36, 37, 38, 39, 40, 41, 42, 43, 44, 45, 46, 47, 48, 49, 50, 51, 52, 53, 54, 55, 56, 57, 58, 59, 60, 61, 62, 63, 64, 65, 66, 67, 68, 69, 70, 71, 72, 73, 74, 75, 76, 77, 78, 79, 80, 81, 82, 83, 84, 85, 86, 87, 88] (by decide +kernel) (by decide +kernel)
set_option maxRecDepth 20000 in
theorem gX12_pleadsAct_X12_siegePleads : GoodIn wsX12_pleadsAct (wsV RX12 359 RX12 yX12_siegePleads wsX12_siegePleads) := goodIn_app (goodIn_of _ (by decide +kernel)) ggX12_pleadsAct_X12_siegePleads
set_option maxRecDepth 20000 in
theorem ggX12_pleadsAct_X12_body : GoodIn wsX12_pleadsAct wsX12_body := goodIn_r _ [10, 11, 12, 26, 27, 28, 29, 30, 31, 32, 33, 34, 35, 36, 37, 38, 39, 40, 41, 42, 43, 44, 45, 46, 47, 48, 49, 50, 51, 52, 53, 54, 55, 56, 57, 58, 59, 60, 61, 62, 63, 64, 65, 66, 67, 68, 69, 70, 71, 72, 73, 74, 75, 76, 77, 78, 79, 80, 81, 82, 83, 84, 85, 86, 87, 88] (by decide +kernel) (by decide +kernel)
set_option maxRecDepth 20000 in
theorem gX12_pleadsAct_X12_body : GoodIn wsX12_pleadsAct (wsV RX12 346 RX12 yX12_body wsX12_body) := goodIn_app (goodIn_of _ (by decide +kernel)) ggX12_pleadsAct_X12_body
set_option maxRecDepth 20000 in
theorem ggX12_pleadsAct_X12_needPleads : GoodIn wsX12_pleadsAct wsX12_needPleads := goodIn_r _ [16, 17, 7, 8, 9, 5, 10, 11, 12, 18, 19, 20, 21, 1, 22, 23, 24, 25, 26, 27, 28, 29, 30, 31, 32, 33, 34, 35, 36, 37, 38, 39, 40, 41, 42, 43, 44, 45, 46, 47, 48, 49, 50, 51, 52, 53, 54, 55, 56, 57, 58, 59, 60, 61, 62, 63, 64, 65, 66, 67, 68, 69, 70, 71, 72, 73, 74, 75, 76, 77, 78, 79, 80, 81, 82, 83, 84, 85, 86, 87, 88] (by decide +kernel) (by decide +kernel)
set_option maxRecDepth 20000 in
theorem gX12_pleadsAct_X12_needPleads : GoodIn wsX12_pleadsAct (wsV RX12 356 RX12 yX12_needPleads wsX12_needPleads) := goodIn_app (goodIn_of _ (by decide +kernel)) ggX12_pleadsAct_X12_needPleads
set_option maxRecDepth 20000 in
theorem ggX12_pleadsAct_X12_needDarkens : GoodIn wsX12_pleadsAct wsX12_needDarkens := goodIn_r _ [25, 7, 8, 9, 5, 10, 11, 12, 26, 27, 28, 29, 30, 31, 32, 33, 34, 35, 36, 37, 38, 39, 40, 41, 42, 43, 44, 45, 46, 47, 48, 49, 50, 51, 52, 53, 54, 55, 56, 57, 58, 59, 60, 61, 62, 63, 64, 65, 66, 67, 68, 69, 70, 71, 72, 73, 74, 75, 76, 77, 78, 79, 80, 81, 82, 83, 84, 85, 86, 87, 88] (by decide +kernel) (by decide +kernel)
set_option maxRecDepth 20000 in
theorem gX12_pleadsAct_X12_needDarkens : GoodIn wsX12_pleadsAct (wsV RX12 349 RX12 yX12_needDarkens wsX12_needDarkens) := goodIn_app (goodIn_of _ (by decide +kernel)) ggX12_pleadsAct_X12_needDarkens
theorem dX12_pleadsAct_0 : decode cX12_pleadsAct 0 = .ok (.aload_n 0, 1) := by decide +kernel
theorem dX12_pleadsAct_1 : decode cX12_pleadsAct 1 = .ok (.getfield 22, 3) := by decide +kernel
theorem dX12_pleadsAct_4 : decode cX12_pleadsAct 4 = .ok (.iload_n 1, 1) := by decide +kernel
theorem dX12_pleadsAct_5 : decode cX12_pleadsAct 5 = .ok (.iaload, 1) := by decide +kernel
theorem dX12_pleadsAct_6 : decode cX12_pleadsAct 6 = .ok (.lookupswitch 78 #[(1, 34), (4, 41), (6, 56)], 34) := by decide +kernel
theorem dX12_pleadsAct_40 : decode cX12_pleadsAct 40 = .ok (.aload_n 0, 1) := by decide +kernel
theorem dX12_pleadsAct_41 : decode cX12_pleadsAct 41 = .ok (.iload_n 1, 1) := by decide +kernel
theorem dX12_pleadsAct_42 : decode cX12_pleadsAct 42 = .ok (.iload_n 2, 1) := by decide +kernel
theorem dX12_pleadsAct_43 : decode cX12_pleadsAct 43 = .ok (.invokevirtual 359, 3) := by decide +kernel
theorem dX12_pleadsAct_46 : decode cX12_pleadsAct 46 = .ok (.ireturn, 1) := by decide +kernel
theorem dX12_pleadsAct_47 : decode cX12_pleadsAct 47 = .ok (.aload_n 0, 1) := by decide +kernel
theorem dX12_pleadsAct_48 : decode cX12_pleadsAct 48 = .ok (.bipush 51, 2) := by decide +kernel
theorem dX12_pleadsAct_50 : decode cX12_pleadsAct 50 = .ok (.invokevirtual 346, 3) := by decide +kernel
theorem dX12_pleadsAct_53 : decode cX12_pleadsAct 53 = .ok (.aload_n 0, 1) := by decide +kernel
theorem dX12_pleadsAct_54 : decode cX12_pleadsAct 54 = .ok (.iload_n 1, 1) := by decide +kernel
theorem dX12_pleadsAct_55 : decode cX12_pleadsAct 55 = .ok (.iload_n 2, 1) := by decide +kernel
theorem dX12_pleadsAct_56 : decode cX12_pleadsAct 56 = .ok (.iconst 1, 1) := by decide +kernel
theorem dX12_pleadsAct_57 : decode cX12_pleadsAct 57 = .ok (.iadd, 1) := by decide +kernel
theorem dX12_pleadsAct_58 : decode cX12_pleadsAct 58 = .ok (.invokevirtual 359, 3) := by decide +kernel
theorem dX12_pleadsAct_61 : decode cX12_pleadsAct 61 = .ok (.ireturn, 1) := by decide +kernel
theorem dX12_pleadsAct_62 : decode cX12_pleadsAct 62 = .ok (.aload_n 0, 1) := by decide +kernel
theorem dX12_pleadsAct_63 : decode cX12_pleadsAct 63 = .ok (.bipush 70, 2) := by decide +kernel
theorem dX12_pleadsAct_65 : decode cX12_pleadsAct 65 = .ok (.invokevirtual 346, 3) := by decide +kernel
theorem dX12_pleadsAct_68 : decode cX12_pleadsAct 68 = .ok (.aload_n 0, 1) := by decide +kernel
theorem dX12_pleadsAct_69 : decode cX12_pleadsAct 69 = .ok (.iload_n 1, 1) := by decide +kernel
theorem dX12_pleadsAct_70 : decode cX12_pleadsAct 70 = .ok (.iload_n 2, 1) := by decide +kernel
theorem dX12_pleadsAct_71 : decode cX12_pleadsAct 71 = .ok (.invokevirtual 356, 3) := by decide +kernel
theorem dX12_pleadsAct_74 : decode cX12_pleadsAct 74 = .ok (.istore_n 3, 1) := by decide +kernel
theorem dX12_pleadsAct_75 : decode cX12_pleadsAct 75 = .ok (.iload_n 3, 1) := by decide +kernel
theorem dX12_pleadsAct_76 : decode cX12_pleadsAct 76 = .ok (.aload_n 0, 1) := by decide +kernel
theorem dX12_pleadsAct_77 : decode cX12_pleadsAct 77 = .ok (.iload_n 1, 1) := by decide +kernel
theorem dX12_pleadsAct_78 : decode cX12_pleadsAct 78 = .ok (.iconst 2, 1) := by decide +kernel
theorem dX12_pleadsAct_79 : decode cX12_pleadsAct 79 = .ok (.invokevirtual 349, 3) := by decide +kernel
theorem dX12_pleadsAct_82 : decode cX12_pleadsAct 82 = .ok (.iadd, 1) := by decide +kernel
theorem dX12_pleadsAct_83 : decode cX12_pleadsAct 83 = .ok (.ireturn, 1) := by decide +kernel
theorem dX12_pleadsAct_84 : decode cX12_pleadsAct 84 = .ok (.aload_n 0, 1) := by decide +kernel
theorem dX12_pleadsAct_85 : decode cX12_pleadsAct 85 = .ok (.iload_n 1, 1) := by decide +kernel
theorem dX12_pleadsAct_86 : decode cX12_pleadsAct 86 = .ok (.iload_n 2, 1) := by decide +kernel
theorem dX12_pleadsAct_87 : decode cX12_pleadsAct 87 = .ok (.invokevirtual 356, 3) := by decide +kernel
theorem dX12_pleadsAct_90 : decode cX12_pleadsAct 90 = .ok (.ireturn, 1) := by decide +kernel
set_option maxRecDepth 20000 in
theorem ggX12_needTells_X12_body : GoodIn wsX12_needTells wsX12_body := goodIn_r _ [5, 6, 7, 30, 31, 32, 33, 34, 35, 36, 37, 38, 39, 40, 41, 42, 43, 44, 45, 46, 47, 48, 49, 50, 51, 52, 53, 54, 55, 56, 57, 58, 59, 60, 61, 62, 63, 64, 65, 66, 67, 68, 69, 70, 71, 72, 73, 74, 75, 76, 77, 78, 79, 80, 81, 82, 83, 84, 85, 86, 87, 88, 89, 90, 91, 92] (by decide +kernel) (by decide +kernel)
set_option maxRecDepth 20000 in
theorem gX12_needTells_X12_body : GoodIn wsX12_needTells (wsV RX12 346 RX12 yX12_body wsX12_body) := goodIn_app (goodIn_of _ (by decide +kernel)) ggX12_needTells_X12_body
set_option maxRecDepth 20000 in
theorem ggX12_needTells_X12_pleadsAct : GoodIn wsX12_needTells wsX12_pleadsAct := goodIn_r _ [11, 12, 13, 14, 15, 4, 16, 1, 2, 3, 5, 6, 7, 17, 18, 19, 20, 21, 22, 23, 24, 25, 26, 27, 28, 29, 30, 31, 32, 33, 34, 35, 36, 37, 38, 39, 40, 41, 42, 43, 44, 45, 46, 47, 48, 49, 50, 51, 52, 53, 54, 55, 56, 57, 58, 59, 60, 61, 62, 63, 64, 65, 66, 67, 68, 69, 70, 71, 72, 73, 74, 75, 76, 77, 78, 79, 80, 81, 82, 83, 84, 85, 86, 87, 88, 89, 90, 91, 92] (by decide +kernel) (by decide +kernel)
set_option maxRecDepth 20000 in
theorem gX12_needTells_X12_pleadsAct : GoodIn wsX12_needTells (wsV RX12 362 RX12 yX12_pleadsAct wsX12_pleadsAct) := goodIn_app (goodIn_of _ (by decide +kernel)) ggX12_needTells_X12_pleadsAct
theorem dX12_needTells_0 : decode cX12_needTells 0 = .ok (.aload_n 0, 1) := by decide +kernel
theorem dX12_needTells_1 : decode cX12_needTells 1 = .ok (.bipush 12, 2) := by decide +kernel
theorem dX12_needTells_3 : decode cX12_needTells 3 = .ok (.invokevirtual 346, 3) := by decide +kernel
theorem dX12_needTells_6 : decode cX12_needTells 6 = .ok (.aload_n 0, 1) := by decide +kernel
theorem dX12_needTells_7 : decode cX12_needTells 7 = .ok (.iload_n 1, 1) := by decide +kernel
theorem dX12_needTells_8 : decode cX12_needTells 8 = .ok (.iload_n 2, 1) := by decide +kernel
theorem dX12_needTells_9 : decode cX12_needTells 9 = .ok (.invokevirtual 362, 3) := by decide +kernel
theorem dX12_needTells_12 : decode cX12_needTells 12 = .ok (.iconst 2, 1) := by decide +kernel
theorem dX12_needTells_13 : decode cX12_needTells 13 = .ok (.imul, 1) := by decide +kernel
theorem dX12_needTells_14 : decode cX12_needTells 14 = .ok (.ireturn, 1) := by decide +kernel
set_option maxRecDepth 20000 in
theorem ggX12_tellsAct_X12_body : GoodIn wsX12_tellsAct wsX12_body := goodIn_r _ [6, 7, 8, 34, 35, 36, 37, 38, 39, 40, 41, 42, 43, 44, 45, 46, 47, 48, 49, 50, 51, 52, 53, 54, 55, 56, 57, 58, 59, 60, 61, 62, 63, 64, 65, 66, 67, 68, 69, 70, 71, 72, 73, 74, 75, 76, 77, 78, 79, 80, 81, 82, 83, 84, 85, 86, 87, 88, 89, 90, 91, 92, 93, 94, 95, 96] (by decide +kernel) (by decide +kernel)
set_option maxRecDepth 20000 in
theorem gX12_tellsAct_X12_body : GoodIn wsX12_tellsAct (wsV RX12 346 RX12 yX12_body wsX12_body) := goodIn_app (goodIn_of _ (by decide +kernel)) ggX12_tellsAct_X12_body
set_option maxRecDepth 20000 in
theorem ggX12_tellsAct_X12_needTells : GoodIn wsX12_tellsAct wsX12_needTells := goodIn_r _ [12, 2, 3, 4, 5, 6, 7, 8, 13, 14, 15, 16, 1, 17, 18, 19, 20, 21, 22, 23, 24, 25, 26, 27, 28, 29, 30, 31, 32, 33, 34, 35, 36, 37, 38, 39, 40, 41, 42, 43, 44, 45, 46, 47, 48, 49, 50, 51, 52, 53, 54, 55, 56, 57, 58, 59, 60, 61, 62, 63, 64, 65, 66, 67, 68, 69, 70, 71, 72, 73, 74, 75, 76, 77, 78, 79, 80, 81, 82, 83, 84, 85, 86, 87, 88, 89, 90, 91, 92, 93, 94, 95, 96] (by decide +kernel) (by decide +kernel)
set_option maxRecDepth 20000 in
theorem gX12_tellsAct_X12_needTells : GoodIn wsX12_tellsAct (wsV RX12 365 RX12 yX12_needTells wsX12_needTells) := goodIn_app (goodIn_of _ (by decide +kernel)) ggX12_tellsAct_X12_needTells
set_option maxRecDepth 20000 in
theorem ggX12_tellsAct_X12_pleadsAct : GoodIn wsX12_tellsAct wsX12_pleadsAct := goodIn_r _ [16, 1, 17, 18, 19, 5, 20, 2, 3, 4, 6, 7, 8, 21, 22, 23, 24, 25, 26, 27, 28, 29, 30, 31, 32, 33, 34, 35, 36, 37, 38, 39, 40, 41, 42, 43, 44, 45, 46, 47, 48, 49, 50, 51, 52, 53, 54, 55, 56, 57, 58, 59, 60, 61, 62, 63, 64, 65, 66, 67, 68, 69, 70, 71, 72, 73, 74, 75, 76, 77, 78, 79, 80, 81, 82, 83, 84, 85, 86, 87, 88, 89, 90, 91, 92, 93, 94, 95, 96] (by decide +kernel) (by decide +kernel)
set_option maxRecDepth 20000 in
theorem gX12_tellsAct_X12_pleadsAct : GoodIn wsX12_tellsAct (wsV RX12 362 RX12 yX12_pleadsAct wsX12_pleadsAct) := goodIn_app (goodIn_of _ (by decide +kernel)) ggX12_tellsAct_X12_pleadsAct
theorem dX12_tellsAct_0 : decode cX12_tellsAct 0 = .ok (.aload_n 0, 1) := by decide +kernel
theorem dX12_tellsAct_1 : decode cX12_tellsAct 1 = .ok (.getfield 22, 3) := by decide +kernel
theorem dX12_tellsAct_4 : decode cX12_tellsAct 4 = .ok (.iload_n 1, 1) := by decide +kernel
theorem dX12_tellsAct_5 : decode cX12_tellsAct 5 = .ok (.iaload, 1) := by decide +kernel
theorem dX12_tellsAct_6 : decode cX12_tellsAct 6 = .ok (.tableswitch 67 3 6 #[30, 67, 52, 30], 30) := by decide +kernel
theorem dX12_tellsAct_36 : decode cX12_tellsAct 36 = .ok (.aload_n 0, 1) := by decide +kernel
theorem dX12_tellsAct_37 : decode cX12_tellsAct 37 = .ok (.bipush 40, 2) := by decide +kernel
theorem dX12_tellsAct_39 : decode cX12_tellsAct 39 = .ok (.invokevirtual 346, 3) := by decide +kernel
theorem dX12_tellsAct_42 : decode cX12_tellsAct 42 = .ok (.aload_n 0, 1) := by decide +kernel
theorem dX12_tellsAct_43 : decode cX12_tellsAct 43 = .ok (.iload_n 1, 1) := by decide +kernel
theorem dX12_tellsAct_44 : decode cX12_tellsAct 44 = .ok (.iload_n 2, 1) := by decide +kernel
theorem dX12_tellsAct_45 : decode cX12_tellsAct 45 = .ok (.invokevirtual 365, 3) := by decide +kernel
theorem dX12_tellsAct_48 : decode cX12_tellsAct 48 = .ok (.istore_n 3, 1) := by decide +kernel
theorem dX12_tellsAct_49 : decode cX12_tellsAct 49 = .ok (.iload_n 3, 1) := by decide +kernel
theorem dX12_tellsAct_50 : decode cX12_tellsAct 50 = .ok (.aload_n 0, 1) := by decide +kernel
theorem dX12_tellsAct_51 : decode cX12_tellsAct 51 = .ok (.iload_n 1, 1) := by decide +kernel
theorem dX12_tellsAct_52 : decode cX12_tellsAct 52 = .ok (.iconst 1, 1) := by decide +kernel
theorem dX12_tellsAct_53 : decode cX12_tellsAct 53 = .ok (.invokevirtual 362, 3) := by decide +kernel
theorem dX12_tellsAct_56 : decode cX12_tellsAct 56 = .ok (.iadd, 1) := by decide +kernel
theorem dX12_tellsAct_57 : decode cX12_tellsAct 57 = .ok (.ireturn, 1) := by decide +kernel
theorem dX12_tellsAct_58 : decode cX12_tellsAct 58 = .ok (.aload_n 0, 1) := by decide +kernel
theorem dX12_tellsAct_59 : decode cX12_tellsAct 59 = .ok (.bipush 60, 2) := by decide +kernel
theorem dX12_tellsAct_61 : decode cX12_tellsAct 61 = .ok (.invokevirtual 346, 3) := by decide +kernel
theorem dX12_tellsAct_64 : decode cX12_tellsAct 64 = .ok (.aload_n 0, 1) := by decide +kernel
theorem dX12_tellsAct_65 : decode cX12_tellsAct 65 = .ok (.iload_n 1, 1) := by decide +kernel
theorem dX12_tellsAct_66 : decode cX12_tellsAct 66 = .ok (.iload_n 2, 1) := by decide +kernel
theorem dX12_tellsAct_67 : decode cX12_tellsAct 67 = .ok (.iload_n 1, 1) := by decide +kernel
theorem dX12_tellsAct_68 : decode cX12_tellsAct 68 = .ok (.isub, 1) := by decide +kernel
theorem dX12_tellsAct_69 : decode cX12_tellsAct 69 = .ok (.invokevirtual 365, 3) := by decide +kernel
theorem dX12_tellsAct_72 : decode cX12_tellsAct 72 = .ok (.ireturn, 1) := by decide +kernel
theorem dX12_tellsAct_73 : decode cX12_tellsAct 73 = .ok (.aload_n 0, 1) := by decide +kernel
theorem dX12_tellsAct_74 : decode cX12_tellsAct 74 = .ok (.iload_n 1, 1) := by decide +kernel
theorem dX12_tellsAct_75 : decode cX12_tellsAct 75 = .ok (.iload_n 2, 1) := by decide +kernel
theorem dX12_tellsAct_76 : decode cX12_tellsAct 76 = .ok (.invokevirtual 365, 3) := by decide +kernel
theorem dX12_tellsAct_79 : decode cX12_tellsAct 79 = .ok (.ireturn, 1) := by decide +kernel
set_option maxRecDepth 20000 in
theorem ggX12_act_X12_isNeed : GoodIn wsX12_act wsX12_isNeed := goodIn_r _ [6, 7, 8, 9, 10, 5, 11, 47, 48, 49, 50, 51, 52, 53, 54, 55, 56, 57, 58, 59, 60, 61, 62, 63, 64, 65, 66, 67, 68, 69, 70, 71, 72, 73, 74, 75, 76, 77, 78, 79, 80, 81, 82, 83, 84, 85, 86, 87, 88, 89, 90, 91, 92, 93, 94, 95, 96, 97, 98, 99, 100, 101, 102, 103, 104, 105, 106, 107, 108, 109] (by decide +kernel) (by decide +kernel)
set_option maxRecDepth 20000 in
theorem gX12_act_X12_isNeed : GoodIn wsX12_act (wsV RX12 215 RX12 yX12_isNeed wsX12_isNeed) := goodIn_app (goodIn_of _ (by decide +kernel)) ggX12_act_X12_isNeed
set_option maxRecDepth 20000 in
theorem ggX12_act_X12_in : GoodIn wsX12_act wsX12_in := goodIn_r _ [11] (by decide +kernel) (by decide +kernel)
set_option maxRecDepth 20000 in
theorem gX12_act_X12_in : GoodIn wsX12_act (wsV RX12 207 RX12 yX12_in wsX12_in) := goodIn_app (goodIn_of _ (by decide +kernel)) ggX12_act_X12_in
set_option maxRecDepth 20000 in
theorem ggX12_act_X12_darkensAct : GoodIn wsX12_act wsX12_darkensAct := goodIn_r _ [15, 16, 17, 18, 19, 20, 5, 21, 1, 22, 23, 24, 25, 26, 47, 48, 49, 50, 51, 52, 53, 54, 55, 56, 57, 58, 59, 60, 61, 62, 63, 64, 65, 66, 67, 68, 69, 70, 71, 72, 73, 74, 75, 76, 77, 78, 79, 80, 81, 82, 83, 84, 85, 86, 87, 88, 89, 90, 91, 92, 93, 94, 95, 96, 97, 98, 99, 100, 101, 102, 103, 104, 105, 106, 107, 108, 109] (by decide +kernel) (by decide +kernel)
set_option maxRecDepth 20000 in
theorem gX12_act_X12_darkensAct : GoodIn wsX12_act (wsV RX12 353 RX12 yX12_darkensAct wsX12_darkensAct) := goodIn_app (goodIn_of _ (by decide +kernel)) ggX12_act_X12_darkensAct
set_option maxRecDepth 20000 in
theorem ggX12_act_X12_pleadsAct : GoodIn wsX12_act wsX12_pleadsAct := goodIn_r _ [30, 16, 31, 32, 33, 5, 34, 18, 19, 20, 21, 1, 22, 35, 36, 37, 38, 17, 12, 13, 14, 15, 23, 24, 25, 26, 47, 48, 49, 50, 51, 52, 53, 54, 55, 56, 57, 58, 59, 60, 61, 62, 63, 64, 65, 66, 67, 68, 69, 70, 71, 72, 73, 74, 75, 76, 77, 78, 79, 80, 81, 82, 83, 84, 85, 86, 87, 88, 89, 90, 91, 92, 93, 94, 95, 96, 97, 98, 99, 100, 101, 102, 103, 104, 105, 106, 107, 108, 109] (by decide +kernel) (by decide +kernel)
set_option maxRecDepth 20000 in
theorem gX12_act_X12_pleadsAct : GoodIn wsX12_act (wsV RX12 362 RX12 yX12_pleadsAct wsX12_pleadsAct) := goodIn_app (goodIn_of _ (by decide +kernel)) ggX12_act_X12_pleadsAct
set_option maxRecDepth 20000 in
theorem ggX12_act_X12_tellsAct : GoodIn wsX12_act wsX12_tellsAct := goodIn_r _ [42, 16, 18, 19, 20, 5, 21, 1, 22, 43, 44, 45, 46, 27, 28, 29, 30, 31, 32, 33, 34, 35, 36, 37, 38, 17, 12, 13, 14, 15, 23, 24, 25, 26, 47, 48, 49, 50, 51, 52, 53, 54, 55, 56, 57, 58, 59, 60, 61, 62, 63, 64, 65, 66, 67, 68, 69, 70, 71, 72, 73, 74, 75, 76, 77, 78, 79, 80, 81, 82, 83, 84, 85, 86, 87, 88, 89, 90, 91, 92, 93, 94, 95, 96, 97, 98, 99, 100, 101, 102, 103, 104, 105, 106, 107, 108, 109] (by decide +kernel) (by decide +kernel)
set_option maxRecDepth 20000 in
theorem gX12_act_X12_tellsAct : GoodIn wsX12_act (wsV RX12 368 RX12 yX12_tellsAct wsX12_tellsAct) := goodIn_app (goodIn_of _ (by decide +kernel)) ggX12_act_X12_tellsAct
theorem dX12_act_0 : decode cX12_act 0 = .ok (.aload_n 0, 1) := by decide +kernel
theorem dX12_act_1 : decode cX12_act 1 = .ok (.iconst 0, 1) := by decide +kernel
theorem dX12_act_2 : decode cX12_act 2 = .ok (.putfield 185, 3) := by decide +kernel
theorem dX12_act_5 : decode cX12_act 5 = .ok (.aload_n 0, 1) := by decide +kernel
theorem dX12_act_6 : decode cX12_act 6 = .ok (.iload_n 1, 1) := by decide +kernel
theorem dX12_act_7 : decode cX12_act 7 = .ok (.invokevirtual 215, 3) := by decide +kernel
theorem dX12_act_10 : decode cX12_act 10 = .ok (.ifCond .eq 13, 3) := by decide +kernel
theorem dX12_act_13 : decode cX12_act 13 = .ok (.aload_n 0, 1) := by decide +kernel
theorem dX12_act_14 : decode cX12_act 14 = .ok (.iload_n 2, 1) := by decide +kernel
theorem dX12_act_15 : decode cX12_act 15 = .ok (.iconst 0, 1) := by decide +kernel
theorem dX12_act_16 : decode cX12_act 16 = .ok (.iconst 2, 1) := by decide +kernel
theorem dX12_act_17 : decode cX12_act 17 = .ok (.invokevirtual 207, 3) := by decide +kernel
theorem dX12_act_20 : decode cX12_act 20 = .ok (.ifCond .ne 5, 3) := by decide +kernel
theorem dX12_act_23 : decode cX12_act 23 = .ok (.iconst 0, 1) := by decide +kernel
theorem dX12_act_24 : decode cX12_act 24 = .ok (.ireturn, 1) := by decide +kernel
theorem dX12_act_25 : decode cX12_act 25 = .ok (.iload_n 2, 1) := by decide +kernel
theorem dX12_act_26 : decode cX12_act 26 = .ok (.ifCond .ne 12, 3) := by decide +kernel
theorem dX12_act_29 : decode cX12_act 29 = .ok (.aload_n 0, 1) := by decide +kernel
theorem dX12_act_30 : decode cX12_act 30 = .ok (.iload_n 1, 1) := by decide +kernel
theorem dX12_act_31 : decode cX12_act 31 = .ok (.iload_n 3, 1) := by decide +kernel
theorem dX12_act_32 : decode cX12_act 32 = .ok (.invokevirtual 353, 3) := by decide +kernel
theorem dX12_act_35 : decode cX12_act 35 = .ok (.goto 23, 3) := by decide +kernel
theorem dX12_act_38 : decode cX12_act 38 = .ok (.iload_n 2, 1) := by decide +kernel
theorem dX12_act_39 : decode cX12_act 39 = .ok (.iconst 1, 1) := by decide +kernel
theorem dX12_act_40 : decode cX12_act 40 = .ok (.if_icmp .ne 12, 3) := by decide +kernel
theorem dX12_act_43 : decode cX12_act 43 = .ok (.aload_n 0, 1) := by decide +kernel
theorem dX12_act_44 : decode cX12_act 44 = .ok (.iload_n 1, 1) := by decide +kernel
theorem dX12_act_45 : decode cX12_act 45 = .ok (.iload_n 3, 1) := by decide +kernel
theorem dX12_act_46 : decode cX12_act 46 = .ok (.invokevirtual 362, 3) := by decide +kernel
theorem dX12_act_49 : decode cX12_act 49 = .ok (.goto 9, 3) := by decide +kernel
theorem dX12_act_52 : decode cX12_act 52 = .ok (.aload_n 0, 1) := by decide +kernel
theorem dX12_act_53 : decode cX12_act 53 = .ok (.iload_n 1, 1) := by decide +kernel
theorem dX12_act_54 : decode cX12_act 54 = .ok (.iload_n 3, 1) := by decide +kernel
theorem dX12_act_55 : decode cX12_act 55 = .ok (.invokevirtual 368, 3) := by decide +kernel
theorem dX12_act_58 : decode cX12_act 58 = .ok (.ireturn, 1) := by decide +kernel
set_option maxRecDepth 20000 in
theorem ggX12_trace_X12_in : GoodIn wsX12_trace wsX12_in := goodIn_r _ [7] (by decide +kernel) (by decide +kernel)
set_option maxRecDepth 20000 in
theorem gX12_trace_X12_in : GoodIn wsX12_trace (wsV RX12 207 RX12 yX12_in wsX12_in) := goodIn_app (goodIn_of _ (by decide +kernel)) ggX12_trace_X12_in
theorem dX12_trace_0 : decode cX12_trace 0 = .ok (.aload_n 0, 1) := by decide +kernel
theorem dX12_trace_1 : decode cX12_trace 1 = .ok (.iload_n 1, 1) := by decide +kernel
theorem dX12_trace_2 : decode cX12_trace 2 = .ok (.iconst 0, 1) := by decide +kernel
theorem dX12_trace_3 : decode cX12_trace 3 = .ok (.bipush 19, 2) := by decide +kernel
theorem dX12_trace_5 : decode cX12_trace 5 = .ok (.invokevirtual 207, 3) := by decide +kernel
theorem dX12_trace_8 : decode cX12_trace 8 = .ok (.ifCond .eq 20, 3) := by decide +kernel
theorem dX12_trace_11 : decode cX12_trace 11 = .ok (.iload_n 1, 1) := by decide +kernel
theorem dX12_trace_12 : decode cX12_trace 12 = .ok (.aload_n 0, 1) := by decide +kernel
theorem dX12_trace_13 : decode cX12_trace 13 = .ok (.getfield 185, 3) := by decide +kernel
theorem dX12_trace_16 : decode cX12_trace 16 = .ok (.if_icmp .ge 12, 3) := by decide +kernel
theorem dX12_trace_19 : decode cX12_trace 19 = .ok (.aload_n 0, 1) := by decide +kernel
theorem dX12_trace_20 : decode cX12_trace 20 = .ok (.getfield 188, 3) := by decide +kernel
theorem dX12_trace_23 : decode cX12_trace 23 = .ok (.iload_n 1, 1) := by decide +kernel
theorem dX12_trace_24 : decode cX12_trace 24 = .ok (.iaload, 1) := by decide +kernel
theorem dX12_trace_25 : decode cX12_trace 25 = .ok (.goto 4, 3) := by decide +kernel
theorem dX12_trace_28 : decode cX12_trace 28 = .ok (.iconst (-1), 1) := by decide +kernel
theorem dX12_trace_29 : decode cX12_trace 29 = .ok (.ireturn, 1) := by decide +kernel
set_option maxRecDepth 20000 in
theorem ggX12_taken_X12_in : GoodIn wsX12_taken wsX12_in := goodIn_r _ [6] (by decide +kernel) (by decide +kernel)
set_option maxRecDepth 20000 in
theorem gX12_taken_X12_in : GoodIn wsX12_taken (wsV RX12 207 RX12 yX12_in wsX12_in) := goodIn_app (goodIn_of _ (by decide +kernel)) ggX12_taken_X12_in
set_option maxRecDepth 20000 in
theorem ggX12_taken_X12_isNeed : GoodIn wsX12_taken wsX12_isNeed := goodIn_r _ [10, 11, 2, 3, 4, 5, 6, 12, 13, 14, 15, 16, 17, 18, 19, 20, 21, 22, 23, 24, 25, 26, 27, 28, 29, 30, 31, 32, 33, 34, 35, 36, 37, 38, 39, 40, 41, 42, 43, 44, 45, 46, 47, 48, 49, 50, 51, 52, 53, 54, 55, 56, 57, 58, 59, 60, 61, 62, 63, 64, 65, 66, 67, 68, 69, 70, 71, 72, 73, 74] (by decide +kernel) (by decide +kernel)
set_option maxRecDepth 20000 in
theorem gX12_taken_X12_isNeed : GoodIn wsX12_taken (wsV RX12 215 RX12 yX12_isNeed wsX12_isNeed) := goodIn_app (goodIn_of _ (by decide +kernel)) ggX12_taken_X12_isNeed
theorem dX12_taken_0 : decode cX12_taken 0 = .ok (.aload_n 0, 1) := by decide +kernel
theorem dX12_taken_1 : decode cX12_taken 1 = .ok (.iload_n 2, 1) := by decide +kernel
theorem dX12_taken_2 : decode cX12_taken 2 = .ok (.iconst 0, 1) := by decide +kernel
theorem dX12_taken_3 : decode cX12_taken 3 = .ok (.bipush 6, 2) := by decide +kernel
theorem dX12_taken_5 : decode cX12_taken 5 = .ok (.invokevirtual 207, 3) := by decide +kernel
theorem dX12_taken_8 : decode cX12_taken 8 = .ok (.ifCond .ne 6, 3) := by decide +kernel
theorem dX12_taken_11 : decode cX12_taken 11 = .ok (.bipush (-2), 2) := by decide +kernel
theorem dX12_taken_13 : decode cX12_taken 13 = .ok (.ireturn, 1) := by decide +kernel
theorem dX12_taken_14 : decode cX12_taken 14 = .ok (.aload_n 0, 1) := by decide +kernel
theorem dX12_taken_15 : decode cX12_taken 15 = .ok (.iload_n 1, 1) := by decide +kernel
theorem dX12_taken_16 : decode cX12_taken 16 = .ok (.invokevirtual 215, 3) := by decide +kernel
theorem dX12_taken_19 : decode cX12_taken 19 = .ok (.ifCond .ne 6, 3) := by decide +kernel
theorem dX12_taken_22 : decode cX12_taken 22 = .ok (.bipush (-11), 2) := by decide +kernel
theorem dX12_taken_24 : decode cX12_taken 24 = .ok (.ireturn, 1) := by decide +kernel
theorem dX12_taken_25 : decode cX12_taken 25 = .ok (.aload_n 0, 1) := by decide +kernel
theorem dX12_taken_26 : decode cX12_taken 26 = .ok (.getfield 22, 3) := by decide +kernel
theorem dX12_taken_29 : decode cX12_taken 29 = .ok (.iload_n 1, 1) := by decide +kernel
theorem dX12_taken_30 : decode cX12_taken 30 = .ok (.iaload, 1) := by decide +kernel
theorem dX12_taken_31 : decode cX12_taken 31 = .ok (.istore_n 3, 1) := by decide +kernel
theorem dX12_taken_32 : decode cX12_taken 32 = .ok (.iload_n 2, 1) := by decide +kernel
theorem dX12_taken_33 : decode cX12_taken 33 = .ok (.ifCond .eq 39, 3) := by decide +kernel
theorem dX12_taken_36 : decode cX12_taken 36 = .ok (.iload_n 3, 1) := by decide +kernel
theorem dX12_taken_37 : decode cX12_taken 37 = .ok (.iload_n 2, 1) := by decide +kernel
theorem dX12_taken_38 : decode cX12_taken 38 = .ok (.if_icmp .eq 34, 3) := by decide +kernel
theorem dX12_taken_41 : decode cX12_taken 41 = .ok (.iload_n 2, 1) := by decide +kernel
theorem dX12_taken_42 : decode cX12_taken 42 = .ok (.iconst 1, 1) := by decide +kernel
theorem dX12_taken_43 : decode cX12_taken 43 = .ok (.if_icmp .ne 8, 3) := by decide +kernel
theorem dX12_taken_46 : decode cX12_taken 46 = .ok (.iload_n 3, 1) := by decide +kernel
theorem dX12_taken_47 : decode cX12_taken 47 = .ok (.iconst 4, 1) := by decide +kernel
theorem dX12_taken_48 : decode cX12_taken 48 = .ok (.if_icmp .eq 24, 3) := by decide +kernel
theorem dX12_taken_51 : decode cX12_taken 51 = .ok (.iload_n 2, 1) := by decide +kernel
theorem dX12_taken_52 : decode cX12_taken 52 = .ok (.iconst 2, 1) := by decide +kernel
theorem dX12_taken_53 : decode cX12_taken 53 = .ok (.if_icmp .ne 8, 3) := by decide +kernel
theorem dX12_taken_56 : decode cX12_taken 56 = .ok (.iload_n 3, 1) := by decide +kernel
theorem dX12_taken_57 : decode cX12_taken 57 = .ok (.iconst 5, 1) := by decide +kernel
theorem dX12_taken_58 : decode cX12_taken 58 = .ok (.if_icmp .eq 14, 3) := by decide +kernel
theorem dX12_taken_61 : decode cX12_taken 61 = .ok (.iload_n 2, 1) := by decide +kernel
theorem dX12_taken_62 : decode cX12_taken 62 = .ok (.iconst 3, 1) := by decide +kernel
theorem dX12_taken_63 : decode cX12_taken 63 = .ok (.if_icmp .ne 13, 3) := by decide +kernel
theorem dX12_taken_66 : decode cX12_taken 66 = .ok (.iload_n 3, 1) := by decide +kernel
theorem dX12_taken_67 : decode cX12_taken 67 = .ok (.bipush 6, 2) := by decide +kernel
theorem dX12_taken_69 : decode cX12_taken 69 = .ok (.if_icmp .ne 7, 3) := by decide +kernel
theorem dX12_taken_72 : decode cX12_taken 72 = .ok (.iload_n 3, 1) := by decide +kernel
theorem dX12_taken_73 : decode cX12_taken 73 = .ok (.goto 5, 3) := by decide +kernel
theorem dX12_taken_76 : decode cX12_taken 76 = .ok (.bipush (-12), 2) := by decide +kernel
theorem dX12_taken_78 : decode cX12_taken 78 = .ok (.ireturn, 1) := by decide +kernel
theorem dX12_count_0 : decode cX12_count 0 = .ok (.iload_n 1, 1) := by decide +kernel
theorem dX12_count_1 : decode cX12_count 1 = .ok (.tableswitch 78 0 6 #[43, 48, 53, 58, 63, 68, 73], 43) := by decide +kernel
theorem dX12_count_44 : decode cX12_count 44 = .ok (.aload_n 0, 1) := by decide +kernel
theorem dX12_count_45 : decode cX12_count 45 = .ok (.getfield 7, 3) := by decide +kernel
theorem dX12_count_48 : decode cX12_count 48 = .ok (.ireturn, 1) := by decide +kernel
theorem dX12_count_49 : decode cX12_count 49 = .ok (.aload_n 0, 1) := by decide +kernel
theorem dX12_count_50 : decode cX12_count 50 = .ok (.getfield 35, 3) := by decide +kernel
theorem dX12_count_53 : decode cX12_count 53 = .ok (.ireturn, 1) := by decide +kernel
theorem dX12_count_54 : decode cX12_count 54 = .ok (.aload_n 0, 1) := by decide +kernel
theorem dX12_count_55 : decode cX12_count 55 = .ok (.getfield 100, 3) := by decide +kernel
theorem dX12_count_58 : decode cX12_count 58 = .ok (.ireturn, 1) := by decide +kernel
theorem dX12_count_59 : decode cX12_count 59 = .ok (.aload_n 0, 1) := by decide +kernel
theorem dX12_count_60 : decode cX12_count 60 = .ok (.getfield 106, 3) := by decide +kernel
theorem dX12_count_63 : decode cX12_count 63 = .ok (.ireturn, 1) := by decide +kernel
theorem dX12_count_64 : decode cX12_count 64 = .ok (.aload_n 0, 1) := by decide +kernel
theorem dX12_count_65 : decode cX12_count 65 = .ok (.getfield 109, 3) := by decide +kernel
theorem dX12_count_68 : decode cX12_count 68 = .ok (.ireturn, 1) := by decide +kernel
theorem dX12_count_69 : decode cX12_count 69 = .ok (.aload_n 0, 1) := by decide +kernel
theorem dX12_count_70 : decode cX12_count 70 = .ok (.getfield 41, 3) := by decide +kernel
theorem dX12_count_73 : decode cX12_count 73 = .ok (.ireturn, 1) := by decide +kernel
theorem dX12_count_74 : decode cX12_count 74 = .ok (.aload_n 0, 1) := by decide +kernel
theorem dX12_count_75 : decode cX12_count 75 = .ok (.getfield 185, 3) := by decide +kernel
theorem dX12_count_78 : decode cX12_count 78 = .ok (.ireturn, 1) := by decide +kernel
theorem dX12_count_79 : decode cX12_count 79 = .ok (.bipush (-2), 2) := by decide +kernel
theorem dX12_count_81 : decode cX12_count 81 = .ok (.ireturn, 1) := by decide +kernel
set_option maxRecDepth 20000 in
theorem ggX12_isTape_X12_in : GoodIn wsX12_isTape wsX12_in := goodIn_r _ [5] (by decide +kernel) (by decide +kernel)
set_option maxRecDepth 20000 in
theorem gX12_isTape_X12_in : GoodIn wsX12_isTape (wsV RX12 207 RX12 yX12_in wsX12_in) := goodIn_app (goodIn_of _ (by decide +kernel)) ggX12_isTape_X12_in
theorem dX12_isTape_0 : decode cX12_isTape 0 = .ok (.aload_n 0, 1) := by decide +kernel
theorem dX12_isTape_1 : decode cX12_isTape 1 = .ok (.iload_n 1, 1) := by decide +kernel
theorem dX12_isTape_2 : decode cX12_isTape 2 = .ok (.iconst 0, 1) := by decide +kernel
theorem dX12_isTape_3 : decode cX12_isTape 3 = .ok (.iconst 5, 1) := by decide +kernel
theorem dX12_isTape_4 : decode cX12_isTape 4 = .ok (.invokevirtual 207, 3) := by decide +kernel
theorem dX12_isTape_7 : decode cX12_isTape 7 = .ok (.ireturn, 1) := by decide +kernel
set_option maxRecDepth 20000 in
theorem ggX12_tape_X12_isTape : GoodIn wsX12_tape wsX12_isTape := goodIn_r _ [8, 9, 10, 11, 7, 12] (by decide +kernel) (by decide +kernel)
set_option maxRecDepth 20000 in
theorem gX12_tape_X12_isTape : GoodIn wsX12_tape (wsV RX12 343 RX12 yX12_isTape wsX12_isTape) := goodIn_app (goodIn_of _ (by decide +kernel)) ggX12_tape_X12_isTape
set_option maxRecDepth 20000 in
theorem ggX12_tape_X12_in : GoodIn wsX12_tape wsX12_in := goodIn_r _ [12] (by decide +kernel) (by decide +kernel)
set_option maxRecDepth 20000 in
theorem gX12_tape_X12_in : GoodIn wsX12_tape (wsV RX12 207 RX12 yX12_in wsX12_in) := goodIn_app (goodIn_of _ (by decide +kernel)) ggX12_tape_X12_in
theorem dX12_tape_0 : decode cX12_tape 0 = .ok (.aload_n 0, 1) := by decide +kernel
theorem dX12_tape_1 : decode cX12_tape 1 = .ok (.iload_n 1, 1) := by decide +kernel
theorem dX12_tape_2 : decode cX12_tape 2 = .ok (.invokevirtual 343, 3) := by decide +kernel
theorem dX12_tape_5 : decode cX12_tape 5 = .ok (.ifCond .ne 5, 3) := by decide +kernel
theorem dX12_tape_8 : decode cX12_tape 8 = .ok (.iconst (-1), 1) := by decide +kernel
theorem dX12_tape_9 : decode cX12_tape 9 = .ok (.ireturn, 1) := by decide +kernel
theorem dX12_tape_10 : decode cX12_tape 10 = .ok (.aload_n 0, 1) := by decide +kernel
theorem dX12_tape_11 : decode cX12_tape 11 = .ok (.iload_n 2, 1) := by decide +kernel
theorem dX12_tape_12 : decode cX12_tape 12 = .ok (.iconst (-1), 1) := by decide +kernel
theorem dX12_tape_13 : decode cX12_tape 13 = .ok (.iconst 4, 1) := by decide +kernel
theorem dX12_tape_14 : decode cX12_tape 14 = .ok (.invokevirtual 207, 3) := by decide +kernel
theorem dX12_tape_17 : decode cX12_tape 17 = .ok (.ifCond .eq 13, 3) := by decide +kernel
theorem dX12_tape_20 : decode cX12_tape 20 = .ok (.iload_n 2, 1) := by decide +kernel
theorem dX12_tape_21 : decode cX12_tape 21 = .ok (.ifCond .lt 12, 3) := by decide +kernel
theorem dX12_tape_24 : decode cX12_tape 24 = .ok (.iload_n 3, 1) := by decide +kernel
theorem dX12_tape_25 : decode cX12_tape 25 = .ok (.bipush 60, 2) := by decide +kernel
theorem dX12_tape_27 : decode cX12_tape 27 = .ok (.if_icmp .le 6, 3) := by decide +kernel
theorem dX12_tape_30 : decode cX12_tape 30 = .ok (.bipush (-2), 2) := by decide +kernel
theorem dX12_tape_32 : decode cX12_tape 32 = .ok (.ireturn, 1) := by decide +kernel
theorem dX12_tape_33 : decode cX12_tape 33 = .ok (.iload_n 2, 1) := by decide +kernel
theorem dX12_tape_34 : decode cX12_tape 34 = .ok (.ifCond .lt 10, 3) := by decide +kernel
theorem dX12_tape_37 : decode cX12_tape 37 = .ok (.iload_n 3, 1) := by decide +kernel
theorem dX12_tape_38 : decode cX12_tape 38 = .ok (.ifCond .ge 6, 3) := by decide +kernel
theorem dX12_tape_41 : decode cX12_tape 41 = .ok (.bipush (-14), 2) := by decide +kernel
theorem dX12_tape_43 : decode cX12_tape 43 = .ok (.ireturn, 1) := by decide +kernel
theorem dX12_tape_44 : decode cX12_tape 44 = .ok (.aload_n 0, 1) := by decide +kernel
theorem dX12_tape_45 : decode cX12_tape 45 = .ok (.getfield 191, 3) := by decide +kernel
theorem dX12_tape_48 : decode cX12_tape 48 = .ok (.iload_n 1, 1) := by decide +kernel
theorem dX12_tape_49 : decode cX12_tape 49 = .ok (.iload_n 2, 1) := by decide +kernel
theorem dX12_tape_50 : decode cX12_tape 50 = .ok (.iastore, 1) := by decide +kernel
theorem dX12_tape_51 : decode cX12_tape 51 = .ok (.aload_n 0, 1) := by decide +kernel
theorem dX12_tape_52 : decode cX12_tape 52 = .ok (.getfield 194, 3) := by decide +kernel
theorem dX12_tape_55 : decode cX12_tape 55 = .ok (.iload_n 1, 1) := by decide +kernel
theorem dX12_tape_56 : decode cX12_tape 56 = .ok (.iload_n 2, 1) := by decide +kernel
theorem dX12_tape_57 : decode cX12_tape 57 = .ok (.ifCond .ge 7, 3) := by decide +kernel
theorem dX12_tape_60 : decode cX12_tape 60 = .ok (.iconst 0, 1) := by decide +kernel
theorem dX12_tape_61 : decode cX12_tape 61 = .ok (.goto 4, 3) := by decide +kernel
theorem dX12_tape_64 : decode cX12_tape 64 = .ok (.iload_n 3, 1) := by decide +kernel
theorem dX12_tape_65 : decode cX12_tape 65 = .ok (.iastore, 1) := by decide +kernel
theorem dX12_tape_66 : decode cX12_tape 66 = .ok (.iconst 0, 1) := by decide +kernel
theorem dX12_tape_67 : decode cX12_tape 67 = .ok (.istore 4, 2) := by decide +kernel
theorem dX12_tape_69 : decode cX12_tape 69 = .ok (.iload 4, 2) := by decide +kernel
theorem dX12_tape_71 : decode cX12_tape 71 = .ok (.bipush 60, 2) := by decide +kernel
theorem dX12_tape_73 : decode cX12_tape 73 = .ok (.if_icmp .ge 22, 3) := by decide +kernel
theorem dX12_tape_76 : decode cX12_tape 76 = .ok (.aload_n 0, 1) := by decide +kernel
theorem dX12_tape_77 : decode cX12_tape 77 = .ok (.getfield 197, 3) := by decide +kernel
theorem dX12_tape_80 : decode cX12_tape 80 = .ok (.bipush 60, 2) := by decide +kernel
theorem dX12_tape_82 : decode cX12_tape 82 = .ok (.iload_n 1, 1) := by decide +kernel
theorem dX12_tape_83 : decode cX12_tape 83 = .ok (.imul, 1) := by decide +kernel
theorem dX12_tape_84 : decode cX12_tape 84 = .ok (.iload 4, 2) := by decide +kernel
theorem dX12_tape_86 : decode cX12_tape 86 = .ok (.iadd, 1) := by decide +kernel
theorem dX12_tape_87 : decode cX12_tape 87 = .ok (.lconst 0, 1) := by decide +kernel
theorem dX12_tape_88 : decode cX12_tape 88 = .ok (.lastore, 1) := by decide +kernel
theorem dX12_tape_89 : decode cX12_tape 89 = .ok (.iinc 4 1, 3) := by decide +kernel
theorem dX12_tape_92 : decode cX12_tape 92 = .ok (.goto (-23), 3) := by decide +kernel
theorem dX12_tape_95 : decode cX12_tape 95 = .ok (.iconst 1, 1) := by decide +kernel
theorem dX12_tape_96 : decode cX12_tape 96 = .ok (.ireturn, 1) := by decide +kernel
theorem dX12_narrow_0 : decode cX12_narrow 0 = .ok (.iload_n 1, 1) := by decide +kernel
theorem dX12_narrow_1 : decode cX12_narrow 1 = .ok (.ifCond .ne 10, 3) := by decide +kernel
theorem dX12_narrow_4 : decode cX12_narrow 4 = .ok (.lload_n 2, 1) := by decide +kernel
theorem dX12_narrow_5 : decode cX12_narrow 5 = .ok (.l2i, 1) := by decide +kernel
theorem dX12_narrow_6 : decode cX12_narrow 6 = .ok (.i2b, 1) := by decide +kernel
theorem dX12_narrow_7 : decode cX12_narrow 7 = .ok (.i2l, 1) := by decide +kernel
theorem dX12_narrow_8 : decode cX12_narrow 8 = .ok (.goto 46, 3) := by decide +kernel
theorem dX12_narrow_11 : decode cX12_narrow 11 = .ok (.iload_n 1, 1) := by decide +kernel
theorem dX12_narrow_12 : decode cX12_narrow 12 = .ok (.iconst 1, 1) := by decide +kernel
theorem dX12_narrow_13 : decode cX12_narrow 13 = .ok (.if_icmp .ne 10, 3) := by decide +kernel
theorem dX12_narrow_16 : decode cX12_narrow 16 = .ok (.lload_n 2, 1) := by decide +kernel
theorem dX12_narrow_17 : decode cX12_narrow 17 = .ok (.l2i, 1) := by decide +kernel
theorem dX12_narrow_18 : decode cX12_narrow 18 = .ok (.i2s, 1) := by decide +kernel
theorem dX12_narrow_19 : decode cX12_narrow 19 = .ok (.i2l, 1) := by decide +kernel
theorem dX12_narrow_20 : decode cX12_narrow 20 = .ok (.goto 34, 3) := by decide +kernel
theorem dX12_narrow_23 : decode cX12_narrow 23 = .ok (.iload_n 1, 1) := by decide +kernel
theorem dX12_narrow_24 : decode cX12_narrow 24 = .ok (.iconst 2, 1) := by decide +kernel
theorem dX12_narrow_25 : decode cX12_narrow 25 = .ok (.if_icmp .ne 9, 3) := by decide +kernel
theorem dX12_narrow_28 : decode cX12_narrow 28 = .ok (.lload_n 2, 1) := by decide +kernel
theorem dX12_narrow_29 : decode cX12_narrow 29 = .ok (.l2i, 1) := by decide +kernel
theorem dX12_narrow_30 : decode cX12_narrow 30 = .ok (.i2l, 1) := by decide +kernel
theorem dX12_narrow_31 : decode cX12_narrow 31 = .ok (.goto 23, 3) := by decide +kernel
theorem dX12_narrow_34 : decode cX12_narrow 34 = .ok (.iload_n 1, 1) := by decide +kernel
theorem dX12_narrow_35 : decode cX12_narrow 35 = .ok (.iconst 4, 1) := by decide +kernel
theorem dX12_narrow_36 : decode cX12_narrow 36 = .ok (.if_icmp .ne 17, 3) := by decide +kernel
theorem dX12_narrow_39 : decode cX12_narrow 39 = .ok (.lload_n 2, 1) := by decide +kernel
theorem dX12_narrow_40 : decode cX12_narrow 40 = .ok (.lconst 0, 1) := by decide +kernel
theorem dX12_narrow_41 : decode cX12_narrow 41 = .ok (.lcmp, 1) := by decide +kernel
theorem dX12_narrow_42 : decode cX12_narrow 42 = .ok (.ifCond .eq 7, 3) := by decide +kernel
theorem dX12_narrow_45 : decode cX12_narrow 45 = .ok (.lconst 1, 1) := by decide +kernel
theorem dX12_narrow_46 : decode cX12_narrow 46 = .ok (.goto 8, 3) := by decide +kernel
theorem dX12_narrow_49 : decode cX12_narrow 49 = .ok (.lconst 0, 1) := by decide +kernel
theorem dX12_narrow_50 : decode cX12_narrow 50 = .ok (.goto 4, 3) := by decide +kernel
theorem dX12_narrow_53 : decode cX12_narrow 53 = .ok (.lload_n 2, 1) := by decide +kernel
theorem dX12_narrow_54 : decode cX12_narrow 54 = .ok (.lreturn, 1) := by decide +kernel
set_option maxRecDepth 20000 in
theorem ggX12_item_X12_isTape : GoodIn wsX12_item wsX12_isTape := goodIn_r _ [8, 9, 10, 11, 7, 12] (by decide +kernel) (by decide +kernel)
set_option maxRecDepth 20000 in
theorem gX12_item_X12_isTape : GoodIn wsX12_item (wsV RX12 343 RX12 yX12_isTape wsX12_isTape) := goodIn_app (goodIn_of _ (by decide +kernel)) ggX12_item_X12_isTape
set_option maxRecDepth 20000 in
theorem ggX12_item_X12_in : GoodIn wsX12_item wsX12_in := goodIn_r _ [12] (by decide +kernel) (by decide +kernel)
set_option maxRecDepth 20000 in
theorem gX12_item_X12_in : GoodIn wsX12_item (wsV RX12 207 RX12 yX12_in wsX12_in) := goodIn_app (goodIn_of _ (by decide +kernel)) ggX12_item_X12_in
set_option maxRecDepth 20000 in
theorem ggX12_item_X12_narrow : GoodIn wsX12_item wsX12_narrow := goodIn_r _ [16] (by decide +kernel) (by decide +kernel)
set_option maxRecDepth 20000 in
theorem gX12_item_X12_narrow : GoodIn wsX12_item (wsV RX12 371 RX12 yX12_narrow wsX12_narrow) := goodIn_app (goodIn_of _ (by decide +kernel)) ggX12_item_X12_narrow
theorem dX12_item_0 : decode cX12_item 0 = .ok (.aload_n 0, 1) := by decide +kernel
theorem dX12_item_1 : decode cX12_item 1 = .ok (.iload_n 1, 1) := by decide +kernel
theorem dX12_item_2 : decode cX12_item 2 = .ok (.invokevirtual 343, 3) := by decide +kernel
theorem dX12_item_5 : decode cX12_item 5 = .ok (.ifCond .ne 5, 3) := by decide +kernel
theorem dX12_item_8 : decode cX12_item 8 = .ok (.iconst (-1), 1) := by decide +kernel
theorem dX12_item_9 : decode cX12_item 9 = .ok (.ireturn, 1) := by decide +kernel
theorem dX12_item_10 : decode cX12_item 10 = .ok (.aload_n 0, 1) := by decide +kernel
theorem dX12_item_11 : decode cX12_item 11 = .ok (.getfield 191, 3) := by decide +kernel
theorem dX12_item_14 : decode cX12_item 14 = .ok (.iload_n 1, 1) := by decide +kernel
theorem dX12_item_15 : decode cX12_item 15 = .ok (.iaload, 1) := by decide +kernel
theorem dX12_item_16 : decode cX12_item 16 = .ok (.ifCond .ge 6, 3) := by decide +kernel
theorem dX12_item_19 : decode cX12_item 19 = .ok (.bipush (-11), 2) := by decide +kernel
theorem dX12_item_21 : decode cX12_item 21 = .ok (.ireturn, 1) := by decide +kernel
theorem dX12_item_22 : decode cX12_item 22 = .ok (.aload_n 0, 1) := by decide +kernel
theorem dX12_item_23 : decode cX12_item 23 = .ok (.iload_n 2, 1) := by decide +kernel
theorem dX12_item_24 : decode cX12_item 24 = .ok (.iconst 0, 1) := by decide +kernel
theorem dX12_item_25 : decode cX12_item 25 = .ok (.aload_n 0, 1) := by decide +kernel
theorem dX12_item_26 : decode cX12_item 26 = .ok (.getfield 194, 3) := by decide +kernel
theorem dX12_item_29 : decode cX12_item 29 = .ok (.iload_n 1, 1) := by decide +kernel
theorem dX12_item_30 : decode cX12_item 30 = .ok (.iaload, 1) := by decide +kernel
theorem dX12_item_31 : decode cX12_item 31 = .ok (.iconst 1, 1) := by decide +kernel
theorem dX12_item_32 : decode cX12_item 32 = .ok (.isub, 1) := by decide +kernel
theorem dX12_item_33 : decode cX12_item 33 = .ok (.invokevirtual 207, 3) := by decide +kernel
theorem dX12_item_36 : decode cX12_item 36 = .ok (.ifCond .ne 6, 3) := by decide +kernel
theorem dX12_item_39 : decode cX12_item 39 = .ok (.bipush (-13), 2) := by decide +kernel
theorem dX12_item_41 : decode cX12_item 41 = .ok (.ireturn, 1) := by decide +kernel
theorem dX12_item_42 : decode cX12_item 42 = .ok (.aload_n 0, 1) := by decide +kernel
theorem dX12_item_43 : decode cX12_item 43 = .ok (.getfield 197, 3) := by decide +kernel
theorem dX12_item_46 : decode cX12_item 46 = .ok (.bipush 60, 2) := by decide +kernel
theorem dX12_item_48 : decode cX12_item 48 = .ok (.iload_n 1, 1) := by decide +kernel
theorem dX12_item_49 : decode cX12_item 49 = .ok (.imul, 1) := by decide +kernel
theorem dX12_item_50 : decode cX12_item 50 = .ok (.iload_n 2, 1) := by decide +kernel
theorem dX12_item_51 : decode cX12_item 51 = .ok (.iadd, 1) := by decide +kernel
theorem dX12_item_52 : decode cX12_item 52 = .ok (.aload_n 0, 1) := by decide +kernel
theorem dX12_item_53 : decode cX12_item 53 = .ok (.aload_n 0, 1) := by decide +kernel
theorem dX12_item_54 : decode cX12_item 54 = .ok (.getfield 191, 3) := by decide +kernel
theorem dX12_item_57 : decode cX12_item 57 = .ok (.iload_n 1, 1) := by decide +kernel
theorem dX12_item_58 : decode cX12_item 58 = .ok (.iaload, 1) := by decide +kernel
theorem dX12_item_59 : decode cX12_item 59 = .ok (.lload_n 3, 1) := by decide +kernel
theorem dX12_item_60 : decode cX12_item 60 = .ok (.invokevirtual 371, 3) := by decide +kernel
theorem dX12_item_63 : decode cX12_item 63 = .ok (.lastore, 1) := by decide +kernel
theorem dX12_item_64 : decode cX12_item 64 = .ok (.iconst 1, 1) := by decide +kernel
theorem dX12_item_65 : decode cX12_item 65 = .ok (.ireturn, 1) := by decide +kernel
set_option maxRecDepth 20000 in
theorem ggX12_read_X12_isTape : GoodIn wsX12_read wsX12_isTape := goodIn_r _ [9, 10, 11, 12, 8, 13] (by decide +kernel) (by decide +kernel)
set_option maxRecDepth 20000 in
theorem gX12_read_X12_isTape : GoodIn wsX12_read (wsV RX12 343 RX12 yX12_isTape wsX12_isTape) := goodIn_app (goodIn_of _ (by decide +kernel)) ggX12_read_X12_isTape
set_option maxRecDepth 20000 in
theorem ggX12_read_X12_in : GoodIn wsX12_read wsX12_in := goodIn_r _ [13] (by decide +kernel) (by decide +kernel)
set_option maxRecDepth 20000 in
theorem gX12_read_X12_in : GoodIn wsX12_read (wsV RX12 207 RX12 yX12_in wsX12_in) := goodIn_app (goodIn_of _ (by decide +kernel)) ggX12_read_X12_in
theorem dX12_read_0 : decode cX12_read 0 = .ok (.aload_n 0, 1) := by decide +kernel
theorem dX12_read_1 : decode cX12_read 1 = .ok (.iload_n 1, 1) := by decide +kernel
theorem dX12_read_2 : decode cX12_read 2 = .ok (.invokevirtual 343, 3) := by decide +kernel
theorem dX12_read_5 : decode cX12_read 5 = .ok (.ifCond .eq 29, 3) := by decide +kernel
theorem dX12_read_8 : decode cX12_read 8 = .ok (.aload_n 0, 1) := by decide +kernel
theorem dX12_read_9 : decode cX12_read 9 = .ok (.getfield 191, 3) := by decide +kernel
theorem dX12_read_12 : decode cX12_read 12 = .ok (.iload_n 1, 1) := by decide +kernel
theorem dX12_read_13 : decode cX12_read 13 = .ok (.iaload, 1) := by decide +kernel
theorem dX12_read_14 : decode cX12_read 14 = .ok (.ifCond .lt 20, 3) := by decide +kernel
theorem dX12_read_17 : decode cX12_read 17 = .ok (.aload_n 0, 1) := by decide +kernel
theorem dX12_read_18 : decode cX12_read 18 = .ok (.iload_n 2, 1) := by decide +kernel
theorem dX12_read_19 : decode cX12_read 19 = .ok (.iconst 0, 1) := by decide +kernel
theorem dX12_read_20 : decode cX12_read 20 = .ok (.aload_n 0, 1) := by decide +kernel
theorem dX12_read_21 : decode cX12_read 21 = .ok (.getfield 194, 3) := by decide +kernel
theorem dX12_read_24 : decode cX12_read 24 = .ok (.iload_n 1, 1) := by decide +kernel
theorem dX12_read_25 : decode cX12_read 25 = .ok (.iaload, 1) := by decide +kernel
theorem dX12_read_26 : decode cX12_read 26 = .ok (.iconst 1, 1) := by decide +kernel
theorem dX12_read_27 : decode cX12_read 27 = .ok (.isub, 1) := by decide +kernel
theorem dX12_read_28 : decode cX12_read 28 = .ok (.invokevirtual 207, 3) := by decide +kernel
theorem dX12_read_31 : decode cX12_read 31 = .ok (.ifCond .ne 9, 3) := by decide +kernel
theorem dX12_read_34 : decode cX12_read 34 = .ok (.ldc2_w 321, 3) := by decide +kernel
theorem dX12_read_37 : decode cX12_read 37 = .ok (.goto 14, 3) := by decide +kernel
theorem dX12_read_40 : decode cX12_read 40 = .ok (.aload_n 0, 1) := by decide +kernel
theorem dX12_read_41 : decode cX12_read 41 = .ok (.getfield 197, 3) := by decide +kernel
theorem dX12_read_44 : decode cX12_read 44 = .ok (.bipush 60, 2) := by decide +kernel
theorem dX12_read_46 : decode cX12_read 46 = .ok (.iload_n 1, 1) := by decide +kernel
theorem dX12_read_47 : decode cX12_read 47 = .ok (.imul, 1) := by decide +kernel
theorem dX12_read_48 : decode cX12_read 48 = .ok (.iload_n 2, 1) := by decide +kernel
theorem dX12_read_49 : decode cX12_read 49 = .ok (.iadd, 1) := by decide +kernel
theorem dX12_read_50 : decode cX12_read 50 = .ok (.laload, 1) := by decide +kernel
theorem dX12_read_51 : decode cX12_read 51 = .ok (.lreturn, 1) := by decide +kernel
set_option maxRecDepth 20000 in
theorem ggX12_shift_X12_isTape : GoodIn wsX12_shift wsX12_isTape := goodIn_r _ [9, 10, 11, 12, 8, 13] (by decide +kernel) (by decide +kernel)
set_option maxRecDepth 20000 in
theorem gX12_shift_X12_isTape : GoodIn wsX12_shift (wsV RX12 343 RX12 yX12_isTape wsX12_isTape) := goodIn_app (goodIn_of _ (by decide +kernel)) ggX12_shift_X12_isTape
theorem dX12_shift_0 : decode cX12_shift 0 = .ok (.aload_n 0, 1) := by decide +kernel
theorem dX12_shift_1 : decode cX12_shift 1 = .ok (.iload_n 1, 1) := by decide +kernel
theorem dX12_shift_2 : decode cX12_shift 2 = .ok (.invokevirtual 343, 3) := by decide +kernel
theorem dX12_shift_5 : decode cX12_shift 5 = .ok (.ifCond .eq 11, 3) := by decide +kernel
theorem dX12_shift_8 : decode cX12_shift 8 = .ok (.aload_n 0, 1) := by decide +kernel
theorem dX12_shift_9 : decode cX12_shift 9 = .ok (.iload_n 3, 1) := by decide +kernel
theorem dX12_shift_10 : decode cX12_shift 10 = .ok (.invokevirtual 343, 3) := by decide +kernel
theorem dX12_shift_13 : decode cX12_shift 13 = .ok (.ifCond .ne 5, 3) := by decide +kernel
theorem dX12_shift_16 : decode cX12_shift 16 = .ok (.iconst (-1), 1) := by decide +kernel
theorem dX12_shift_17 : decode cX12_shift 17 = .ok (.ireturn, 1) := by decide +kernel
theorem dX12_shift_18 : decode cX12_shift 18 = .ok (.aload_n 0, 1) := by decide +kernel
theorem dX12_shift_19 : decode cX12_shift 19 = .ok (.getfield 191, 3) := by decide +kernel
theorem dX12_shift_22 : decode cX12_shift 22 = .ok (.iload_n 1, 1) := by decide +kernel
theorem dX12_shift_23 : decode cX12_shift 23 = .ok (.iaload, 1) := by decide +kernel
theorem dX12_shift_24 : decode cX12_shift 24 = .ok (.ifCond .lt 12, 3) := by decide +kernel
theorem dX12_shift_27 : decode cX12_shift 27 = .ok (.aload_n 0, 1) := by decide +kernel
theorem dX12_shift_28 : decode cX12_shift 28 = .ok (.getfield 191, 3) := by decide +kernel
theorem dX12_shift_31 : decode cX12_shift 31 = .ok (.iload_n 3, 1) := by decide +kernel
theorem dX12_shift_32 : decode cX12_shift 32 = .ok (.iaload, 1) := by decide +kernel
theorem dX12_shift_33 : decode cX12_shift 33 = .ok (.ifCond .ge 6, 3) := by decide +kernel
theorem dX12_shift_36 : decode cX12_shift 36 = .ok (.bipush (-11), 2) := by decide +kernel
theorem dX12_shift_38 : decode cX12_shift 38 = .ok (.ireturn, 1) := by decide +kernel
theorem dX12_shift_39 : decode cX12_shift 39 = .ok (.aload_n 0, 1) := by decide +kernel
theorem dX12_shift_40 : decode cX12_shift 40 = .ok (.getfield 191, 3) := by decide +kernel
theorem dX12_shift_43 : decode cX12_shift 43 = .ok (.iload_n 1, 1) := by decide +kernel
theorem dX12_shift_44 : decode cX12_shift 44 = .ok (.iaload, 1) := by decide +kernel
theorem dX12_shift_45 : decode cX12_shift 45 = .ok (.aload_n 0, 1) := by decide +kernel
theorem dX12_shift_46 : decode cX12_shift 46 = .ok (.getfield 191, 3) := by decide +kernel
theorem dX12_shift_49 : decode cX12_shift 49 = .ok (.iload_n 3, 1) := by decide +kernel
theorem dX12_shift_50 : decode cX12_shift 50 = .ok (.iaload, 1) := by decide +kernel
theorem dX12_shift_51 : decode cX12_shift 51 = .ok (.if_icmp .eq 6, 3) := by decide +kernel
theorem dX12_shift_54 : decode cX12_shift 54 = .ok (.bipush (-12), 2) := by decide +kernel
theorem dX12_shift_56 : decode cX12_shift 56 = .ok (.ireturn, 1) := by decide +kernel
theorem dX12_shift_57 : decode cX12_shift 57 = .ok (.iload 5, 2) := by decide +kernel
theorem dX12_shift_59 : decode cX12_shift 59 = .ok (.ifCond .lt 39, 3) := by decide +kernel
theorem dX12_shift_62 : decode cX12_shift 62 = .ok (.iload_n 2, 1) := by decide +kernel
theorem dX12_shift_63 : decode cX12_shift 63 = .ok (.ifCond .lt 35, 3) := by decide +kernel
theorem dX12_shift_66 : decode cX12_shift 66 = .ok (.iload 4, 2) := by decide +kernel
theorem dX12_shift_68 : decode cX12_shift 68 = .ok (.ifCond .lt 30, 3) := by decide +kernel
theorem dX12_shift_71 : decode cX12_shift 71 = .ok (.iload_n 2, 1) := by decide +kernel
theorem dX12_shift_72 : decode cX12_shift 72 = .ok (.aload_n 0, 1) := by decide +kernel
theorem dX12_shift_73 : decode cX12_shift 73 = .ok (.getfield 194, 3) := by decide +kernel
theorem dX12_shift_76 : decode cX12_shift 76 = .ok (.iload_n 1, 1) := by decide +kernel
theorem dX12_shift_77 : decode cX12_shift 77 = .ok (.iaload, 1) := by decide +kernel
theorem dX12_shift_78 : decode cX12_shift 78 = .ok (.iload 5, 2) := by decide +kernel
theorem dX12_shift_80 : decode cX12_shift 80 = .ok (.isub, 1) := by decide +kernel
theorem dX12_shift_81 : decode cX12_shift 81 = .ok (.if_icmp .gt 17, 3) := by decide +kernel
theorem dX12_shift_84 : decode cX12_shift 84 = .ok (.iload 4, 2) := by decide +kernel
theorem dX12_shift_86 : decode cX12_shift 86 = .ok (.aload_n 0, 1) := by decide +kernel
theorem dX12_shift_87 : decode cX12_shift 87 = .ok (.getfield 194, 3) := by decide +kernel
theorem dX12_shift_90 : decode cX12_shift 90 = .ok (.iload_n 3, 1) := by decide +kernel
theorem dX12_shift_91 : decode cX12_shift 91 = .ok (.iaload, 1) := by decide +kernel
theorem dX12_shift_92 : decode cX12_shift 92 = .ok (.iload 5, 2) := by decide +kernel
theorem dX12_shift_94 : decode cX12_shift 94 = .ok (.isub, 1) := by decide +kernel
theorem dX12_shift_95 : decode cX12_shift 95 = .ok (.if_icmp .le 6, 3) := by decide +kernel
theorem dX12_shift_98 : decode cX12_shift 98 = .ok (.bipush (-13), 2) := by decide +kernel
theorem dX12_shift_100 : decode cX12_shift 100 = .ok (.ireturn, 1) := by decide +kernel
theorem dX12_shift_101 : decode cX12_shift 101 = .ok (.iconst 0, 1) := by decide +kernel
theorem dX12_shift_102 : decode cX12_shift 102 = .ok (.istore 6, 2) := by decide +kernel
theorem dX12_shift_104 : decode cX12_shift 104 = .ok (.iload 6, 2) := by decide +kernel
theorem dX12_shift_106 : decode cX12_shift 106 = .ok (.iload 5, 2) := by decide +kernel
theorem dX12_shift_108 : decode cX12_shift 108 = .ok (.if_icmp .ge 30, 3) := by decide +kernel
theorem dX12_shift_111 : decode cX12_shift 111 = .ok (.aload_n 0, 1) := by decide +kernel
theorem dX12_shift_112 : decode cX12_shift 112 = .ok (.getfield 200, 3) := by decide +kernel
theorem dX12_shift_115 : decode cX12_shift 115 = .ok (.iload 6, 2) := by decide +kernel
theorem dX12_shift_117 : decode cX12_shift 117 = .ok (.aload_n 0, 1) := by decide +kernel
theorem dX12_shift_118 : decode cX12_shift 118 = .ok (.getfield 197, 3) := by decide +kernel
theorem dX12_shift_121 : decode cX12_shift 121 = .ok (.bipush 60, 2) := by decide +kernel
theorem dX12_shift_123 : decode cX12_shift 123 = .ok (.iload_n 1, 1) := by decide +kernel
theorem dX12_shift_124 : decode cX12_shift 124 = .ok (.imul, 1) := by decide +kernel
theorem dX12_shift_125 : decode cX12_shift 125 = .ok (.iload_n 2, 1) := by decide +kernel
theorem dX12_shift_126 : decode cX12_shift 126 = .ok (.iadd, 1) := by decide +kernel
theorem dX12_shift_127 : decode cX12_shift 127 = .ok (.iload 6, 2) := by decide +kernel
theorem dX12_shift_129 : decode cX12_shift 129 = .ok (.iadd, 1) := by decide +kernel
theorem dX12_shift_130 : decode cX12_shift 130 = .ok (.laload, 1) := by decide +kernel
theorem dX12_shift_131 : decode cX12_shift 131 = .ok (.lastore, 1) := by decide +kernel
theorem dX12_shift_132 : decode cX12_shift 132 = .ok (.iinc 6 1, 3) := by decide +kernel
theorem dX12_shift_135 : decode cX12_shift 135 = .ok (.goto (-31), 3) := by decide +kernel
theorem dX12_shift_138 : decode cX12_shift 138 = .ok (.iconst 0, 1) := by decide +kernel
theorem dX12_shift_139 : decode cX12_shift 139 = .ok (.istore 6, 2) := by decide +kernel
theorem dX12_shift_141 : decode cX12_shift 141 = .ok (.iload 6, 2) := by decide +kernel
theorem dX12_shift_143 : decode cX12_shift 143 = .ok (.iload 5, 2) := by decide +kernel
theorem dX12_shift_145 : decode cX12_shift 145 = .ok (.if_icmp .ge 31, 3) := by decide +kernel
theorem dX12_shift_148 : decode cX12_shift 148 = .ok (.aload_n 0, 1) := by decide +kernel
theorem dX12_shift_149 : decode cX12_shift 149 = .ok (.getfield 197, 3) := by decide +kernel
theorem dX12_shift_152 : decode cX12_shift 152 = .ok (.bipush 60, 2) := by decide +kernel
theorem dX12_shift_154 : decode cX12_shift 154 = .ok (.iload_n 3, 1) := by decide +kernel
theorem dX12_shift_155 : decode cX12_shift 155 = .ok (.imul, 1) := by decide +kernel
theorem dX12_shift_156 : decode cX12_shift 156 = .ok (.iload 4, 2) := by decide +kernel
theorem dX12_shift_158 : decode cX12_shift 158 = .ok (.iadd, 1) := by decide +kernel
theorem dX12_shift_159 : decode cX12_shift 159 = .ok (.iload 6, 2) := by decide +kernel
theorem dX12_shift_161 : decode cX12_shift 161 = .ok (.iadd, 1) := by decide +kernel
theorem dX12_shift_162 : decode cX12_shift 162 = .ok (.aload_n 0, 1) := by decide +kernel
theorem dX12_shift_163 : decode cX12_shift 163 = .ok (.getfield 200, 3) := by decide +kernel
theorem dX12_shift_166 : decode cX12_shift 166 = .ok (.iload 6, 2) := by decide +kernel
theorem dX12_shift_168 : decode cX12_shift 168 = .ok (.laload, 1) := by decide +kernel
theorem dX12_shift_169 : decode cX12_shift 169 = .ok (.lastore, 1) := by decide +kernel
theorem dX12_shift_170 : decode cX12_shift 170 = .ok (.iinc 6 1, 3) := by decide +kernel
theorem dX12_shift_173 : decode cX12_shift 173 = .ok (.goto (-32), 3) := by decide +kernel
theorem dX12_shift_176 : decode cX12_shift 176 = .ok (.iload 5, 2) := by decide +kernel
theorem dX12_shift_178 : decode cX12_shift 178 = .ok (.ireturn, 1) := by decide +kernel
