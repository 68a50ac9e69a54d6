theorem dX12_init_73 : decode cX12_init 73 = .ok (.putfield 34, 3) := by decide +kernel
theorem dX12_init_76 : decode cX12_init 76 = .ok (.aload_n 0, 1) := by decide +kernel
theorem dX12_init_77 : decode cX12_init 77 = .ok (.sipush 900, 3) := by decide +kernel
theorem dX12_init_80 : decode cX12_init 80 = .ok (.newarray .byte, 2) := by decide +kernel
theorem dX12_init_82 : decode cX12_init 82 = .ok (.putfield 37, 3) := by decide +kernel
theorem dX12_init_85 : decode cX12_init 85 = .ok (.aload_n 0, 1) := by decide +kernel
theorem dX12_init_86 : decode cX12_init 86 = .ok (.iconst (-1), 1) := by decide +kernel
theorem dX12_init_87 : decode cX12_init 87 = .ok (.putfield 41, 3) := by decide +kernel
theorem dX12_init_90 : decode cX12_init 90 = .ok (.aload_n 0, 1) := by decide +kernel
theorem dX12_init_91 : decode cX12_init 91 = .ok (.bipush 71, 2) := by decide +kernel
theorem dX12_init_93 : decode cX12_init 93 = .ok (.newarray .byte, 2) := by decide +kernel
theorem dX12_init_95 : decode cX12_init 95 = .ok (.dup, 1) := by decide +kernel
theorem dX12_init_96 : decode cX12_init 96 = .ok (.iconst 0, 1) := by decide +kernel
theorem dX12_init_97 : decode cX12_init 97 = .ok (.bipush 116, 2) := by decide +kernel
theorem dX12_init_99 : decode cX12_init 99 = .ok (.bastore, 1) := by decide +kernel
theorem dX12_init_100 : decode cX12_init 100 = .ok (.dup, 1) := by decide +kernel
theorem dX12_init_101 : decode cX12_init 101 = .ok (.iconst 1, 1) := by decide +kernel
theorem dX12_init_102 : decode cX12_init 102 = .ok (.bipush 97, 2) := by decide +kernel
theorem dX12_init_104 : decode cX12_init 104 = .ok (.bastore, 1) := by decide +kernel
theorem dX12_init_105 : decode cX12_init 105 = .ok (.dup, 1) := by decide +kernel
theorem dX12_init_106 : decode cX12_init 106 = .ok (.iconst 2, 1) := by decide +kernel
theorem dX12_init_107 : decode cX12_init 107 = .ok (.bipush 107, 2) := by decide +kernel
theorem dX12_init_109 : decode cX12_init 109 = .ok (.bastore, 1) := by decide +kernel
theorem dX12_init_110 : decode cX12_init 110 = .ok (.dup, 1) := by decide +kernel
theorem dX12_init_111 : decode cX12_init 111 = .ok (.iconst 3, 1) := by decide +kernel
theorem dX12_init_112 : decode cX12_init 112 = .ok (.bipush 101, 2) := by decide +kernel
theorem dX12_init_114 : decode cX12_init 114 = .ok (.bastore, 1) := by decide +kernel
theorem dX12_init_115 : decode cX12_init 115 = .ok (.dup, 1) := by decide +kernel
theorem dX12_init_116 : decode cX12_init 116 = .ok (.iconst 4, 1) := by decide +kernel
theorem dX12_init_117 : decode cX12_init 117 = .ok (.bipush 32, 2) := by decide +kernel
theorem dX12_init_119 : decode cX12_init 119 = .ok (.bastore, 1) := by decide +kernel
theorem dX12_init_120 : decode cX12_init 120 = .ok (.dup, 1) := by decide +kernel
theorem dX12_init_121 : decode cX12_init 121 = .ok (.iconst 5, 1) := by decide +kernel
theorem dX12_init_122 : decode cX12_init 122 = .ok (.bipush 105, 2) := by decide +kernel
theorem dX12_init_124 : decode cX12_init 124 = .ok (.bastore, 1) := by decide +kernel
theorem dX12_init_125 : decode cX12_init 125 = .ok (.dup, 1) := by decide +kernel
theorem dX12_init_126 : decode cX12_init 126 = .ok (.bipush 6, 2) := by decide +kernel
theorem dX12_init_128 : decode cX12_init 128 = .ok (.bipush 110, 2) := by decide +kernel
theorem dX12_init_130 : decode cX12_init 130 = .ok (.bastore, 1) := by decide +kernel
theorem dX12_init_131 : decode cX12_init 131 = .ok (.dup, 1) := by decide +kernel
theorem dX12_init_132 : decode cX12_init 132 = .ok (.bipush 7, 2) := by decide +kernel
theorem dX12_init_134 : decode cX12_init 134 = .ok (.bipush 110, 2) := by decide +kernel
theorem dX12_init_136 : decode cX12_init 136 = .ok (.bastore, 1) := by decide +kernel
theorem dX12_init_137 : decode cX12_init 137 = .ok (.dup, 1) := by decide +kernel
theorem dX12_init_138 : decode cX12_init 138 = .ok (.bipush 8, 2) := by decide +kernel
theorem dX12_init_140 : decode cX12_init 140 = .ok (.bipush 101, 2) := by decide +kernel
theorem dX12_init_142 : decode cX12_init 142 = .ok (.bastore, 1) := by decide +kernel
theorem dX12_init_143 : decode cX12_init 143 = .ok (.dup, 1) := by decide +kernel
theorem dX12_init_144 : decode cX12_init 144 = .ok (.bipush 9, 2) := by decide +kernel
theorem dX12_init_146 : decode cX12_init 146 = .ok (.bipush 114, 2) := by decide +kernel
theorem dX12_init_148 : decode cX12_init 148 = .ok (.bastore, 1) := by decide +kernel
theorem dX12_init_149 : decode cX12_init 149 = .ok (.dup, 1) := by decide +kernel
theorem dX12_init_150 : decode cX12_init 150 = .ok (.bipush 10, 2) := by decide +kernel
theorem dX12_init_152 : decode cX12_init 152 = .ok (.bipush 32, 2) := by decide +kernel
theorem dX12_init_154 : decode cX12_init 154 = .ok (.bastore, 1) := by decide +kernel
theorem dX12_init_155 : decode cX12_init 155 = .ok (.dup, 1) := by decide +kernel
theorem dX12_init_156 : decode cX12_init 156 = .ok (.bipush 11, 2) := by decide +kernel
theorem dX12_init_158 : decode cX12_init 158 = .ok (.bipush 115, 2) := by decide +kernel
theorem dX12_init_160 : decode cX12_init 160 = .ok (.bastore, 1) := by decide +kernel
theorem dX12_init_161 : decode cX12_init 161 = .ok (.dup, 1) := by decide +kernel
theorem dX12_init_162 : decode cX12_init 162 = .ok (.bipush 12, 2) := by decide +kernel
theorem dX12_init_164 : decode cX12_init 164 = .ok (.bipush 104, 2) := by decide +kernel
theorem dX12_init_166 : decode cX12_init 166 = .ok (.bastore, 1) := by decide +kernel
theorem dX12_init_167 : decode cX12_init 167 = .ok (.dup, 1) := by decide +kernel
theorem dX12_init_168 : decode cX12_init 168 = .ok (.bipush 13, 2) := by decide +kernel
theorem dX12_init_170 : decode cX12_init 170 = .ok (.bipush 97, 2) := by decide +kernel
theorem dX12_init_172 : decode cX12_init 172 = .ok (.bastore, 1) := by decide +kernel
theorem dX12_init_173 : decode cX12_init 173 = .ok (.dup, 1) := by decide +kernel
theorem dX12_init_174 : decode cX12_init 174 = .ok (.bipush 14, 2) := by decide +kernel
theorem dX12_init_176 : decode cX12_init 176 = .ok (.bipush 114, 2) := by decide +kernel
theorem dX12_init_178 : decode cX12_init 178 = .ok (.bastore, 1) := by decide +kernel
theorem dX12_init_179 : decode cX12_init 179 = .ok (.dup, 1) := by decide +kernel
theorem dX12_init_180 : decode cX12_init 180 = .ok (.bipush 15, 2) := by decide +kernel
theorem dX12_init_182 : decode cX12_init 182 = .ok (.bipush 101, 2) := by decide +kernel
theorem dX12_init_184 : decode cX12_init 184 = .ok (.bastore, 1) := by decide +kernel
theorem dX12_init_185 : decode cX12_init 185 = .ok (.dup, 1) := by decide +kernel
theorem dX12_init_186 : decode cX12_init 186 = .ok (.bipush 16, 2) := by decide +kernel
theorem dX12_init_188 : decode cX12_init 188 = .ok (.bipush 32, 2) := by decide +kernel
theorem dX12_init_190 : decode cX12_init 190 = .ok (.bastore, 1) := by decide +kernel
theorem dX12_init_191 : decode cX12_init 191 = .ok (.dup, 1) := by decide +kernel
theorem dX12_init_192 : decode cX12_init 192 = .ok (.bipush 17, 2) := by decide +kernel
theorem dX12_init_194 : decode cX12_init 194 = .ok (.bipush 116, 2) := by decide +kernel
theorem dX12_init_196 : decode cX12_init 196 = .ok (.bastore, 1) := by decide +kernel
theorem dX12_init_197 : decode cX12_init 197 = .ok (.dup, 1) := by decide +kernel
theorem dX12_init_198 : decode cX12_init 198 = .ok (.bipush 18, 2) := by decide +kernel
theorem dX12_init_200 : decode cX12_init 200 = .ok (.bipush 114, 2) := by decide +kernel
theorem dX12_init_202 : decode cX12_init 202 = .ok (.bastore, 1) := by decide +kernel
theorem dX12_init_203 : decode cX12_init 203 = .ok (.dup, 1) := by decide +kernel
theorem dX12_init_204 : decode cX12_init 204 = .ok (.bipush 19, 2) := by decide +kernel
theorem dX12_init_206 : decode cX12_init 206 = .ok (.bipush 121, 2) := by decide +kernel
theorem dX12_init_208 : decode cX12_init 208 = .ok (.bastore, 1) := by decide +kernel
theorem dX12_init_209 : decode cX12_init 209 = .ok (.dup, 1) := by decide +kernel
theorem dX12_init_210 : decode cX12_init 210 = .ok (.bipush 20, 2) := by decide +kernel
theorem dX12_init_212 : decode cX12_init 212 = .ok (.bipush 32, 2) := by decide +kernel
theorem dX12_init_214 : decode cX12_init 214 = .ok (.bastore, 1) := by decide +kernel
theorem dX12_init_215 : decode cX12_init 215 = .ok (.dup, 1) := by decide +kernel
theorem dX12_init_216 : decode cX12_init 216 = .ok (.bipush 21, 2) := by decide +kernel
theorem dX12_init_218 : decode cX12_init 218 = .ok (.bipush 100, 2) := by decide +kernel
theorem dX12_init_220 : decode cX12_init 220 = .ok (.bastore, 1) := by decide +kernel
theorem dX12_init_221 : decode cX12_init 221 = .ok (.dup, 1) := by decide +kernel
theorem dX12_init_222 : decode cX12_init 222 = .ok (.bipush 22, 2) := by decide +kernel
theorem dX12_init_224 : decode cX12_init 224 = .ok (.bipush 114, 2) := by decide +kernel
theorem dX12_init_226 : decode cX12_init 226 = .ok (.bastore, 1) := by decide +kernel
theorem dX12_init_227 : decode cX12_init 227 = .ok (.dup, 1) := by decide +kernel
theorem dX12_init_228 : decode cX12_init 228 = .ok (.bipush 23, 2) := by decide +kernel
theorem dX12_init_230 : decode cX12_init 230 = .ok (.bipush 111, 2) := by decide +kernel
theorem dX12_init_232 : decode cX12_init 232 = .ok (.bastore, 1) := by decide +kernel
theorem dX12_init_233 : decode cX12_init 233 = .ok (.dup, 1) := by decide +kernel
theorem dX12_init_234 : decode cX12_init 234 = .ok (.bipush 24, 2) := by decide +kernel
theorem dX12_init_236 : decode cX12_init 236 = .ok (.bipush 112, 2) := by decide +kernel
theorem dX12_init_238 : decode cX12_init 238 = .ok (.bastore, 1) := by decide +kernel
theorem dX12_init_239 : decode cX12_init 239 = .ok (.dup, 1) := by decide +kernel
theorem dX12_init_240 : decode cX12_init 240 = .ok (.bipush 25, 2) := by decide +kernel
theorem dX12_init_242 : decode cX12_init 242 = .ok (.bipush 32, 2) := by decide +kernel
theorem dX12_init_244 : decode cX12_init 244 = .ok (.bastore, 1) := by decide +kernel
theorem dX12_init_245 : decode cX12_init 245 = .ok (.dup, 1) := by decide +kernel
theorem dX12_init_246 : decode cX12_init 246 = .ok (.bipush 26, 2) := by decide +kernel
theorem dX12_init_248 : decode cX12_init 248 = .ok (.bipush 111, 2) := by decide +kernel
theorem dX12_init_250 : decode cX12_init 250 = .ok (.bastore, 1) := by decide +kernel
theorem dX12_init_251 : decode cX12_init 251 = .ok (.dup, 1) := by decide +kernel
theorem dX12_init_252 : decode cX12_init 252 = .ok (.bipush 27, 2) := by decide +kernel
theorem dX12_init_254 : decode cX12_init 254 = .ok (.bipush 102, 2) := by decide +kernel
theorem dX12_init_256 : decode cX12_init 256 = .ok (.bastore, 1) := by decide +kernel
theorem dX12_init_257 : decode cX12_init 257 = .ok (.dup, 1) := by decide +kernel
theorem dX12_init_258 : decode cX12_init 258 = .ok (.bipush 28, 2) := by decide +kernel
theorem dX12_init_260 : decode cX12_init 260 = .ok (.bipush 102, 2) := by decide +kernel
theorem dX12_init_262 : decode cX12_init 262 = .ok (.bastore, 1) := by decide +kernel
theorem dX12_init_263 : decode cX12_init 263 = .ok (.dup, 1) := by decide +kernel
theorem dX12_init_264 : decode cX12_init 264 = .ok (.bipush 29, 2) := by decide +kernel
theorem dX12_init_266 : decode cX12_init 266 = .ok (.bipush 32, 2) := by decide +kernel
theorem dX12_init_268 : decode cX12_init 268 = .ok (.bastore, 1) := by decide +kernel
theorem dX12_init_269 : decode cX12_init 269 = .ok (.dup, 1) := by decide +kernel
theorem dX12_init_270 : decode cX12_init 270 = .ok (.bipush 30, 2) := by decide +kernel
theorem dX12_init_272 : decode cX12_init 272 = .ok (.bipush 111, 2) := by decide +kernel
theorem dX12_init_274 : decode cX12_init 274 = .ok (.bastore, 1) := by decide +kernel
theorem dX12_init_275 : decode cX12_init 275 = .ok (.dup, 1) := by decide +kernel
theorem dX12_init_276 : decode cX12_init 276 = .ok (.bipush 31, 2) := by decide +kernel
theorem dX12_init_278 : decode cX12_init 278 = .ok (.bipush 110, 2) := by decide +kernel
theorem dX12_init_280 : decode cX12_init 280 = .ok (.bastore, 1) := by decide +kernel
theorem dX12_init_281 : decode cX12_init 281 = .ok (.dup, 1) := by decide +kernel
theorem dX12_init_282 : decode cX12_init 282 = .ok (.bipush 32, 2) := by decide +kernel
theorem dX12_init_284 : decode cX12_init 284 = .ok (.bipush 32, 2) := by decide +kernel
theorem dX12_init_286 : decode cX12_init 286 = .ok (.bastore, 1) := by decide +kernel
theorem dX12_init_287 : decode cX12_init 287 = .ok (.dup, 1) := by decide +kernel
theorem dX12_init_288 : decode cX12_init 288 = .ok (.bipush 33, 2) := by decide +kernel
theorem dX12_init_290 : decode cX12_init 290 = .ok (.bipush 109, 2) := by decide +kernel
theorem dX12_init_292 : decode cX12_init 292 = .ok (.bastore, 1) := by decide +kernel
theorem dX12_init_293 : decode cX12_init 293 = .ok (.dup, 1) := by decide +kernel
theorem dX12_init_294 : decode cX12_init 294 = .ok (.bipush 34, 2) := by decide +kernel
theorem dX12_init_296 : decode cX12_init 296 = .ok (.bipush 97, 2) := by decide +kernel
theorem dX12_init_298 : decode cX12_init 298 = .ok (.bastore, 1) := by decide +kernel
theorem dX12_init_299 : decode cX12_init 299 = .ok (.dup, 1) := by decide +kernel
theorem dX12_init_300 : decode cX12_init 300 = .ok (.bipush 35, 2) := by decide +kernel
theorem dX12_init_302 : decode cX12_init 302 = .ok (.bipush 115, 2) := by decide +kernel
theorem dX12_init_304 : decode cX12_init 304 = .ok (.bastore, 1) := by decide +kernel
theorem dX12_init_305 : decode cX12_init 305 = .ok (.dup, 1) := by decide +kernel
theorem dX12_init_306 : decode cX12_init 306 = .ok (.bipush 36, 2) := by decide +kernel
theorem dX12_init_308 : decode cX12_init 308 = .ok (.bipush 107, 2) := by decide +kernel
theorem dX12_init_310 : decode cX12_init 310 = .ok (.bastore, 1) := by decide +kernel
theorem dX12_init_311 : decode cX12_init 311 = .ok (.dup, 1) := by decide +kernel
theorem dX12_init_312 : decode cX12_init 312 = .ok (.bipush 37, 2) := by decide +kernel
theorem dX12_init_314 : decode cX12_init 314 = .ok (.bipush 32, 2) := by decide +kernel
theorem dX12_init_316 : decode cX12_init 316 = .ok (.bastore, 1) := by decide +kernel
theorem dX12_init_317 : decode cX12_init 317 = .ok (.dup, 1) := by decide +kernel
theorem dX12_init_318 : decode cX12_init 318 = .ok (.bipush 38, 2) := by decide +kernel
theorem dX12_init_320 : decode cX12_init 320 = .ok (.bipush 111, 2) := by decide +kernel
theorem dX12_init_322 : decode cX12_init 322 = .ok (.bastore, 1) := by decide +kernel
theorem dX12_init_323 : decode cX12_init 323 = .ok (.dup, 1) := by decide +kernel
theorem dX12_init_324 : decode cX12_init 324 = .ok (.bipush 39, 2) := by decide +kernel
theorem dX12_init_326 : decode cX12_init 326 = .ok (.bipush 112, 2) := by decide +kernel
theorem dX12_init_328 : decode cX12_init 328 = .ok (.bastore, 1) := by decide +kernel
theorem dX12_init_329 : decode cX12_init 329 = .ok (.dup, 1) := by decide +kernel
theorem dX12_init_330 : decode cX12_init 330 = .ok (.bipush 40, 2) := by decide +kernel
theorem dX12_init_332 : decode cX12_init 332 = .ok (.bipush 101, 2) := by decide +kernel
theorem dX12_init_334 : decode cX12_init 334 = .ok (.bastore, 1) := by decide +kernel
theorem dX12_init_335 : decode cX12_init 335 = .ok (.dup, 1) := by decide +kernel
theorem dX12_init_336 : decode cX12_init 336 = .ok (.bipush 41, 2) := by decide +kernel
theorem dX12_init_338 : decode cX12_init 338 = .ok (.bipush 110, 2) := by decide +kernel
theorem dX12_init_340 : decode cX12_init 340 = .ok (.bastore, 1) := by decide +kernel
theorem dX12_init_341 : decode cX12_init 341 = .ok (.dup, 1) := by decide +kernel
theorem dX12_init_342 : decode cX12_init 342 = .ok (.bipush 42, 2) := by decide +kernel
theorem dX12_init_344 : decode cX12_init 344 = .ok (.bipush 32, 2) := by decide +kernel
theorem dX12_init_346 : decode cX12_init 346 = .ok (.bastore, 1) := by decide +kernel
theorem dX12_init_347 : decode cX12_init 347 = .ok (.dup, 1) := by decide +kernel
theorem dX12_init_348 : decode cX12_init 348 = .ok (.bipush 43, 2) := by decide +kernel
theorem dX12_init_350 : decode cX12_init 350 = .ok (.bipush 107, 2) := by decide +kernel
theorem dX12_init_352 : decode cX12_init 352 = .ok (.bastore, 1) := by decide +kernel
theorem dX12_init_353 : decode cX12_init 353 = .ok (.dup, 1) := by decide +kernel
theorem dX12_init_354 : decode cX12_init 354 = .ok (.bipush 44, 2) := by decide +kernel
theorem dX12_init_356 : decode cX12_init 356 = .ok (.bipush 105, 2) := by decide +kernel
theorem dX12_init_358 : decode cX12_init 358 = .ok (.bastore, 1) := by decide +kernel
theorem dX12_init_359 : decode cX12_init 359 = .ok (.dup, 1) := by decide +kernel
theorem dX12_init_360 : decode cX12_init 360 = .ok (.bipush 45, 2) := by decide +kernel
theorem dX12_init_362 : decode cX12_init 362 = .ok (.bipush 110, 2) := by decide +kernel
theorem dX12_init_364 : decode cX12_init 364 = .ok (.bastore, 1) := by decide +kernel
theorem dX12_init_365 : decode cX12_init 365 = .ok (.dup, 1) := by decide +kernel
theorem dX12_init_366 : decode cX12_init 366 = .ok (.bipush 46, 2) := by decide +kernel
theorem dX12_init_368 : decode cX12_init 368 = .ok (.bipush 100, 2) := by decide +kernel
theorem dX12_init_370 : decode cX12_init 370 = .ok (.bastore, 1) := by decide +kernel
theorem dX12_init_371 : decode cX12_init 371 = .ok (.dup, 1) := by decide +kernel
theorem dX12_init_372 : decode cX12_init 372 = .ok (.bipush 47, 2) := by decide +kernel
theorem dX12_init_374 : decode cX12_init 374 = .ok (.bipush 32, 2) := by decide +kernel
theorem dX12_init_376 : decode cX12_init 376 = .ok (.bastore, 1) := by decide +kernel
theorem dX12_init_377 : decode cX12_init 377 = .ok (.dup, 1) := by decide +kernel
theorem dX12_init_378 : decode cX12_init 378 = .ok (.bipush 48, 2) := by decide +kernel
theorem dX12_init_380 : decode cX12_init 380 = .ok (.bipush 108, 2) := by decide +kernel
theorem dX12_init_382 : decode cX12_init 382 = .ok (.bastore, 1) := by decide +kernel
theorem dX12_init_383 : decode cX12_init 383 = .ok (.dup, 1) := by decide +kernel
theorem dX12_init_384 : decode cX12_init 384 = .ok (.bipush 49, 2) := by decide +kernel
theorem dX12_init_386 : decode cX12_init 386 = .ok (.bipush 111, 2) := by decide +kernel
theorem dX12_init_388 : decode cX12_init 388 = .ok (.bastore, 1) := by decide +kernel
theorem dX12_init_389 : decode cX12_init 389 = .ok (.dup, 1) := by decide +kernel
theorem dX12_init_390 : decode cX12_init 390 = .ok (.bipush 50, 2) := by decide +kernel
theorem dX12_init_392 : decode cX12_init 392 = .ok (.bipush 99, 2) := by decide +kernel
theorem dX12_init_394 : decode cX12_init 394 = .ok (.bastore, 1) := by decide +kernel
theorem dX12_init_395 : decode cX12_init 395 = .ok (.dup, 1) := by decide +kernel
theorem dX12_init_396 : decode cX12_init 396 = .ok (.bipush 51, 2) := by decide +kernel
theorem dX12_init_398 : decode cX12_init 398 = .ok (.bipush 107, 2) := by decide +kernel
theorem dX12_init_400 : decode cX12_init 400 = .ok (.bastore, 1) := by decide +kernel
theorem dX12_init_401 : decode cX12_init 401 = .ok (.dup, 1) := by decide +kernel
theorem dX12_init_402 : decode cX12_init 402 = .ok (.bipush 52, 2) := by decide +kernel
theorem dX12_init_404 : decode cX12_init 404 = .ok (.bipush 32, 2) := by decide +kernel
theorem dX12_init_406 : decode cX12_init 406 = .ok (.bastore, 1) := by decide +kernel
theorem dX12_init_407 : decode cX12_init 407 = .ok (.dup, 1) := by decide +kernel
theorem dX12_init_408 : decode cX12_init 408 = .ok (.bipush 53, 2) := by decide +kernel
theorem dX12_init_410 : decode cX12_init 410 = .ok (.bipush 111, 2) := by decide +kernel
theorem dX12_init_412 : decode cX12_init 412 = .ok (.bastore, 1) := by decide +kernel
theorem dX12_init_413 : decode cX12_init 413 = .ok (.dup, 1) := by decide +kernel
theorem dX12_init_414 : decode cX12_init 414 = .ok (.bipush 54, 2) := by decide +kernel
theorem dX12_init_416 : decode cX12_init 416 = .ok (.bipush 102, 2) := by decide +kernel
theorem dX12_init_418 : decode cX12_init 418 = .ok (.bastore, 1) := by decide +kernel
theorem dX12_init_419 : decode cX12_init 419 = .ok (.dup, 1) := by decide +kernel
theorem dX12_init_420 : decode cX12_init 420 = .ok (.bipush 55, 2) := by decide +kernel
theorem dX12_init_422 : decode cX12_init 422 = .ok (.bipush 32, 2) := by decide +kernel
theorem dX12_init_424 : decode cX12_init 424 = .ok (.bastore, 1) := by decide +kernel
theorem dX12_init_425 : decode cX12_init 425 = .ok (.dup, 1) := by decide +kernel
theorem dX12_init_426 : decode cX12_init 426 = .ok (.bipush 56, 2) := by decide +kernel
theorem dX12_init_428 : decode cX12_init 428 = .ok (.bipush 116, 2) := by decide +kernel
theorem dX12_init_430 : decode cX12_init 430 = .ok (.bastore, 1) := by decide +kernel
theorem dX12_init_431 : decode cX12_init 431 = .ok (.dup, 1) := by decide +kernel
theorem dX12_init_432 : decode cX12_init 432 = .ok (.bipush 57, 2) := by decide +kernel
theorem dX12_init_434 : decode cX12_init 434 = .ok (.bipush 97, 2) := by decide +kernel
theorem dX12_init_436 : decode cX12_init 436 = .ok (.bastore, 1) := by decide +kernel
theorem dX12_init_437 : decode cX12_init 437 = .ok (.dup, 1) := by decide +kernel
theorem dX12_init_438 : decode cX12_init 438 = .ok (.bipush 58, 2) := by decide +kernel
theorem dX12_init_440 : decode cX12_init 440 = .ok (.bipush 115, 2) := by decide +kernel
theorem dX12_init_442 : decode cX12_init 442 = .ok (.bastore, 1) := by decide +kernel
theorem dX12_init_443 : decode cX12_init 443 = .ok (.dup, 1) := by decide +kernel
theorem dX12_init_444 : decode cX12_init 444 = .ok (.bipush 59, 2) := by decide +kernel
theorem dX12_init_446 : decode cX12_init 446 = .ok (.bipush 107, 2) := by decide +kernel
theorem dX12_init_448 : decode cX12_init 448 = .ok (.bastore, 1) := by decide +kernel
theorem dX12_init_449 : decode cX12_init 449 = .ok (.dup, 1) := by decide +kernel
theorem dX12_init_450 : decode cX12_init 450 = .ok (.bipush 60, 2) := by decide +kernel
theorem dX12_init_452 : decode cX12_init 452 = .ok (.bipush 32, 2) := by decide +kernel
theorem dX12_init_454 : decode cX12_init 454 = .ok (.bastore, 1) := by decide +kernel
theorem dX12_init_455 : decode cX12_init 455 = .ok (.dup, 1) := by decide +kernel
theorem dX12_init_456 : decode cX12_init 456 = .ok (.bipush 61, 2) := by decide +kernel
theorem dX12_init_458 : decode cX12_init 458 = .ok (.bipush 115, 2) := by decide +kernel
theorem dX12_init_460 : decode cX12_init 460 = .ok (.bastore, 1) := by decide +kernel
theorem dX12_init_461 : decode cX12_init 461 = .ok (.dup, 1) := by decide +kernel
theorem dX12_init_462 : decode cX12_init 462 = .ok (.bipush 62, 2) := by decide +kernel
theorem dX12_init_464 : decode cX12_init 464 = .ok (.bipush 111, 2) := by decide +kernel
theorem dX12_init_466 : decode cX12_init 466 = .ok (.bastore, 1) := by decide +kernel
theorem dX12_init_467 : decode cX12_init 467 = .ok (.dup, 1) := by decide +kernel
theorem dX12_init_468 : decode cX12_init 468 = .ok (.bipush 63, 2) := by decide +kernel
theorem dX12_init_470 : decode cX12_init 470 = .ok (.bipush 102, 2) := by decide +kernel
theorem dX12_init_472 : decode cX12_init 472 = .ok (.bastore, 1) := by decide +kernel
theorem dX12_init_473 : decode cX12_init 473 = .ok (.dup, 1) := by decide +kernel
theorem dX12_init_474 : decode cX12_init 474 = .ok (.bipush 64, 2) := by decide +kernel
theorem dX12_init_476 : decode cX12_init 476 = .ok (.bipush 116, 2) := by decide +kernel
theorem dX12_init_478 : decode cX12_init 478 = .ok (.bastore, 1) := by decide +kernel
theorem dX12_init_479 : decode cX12_init 479 = .ok (.dup, 1) := by decide +kernel
theorem dX12_init_480 : decode cX12_init 480 = .ok (.bipush 65, 2) := by decide +kernel
theorem dX12_init_482 : decode cX12_init 482 = .ok (.bipush 32, 2) := by decide +kernel
theorem dX12_init_484 : decode cX12_init 484 = .ok (.bastore, 1) := by decide +kernel
theorem dX12_init_485 : decode cX12_init 485 = .ok (.dup, 1) := by decide +kernel
theorem dX12_init_486 : decode cX12_init 486 = .ok (.bipush 66, 2) := by decide +kernel
theorem dX12_init_488 : decode cX12_init 488 = .ok (.bipush 104, 2) := by decide +kernel
theorem dX12_init_490 : decode cX12_init 490 = .ok (.bastore, 1) := by decide +kernel
theorem dX12_init_491 : decode cX12_init 491 = .ok (.dup, 1) := by decide +kernel
theorem dX12_init_492 : decode cX12_init 492 = .ok (.bipush 67, 2) := by decide +kernel
theorem dX12_init_494 : decode cX12_init 494 = .ok (.bipush 97, 2) := by decide +kernel
theorem dX12_init_496 : decode cX12_init 496 = .ok (.bastore, 1) := by decide +kernel
theorem dX12_init_497 : decode cX12_init 497 = .ok (.dup, 1) := by decide +kernel
theorem dX12_init_498 : decode cX12_init 498 = .ok (.bipush 68, 2) := by decide +kernel
theorem dX12_init_500 : decode cX12_init 500 = .ok (.bipush 114, 2) := by decide +kernel
theorem dX12_init_502 : decode cX12_init 502 = .ok (.bastore, 1) := by decide +kernel
theorem dX12_init_503 : decode cX12_init 503 = .ok (.dup, 1) := by decide +kernel
theorem dX12_init_504 : decode cX12_init 504 = .ok (.bipush 69, 2) := by decide +kernel
theorem dX12_init_506 : decode cX12_init 506 = .ok (.bipush 100, 2) := by decide +kernel
theorem dX12_init_508 : decode cX12_init 508 = .ok (.bastore, 1) := by decide +kernel
theorem dX12_init_509 : decode cX12_init 509 = .ok (.dup, 1) := by decide +kernel
theorem dX12_init_510 : decode cX12_init 510 = .ok (.bipush 70, 2) := by decide +kernel
theorem dX12_init_512 : decode cX12_init 512 = .ok (.bipush 32, 2) := by decide +kernel
theorem dX12_init_514 : decode cX12_init 514 = .ok (.bastore, 1) := by decide +kernel
theorem dX12_init_515 : decode cX12_init 515 = .ok (.putfield 45, 3) := by decide +kernel
theorem dX12_init_518 : decode cX12_init 518 = .ok (.aload_n 0, 1) := by decide +kernel
theorem dX12_init_519 : decode cX12_init 519 = .ok (.bipush 24, 2) := by decide +kernel
theorem dX12_init_521 : decode cX12_init 521 = .ok (.newarray .int, 2) := by decide +kernel
theorem dX12_init_523 : decode cX12_init 523 = .ok (.putfield 48, 3) := by decide +kernel
theorem dX12_init_526 : decode cX12_init 526 = .ok (.aload_n 0, 1) := by decide +kernel
theorem dX12_init_527 : decode cX12_init 527 = .ok (.bipush 24, 2) := by decide +kernel
theorem dX12_init_529 : decode cX12_init 529 = .ok (.newarray .int, 2) := by decide +kernel
theorem dX12_init_531 : decode cX12_init 531 = .ok (.putfield 51, 3) := by decide +kernel
theorem dX12_init_534 : decode cX12_init 534 = .ok (.aload_n 0, 1) := by decide +kernel
theorem dX12_init_535 : decode cX12_init 535 = .ok (.bipush 24, 2) := by decide +kernel
theorem dX12_init_537 : decode cX12_init 537 = .ok (.newarray .int, 2) := by decide +kernel
theorem dX12_init_539 : decode cX12_init 539 = .ok (.putfield 54, 3) := by decide +kernel
theorem dX12_init_542 : decode cX12_init 542 = .ok (.aload_n 0, 1) := by decide +kernel
theorem dX12_init_543 : decode cX12_init 543 = .ok (.bipush 24, 2) := by decide +kernel
theorem dX12_init_545 : decode cX12_init 545 = .ok (.newarray .int, 2) := by decide +kernel
theorem dX12_init_547 : decode cX12_init 547 = .ok (.putfield 57, 3) := by decide +kernel
theorem dX12_init_550 : decode cX12_init 550 = .ok (.aload_n 0, 1) := by decide +kernel
theorem dX12_init_551 : decode cX12_init 551 = .ok (.bipush 16, 2) := by decide +kernel
theorem dX12_init_553 : decode cX12_init 553 = .ok (.newarray .int, 2) := by decide +kernel
theorem dX12_init_555 : decode cX12_init 555 = .ok (.putfield 60, 3) := by decide +kernel
theorem dX12_init_558 : decode cX12_init 558 = .ok (.aload_n 0, 1) := by decide +kernel
theorem dX12_init_559 : decode cX12_init 559 = .ok (.bipush 20, 2) := by decide +kernel
theorem dX12_init_561 : decode cX12_init 561 = .ok (.newarray .int, 2) := by decide +kernel
theorem dX12_init_563 : decode cX12_init 563 = .ok (.putfield 63, 3) := by decide +kernel
theorem dX12_init_566 : decode cX12_init 566 = .ok (.aload_n 0, 1) := by decide +kernel
theorem dX12_init_567 : decode cX12_init 567 = .ok (.bipush 10, 2) := by decide +kernel
theorem dX12_init_569 : decode cX12_init 569 = .ok (.newarray .int, 2) := by decide +kernel
theorem dX12_init_571 : decode cX12_init 571 = .ok (.putfield 66, 3) := by decide +kernel
theorem dX12_init_574 : decode cX12_init 574 = .ok (.aload_n 0, 1) := by decide +kernel
theorem dX12_init_575 : decode cX12_init 575 = .ok (.bipush 10, 2) := by decide +kernel
theorem dX12_init_577 : decode cX12_init 577 = .ok (.newarray .int, 2) := by decide +kernel
theorem dX12_init_579 : decode cX12_init 579 = .ok (.putfield 69, 3) := by decide +kernel
theorem dX12_init_582 : decode cX12_init 582 = .ok (.aload_n 0, 1) := by decide +kernel
theorem dX12_init_583 : decode cX12_init 583 = .ok (.sipush 9685, 3) := by decide +kernel
theorem dX12_init_586 : decode cX12_init 586 = .ok (.newarray .int, 2) := by decide +kernel
theorem dX12_init_588 : decode cX12_init 588 = .ok (.putfield 72, 3) := by decide +kernel
theorem dX12_init_591 : decode cX12_init 591 = .ok (.aload_n 0, 1) := by decide +kernel
theorem dX12_init_592 : decode cX12_init 592 = .ok (.bipush 16, 2) := by decide +kernel
theorem dX12_init_594 : decode cX12_init 594 = .ok (.newarray .int, 2) := by decide +kernel
theorem dX12_init_596 : decode cX12_init 596 = .ok (.putfield 75, 3) := by decide +kernel
theorem dX12_init_599 : decode cX12_init 599 = .ok (.aload_n 0, 1) := by decide +kernel
theorem dX12_init_600 : decode cX12_init 600 = .ok (.sipush 256, 3) := by decide +kernel
theorem dX12_init_603 : decode cX12_init 603 = .ok (.newarray .int, 2) := by decide +kernel
theorem dX12_init_605 : decode cX12_init 605 = .ok (.putfield 78, 3) := by decide +kernel
theorem dX12_init_608 : decode cX12_init 608 = .ok (.aload_n 0, 1) := by decide +kernel
theorem dX12_init_609 : decode cX12_init 609 = .ok (.bipush 6, 2) := by decide +kernel
theorem dX12_init_611 : decode cX12_init 611 = .ok (.newarray .int, 2) := by decide +kernel
theorem dX12_init_613 : decode cX12_init 613 = .ok (.putfield 81, 3) := by decide +kernel
theorem dX12_init_616 : decode cX12_init 616 = .ok (.aload_n 0, 1) := by decide +kernel
theorem dX12_init_617 : decode cX12_init 617 = .ok (.bipush 6, 2) := by decide +kernel
theorem dX12_init_619 : decode cX12_init 619 = .ok (.newarray .int, 2) := by decide +kernel
theorem dX12_init_621 : decode cX12_init 621 = .ok (.putfield 84, 3) := by decide +kernel
theorem dX12_init_624 : decode cX12_init 624 = .ok (.aload_n 0, 1) := by decide +kernel
theorem dX12_init_625 : decode cX12_init 625 = .ok (.bipush 10, 2) := by decide +kernel
theorem dX12_init_627 : decode cX12_init 627 = .ok (.newarray .int, 2) := by decide +kernel
theorem dX12_init_629 : decode cX12_init 629 = .ok (.putfield 87, 3) := by decide +kernel
theorem dX12_init_632 : decode cX12_init 632 = .ok (.aload_n 0, 1) := by decide +kernel
theorem dX12_init_633 : decode cX12_init 633 = .ok (.bipush 10, 2) := by decide +kernel
theorem dX12_init_635 : decode cX12_init 635 = .ok (.newarray .int, 2) := by decide +kernel
theorem dX12_init_637 : decode cX12_init 637 = .ok (.putfield 90, 3) := by decide +kernel
theorem dX12_init_640 : decode cX12_init 640 = .ok (.aload_n 0, 1) := by decide +kernel
theorem dX12_init_641 : decode cX12_init 641 = .ok (.sipush 20005, 3) := by decide +kernel
theorem dX12_init_644 : decode cX12_init 644 = .ok (.newarray .int, 2) := by decide +kernel
theorem dX12_init_646 : decode cX12_init 646 = .ok (.putfield 93, 3) := by decide +kernel
theorem dX12_init_649 : decode cX12_init 649 = .ok (.aload_n 0, 1) := by decide +kernel
theorem dX12_init_650 : decode cX12_init 650 = .ok (.sipush 4001, 3) := by decide +kernel
theorem dX12_init_653 : decode cX12_init 653 = .ok (.newarray .int, 2) := by decide +kernel
theorem dX12_init_655 : decode cX12_init 655 = .ok (.putfield 96, 3) := by decide +kernel
theorem dX12_init_658 : decode cX12_init 658 = .ok (.aload_n 0, 1) := by decide +kernel
theorem dX12_init_659 : decode cX12_init 659 = .ok (.sipush 4001, 3) := by decide +kernel
theorem dX12_init_662 : decode cX12_init 662 = .ok (.newarray .int, 2) := by decide +kernel
theorem dX12_init_664 : decode cX12_init 664 = .ok (.putfield 99, 3) := by decide +kernel
theorem dX12_init_667 : decode cX12_init 667 = .ok (.aload_n 0, 1) := by decide +kernel
theorem dX12_init_668 : decode cX12_init 668 = .ok (.sipush 4001, 3) := by decide +kernel
theorem dX12_init_671 : decode cX12_init 671 = .ok (.newarray .int, 2) := by decide +kernel
theorem dX12_init_673 : decode cX12_init 673 = .ok (.putfield 102, 3) := by decide +kernel
theorem dX12_init_676 : decode cX12_init 676 = .ok (.aload_n 0, 1) := by decide +kernel
theorem dX12_init_677 : decode cX12_init 677 = .ok (.sipush 16384, 3) := by decide +kernel
theorem dX12_init_680 : decode cX12_init 680 = .ok (.newarray .int, 2) := by decide +kernel
theorem dX12_init_682 : decode cX12_init 682 = .ok (.putfield 105, 3) := by decide +kernel
theorem dX12_init_685 : decode cX12_init 685 = .ok (.aload_n 0, 1) := by decide +kernel
theorem dX12_init_686 : decode cX12_init 686 = .ok (.bipush 6, 2) := by decide +kernel
theorem dX12_init_688 : decode cX12_init 688 = .ok (.newarray .int, 2) := by decide +kernel
theorem dX12_init_690 : decode cX12_init 690 = .ok (.putfield 108, 3) := by decide +kernel
theorem dX12_init_693 : decode cX12_init 693 = .ok (.aload_n 0, 1) := by decide +kernel
theorem dX12_init_694 : decode cX12_init 694 = .ok (.bipush 6, 2) := by decide +kernel
theorem dX12_init_696 : decode cX12_init 696 = .ok (.newarray .int, 2) := by decide +kernel
theorem dX12_init_698 : decode cX12_init 698 = .ok (.putfield 111, 3) := by decide +kernel
theorem dX12_init_701 : decode cX12_init 701 = .ok (.aload_n 0, 1) := by decide +kernel
theorem dX12_init_702 : decode cX12_init 702 = .ok (.bipush 8, 2) := by decide +kernel
theorem dX12_init_704 : decode cX12_init 704 = .ok (.newarray .int, 2) := by decide +kernel
theorem dX12_init_706 : decode cX12_init 706 = .ok (.putfield 114, 3) := by decide +kernel
theorem dX12_init_709 : decode cX12_init 709 = .ok (.aload_n 0, 1) := by decide +kernel
theorem dX12_init_710 : decode cX12_init 710 = .ok (.bipush 6, 2) := by decide +kernel
theorem dX12_init_712 : decode cX12_init 712 = .ok (.newarray .int, 2) := by decide +kernel
theorem dX12_init_714 : decode cX12_init 714 = .ok (.putfield 117, 3) := by decide +kernel
theorem dX12_init_717 : decode cX12_init 717 = .ok (.aload_n 0, 1) := by decide +kernel
theorem dX12_init_718 : decode cX12_init 718 = .ok (.ldc 120, 2) := by decide +kernel
theorem dX12_init_720 : decode cX12_init 720 = .ok (.newarray .int, 2) := by decide +kernel
theorem dX12_init_722 : decode cX12_init 722 = .ok (.putfield 121, 3) := by decide +kernel
theorem dX12_init_725 : decode cX12_init 725 = .ok (.aload_n 0, 1) := by decide +kernel
theorem dX12_init_726 : decode cX12_init 726 = .ok (.sipush 19370, 3) := by decide +kernel
theorem dX12_init_729 : decode cX12_init 729 = .ok (.newarray .int, 2) := by decide +kernel
theorem dX12_init_731 : decode cX12_init 731 = .ok (.putfield 124, 3) := by decide +kernel
theorem dX12_init_734 : decode cX12_init 734 = .ok (.aload_n 0, 1) := by decide +kernel
theorem dX12_init_735 : decode cX12_init 735 = .ok (.iconst 2, 1) := by decide +kernel
theorem dX12_init_736 : decode cX12_init 736 = .ok (.newarray .boolean, 2) := by decide +kernel
theorem dX12_init_738 : decode cX12_init 738 = .ok (.putfield 127, 3) := by decide +kernel
theorem dX12_init_741 : decode cX12_init 741 = .ok (.aload_n 0, 1) := by decide +kernel
theorem dX12_init_742 : decode cX12_init 742 = .ok (.iconst 0, 1) := by decide +kernel
theorem dX12_init_743 : decode cX12_init 743 = .ok (.invokevirtual 131, 3) := by decide +kernel
theorem dX12_init_746 : decode cX12_init 746 = .ok (.aload_n 0, 1) := by decide +kernel
theorem dX12_init_747 : decode cX12_init 747 = .ok (.invokevirtual 135, 3) := by decide +kernel
theorem dX12_init_750 : decode cX12_init 750 = .ok (.return_, 1) := by decide +kernel
theorem dX12_isIn_0 : decode cX12_isIn 0 = .ok (.iload_n 0, 1) := by decide +kernel
theorem dX12_isIn_1 : decode cX12_isIn 1 = .ok (.iload_n 1, 1) := by decide +kernel
theorem dX12_isIn_2 : decode cX12_isIn 2 = .ok (.if_icmp .lt 12, 3) := by decide +kernel
theorem dX12_isIn_5 : decode cX12_isIn 5 = .ok (.iload_n 0, 1) := by decide +kernel
theorem dX12_isIn_6 : decode cX12_isIn 6 = .ok (.iload_n 2, 1) := by decide +kernel
theorem dX12_isIn_7 : decode cX12_isIn 7 = .ok (.if_icmp .gt 7, 3) := by decide +kernel
theorem dX12_isIn_10 : decode cX12_isIn 10 = .ok (.iconst 1, 1) := by decide +kernel
theorem dX12_isIn_11 : decode cX12_isIn 11 = .ok (.goto 4, 3) := by decide +kernel
theorem dX12_isIn_14 : decode cX12_isIn 14 = .ok (.iconst 0, 1) := by decide +kernel
theorem dX12_isIn_15 : decode cX12_isIn 15 = .ok (.ireturn, 1) := by decide +kernel
theorem dX12_has_0 : decode cX12_has 0 = .ok (.iload_n 0, 1) := by decide +kernel
theorem dX12_has_1 : decode cX12_has 1 = .ok (.iload_n 1, 1) := by decide +kernel
theorem dX12_has_2 : decode cX12_has 2 = .ok (.ishr, 1) := by decide +kernel
theorem dX12_has_3 : decode cX12_has 3 = .ok (.iconst 1, 1) := by decide +kernel
theorem dX12_has_4 : decode cX12_has 4 = .ok (.iand, 1) := by decide +kernel
theorem dX12_has_5 : decode cX12_has 5 = .ok (.iconst 1, 1) := by decide +kernel
theorem dX12_has_6 : decode cX12_has 6 = .ok (.if_icmp .ne 7, 3) := by decide +kernel
theorem dX12_has_9 : decode cX12_has 9 = .ok (.iconst 1, 1) := by decide +kernel
theorem dX12_has_10 : decode cX12_has 10 = .ok (.goto 4, 3) := by decide +kernel
theorem dX12_has_13 : decode cX12_has 13 = .ok (.iconst 0, 1) := by decide +kernel
theorem dX12_has_14 : decode cX12_has 14 = .ok (.ireturn, 1) := by decide +kernel
theorem dX12_more_0 : decode cX12_more 0 = .ok (.iload_n 0, 1) := by decide +kernel
theorem dX12_more_1 : decode cX12_more 1 = .ok (.iload_n 1, 1) := by decide +kernel
theorem dX12_more_2 : decode cX12_more 2 = .ok (.if_icmp .le 7, 3) := by decide +kernel
theorem dX12_more_5 : decode cX12_more 5 = .ok (.iload_n 0, 1) := by decide +kernel
theorem dX12_more_6 : decode cX12_more 6 = .ok (.goto 4, 3) := by decide +kernel
theorem dX12_more_9 : decode cX12_more 9 = .ok (.iload_n 1, 1) := by decide +kernel
theorem dX12_more_10 : decode cX12_more 10 = .ok (.ireturn, 1) := by decide +kernel
theorem dX12_size_0 : decode cX12_size 0 = .ok (.iconst 0, 1) := by decide +kernel
theorem dX12_size_1 : decode cX12_size 1 = .ok (.istore_n 1, 1) := by decide +kernel
theorem dX12_size_2 : decode cX12_size 2 = .ok (.iconst 0, 1) := by decide +kernel
theorem dX12_size_3 : decode cX12_size 3 = .ok (.istore_n 2, 1) := by decide +kernel
theorem dX12_size_4 : decode cX12_size 4 = .ok (.iload_n 2, 1) := by decide +kernel
theorem dX12_size_5 : decode cX12_size 5 = .ok (.bipush 20, 2) := by decide +kernel
theorem dX12_size_7 : decode cX12_size 7 = .ok (.if_icmp .ge 17, 3) := by decide +kernel
theorem dX12_size_10 : decode cX12_size 10 = .ok (.iload_n 1, 1) := by decide +kernel
theorem dX12_size_11 : decode cX12_size 11 = .ok (.iload_n 0, 1) := by decide +kernel
theorem dX12_size_12 : decode cX12_size 12 = .ok (.iload_n 2, 1) := by decide +kernel
theorem dX12_size_13 : decode cX12_size 13 = .ok (.ishr, 1) := by decide +kernel
theorem dX12_size_14 : decode cX12_size 14 = .ok (.iconst 1, 1) := by decide +kernel
theorem dX12_size_15 : decode cX12_size 15 = .ok (.iand, 1) := by decide +kernel
theorem dX12_size_16 : decode cX12_size 16 = .ok (.iadd, 1) := by decide +kernel
theorem dX12_size_17 : decode cX12_size 17 = .ok (.istore_n 1, 1) := by decide +kernel
theorem dX12_size_18 : decode cX12_size 18 = .ok (.iinc 2 1, 3) := by decide +kernel
theorem dX12_size_21 : decode cX12_size 21 = .ok (.goto (-17), 3) := by decide +kernel
theorem dX12_size_24 : decode cX12_size 24 = .ok (.iload_n 1, 1) := by decide +kernel
theorem dX12_size_25 : decode cX12_size 25 = .ok (.ireturn, 1) := by decide +kernel
theorem dX12_clearBank_0 : decode cX12_clearBank 0 = .ok (.aload_n 0, 1) := by decide +kernel
theorem dX12_clearBank_1 : decode cX12_clearBank 1 = .ok (.getfield 13, 3) := by decide +kernel
theorem dX12_clearBank_4 : decode cX12_clearBank 4 = .ok (.iload_n 1, 1) := by decide +kernel
theorem dX12_clearBank_5 : decode cX12_clearBank 5 = .ok (.iconst 0, 1) := by decide +kernel
theorem dX12_clearBank_6 : decode cX12_clearBank 6 = .ok (.iastore, 1) := by decide +kernel
theorem dX12_clearBank_7 : decode cX12_clearBank 7 = .ok (.aload_n 0, 1) := by decide +kernel
theorem dX12_clearBank_8 : decode cX12_clearBank 8 = .ok (.getfield 16, 3) := by decide +kernel
theorem dX12_clearBank_11 : decode cX12_clearBank 11 = .ok (.iload_n 1, 1) := by decide +kernel
theorem dX12_clearBank_12 : decode cX12_clearBank 12 = .ok (.iconst 0, 1) := by decide +kernel
theorem dX12_clearBank_13 : decode cX12_clearBank 13 = .ok (.iastore, 1) := by decide +kernel
theorem dX12_clearBank_14 : decode cX12_clearBank 14 = .ok (.aload_n 0, 1) := by decide +kernel
theorem dX12_clearBank_15 : decode cX12_clearBank 15 = .ok (.getfield 19, 3) := by decide +kernel
theorem dX12_clearBank_18 : decode cX12_clearBank 18 = .ok (.iload_n 1, 1) := by decide +kernel
theorem dX12_clearBank_19 : decode cX12_clearBank 19 = .ok (.iconst 0, 1) := by decide +kernel
theorem dX12_clearBank_20 : decode cX12_clearBank 20 = .ok (.iastore, 1) := by decide +kernel
theorem dX12_clearBank_21 : decode cX12_clearBank 21 = .ok (.return_, 1) := by decide +kernel
theorem dX12_feed_0 : decode cX12_feed 0 = .ok (.aload_n 0, 1) := by decide +kernel
theorem dX12_feed_1 : decode cX12_feed 1 = .ok (.getfield 138, 3) := by decide +kernel
theorem dX12_feed_4 : decode cX12_feed 4 = .ok (.bipush 20, 2) := by decide +kernel
theorem dX12_feed_6 : decode cX12_feed 6 = .ok (.iadd, 1) := by decide +kernel
theorem dX12_feed_7 : decode cX12_feed 7 = .ok (.sipush 900, 3) := by decide +kernel
theorem dX12_feed_10 : decode cX12_feed 10 = .ok (.if_icmp .le 5, 3) := by decide +kernel
theorem dX12_feed_13 : decode cX12_feed 13 = .ok (.iconst (-1), 1) := by decide +kernel
theorem dX12_feed_14 : decode cX12_feed 14 = .ok (.ireturn, 1) := by decide +kernel
theorem dX12_feed_15 : decode cX12_feed 15 = .ok (.iconst 0, 1) := by decide +kernel
theorem dX12_feed_16 : decode cX12_feed 16 = .ok (.istore 6, 2) := by decide +kernel
theorem dX12_feed_18 : decode cX12_feed 18 = .ok (.iload 6, 2) := by decide +kernel
theorem dX12_feed_20 : decode cX12_feed 20 = .ok (.bipush 20, 2) := by decide +kernel
theorem dX12_feed_22 : decode cX12_feed 22 = .ok (.if_icmp .ge 83, 3) := by decide +kernel
theorem dX12_feed_25 : decode cX12_feed 25 = .ok (.iload 6, 2) := by decide +kernel
theorem dX12_feed_27 : decode cX12_feed 27 = .ok (.iconst 4, 1) := by decide +kernel
theorem dX12_feed_28 : decode cX12_feed 28 = .ok (.if_icmp .ge 7, 3) := by decide +kernel
theorem dX12_feed_31 : decode cX12_feed 31 = .ok (.iload_n 1, 1) := by decide +kernel
theorem dX12_feed_32 : decode cX12_feed 32 = .ok (.goto 39, 3) := by decide +kernel
theorem dX12_feed_35 : decode cX12_feed 35 = .ok (.iload 6, 2) := by decide +kernel
theorem dX12_feed_37 : decode cX12_feed 37 = .ok (.bipush 8, 2) := by decide +kernel
theorem dX12_feed_39 : decode cX12_feed 39 = .ok (.if_icmp .ge 7, 3) := by decide +kernel
theorem dX12_feed_42 : decode cX12_feed 42 = .ok (.iload_n 2, 1) := by decide +kernel
theorem dX12_feed_43 : decode cX12_feed 43 = .ok (.goto 28, 3) := by decide +kernel
theorem dX12_feed_46 : decode cX12_feed 46 = .ok (.iload 6, 2) := by decide +kernel
theorem dX12_feed_48 : decode cX12_feed 48 = .ok (.bipush 12, 2) := by decide +kernel
theorem dX12_feed_50 : decode cX12_feed 50 = .ok (.if_icmp .ge 7, 3) := by decide +kernel
theorem dX12_feed_53 : decode cX12_feed 53 = .ok (.iload_n 3, 1) := by decide +kernel
theorem dX12_feed_54 : decode cX12_feed 54 = .ok (.goto 17, 3) := by decide +kernel
theorem dX12_feed_57 : decode cX12_feed 57 = .ok (.iload 6, 2) := by decide +kernel
theorem dX12_feed_59 : decode cX12_feed 59 = .ok (.bipush 16, 2) := by decide +kernel
theorem dX12_feed_61 : decode cX12_feed 61 = .ok (.if_icmp .ge 8, 3) := by decide +kernel
theorem dX12_feed_64 : decode cX12_feed 64 = .ok (.iload 4, 2) := by decide +kernel
theorem dX12_feed_66 : decode cX12_feed 66 = .ok (.goto 5, 3) := by decide +kernel
theorem dX12_feed_69 : decode cX12_feed 69 = .ok (.iload 5, 2) := by decide +kernel
theorem dX12_feed_71 : decode cX12_feed 71 = .ok (.istore 7, 2) := by decide +kernel
theorem dX12_feed_73 : decode cX12_feed 73 = .ok (.aload_n 0, 1) := by decide +kernel
theorem dX12_feed_74 : decode cX12_feed 74 = .ok (.getfield 37, 3) := by decide +kernel
theorem dX12_feed_77 : decode cX12_feed 77 = .ok (.aload_n 0, 1) := by decide +kernel
theorem dX12_feed_78 : decode cX12_feed 78 = .ok (.getfield 138, 3) := by decide +kernel
theorem dX12_feed_81 : decode cX12_feed 81 = .ok (.iload 6, 2) := by decide +kernel
theorem dX12_feed_83 : decode cX12_feed 83 = .ok (.iadd, 1) := by decide +kernel
theorem dX12_feed_84 : decode cX12_feed 84 = .ok (.iload 7, 2) := by decide +kernel
theorem dX12_feed_86 : decode cX12_feed 86 = .ok (.bipush 24, 2) := by decide +kernel
theorem dX12_feed_88 : decode cX12_feed 88 = .ok (.bipush 8, 2) := by decide +kernel
theorem dX12_feed_90 : decode cX12_feed 90 = .ok (.iload 6, 2) := by decide +kernel
theorem dX12_feed_92 : decode cX12_feed 92 = .ok (.iconst 3, 1) := by decide +kernel
theorem dX12_feed_93 : decode cX12_feed 93 = .ok (.iand, 1) := by decide +kernel
theorem dX12_feed_94 : decode cX12_feed 94 = .ok (.imul, 1) := by decide +kernel
theorem dX12_feed_95 : decode cX12_feed 95 = .ok (.isub, 1) := by decide +kernel
theorem dX12_feed_96 : decode cX12_feed 96 = .ok (.ishr, 1) := by decide +kernel
theorem dX12_feed_97 : decode cX12_feed 97 = .ok (.i2b, 1) := by decide +kernel
theorem dX12_feed_98 : decode cX12_feed 98 = .ok (.bastore, 1) := by decide +kernel
theorem dX12_feed_99 : decode cX12_feed 99 = .ok (.iinc 6 1, 3) := by decide +kernel
theorem dX12_feed_102 : decode cX12_feed 102 = .ok (.goto (-84), 3) := by decide +kernel
theorem dX12_feed_105 : decode cX12_feed 105 = .ok (.aload_n 0, 1) := by decide +kernel
theorem dX12_feed_106 : decode cX12_feed 106 = .ok (.dup, 1) := by decide +kernel
theorem dX12_feed_107 : decode cX12_feed 107 = .ok (.getfield 138, 3) := by decide +kernel
theorem dX12_feed_110 : decode cX12_feed 110 = .ok (.bipush 20, 2) := by decide +kernel
theorem dX12_feed_112 : decode cX12_feed 112 = .ok (.iadd, 1) := by decide +kernel
theorem dX12_feed_113 : decode cX12_feed 113 = .ok (.putfield 138, 3) := by decide +kernel
theorem dX12_feed_116 : decode cX12_feed 116 = .ok (.aload_n 0, 1) := by decide +kernel
theorem dX12_feed_117 : decode cX12_feed 117 = .ok (.getfield 138, 3) := by decide +kernel
theorem dX12_feed_120 : decode cX12_feed 120 = .ok (.ireturn, 1) := by decide +kernel
theorem dX12_end_0 : decode cX12_end 0 = .ok (.iload_n 1, 1) := by decide +kernel
theorem dX12_end_1 : decode cX12_end 1 = .ok (.ifCond .lt 11, 3) := by decide +kernel
theorem dX12_end_4 : decode cX12_end 4 = .ok (.iload_n 1, 1) := by decide +kernel
theorem dX12_end_5 : decode cX12_end 5 = .ok (.aload_n 0, 1) := by decide +kernel
theorem dX12_end_6 : decode cX12_end 6 = .ok (.getfield 138, 3) := by decide +kernel
theorem dX12_end_9 : decode cX12_end 9 = .ok (.if_icmp .le 5, 3) := by decide +kernel
theorem dX12_end_12 : decode cX12_end 12 = .ok (.iconst (-1), 1) := by decide +kernel
theorem dX12_end_13 : decode cX12_end 13 = .ok (.ireturn, 1) := by decide +kernel
theorem dX12_end_14 : decode cX12_end 14 = .ok (.aload_n 0, 1) := by decide +kernel
theorem dX12_end_15 : decode cX12_end 15 = .ok (.iload_n 1, 1) := by decide +kernel
theorem dX12_end_16 : decode cX12_end 16 = .ok (.putfield 138, 3) := by decide +kernel
theorem dX12_end_19 : decode cX12_end 19 = .ok (.iload_n 1, 1) := by decide +kernel
theorem dX12_end_20 : decode cX12_end 20 = .ok (.ireturn, 1) := by decide +kernel
theorem dX12_signAt_0 : decode cX12_signAt 0 = .ok (.iload_n 1, 1) := by decide +kernel
theorem dX12_signAt_1 : decode cX12_signAt 1 = .ok (.aload_n 0, 1) := by decide +kernel
theorem dX12_signAt_2 : decode cX12_signAt 2 = .ok (.getfield 141, 3) := by decide +kernel
theorem dX12_signAt_5 : decode cX12_signAt 5 = .ok (.if_icmp .ge 12, 3) := by decide +kernel
theorem dX12_signAt_8 : decode cX12_signAt 8 = .ok (.aload_n 0, 1) := by decide +kernel
theorem dX12_signAt_9 : decode cX12_signAt 9 = .ok (.getfield 37, 3) := by decide +kernel
theorem dX12_signAt_12 : decode cX12_signAt 12 = .ok (.iload_n 1, 1) := by decide +kernel
theorem dX12_signAt_13 : decode cX12_signAt 13 = .ok (.baload, 1) := by decide +kernel
theorem dX12_signAt_14 : decode cX12_signAt 14 = .ok (.goto 4, 3) := by decide +kernel
theorem dX12_signAt_17 : decode cX12_signAt 17 = .ok (.iconst 0, 1) := by decide +kernel
theorem dX12_signAt_18 : decode cX12_signAt 18 = .ok (.ireturn, 1) := by decide +kernel
theorem dX12_isLetter_0 : decode cX12_isLetter 0 = .ok (.iload_n 0, 1) := by decide +kernel
theorem dX12_isLetter_1 : decode cX12_isLetter 1 = .ok (.bipush 97, 2) := by decide +kernel
theorem dX12_isLetter_3 : decode cX12_isLetter 3 = .ok (.if_icmp .lt 13, 3) := by decide +kernel
theorem dX12_isLetter_6 : decode cX12_isLetter 6 = .ok (.iload_n 0, 1) := by decide +kernel
theorem dX12_isLetter_7 : decode cX12_isLetter 7 = .ok (.bipush 122, 2) := by decide +kernel
theorem dX12_isLetter_9 : decode cX12_isLetter 9 = .ok (.if_icmp .gt 7, 3) := by decide +kernel
theorem dX12_isLetter_12 : decode cX12_isLetter 12 = .ok (.iconst 1, 1) := by decide +kernel
theorem dX12_isLetter_13 : decode cX12_isLetter 13 = .ok (.goto 4, 3) := by decide +kernel
theorem dX12_isLetter_16 : decode cX12_isLetter 16 = .ok (.iconst 0, 1) := by decide +kernel
theorem dX12_isLetter_17 : decode cX12_isLetter 17 = .ok (.ireturn, 1) := by decide +kernel
theorem dX12_isBlank_0 : decode cX12_isBlank 0 = .ok (.iload_n 1, 1) := by decide +kernel
theorem dX12_isBlank_1 : decode cX12_isBlank 1 = .ok (.aload_n 0, 1) := by decide +kernel
theorem dX12_isBlank_2 : decode cX12_isBlank 2 = .ok (.getfield 141, 3) := by decide +kernel
theorem dX12_isBlank_5 : decode cX12_isBlank 5 = .ok (.if_icmp .ge 29, 3) := by decide +kernel
theorem dX12_isBlank_8 : decode cX12_isBlank 8 = .ok (.aload_n 0, 1) := by decide +kernel
theorem dX12_isBlank_9 : decode cX12_isBlank 9 = .ok (.getfield 37, 3) := by decide +kernel
theorem dX12_isBlank_12 : decode cX12_isBlank 12 = .ok (.iload_n 1, 1) := by decide +kernel
theorem dX12_isBlank_13 : decode cX12_isBlank 13 = .ok (.baload, 1) := by decide +kernel
theorem dX12_isBlank_14 : decode cX12_isBlank 14 = .ok (.bipush 32, 2) := by decide +kernel
theorem dX12_isBlank_16 : decode cX12_isBlank 16 = .ok (.if_icmp .eq 14, 3) := by decide +kernel
theorem dX12_isBlank_19 : decode cX12_isBlank 19 = .ok (.aload_n 0, 1) := by decide +kernel
theorem dX12_isBlank_20 : decode cX12_isBlank 20 = .ok (.getfield 37, 3) := by decide +kernel
theorem dX12_isBlank_23 : decode cX12_isBlank 23 = .ok (.iload_n 1, 1) := by decide +kernel
theorem dX12_isBlank_24 : decode cX12_isBlank 24 = .ok (.baload, 1) := by decide +kernel
theorem dX12_isBlank_25 : decode cX12_isBlank 25 = .ok (.bipush 10, 2) := by decide +kernel
theorem dX12_isBlank_27 : decode cX12_isBlank 27 = .ok (.if_icmp .ne 7, 3) := by decide +kernel
theorem dX12_isBlank_30 : decode cX12_isBlank 30 = .ok (.iconst 1, 1) := by decide +kernel
theorem dX12_isBlank_31 : decode cX12_isBlank 31 = .ok (.goto 4, 3) := by decide +kernel
theorem dX12_isBlank_34 : decode cX12_isBlank 34 = .ok (.iconst 0, 1) := by decide +kernel
theorem dX12_isBlank_35 : decode cX12_isBlank 35 = .ok (.ireturn, 1) := by decide +kernel
theorem dX12_scan_0 : decode cX12_scan 0 = .ok (.aload_n 0, 1) := by decide +kernel
theorem dX12_scan_1 : decode cX12_scan 1 = .ok (.aload_n 0, 1) := by decide +kernel
theorem dX12_scan_2 : decode cX12_scan 2 = .ok (.getfield 144, 3) := by decide +kernel
theorem dX12_scan_5 : decode cX12_scan 5 = .ok (.putfield 147, 3) := by decide +kernel
theorem dX12_scan_8 : decode cX12_scan 8 = .ok (.aload_n 0, 1) := by decide +kernel
theorem dX12_scan_9 : decode cX12_scan 9 = .ok (.aload_n 0, 1) := by decide +kernel
theorem dX12_scan_10 : decode cX12_scan 10 = .ok (.getfield 147, 3) := by decide +kernel
theorem dX12_scan_13 : decode cX12_scan 13 = .ok (.invokevirtual 150, 3) := by decide +kernel
theorem dX12_scan_16 : decode cX12_scan 16 = .ok (.ifCond .eq 16, 3) := by decide +kernel
theorem dX12_scan_19 : decode cX12_scan 19 = .ok (.aload_n 0, 1) := by decide +kernel
theorem dX12_scan_20 : decode cX12_scan 20 = .ok (.dup, 1) := by decide +kernel
theorem dX12_scan_21 : decode cX12_scan 21 = .ok (.getfield 147, 3) := by decide +kernel
theorem dX12_scan_24 : decode cX12_scan 24 = .ok (.iconst 1, 1) := by decide +kernel
theorem dX12_scan_25 : decode cX12_scan 25 = .ok (.iadd, 1) := by decide +kernel
theorem dX12_scan_26 : decode cX12_scan 26 = .ok (.putfield 147, 3) := by decide +kernel
theorem dX12_scan_29 : decode cX12_scan 29 = .ok (.goto (-21), 3) := by decide +kernel
theorem dX12_scan_32 : decode cX12_scan 32 = .ok (.aload_n 0, 1) := by decide +kernel
theorem dX12_scan_33 : decode cX12_scan 33 = .ok (.aload_n 0, 1) := by decide +kernel
theorem dX12_scan_34 : decode cX12_scan 34 = .ok (.getfield 147, 3) := by decide +kernel
theorem dX12_scan_37 : decode cX12_scan 37 = .ok (.iconst 1, 1) := by decide +kernel
theorem dX12_scan_38 : decode cX12_scan 38 = .ok (.iadd, 1) := by decide +kernel
theorem dX12_scan_39 : decode cX12_scan 39 = .ok (.putfield 144, 3) := by decide +kernel
theorem dX12_scan_42 : decode cX12_scan 42 = .ok (.aload_n 0, 1) := by decide +kernel
theorem dX12_scan_43 : decode cX12_scan 43 = .ok (.getfield 147, 3) := by decide +kernel
theorem dX12_scan_46 : decode cX12_scan 46 = .ok (.aload_n 0, 1) := by decide +kernel
theorem dX12_scan_47 : decode cX12_scan 47 = .ok (.getfield 141, 3) := by decide +kernel
theorem dX12_scan_50 : decode cX12_scan 50 = .ok (.if_icmp .lt 19, 3) := by decide +kernel
theorem dX12_scan_53 : decode cX12_scan 53 = .ok (.aload_n 0, 1) := by decide +kernel
theorem dX12_scan_54 : decode cX12_scan 54 = .ok (.aload_n 0, 1) := by decide +kernel
theorem dX12_scan_55 : decode cX12_scan 55 = .ok (.getfield 147, 3) := by decide +kernel
theorem dX12_scan_58 : decode cX12_scan 58 = .ok (.putfield 144, 3) := by decide +kernel
theorem dX12_scan_61 : decode cX12_scan 61 = .ok (.aload_n 0, 1) := by decide +kernel
theorem dX12_scan_62 : decode cX12_scan 62 = .ok (.iconst 0, 1) := by decide +kernel
theorem dX12_scan_63 : decode cX12_scan 63 = .ok (.putfield 154, 3) := by decide +kernel
theorem dX12_scan_66 : decode cX12_scan 66 = .ok (.goto 46, 3) := by decide +kernel
theorem dX12_scan_69 : decode cX12_scan 69 = .ok (.aload_n 0, 1) := by decide +kernel
theorem dX12_scan_70 : decode cX12_scan 70 = .ok (.aload_n 0, 1) := by decide +kernel
theorem dX12_scan_71 : decode cX12_scan 71 = .ok (.getfield 147, 3) := by decide +kernel
theorem dX12_scan_74 : decode cX12_scan 74 = .ok (.invokevirtual 157, 3) := by decide +kernel
theorem dX12_scan_77 : decode cX12_scan 77 = .ok (.invokestatic 161, 3) := by decide +kernel
theorem dX12_scan_80 : decode cX12_scan 80 = .ok (.ifCond .eq 10, 3) := by decide +kernel
theorem dX12_scan_83 : decode cX12_scan 83 = .ok (.aload_n 0, 1) := by decide +kernel
theorem dX12_scan_84 : decode cX12_scan 84 = .ok (.invokevirtual 164, 3) := by decide +kernel
theorem dX12_scan_87 : decode cX12_scan 87 = .ok (.goto 25, 3) := by decide +kernel
theorem dX12_scan_90 : decode cX12_scan 90 = .ok (.aload_n 0, 1) := by decide +kernel
theorem dX12_scan_91 : decode cX12_scan 91 = .ok (.aload_n 0, 1) := by decide +kernel
theorem dX12_scan_92 : decode cX12_scan 92 = .ok (.aload_n 0, 1) := by decide +kernel
theorem dX12_scan_93 : decode cX12_scan 93 = .ok (.getfield 147, 3) := by decide +kernel
theorem dX12_scan_96 : decode cX12_scan 96 = .ok (.invokevirtual 157, 3) := by decide +kernel
theorem dX12_scan_99 : decode cX12_scan 99 = .ok (.bipush 59, 2) := by decide +kernel
theorem dX12_scan_101 : decode cX12_scan 101 = .ok (.if_icmp .ne 7, 3) := by decide +kernel
theorem dX12_scan_104 : decode cX12_scan 104 = .ok (.iconst 3, 1) := by decide +kernel
theorem dX12_scan_105 : decode cX12_scan 105 = .ok (.goto 4, 3) := by decide +kernel
theorem dX12_scan_108 : decode cX12_scan 108 = .ok (.iconst 1, 1) := by decide +kernel
theorem dX12_scan_109 : decode cX12_scan 109 = .ok (.putfield 154, 3) := by decide +kernel
theorem dX12_scan_112 : decode cX12_scan 112 = .ok (.return_, 1) := by decide +kernel
theorem dX12_scanWord_0 : decode cX12_scanWord 0 = .ok (.aload_n 0, 1) := by decide +kernel
theorem dX12_scanWord_1 : decode cX12_scanWord 1 = .ok (.iconst 2, 1) := by decide +kernel
theorem dX12_scanWord_2 : decode cX12_scanWord 2 = .ok (.putfield 154, 3) := by decide +kernel
theorem dX12_scanWord_5 : decode cX12_scanWord 5 = .ok (.aload_n 0, 1) := by decide +kernel
theorem dX12_scanWord_6 : decode cX12_scanWord 6 = .ok (.aload_n 0, 1) := by decide +kernel
theorem dX12_scanWord_7 : decode cX12_scanWord 7 = .ok (.getfield 147, 3) := by decide +kernel
theorem dX12_scanWord_10 : decode cX12_scanWord 10 = .ok (.putfield 144, 3) := by decide +kernel
theorem dX12_scanWord_13 : decode cX12_scanWord 13 = .ok (.aload_n 0, 1) := by decide +kernel
theorem dX12_scanWord_14 : decode cX12_scanWord 14 = .ok (.aload_n 0, 1) := by decide +kernel
theorem dX12_scanWord_15 : decode cX12_scanWord 15 = .ok (.getfield 144, 3) := by decide +kernel
theorem dX12_scanWord_18 : decode cX12_scanWord 18 = .ok (.invokevirtual 157, 3) := by decide +kernel
theorem dX12_scanWord_21 : decode cX12_scanWord 21 = .ok (.invokestatic 161, 3) := by decide +kernel
theorem dX12_scanWord_24 : decode cX12_scanWord 24 = .ok (.ifCond .eq 16, 3) := by decide +kernel
theorem dX12_scanWord_27 : decode cX12_scanWord 27 = .ok (.aload_n 0, 1) := by decide +kernel
theorem dX12_scanWord_28 : decode cX12_scanWord 28 = .ok (.dup, 1) := by decide +kernel
theorem dX12_scanWord_29 : decode cX12_scanWord 29 = .ok (.getfield 144, 3) := by decide +kernel
theorem dX12_scanWord_32 : decode cX12_scanWord 32 = .ok (.iconst 1, 1) := by decide +kernel
theorem dX12_scanWord_33 : decode cX12_scanWord 33 = .ok (.iadd, 1) := by decide +kernel
theorem dX12_scanWord_34 : decode cX12_scanWord 34 = .ok (.putfield 144, 3) := by decide +kernel
theorem dX12_scanWord_37 : decode cX12_scanWord 37 = .ok (.goto (-24), 3) := by decide +kernel
theorem dX12_scanWord_40 : decode cX12_scanWord 40 = .ok (.aload_n 0, 1) := by decide +kernel
theorem dX12_scanWord_41 : decode cX12_scanWord 41 = .ok (.iconst (-1), 1) := by decide +kernel
theorem dX12_scanWord_42 : decode cX12_scanWord 42 = .ok (.putfield 167, 3) := by decide +kernel
theorem dX12_scanWord_45 : decode cX12_scanWord 45 = .ok (.iconst 0, 1) := by decide +kernel
theorem dX12_scanWord_46 : decode cX12_scanWord 46 = .ok (.istore_n 1, 1) := by decide +kernel
theorem dX12_scanWord_47 : decode cX12_scanWord 47 = .ok (.iconst 0, 1) := by decide +kernel
theorem dX12_scanWord_48 : decode cX12_scanWord 48 = .ok (.istore_n 2, 1) := by decide +kernel
theorem dX12_scanWord_49 : decode cX12_scanWord 49 = .ok (.iload_n 2, 1) := by decide +kernel
theorem dX12_scanWord_50 : decode cX12_scanWord 50 = .ok (.bipush 15, 2) := by decide +kernel
theorem dX12_scanWord_52 : decode cX12_scanWord 52 = .ok (.if_icmp .ge 46, 3) := by decide +kernel
theorem dX12_scanWord_55 : decode cX12_scanWord 55 = .ok (.iload_n 1, 1) := by decide +kernel
theorem dX12_scanWord_56 : decode cX12_scanWord 56 = .ok (.istore_n 3, 1) := by decide +kernel
theorem dX12_scanWord_57 : decode cX12_scanWord 57 = .ok (.aload_n 0, 1) := by decide +kernel
theorem dX12_scanWord_58 : decode cX12_scanWord 58 = .ok (.getfield 45, 3) := by decide +kernel
theorem dX12_scanWord_61 : decode cX12_scanWord 61 = .ok (.iload_n 3, 1) := by decide +kernel
theorem dX12_scanWord_62 : decode cX12_scanWord 62 = .ok (.baload, 1) := by decide +kernel
theorem dX12_scanWord_63 : decode cX12_scanWord 63 = .ok (.bipush 32, 2) := by decide +kernel
theorem dX12_scanWord_65 : decode cX12_scanWord 65 = .ok (.if_icmp .eq 9, 3) := by decide +kernel
theorem dX12_scanWord_68 : decode cX12_scanWord 68 = .ok (.iinc 3 1, 3) := by decide +kernel
theorem dX12_scanWord_71 : decode cX12_scanWord 71 = .ok (.goto (-14), 3) := by decide +kernel
theorem dX12_scanWord_74 : decode cX12_scanWord 74 = .ok (.aload_n 0, 1) := by decide +kernel
theorem dX12_scanWord_75 : decode cX12_scanWord 75 = .ok (.iload_n 1, 1) := by decide +kernel
theorem dX12_scanWord_76 : decode cX12_scanWord 76 = .ok (.iload_n 3, 1) := by decide +kernel
theorem dX12_scanWord_77 : decode cX12_scanWord 77 = .ok (.invokevirtual 170, 3) := by decide +kernel
theorem dX12_scanWord_80 : decode cX12_scanWord 80 = .ok (.ifCond .eq 8, 3) := by decide +kernel
theorem dX12_scanWord_83 : decode cX12_scanWord 83 = .ok (.aload_n 0, 1) := by decide +kernel
theorem dX12_scanWord_84 : decode cX12_scanWord 84 = .ok (.iload_n 2, 1) := by decide +kernel
theorem dX12_scanWord_85 : decode cX12_scanWord 85 = .ok (.putfield 167, 3) := by decide +kernel
theorem dX12_scanWord_88 : decode cX12_scanWord 88 = .ok (.iload_n 3, 1) := by decide +kernel
theorem dX12_scanWord_89 : decode cX12_scanWord 89 = .ok (.iconst 1, 1) := by decide +kernel
theorem dX12_scanWord_90 : decode cX12_scanWord 90 = .ok (.iadd, 1) := by decide +kernel
theorem dX12_scanWord_91 : decode cX12_scanWord 91 = .ok (.istore_n 1, 1) := by decide +kernel
theorem dX12_scanWord_92 : decode cX12_scanWord 92 = .ok (.iinc 2 1, 3) := by decide +kernel
theorem dX12_scanWord_95 : decode cX12_scanWord 95 = .ok (.goto (-46), 3) := by decide +kernel
theorem dX12_scanWord_98 : decode cX12_scanWord 98 = .ok (.return_, 1) := by decide +kernel
theorem dX12_isSame_0 : decode cX12_isSame 0 = .ok (.iload_n 2, 1) := by decide +kernel
theorem dX12_isSame_1 : decode cX12_isSame 1 = .ok (.iload_n 1, 1) := by decide +kernel
theorem dX12_isSame_2 : decode cX12_isSame 2 = .ok (.isub, 1) := by decide +kernel
theorem dX12_isSame_3 : decode cX12_isSame 3 = .ok (.aload_n 0, 1) := by decide +kernel
theorem dX12_isSame_4 : decode cX12_isSame 4 = .ok (.getfield 144, 3) := by decide +kernel
theorem dX12_isSame_7 : decode cX12_isSame 7 = .ok (.aload_n 0, 1) := by decide +kernel
theorem dX12_isSame_8 : decode cX12_isSame 8 = .ok (.getfield 147, 3) := by decide +kernel
theorem dX12_isSame_11 : decode cX12_isSame 11 = .ok (.isub, 1) := by decide +kernel
theorem dX12_isSame_12 : decode cX12_isSame 12 = .ok (.if_icmp .eq 5, 3) := by decide +kernel
theorem dX12_isSame_15 : decode cX12_isSame 15 = .ok (.iconst 0, 1) := by decide +kernel
theorem dX12_isSame_16 : decode cX12_isSame 16 = .ok (.ireturn, 1) := by decide +kernel
theorem dX12_isSame_17 : decode cX12_isSame 17 = .ok (.iconst 0, 1) := by decide +kernel
theorem dX12_isSame_18 : decode cX12_isSame 18 = .ok (.istore_n 3, 1) := by decide +kernel
theorem dX12_isSame_19 : decode cX12_isSame 19 = .ok (.iload_n 3, 1) := by decide +kernel
theorem dX12_isSame_20 : decode cX12_isSame 20 = .ok (.iload_n 2, 1) := by decide +kernel
theorem dX12_isSame_21 : decode cX12_isSame 21 = .ok (.iload_n 1, 1) := by decide +kernel
theorem dX12_isSame_22 : decode cX12_isSame 22 = .ok (.isub, 1) := by decide +kernel
theorem dX12_isSame_23 : decode cX12_isSame 23 = .ok (.if_icmp .ge 33, 3) := by decide +kernel
theorem dX12_isSame_26 : decode cX12_isSame 26 = .ok (.aload_n 0, 1) := by decide +kernel
theorem dX12_isSame_27 : decode cX12_isSame 27 = .ok (.getfield 45, 3) := by decide +kernel
theorem dX12_isSame_30 : decode cX12_isSame 30 = .ok (.iload_n 1, 1) := by decide +kernel
theorem dX12_isSame_31 : decode cX12_isSame 31 = .ok (.iload_n 3, 1) := by decide +kernel
theorem dX12_isSame_32 : decode cX12_isSame 32 = .ok (.iadd, 1) := by decide +kernel
theorem dX12_isSame_33 : decode cX12_isSame 33 = .ok (.baload, 1) := by decide +kernel
theorem dX12_isSame_34 : decode cX12_isSame 34 = .ok (.aload_n 0, 1) := by decide +kernel
theorem dX12_isSame_35 : decode cX12_isSame 35 = .ok (.getfield 37, 3) := by decide +kernel
theorem dX12_isSame_38 : decode cX12_isSame 38 = .ok (.aload_n 0, 1) := by decide +kernel
theorem dX12_isSame_39 : decode cX12_isSame 39 = .ok (.getfield 147, 3) := by decide +kernel
theorem dX12_isSame_42 : decode cX12_isSame 42 = .ok (.iload_n 3, 1) := by decide +kernel
theorem dX12_isSame_43 : decode cX12_isSame 43 = .ok (.iadd, 1) := by decide +kernel
theorem dX12_isSame_44 : decode cX12_isSame 44 = .ok (.baload, 1) := by decide +kernel
theorem dX12_isSame_45 : decode cX12_isSame 45 = .ok (.if_icmp .eq 5, 3) := by decide +kernel
theorem dX12_isSame_48 : decode cX12_isSame 48 = .ok (.iconst 0, 1) := by decide +kernel
theorem dX12_isSame_49 : decode cX12_isSame 49 = .ok (.ireturn, 1) := by decide +kernel
theorem dX12_isSame_50 : decode cX12_isSame 50 = .ok (.iinc 3 1, 3) := by decide +kernel
theorem dX12_isSame_53 : decode cX12_isSame 53 = .ok (.goto (-34), 3) := by decide +kernel
theorem dX12_isSame_56 : decode cX12_isSame 56 = .ok (.iconst 1, 1) := by decide +kernel
theorem dX12_isSame_57 : decode cX12_isSame 57 = .ok (.ireturn, 1) := by decide +kernel
theorem dX12_fail_0 : decode cX12_fail 0 = .ok (.aload_n 0, 1) := by decide +kernel
theorem dX12_fail_1 : decode cX12_fail 1 = .ok (.getfield 174, 3) := by decide +kernel
theorem dX12_fail_4 : decode cX12_fail 4 = .ok (.ifCond .le 4, 3) := by decide +kernel
theorem dX12_fail_7 : decode cX12_fail 7 = .ok (.return_, 1) := by decide +kernel
theorem dX12_fail_8 : decode cX12_fail 8 = .ok (.aload_n 0, 1) := by decide +kernel
theorem dX12_fail_9 : decode cX12_fail 9 = .ok (.iload_n 1, 1) := by decide +kernel
theorem dX12_fail_10 : decode cX12_fail 10 = .ok (.putfield 174, 3) := by decide +kernel
theorem dX12_fail_13 : decode cX12_fail 13 = .ok (.aload_n 0, 1) := by decide +kernel
theorem dX12_fail_14 : decode cX12_fail 14 = .ok (.aload_n 0, 1) := by decide +kernel
theorem dX12_fail_15 : decode cX12_fail 15 = .ok (.getfield 147, 3) := by decide +kernel
theorem dX12_fail_18 : decode cX12_fail 18 = .ok (.putfield 177, 3) := by decide +kernel
theorem dX12_fail_21 : decode cX12_fail 21 = .ok (.return_, 1) := by decide +kernel
theorem dX12_isWord_0 : decode cX12_isWord 0 = .ok (.aload_n 0, 1) := by decide +kernel
theorem dX12_isWord_1 : decode cX12_isWord 1 = .ok (.getfield 174, 3) := by decide +kernel
theorem dX12_isWord_4 : decode cX12_isWord 4 = .ok (.ifCond .ne 23, 3) := by decide +kernel
theorem dX12_isWord_7 : decode cX12_isWord 7 = .ok (.aload_n 0, 1) := by decide +kernel
theorem dX12_isWord_8 : decode cX12_isWord 8 = .ok (.getfield 154, 3) := by decide +kernel
theorem dX12_isWord_11 : decode cX12_isWord 11 = .ok (.iconst 2, 1) := by decide +kernel
theorem dX12_isWord_12 : decode cX12_isWord 12 = .ok (.if_icmp .ne 15, 3) := by decide +kernel
theorem dX12_isWord_15 : decode cX12_isWord 15 = .ok (.aload_n 0, 1) := by decide +kernel
theorem dX12_isWord_16 : decode cX12_isWord 16 = .ok (.getfield 167, 3) := by decide +kernel
theorem dX12_isWord_19 : decode cX12_isWord 19 = .ok (.iload_n 1, 1) := by decide +kernel
theorem dX12_isWord_20 : decode cX12_isWord 20 = .ok (.if_icmp .ne 7, 3) := by decide +kernel
theorem dX12_isWord_23 : decode cX12_isWord 23 = .ok (.iconst 1, 1) := by decide +kernel
theorem dX12_isWord_24 : decode cX12_isWord 24 = .ok (.goto 4, 3) := by decide +kernel
theorem dX12_isWord_27 : decode cX12_isWord 27 = .ok (.iconst 0, 1) := by decide +kernel
theorem dX12_isWord_28 : decode cX12_isWord 28 = .ok (.ireturn, 1) := by decide +kernel
theorem dX12_isName_0 : decode cX12_isName 0 = .ok (.aload_n 0, 1) := by decide +kernel
theorem dX12_isName_1 : decode cX12_isName 1 = .ok (.getfield 174, 3) := by decide +kernel
theorem dX12_isName_4 : decode cX12_isName 4 = .ok (.ifCond .ne 23, 3) := by decide +kernel
theorem dX12_isName_7 : decode cX12_isName 7 = .ok (.aload_n 0, 1) := by decide +kernel
theorem dX12_isName_8 : decode cX12_isName 8 = .ok (.getfield 154, 3) := by decide +kernel
theorem dX12_isName_11 : decode cX12_isName 11 = .ok (.iconst 2, 1) := by decide +kernel
theorem dX12_isName_12 : decode cX12_isName 12 = .ok (.if_icmp .ne 15, 3) := by decide +kernel
theorem dX12_isName_15 : decode cX12_isName 15 = .ok (.aload_n 0, 1) := by decide +kernel
theorem dX12_isName_16 : decode cX12_isName 16 = .ok (.getfield 167, 3) := by decide +kernel
theorem dX12_isName_19 : decode cX12_isName 19 = .ok (.iconst (-1), 1) := by decide +kernel
theorem dX12_isName_20 : decode cX12_isName 20 = .ok (.if_icmp .ne 7, 3) := by decide +kernel
theorem dX12_isName_23 : decode cX12_isName 23 = .ok (.iconst 1, 1) := by decide +kernel
theorem dX12_isName_24 : decode cX12_isName 24 = .ok (.goto 4, 3) := by decide +kernel
theorem dX12_isName_27 : decode cX12_isName 27 = .ok (.iconst 0, 1) := by decide +kernel
theorem dX12_isName_28 : decode cX12_isName 28 = .ok (.ireturn, 1) := by decide +kernel
theorem dX12_isStop_0 : decode cX12_isStop 0 = .ok (.aload_n 0, 1) := by decide +kernel
theorem dX12_isStop_1 : decode cX12_isStop 1 = .ok (.getfield 174, 3) := by decide +kernel
theorem dX12_isStop_4 : decode cX12_isStop 4 = .ok (.ifCond .ne 15, 3) := by decide +kernel
theorem dX12_isStop_7 : decode cX12_isStop 7 = .ok (.aload_n 0, 1) := by decide +kernel
theorem dX12_isStop_8 : decode cX12_isStop 8 = .ok (.getfield 154, 3) := by decide +kernel
theorem dX12_isStop_11 : decode cX12_isStop 11 = .ok (.iconst 3, 1) := by decide +kernel
theorem dX12_isStop_12 : decode cX12_isStop 12 = .ok (.if_icmp .ne 7, 3) := by decide +kernel
theorem dX12_isStop_15 : decode cX12_isStop 15 = .ok (.iconst 1, 1) := by decide +kernel
theorem dX12_isStop_16 : decode cX12_isStop 16 = .ok (.goto 4, 3) := by decide +kernel
theorem dX12_isStop_19 : decode cX12_isStop 19 = .ok (.iconst 0, 1) := by decide +kernel
theorem dX12_isStop_20 : decode cX12_isStop 20 = .ok (.ireturn, 1) := by decide +kernel
theorem dX12_isNamed_0 : decode cX12_isNamed 0 = .ok (.aload_n 0, 1) := by decide +kernel
theorem dX12_isNamed_1 : decode cX12_isNamed 1 = .ok (.getfield 51, 3) := by decide +kernel
theorem dX12_isNamed_4 : decode cX12_isNamed 4 = .ok (.iload_n 1, 1) := by decide +kernel
theorem dX12_isNamed_5 : decode cX12_isNamed 5 = .ok (.iaload, 1) := by decide +kernel
theorem dX12_isNamed_6 : decode cX12_isNamed 6 = .ok (.aload_n 0, 1) := by decide +kernel
theorem dX12_isNamed_7 : decode cX12_isNamed 7 = .ok (.getfield 144, 3) := by decide +kernel
theorem dX12_isNamed_10 : decode cX12_isNamed 10 = .ok (.aload_n 0, 1) := by decide +kernel
theorem dX12_isNamed_11 : decode cX12_isNamed 11 = .ok (.getfield 147, 3) := by decide +kernel
theorem dX12_isNamed_14 : decode cX12_isNamed 14 = .ok (.isub, 1) := by decide +kernel
theorem dX12_isNamed_15 : decode cX12_isNamed 15 = .ok (.if_icmp .eq 5, 3) := by decide +kernel
theorem dX12_isNamed_18 : decode cX12_isNamed 18 = .ok (.iconst 0, 1) := by decide +kernel
theorem dX12_isNamed_19 : decode cX12_isNamed 19 = .ok (.ireturn, 1) := by decide +kernel
theorem dX12_isNamed_20 : decode cX12_isNamed 20 = .ok (.iconst 0, 1) := by decide +kernel
theorem dX12_isNamed_21 : decode cX12_isNamed 21 = .ok (.istore_n 2, 1) := by decide +kernel
theorem dX12_isNamed_22 : decode cX12_isNamed 22 = .ok (.iload_n 2, 1) := by decide +kernel
theorem dX12_isNamed_23 : decode cX12_isNamed 23 = .ok (.aload_n 0, 1) := by decide +kernel
theorem dX12_isNamed_24 : decode cX12_isNamed 24 = .ok (.getfield 51, 3) := by decide +kernel
theorem dX12_isNamed_27 : decode cX12_isNamed 27 = .ok (.iload_n 1, 1) := by decide +kernel
theorem dX12_isNamed_28 : decode cX12_isNamed 28 = .ok (.iaload, 1) := by decide +kernel
theorem dX12_isNamed_29 : decode cX12_isNamed 29 = .ok (.if_icmp .ge 38, 3) := by decide +kernel
theorem dX12_isNamed_32 : decode cX12_isNamed 32 = .ok (.aload_n 0, 1) := by decide +kernel
theorem dX12_isNamed_33 : decode cX12_isNamed 33 = .ok (.getfield 37, 3) := by decide +kernel
theorem dX12_isNamed_36 : decode cX12_isNamed 36 = .ok (.aload_n 0, 1) := by decide +kernel
theorem dX12_isNamed_37 : decode cX12_isNamed 37 = .ok (.getfield 48, 3) := by decide +kernel
theorem dX12_isNamed_40 : decode cX12_isNamed 40 = .ok (.iload_n 1, 1) := by decide +kernel
theorem dX12_isNamed_41 : decode cX12_isNamed 41 = .ok (.iaload, 1) := by decide +kernel
theorem dX12_isNamed_42 : decode cX12_isNamed 42 = .ok (.iload_n 2, 1) := by decide +kernel
theorem dX12_isNamed_43 : decode cX12_isNamed 43 = .ok (.iadd, 1) := by decide +kernel
theorem dX12_isNamed_44 : decode cX12_isNamed 44 = .ok (.baload, 1) := by decide +kernel
theorem dX12_isNamed_45 : decode cX12_isNamed 45 = .ok (.aload_n 0, 1) := by decide +kernel
theorem dX12_isNamed_46 : decode cX12_isNamed 46 = .ok (.getfield 37, 3) := by decide +kernel
theorem dX12_isNamed_49 : decode cX12_isNamed 49 = .ok (.aload_n 0, 1) := by decide +kernel
theorem dX12_isNamed_50 : decode cX12_isNamed 50 = .ok (.getfield 147, 3) := by decide +kernel
theorem dX12_isNamed_53 : decode cX12_isNamed 53 = .ok (.iload_n 2, 1) := by decide +kernel
theorem dX12_isNamed_54 : decode cX12_isNamed 54 = .ok (.iadd, 1) := by decide +kernel
theorem dX12_isNamed_55 : decode cX12_isNamed 55 = .ok (.baload, 1) := by decide +kernel
theorem dX12_isNamed_56 : decode cX12_isNamed 56 = .ok (.if_icmp .eq 5, 3) := by decide +kernel
theorem dX12_isNamed_59 : decode cX12_isNamed 59 = .ok (.iconst 0, 1) := by decide +kernel
theorem dX12_isNamed_60 : decode cX12_isNamed 60 = .ok (.ireturn, 1) := by decide +kernel
theorem dX12_isNamed_61 : decode cX12_isNamed 61 = .ok (.iinc 2 1, 3) := by decide +kernel
theorem dX12_isNamed_64 : decode cX12_isNamed 64 = .ok (.goto (-42), 3) := by decide +kernel
theorem dX12_isNamed_67 : decode cX12_isNamed 67 = .ok (.iconst 1, 1) := by decide +kernel
theorem dX12_isNamed_68 : decode cX12_isNamed 68 = .ok (.ireturn, 1) := by decide +kernel
theorem dX12_nameHere_0 : decode cX12_nameHere 0 = .ok (.iconst 0, 1) := by decide +kernel
theorem dX12_nameHere_1 : decode cX12_nameHere 1 = .ok (.istore_n 1, 1) := by decide +kernel
theorem dX12_nameHere_2 : decode cX12_nameHere 2 = .ok (.iload_n 1, 1) := by decide +kernel
theorem dX12_nameHere_3 : decode cX12_nameHere 3 = .ok (.aload_n 0, 1) := by decide +kernel
theorem dX12_nameHere_4 : decode cX12_nameHere 4 = .ok (.getfield 180, 3) := by decide +kernel
theorem dX12_nameHere_7 : decode cX12_nameHere 7 = .ok (.if_icmp .ge 19, 3) := by decide +kernel
theorem dX12_nameHere_10 : decode cX12_nameHere 10 = .ok (.aload_n 0, 1) := by decide +kernel
theorem dX12_nameHere_11 : decode cX12_nameHere 11 = .ok (.iload_n 1, 1) := by decide +kernel
theorem dX12_nameHere_12 : decode cX12_nameHere 12 = .ok (.invokevirtual 183, 3) := by decide +kernel
theorem dX12_nameHere_15 : decode cX12_nameHere 15 = .ok (.ifCond .eq 5, 3) := by decide +kernel
theorem dX12_nameHere_18 : decode cX12_nameHere 18 = .ok (.iload_n 1, 1) := by decide +kernel
theorem dX12_nameHere_19 : decode cX12_nameHere 19 = .ok (.ireturn, 1) := by decide +kernel
theorem dX12_nameHere_20 : decode cX12_nameHere 20 = .ok (.iinc 1 1, 3) := by decide +kernel
theorem dX12_nameHere_23 : decode cX12_nameHere 23 = .ok (.goto (-21), 3) := by decide +kernel
theorem dX12_nameHere_26 : decode cX12_nameHere 26 = .ok (.iconst (-1), 1) := by decide +kernel
theorem dX12_nameHere_27 : decode cX12_nameHere 27 = .ok (.ireturn, 1) := by decide +kernel
theorem dX12_newName_0 : decode cX12_newName 0 = .ok (.aload_n 0, 1) := by decide +kernel
theorem dX12_newName_1 : decode cX12_newName 1 = .ok (.invokevirtual 186, 3) := by decide +kernel
theorem dX12_newName_4 : decode cX12_newName 4 = .ok (.ifCond .ne 11, 3) := by decide +kernel
theorem dX12_newName_7 : decode cX12_newName 7 = .ok (.aload_n 0, 1) := by decide +kernel
theorem dX12_newName_8 : decode cX12_newName 8 = .ok (.iconst 1, 1) := by decide +kernel
theorem dX12_newName_9 : decode cX12_newName 9 = .ok (.invokevirtual 190, 3) := by decide +kernel
theorem dX12_newName_12 : decode cX12_newName 12 = .ok (.goto 15, 3) := by decide +kernel
theorem dX12_newName_15 : decode cX12_newName 15 = .ok (.aload_n 0, 1) := by decide +kernel
theorem dX12_newName_16 : decode cX12_newName 16 = .ok (.invokevirtual 193, 3) := by decide +kernel
theorem dX12_newName_19 : decode cX12_newName 19 = .ok (.ifCond .lt 8, 3) := by decide +kernel
theorem dX12_newName_22 : decode cX12_newName 22 = .ok (.aload_n 0, 1) := by decide +kernel
theorem dX12_newName_23 : decode cX12_newName 23 = .ok (.iconst 2, 1) := by decide +kernel
theorem dX12_newName_24 : decode cX12_newName 24 = .ok (.invokevirtual 190, 3) := by decide +kernel
theorem dX12_newName_27 : decode cX12_newName 27 = .ok (.aload_n 0, 1) := by decide +kernel
theorem dX12_newName_28 : decode cX12_newName 28 = .ok (.getfield 174, 3) := by decide +kernel
theorem dX12_newName_31 : decode cX12_newName 31 = .ok (.ifCond .le 4, 3) := by decide +kernel
theorem dX12_newName_34 : decode cX12_newName 34 = .ok (.return_, 1) := by decide +kernel
theorem dX12_newName_35 : decode cX12_newName 35 = .ok (.aload_n 0, 1) := by decide +kernel
theorem dX12_newName_36 : decode cX12_newName 36 = .ok (.getfield 48, 3) := by decide +kernel
theorem dX12_newName_39 : decode cX12_newName 39 = .ok (.aload_n 0, 1) := by decide +kernel
theorem dX12_newName_40 : decode cX12_newName 40 = .ok (.getfield 180, 3) := by decide +kernel
theorem dX12_newName_43 : decode cX12_newName 43 = .ok (.aload_n 0, 1) := by decide +kernel
theorem dX12_newName_44 : decode cX12_newName 44 = .ok (.getfield 147, 3) := by decide +kernel
theorem dX12_newName_47 : decode cX12_newName 47 = .ok (.iastore, 1) := by decide +kernel
theorem dX12_newName_48 : decode cX12_newName 48 = .ok (.aload_n 0, 1) := by decide +kernel
theorem dX12_newName_49 : decode cX12_newName 49 = .ok (.getfield 51, 3) := by decide +kernel
theorem dX12_newName_52 : decode cX12_newName 52 = .ok (.aload_n 0, 1) := by decide +kernel
theorem dX12_newName_53 : decode cX12_newName 53 = .ok (.getfield 180, 3) := by decide +kernel
theorem dX12_newName_56 : decode cX12_newName 56 = .ok (.aload_n 0, 1) := by decide +kernel
theorem dX12_newName_57 : decode cX12_newName 57 = .ok (.getfield 144, 3) := by decide +kernel
theorem dX12_newName_60 : decode cX12_newName 60 = .ok (.aload_n 0, 1) := by decide +kernel
theorem dX12_newName_61 : decode cX12_newName 61 = .ok (.getfield 147, 3) := by decide +kernel
theorem dX12_newName_64 : decode cX12_newName 64 = .ok (.isub, 1) := by decide +kernel
theorem dX12_newName_65 : decode cX12_newName 65 = .ok (.iastore, 1) := by decide +kernel
theorem dX12_newName_66 : decode cX12_newName 66 = .ok (.aload_n 0, 1) := by decide +kernel
theorem dX12_newName_67 : decode cX12_newName 67 = .ok (.getfield 54, 3) := by decide +kernel
theorem dX12_newName_70 : decode cX12_newName 70 = .ok (.aload_n 0, 1) := by decide +kernel
theorem dX12_newName_71 : decode cX12_newName 71 = .ok (.getfield 180, 3) := by decide +kernel
theorem dX12_newName_74 : decode cX12_newName 74 = .ok (.iload_n 1, 1) := by decide +kernel
theorem dX12_newName_75 : decode cX12_newName 75 = .ok (.iastore, 1) := by decide +kernel
theorem dX12_newName_76 : decode cX12_newName 76 = .ok (.aload_n 0, 1) := by decide +kernel
theorem dX12_newName_77 : decode cX12_newName 77 = .ok (.getfield 57, 3) := by decide +kernel
theorem dX12_newName_80 : decode cX12_newName 80 = .ok (.aload_n 0, 1) := by decide +kernel
theorem dX12_newName_81 : decode cX12_newName 81 = .ok (.getfield 180, 3) := by decide +kernel
theorem dX12_newName_84 : decode cX12_newName 84 = .ok (.iload_n 2, 1) := by decide +kernel
theorem dX12_newName_85 : decode cX12_newName 85 = .ok (.iastore, 1) := by decide +kernel
theorem dX12_newName_86 : decode cX12_newName 86 = .ok (.aload_n 0, 1) := by decide +kernel
theorem dX12_newName_87 : decode cX12_newName 87 = .ok (.dup, 1) := by decide +kernel
theorem dX12_newName_88 : decode cX12_newName 88 = .ok (.getfield 180, 3) := by decide +kernel
theorem dX12_newName_91 : decode cX12_newName 91 = .ok (.iconst 1, 1) := by decide +kernel
theorem dX12_newName_92 : decode cX12_newName 92 = .ok (.iadd, 1) := by decide +kernel
theorem dX12_newName_93 : decode cX12_newName 93 = .ok (.putfield 180, 3) := by decide +kernel
theorem dX12_newName_96 : decode cX12_newName 96 = .ok (.aload_n 0, 1) := by decide +kernel
theorem dX12_newName_97 : decode cX12_newName 97 = .ok (.invokevirtual 197, 3) := by decide +kernel
theorem dX12_newName_100 : decode cX12_newName 100 = .ok (.return_, 1) := by decide +kernel
theorem dX12_oldName_0 : decode cX12_oldName 0 = .ok (.aload_n 0, 1) := by decide +kernel
theorem dX12_oldName_1 : decode cX12_oldName 1 = .ok (.invokevirtual 186, 3) := by decide +kernel
theorem dX12_oldName_4 : decode cX12_oldName 4 = .ok (.ifCond .eq 10, 3) := by decide +kernel
theorem dX12_oldName_7 : decode cX12_oldName 7 = .ok (.aload_n 0, 1) := by decide +kernel
theorem dX12_oldName_8 : decode cX12_oldName 8 = .ok (.invokevirtual 193, 3) := by decide +kernel
theorem dX12_oldName_11 : decode cX12_oldName 11 = .ok (.goto 4, 3) := by decide +kernel
theorem dX12_oldName_14 : decode cX12_oldName 14 = .ok (.iconst (-1), 1) := by decide +kernel
theorem dX12_oldName_15 : decode cX12_oldName 15 = .ok (.istore_n 2, 1) := by decide +kernel
theorem dX12_oldName_16 : decode cX12_oldName 16 = .ok (.aload_n 0, 1) := by decide +kernel
theorem dX12_oldName_17 : decode cX12_oldName 17 = .ok (.invokevirtual 186, 3) := by decide +kernel
theorem dX12_oldName_20 : decode cX12_oldName 20 = .ok (.ifCond .ne 11, 3) := by decide +kernel
theorem dX12_oldName_23 : decode cX12_oldName 23 = .ok (.aload_n 0, 1) := by decide +kernel
theorem dX12_oldName_24 : decode cX12_oldName 24 = .ok (.iconst 1, 1) := by decide +kernel
theorem dX12_oldName_25 : decode cX12_oldName 25 = .ok (.invokevirtual 190, 3) := by decide +kernel
theorem dX12_oldName_28 : decode cX12_oldName 28 = .ok (.goto 22, 3) := by decide +kernel
theorem dX12_oldName_31 : decode cX12_oldName 31 = .ok (.iload_n 2, 1) := by decide +kernel
theorem dX12_oldName_32 : decode cX12_oldName 32 = .ok (.ifCond .lt 13, 3) := by decide +kernel
theorem dX12_oldName_35 : decode cX12_oldName 35 = .ok (.aload_n 0, 1) := by decide +kernel
theorem dX12_oldName_36 : decode cX12_oldName 36 = .ok (.getfield 54, 3) := by decide +kernel
theorem dX12_oldName_39 : decode cX12_oldName 39 = .ok (.iload_n 2, 1) := by decide +kernel
theorem dX12_oldName_40 : decode cX12_oldName 40 = .ok (.iaload, 1) := by decide +kernel
theorem dX12_oldName_41 : decode cX12_oldName 41 = .ok (.iload_n 1, 1) := by decide +kernel
theorem dX12_oldName_42 : decode cX12_oldName 42 = .ok (.if_icmp .eq 8, 3) := by decide +kernel
theorem dX12_oldName_45 : decode cX12_oldName 45 = .ok (.aload_n 0, 1) := by decide +kernel
theorem dX12_oldName_46 : decode cX12_oldName 46 = .ok (.iconst 3, 1) := by decide +kernel
theorem dX12_oldName_47 : decode cX12_oldName 47 = .ok (.invokevirtual 190, 3) := by decide +kernel
theorem dX12_oldName_50 : decode cX12_oldName 50 = .ok (.aload_n 0, 1) := by decide +kernel
theorem dX12_oldName_51 : decode cX12_oldName 51 = .ok (.getfield 174, 3) := by decide +kernel
theorem dX12_oldName_54 : decode cX12_oldName 54 = .ok (.ifCond .le 5, 3) := by decide +kernel
theorem dX12_oldName_57 : decode cX12_oldName 57 = .ok (.iconst 0, 1) := by decide +kernel
theorem dX12_oldName_58 : decode cX12_oldName 58 = .ok (.ireturn, 1) := by decide +kernel
theorem dX12_oldName_59 : decode cX12_oldName 59 = .ok (.aload_n 0, 1) := by decide +kernel
theorem dX12_oldName_60 : decode cX12_oldName 60 = .ok (.invokevirtual 197, 3) := by decide +kernel
theorem dX12_oldName_63 : decode cX12_oldName 63 = .ok (.aload_n 0, 1) := by decide +kernel
theorem dX12_oldName_64 : decode cX12_oldName 64 = .ok (.getfield 57, 3) := by decide +kernel
theorem dX12_oldName_67 : decode cX12_oldName 67 = .ok (.iload_n 2, 1) := by decide +kernel
theorem dX12_oldName_68 : decode cX12_oldName 68 = .ok (.iaload, 1) := by decide +kernel
theorem dX12_oldName_69 : decode cX12_oldName 69 = .ok (.ireturn, 1) := by decide +kernel
theorem dX12_readAll_0 : decode cX12_readAll 0 = .ok (.aload_n 0, 1) := by decide +kernel
theorem dX12_readAll_1 : decode cX12_readAll 1 = .ok (.invokevirtual 197, 3) := by decide +kernel
theorem dX12_readAll_4 : decode cX12_readAll 4 = .ok (.aload_n 0, 1) := by decide +kernel
theorem dX12_readAll_5 : decode cX12_readAll 5 = .ok (.getfield 174, 3) := by decide +kernel
theorem dX12_readAll_8 : decode cX12_readAll 8 = .ok (.ifCond .ne 37, 3) := by decide +kernel
theorem dX12_readAll_11 : decode cX12_readAll 11 = .ok (.aload_n 0, 1) := by decide +kernel
theorem dX12_readAll_12 : decode cX12_readAll 12 = .ok (.getfield 154, 3) := by decide +kernel
theorem dX12_readAll_15 : decode cX12_readAll 15 = .ok (.ifCond .eq 30, 3) := by decide +kernel
theorem dX12_readAll_18 : decode cX12_readAll 18 = .ok (.aload_n 0, 1) := by decide +kernel
theorem dX12_readAll_19 : decode cX12_readAll 19 = .ok (.iload_n 1, 1) := by decide +kernel
theorem dX12_readAll_20 : decode cX12_readAll 20 = .ok (.invokevirtual 200, 3) := by decide +kernel
theorem dX12_readAll_23 : decode cX12_readAll 23 = .ok (.aload_n 0, 1) := by decide +kernel
theorem dX12_readAll_24 : decode cX12_readAll 24 = .ok (.invokevirtual 203, 3) := by decide +kernel
theorem dX12_readAll_27 : decode cX12_readAll 27 = .ok (.ifCond .eq 10, 3) := by decide +kernel
theorem dX12_readAll_30 : decode cX12_readAll 30 = .ok (.aload_n 0, 1) := by decide +kernel
theorem dX12_readAll_31 : decode cX12_readAll 31 = .ok (.invokevirtual 197, 3) := by decide +kernel
theorem dX12_readAll_34 : decode cX12_readAll 34 = .ok (.goto (-30), 3) := by decide +kernel
theorem dX12_readAll_37 : decode cX12_readAll 37 = .ok (.aload_n 0, 1) := by decide +kernel
theorem dX12_readAll_38 : decode cX12_readAll 38 = .ok (.iconst 1, 1) := by decide +kernel
theorem dX12_readAll_39 : decode cX12_readAll 39 = .ok (.invokevirtual 190, 3) := by decide +kernel
theorem dX12_readAll_42 : decode cX12_readAll 42 = .ok (.goto (-38), 3) := by decide +kernel
theorem dX12_readAll_45 : decode cX12_readAll 45 = .ok (.return_, 1) := by decide +kernel
theorem dX12_readLine_0 : decode cX12_readLine 0 = .ok (.aload_n 0, 1) := by decide +kernel
theorem dX12_readLine_1 : decode cX12_readLine 1 = .ok (.bipush 9, 2) := by decide +kernel
theorem dX12_readLine_3 : decode cX12_readLine 3 = .ok (.invokevirtual 206, 3) := by decide +kernel
theorem dX12_readLine_6 : decode cX12_readLine 6 = .ok (.ifCond .eq 54, 3) := by decide +kernel
theorem dX12_readLine_9 : decode cX12_readLine 9 = .ok (.aload_n 0, 1) := by decide +kernel
theorem dX12_readLine_10 : decode cX12_readLine 10 = .ok (.getfield 13, 3) := by decide +kernel
theorem dX12_readLine_13 : decode cX12_readLine 13 = .ok (.iload_n 1, 1) := by decide +kernel
theorem dX12_readLine_14 : decode cX12_readLine 14 = .ok (.iaload, 1) := by decide +kernel
theorem dX12_readLine_15 : decode cX12_readLine 15 = .ok (.bipush 8, 2) := by decide +kernel
theorem dX12_readLine_17 : decode cX12_readLine 17 = .ok (.if_icmp .ne 8, 3) := by decide +kernel
theorem dX12_readLine_20 : decode cX12_readLine 20 = .ok (.aload_n 0, 1) := by decide +kernel
theorem dX12_readLine_21 : decode cX12_readLine 21 = .ok (.iconst 4, 1) := by decide +kernel
theorem dX12_readLine_22 : decode cX12_readLine 22 = .ok (.invokevirtual 190, 3) := by decide +kernel
theorem dX12_readLine_25 : decode cX12_readLine 25 = .ok (.aload_n 0, 1) := by decide +kernel
theorem dX12_readLine_26 : decode cX12_readLine 26 = .ok (.getfield 174, 3) := by decide +kernel
theorem dX12_readLine_29 : decode cX12_readLine 29 = .ok (.ifCond .ne 7, 3) := by decide +kernel
theorem dX12_readLine_32 : decode cX12_readLine 32 = .ok (.aload_n 0, 1) := by decide +kernel
theorem dX12_readLine_33 : decode cX12_readLine 33 = .ok (.invokevirtual 197, 3) := by decide +kernel
theorem dX12_readLine_36 : decode cX12_readLine 36 = .ok (.aload_n 0, 1) := by decide +kernel
theorem dX12_readLine_37 : decode cX12_readLine 37 = .ok (.iconst 0, 1) := by decide +kernel
theorem dX12_readLine_38 : decode cX12_readLine 38 = .ok (.aload_n 0, 1) := by decide +kernel
theorem dX12_readLine_39 : decode cX12_readLine 39 = .ok (.getfield 13, 3) := by decide +kernel
theorem dX12_readLine_42 : decode cX12_readLine 42 = .ok (.iload_n 1, 1) := by decide +kernel
theorem dX12_readLine_43 : decode cX12_readLine 43 = .ok (.iaload, 1) := by decide +kernel
theorem dX12_readLine_44 : decode cX12_readLine 44 = .ok (.invokevirtual 209, 3) := by decide +kernel
theorem dX12_readLine_47 : decode cX12_readLine 47 = .ok (.aload_n 0, 1) := by decide +kernel
theorem dX12_readLine_48 : decode cX12_readLine 48 = .ok (.getfield 13, 3) := by decide +kernel
theorem dX12_readLine_51 : decode cX12_readLine 51 = .ok (.iload_n 1, 1) := by decide +kernel
theorem dX12_readLine_52 : decode cX12_readLine 52 = .ok (.dup2, 1) := by decide +kernel
theorem dX12_readLine_53 : decode cX12_readLine 53 = .ok (.iaload, 1) := by decide +kernel
theorem dX12_readLine_54 : decode cX12_readLine 54 = .ok (.iconst 1, 1) := by decide +kernel
theorem dX12_readLine_55 : decode cX12_readLine 55 = .ok (.iadd, 1) := by decide +kernel
theorem dX12_readLine_56 : decode cX12_readLine 56 = .ok (.iastore, 1) := by decide +kernel
theorem dX12_readLine_57 : decode cX12_readLine 57 = .ok (.goto 67, 3) := by decide +kernel
theorem dX12_readLine_60 : decode cX12_readLine 60 = .ok (.aload_n 0, 1) := by decide +kernel
theorem dX12_readLine_61 : decode cX12_readLine 61 = .ok (.bipush 10, 2) := by decide +kernel
theorem dX12_readLine_63 : decode cX12_readLine 63 = .ok (.invokevirtual 206, 3) := by decide +kernel
theorem dX12_readLine_66 : decode cX12_readLine 66 = .ok (.ifCond .eq 11, 3) := by decide +kernel
theorem dX12_readLine_69 : decode cX12_readLine 69 = .ok (.aload_n 0, 1) := by decide +kernel
theorem dX12_readLine_70 : decode cX12_readLine 70 = .ok (.iload_n 1, 1) := by decide +kernel
theorem dX12_readLine_71 : decode cX12_readLine 71 = .ok (.invokevirtual 213, 3) := by decide +kernel
theorem dX12_readLine_74 : decode cX12_readLine 74 = .ok (.goto 50, 3) := by decide +kernel
theorem dX12_readLine_77 : decode cX12_readLine 77 = .ok (.aload_n 0, 1) := by decide +kernel
theorem dX12_readLine_78 : decode cX12_readLine 78 = .ok (.bipush 12, 2) := by decide +kernel
theorem dX12_readLine_80 : decode cX12_readLine 80 = .ok (.invokevirtual 206, 3) := by decide +kernel
theorem dX12_readLine_83 : decode cX12_readLine 83 = .ok (.ifCond .ne 21, 3) := by decide +kernel
theorem dX12_readLine_86 : decode cX12_readLine 86 = .ok (.aload_n 0, 1) := by decide +kernel
theorem dX12_readLine_87 : decode cX12_readLine 87 = .ok (.bipush 13, 2) := by decide +kernel
theorem dX12_readLine_89 : decode cX12_readLine 89 = .ok (.invokevirtual 206, 3) := by decide +kernel
theorem dX12_readLine_92 : decode cX12_readLine 92 = .ok (.ifCond .ne 12, 3) := by decide +kernel
theorem dX12_readLine_95 : decode cX12_readLine 95 = .ok (.aload_n 0, 1) := by decide +kernel
theorem dX12_readLine_96 : decode cX12_readLine 96 = .ok (.bipush 14, 2) := by decide +kernel
theorem dX12_readLine_98 : decode cX12_readLine 98 = .ok (.invokevirtual 206, 3) := by decide +kernel
theorem dX12_readLine_101 : decode cX12_readLine 101 = .ok (.ifCond .eq 18, 3) := by decide +kernel
theorem dX12_readLine_104 : decode cX12_readLine 104 = .ok (.aload_n 0, 1) := by decide +kernel
theorem dX12_readLine_105 : decode cX12_readLine 105 = .ok (.iload_n 1, 1) := by decide +kernel
theorem dX12_readLine_106 : decode cX12_readLine 106 = .ok (.aload_n 0, 1) := by decide +kernel
theorem dX12_readLine_107 : decode cX12_readLine 107 = .ok (.getfield 167, 3) := by decide +kernel
theorem dX12_readLine_110 : decode cX12_readLine 110 = .ok (.bipush 12, 2) := by decide +kernel
theorem dX12_readLine_112 : decode cX12_readLine 112 = .ok (.isub, 1) := by decide +kernel
theorem dX12_readLine_113 : decode cX12_readLine 113 = .ok (.invokevirtual 216, 3) := by decide +kernel
theorem dX12_readLine_116 : decode cX12_readLine 116 = .ok (.goto 8, 3) := by decide +kernel
theorem dX12_readLine_119 : decode cX12_readLine 119 = .ok (.aload_n 0, 1) := by decide +kernel
theorem dX12_readLine_120 : decode cX12_readLine 120 = .ok (.iconst 1, 1) := by decide +kernel
theorem dX12_readLine_121 : decode cX12_readLine 121 = .ok (.invokevirtual 190, 3) := by decide +kernel
theorem dX12_readLine_124 : decode cX12_readLine 124 = .ok (.return_, 1) := by decide +kernel
theorem dX12_readLock_0 : decode cX12_readLock 0 = .ok (.aload_n 0, 1) := by decide +kernel
theorem dX12_readLock_1 : decode cX12_readLock 1 = .ok (.getfield 16, 3) := by decide +kernel
theorem dX12_readLock_4 : decode cX12_readLock 4 = .ok (.iload_n 1, 1) := by decide +kernel
theorem dX12_readLock_5 : decode cX12_readLock 5 = .ok (.iaload, 1) := by decide +kernel
theorem dX12_readLock_6 : decode cX12_readLock 6 = .ok (.bipush 10, 2) := by decide +kernel
theorem dX12_readLock_8 : decode cX12_readLock 8 = .ok (.if_icmp .ne 8, 3) := by decide +kernel
theorem dX12_readLock_11 : decode cX12_readLock 11 = .ok (.aload_n 0, 1) := by decide +kernel
theorem dX12_readLock_12 : decode cX12_readLock 12 = .ok (.iconst 4, 1) := by decide +kernel
theorem dX12_readLock_13 : decode cX12_readLock 13 = .ok (.invokevirtual 190, 3) := by decide +kernel
theorem dX12_readLock_16 : decode cX12_readLock 16 = .ok (.aload_n 0, 1) := by decide +kernel
theorem dX12_readLock_17 : decode cX12_readLock 17 = .ok (.getfield 174, 3) := by decide +kernel
theorem dX12_readLock_20 : decode cX12_readLock 20 = .ok (.ifCond .le 4, 3) := by decide +kernel
theorem dX12_readLock_23 : decode cX12_readLock 23 = .ok (.return_, 1) := by decide +kernel
theorem dX12_readLock_24 : decode cX12_readLock 24 = .ok (.aload_n 0, 1) := by decide +kernel
theorem dX12_readLock_25 : decode cX12_readLock 25 = .ok (.invokevirtual 197, 3) := by decide +kernel
theorem dX12_readLock_28 : decode cX12_readLock 28 = .ok (.aload_n 0, 1) := by decide +kernel
theorem dX12_readLock_29 : decode cX12_readLock 29 = .ok (.iconst 1, 1) := by decide +kernel
theorem dX12_readLock_30 : decode cX12_readLock 30 = .ok (.aload_n 0, 1) := by decide +kernel
theorem dX12_readLock_31 : decode cX12_readLock 31 = .ok (.getfield 16, 3) := by decide +kernel
theorem dX12_readLock_34 : decode cX12_readLock 34 = .ok (.iload_n 1, 1) := by decide +kernel
theorem dX12_readLock_35 : decode cX12_readLock 35 = .ok (.iaload, 1) := by decide +kernel
theorem dX12_readLock_36 : decode cX12_readLock 36 = .ok (.invokevirtual 209, 3) := by decide +kernel
theorem dX12_readLock_39 : decode cX12_readLock 39 = .ok (.aload_n 0, 1) := by decide +kernel
theorem dX12_readLock_40 : decode cX12_readLock 40 = .ok (.bipush 11, 2) := by decide +kernel
theorem dX12_readLock_42 : decode cX12_readLock 42 = .ok (.invokevirtual 206, 3) := by decide +kernel
theorem dX12_readLock_45 : decode cX12_readLock 45 = .ok (.ifCond .eq 10, 3) := by decide +kernel
theorem dX12_readLock_48 : decode cX12_readLock 48 = .ok (.aload_n 0, 1) := by decide +kernel
theorem dX12_readLock_49 : decode cX12_readLock 49 = .ok (.invokevirtual 197, 3) := by decide +kernel
theorem dX12_readLock_52 : decode cX12_readLock 52 = .ok (.goto 8, 3) := by decide +kernel
theorem dX12_readLock_55 : decode cX12_readLock 55 = .ok (.aload_n 0, 1) := by decide +kernel
theorem dX12_readLock_56 : decode cX12_readLock 56 = .ok (.iconst 1, 1) := by decide +kernel
theorem dX12_readLock_57 : decode cX12_readLock 57 = .ok (.invokevirtual 190, 3) := by decide +kernel
theorem dX12_readLock_60 : decode cX12_readLock 60 = .ok (.aload_n 0, 1) := by decide +kernel
theorem dX12_readLock_61 : decode cX12_readLock 61 = .ok (.iconst 0, 1) := by decide +kernel
theorem dX12_readLock_62 : decode cX12_readLock 62 = .ok (.invokevirtual 219, 3) := by decide +kernel
theorem dX12_readLock_65 : decode cX12_readLock 65 = .ok (.istore_n 2, 1) := by decide +kernel
theorem dX12_readLock_66 : decode cX12_readLock 66 = .ok (.aload_n 0, 1) := by decide +kernel
theorem dX12_readLock_67 : decode cX12_readLock 67 = .ok (.getfield 174, 3) := by decide +kernel
theorem dX12_readLock_70 : decode cX12_readLock 70 = .ok (.ifCond .le 4, 3) := by decide +kernel
theorem dX12_readLock_73 : decode cX12_readLock 73 = .ok (.return_, 1) := by decide +kernel
theorem dX12_readLock_74 : decode cX12_readLock 74 = .ok (.aload_n 0, 1) := by decide +kernel
theorem dX12_readLock_75 : decode cX12_readLock 75 = .ok (.getfield 22, 3) := by decide +kernel
theorem dX12_readLock_78 : decode cX12_readLock 78 = .ok (.bipush 10, 2) := by decide +kernel
theorem dX12_readLock_80 : decode cX12_readLock 80 = .ok (.iload_n 1, 1) := by decide +kernel
theorem dX12_readLock_81 : decode cX12_readLock 81 = .ok (.imul, 1) := by decide +kernel
theorem dX12_readLock_82 : decode cX12_readLock 82 = .ok (.aload_n 0, 1) := by decide +kernel
theorem dX12_readLock_83 : decode cX12_readLock 83 = .ok (.getfield 16, 3) := by decide +kernel
theorem dX12_readLock_86 : decode cX12_readLock 86 = .ok (.iload_n 1, 1) := by decide +kernel
theorem dX12_readLock_87 : decode cX12_readLock 87 = .ok (.iaload, 1) := by decide +kernel
theorem dX12_readLock_88 : decode cX12_readLock 88 = .ok (.iadd, 1) := by decide +kernel
theorem dX12_readLock_89 : decode cX12_readLock 89 = .ok (.iload_n 2, 1) := by decide +kernel
theorem dX12_readLock_90 : decode cX12_readLock 90 = .ok (.iastore, 1) := by decide +kernel
theorem dX12_readLock_91 : decode cX12_readLock 91 = .ok (.aload_n 0, 1) := by decide +kernel
theorem dX12_readLock_92 : decode cX12_readLock 92 = .ok (.getfield 16, 3) := by decide +kernel
theorem dX12_readLock_95 : decode cX12_readLock 95 = .ok (.iload_n 1, 1) := by decide +kernel
theorem dX12_readLock_96 : decode cX12_readLock 96 = .ok (.dup2, 1) := by decide +kernel
theorem dX12_readLock_97 : decode cX12_readLock 97 = .ok (.iaload, 1) := by decide +kernel
theorem dX12_readLock_98 : decode cX12_readLock 98 = .ok (.iconst 1, 1) := by decide +kernel
theorem dX12_readLock_99 : decode cX12_readLock 99 = .ok (.iadd, 1) := by decide +kernel
theorem dX12_readLock_100 : decode cX12_readLock 100 = .ok (.iastore, 1) := by decide +kernel
theorem dX12_readLock_101 : decode cX12_readLock 101 = .ok (.return_, 1) := by decide +kernel
theorem dX12_readProgram_0 : decode cX12_readProgram 0 = .ok (.aload_n 0, 1) := by decide +kernel
theorem dX12_readProgram_1 : decode cX12_readProgram 1 = .ok (.getfield 19, 3) := by decide +kernel
theorem dX12_readProgram_4 : decode cX12_readProgram 4 = .ok (.iload_n 1, 1) := by decide +kernel
theorem dX12_readProgram_5 : decode cX12_readProgram 5 = .ok (.iaload, 1) := by decide +kernel
theorem dX12_readProgram_6 : decode cX12_readProgram 6 = .ok (.bipush 6, 2) := by decide +kernel
theorem dX12_readProgram_8 : decode cX12_readProgram 8 = .ok (.if_icmp .ne 8, 3) := by decide +kernel
theorem dX12_readProgram_11 : decode cX12_readProgram 11 = .ok (.aload_n 0, 1) := by decide +kernel
theorem dX12_readProgram_12 : decode cX12_readProgram 12 = .ok (.iconst 4, 1) := by decide +kernel
theorem dX12_readProgram_13 : decode cX12_readProgram 13 = .ok (.invokevirtual 190, 3) := by decide +kernel
theorem dX12_readProgram_16 : decode cX12_readProgram 16 = .ok (.aload_n 0, 1) := by decide +kernel
theorem dX12_readProgram_17 : decode cX12_readProgram 17 = .ok (.getfield 174, 3) := by decide +kernel
theorem dX12_readProgram_20 : decode cX12_readProgram 20 = .ok (.ifCond .le 4, 3) := by decide +kernel
theorem dX12_readProgram_23 : decode cX12_readProgram 23 = .ok (.return_, 1) := by decide +kernel
theorem dX12_readProgram_24 : decode cX12_readProgram 24 = .ok (.aload_n 0, 1) := by decide +kernel
theorem dX12_readProgram_25 : decode cX12_readProgram 25 = .ok (.invokevirtual 197, 3) := by decide +kernel
theorem dX12_readProgram_28 : decode cX12_readProgram 28 = .ok (.bipush 6, 2) := by decide +kernel
theorem dX12_readProgram_30 : decode cX12_readProgram 30 = .ok (.iload_n 1, 1) := by decide +kernel
theorem dX12_readProgram_31 : decode cX12_readProgram 31 = .ok (.imul, 1) := by decide +kernel
theorem dX12_readProgram_32 : decode cX12_readProgram 32 = .ok (.aload_n 0, 1) := by decide +kernel
theorem dX12_readProgram_33 : decode cX12_readProgram 33 = .ok (.getfield 19, 3) := by decide +kernel
theorem dX12_readProgram_36 : decode cX12_readProgram 36 = .ok (.iload_n 1, 1) := by decide +kernel
theorem dX12_readProgram_37 : decode cX12_readProgram 37 = .ok (.iaload, 1) := by decide +kernel
theorem dX12_readProgram_38 : decode cX12_readProgram 38 = .ok (.iadd, 1) := by decide +kernel
theorem dX12_readProgram_39 : decode cX12_readProgram 39 = .ok (.istore_n 3, 1) := by decide +kernel
theorem dX12_readProgram_40 : decode cX12_readProgram 40 = .ok (.aload_n 0, 1) := by decide +kernel
theorem dX12_readProgram_41 : decode cX12_readProgram 41 = .ok (.iconst 2, 1) := by decide +kernel
theorem dX12_readProgram_42 : decode cX12_readProgram 42 = .ok (.aload_n 0, 1) := by decide +kernel
theorem dX12_readProgram_43 : decode cX12_readProgram 43 = .ok (.getfield 19, 3) := by decide +kernel
theorem dX12_readProgram_46 : decode cX12_readProgram 46 = .ok (.iload_n 1, 1) := by decide +kernel
theorem dX12_readProgram_47 : decode cX12_readProgram 47 = .ok (.iaload, 1) := by decide +kernel
theorem dX12_readProgram_48 : decode cX12_readProgram 48 = .ok (.invokevirtual 209, 3) := by decide +kernel
theorem dX12_readProgram_51 : decode cX12_readProgram 51 = .ok (.aload_n 0, 1) := by decide +kernel
theorem dX12_readProgram_52 : decode cX12_readProgram 52 = .ok (.getfield 25, 3) := by decide +kernel
theorem dX12_readProgram_55 : decode cX12_readProgram 55 = .ok (.iload_n 3, 1) := by decide +kernel
theorem dX12_readProgram_56 : decode cX12_readProgram 56 = .ok (.iload_n 2, 1) := by decide +kernel
theorem dX12_readProgram_57 : decode cX12_readProgram 57 = .ok (.iastore, 1) := by decide +kernel
theorem dX12_readProgram_58 : decode cX12_readProgram 58 = .ok (.aload_n 0, 1) := by decide +kernel
theorem dX12_readProgram_59 : decode cX12_readProgram 59 = .ok (.getfield 28, 3) := by decide +kernel
theorem dX12_readProgram_62 : decode cX12_readProgram 62 = .ok (.iload_n 3, 1) := by decide +kernel
theorem dX12_readProgram_63 : decode cX12_readProgram 63 = .ok (.iconst 0, 1) := by decide +kernel
theorem dX12_readProgram_64 : decode cX12_readProgram 64 = .ok (.iastore, 1) := by decide +kernel
theorem dX12_readProgram_65 : decode cX12_readProgram 65 = .ok (.aload_n 0, 1) := by decide +kernel
theorem dX12_readProgram_66 : decode cX12_readProgram 66 = .ok (.getfield 174, 3) := by decide +kernel
theorem dX12_readProgram_69 : decode cX12_readProgram 69 = .ok (.ifCond .ne 27, 3) := by decide +kernel
theorem dX12_readProgram_72 : decode cX12_readProgram 72 = .ok (.aload_n 0, 1) := by decide +kernel
theorem dX12_readProgram_73 : decode cX12_readProgram 73 = .ok (.getfield 28, 3) := by decide +kernel
theorem dX12_readProgram_76 : decode cX12_readProgram 76 = .ok (.iload_n 3, 1) := by decide +kernel
theorem dX12_readProgram_77 : decode cX12_readProgram 77 = .ok (.iaload, 1) := by decide +kernel
theorem dX12_readProgram_78 : decode cX12_readProgram 78 = .ok (.ifCond .eq 10, 3) := by decide +kernel
theorem dX12_readProgram_81 : decode cX12_readProgram 81 = .ok (.aload_n 0, 1) := by decide +kernel
theorem dX12_readProgram_82 : decode cX12_readProgram 82 = .ok (.invokevirtual 203, 3) := by decide +kernel
theorem dX12_readProgram_85 : decode cX12_readProgram 85 = .ok (.ifCond .ne 11, 3) := by decide +kernel
theorem dX12_readProgram_88 : decode cX12_readProgram 88 = .ok (.aload_n 0, 1) := by decide +kernel
theorem dX12_readProgram_89 : decode cX12_readProgram 89 = .ok (.iload_n 3, 1) := by decide +kernel
theorem dX12_readProgram_90 : decode cX12_readProgram 90 = .ok (.invokevirtual 222, 3) := by decide +kernel
theorem dX12_readProgram_93 : decode cX12_readProgram 93 = .ok (.goto (-28), 3) := by decide +kernel
theorem dX12_readProgram_96 : decode cX12_readProgram 96 = .ok (.aload_n 0, 1) := by decide +kernel
theorem dX12_readProgram_97 : decode cX12_readProgram 97 = .ok (.getfield 174, 3) := by decide +kernel
theorem dX12_readProgram_100 : decode cX12_readProgram 100 = .ok (.ifCond .ne 13, 3) := by decide +kernel
theorem dX12_readProgram_103 : decode cX12_readProgram 103 = .ok (.aload_n 0, 1) := by decide +kernel
theorem dX12_readProgram_104 : decode cX12_readProgram 104 = .ok (.getfield 19, 3) := by decide +kernel
theorem dX12_readProgram_107 : decode cX12_readProgram 107 = .ok (.iload_n 1, 1) := by decide +kernel
theorem dX12_readProgram_108 : decode cX12_readProgram 108 = .ok (.dup2, 1) := by decide +kernel
theorem dX12_readProgram_109 : decode cX12_readProgram 109 = .ok (.iaload, 1) := by decide +kernel
theorem dX12_readProgram_110 : decode cX12_readProgram 110 = .ok (.iconst 1, 1) := by decide +kernel
theorem dX12_readProgram_111 : decode cX12_readProgram 111 = .ok (.iadd, 1) := by decide +kernel
theorem dX12_readProgram_112 : decode cX12_readProgram 112 = .ok (.iastore, 1) := by decide +kernel
theorem dX12_readProgram_113 : decode cX12_readProgram 113 = .ok (.return_, 1) := by decide +kernel
theorem dX12_readStep_0 : decode cX12_readStep 0 = .ok (.aload_n 0, 1) := by decide +kernel
theorem dX12_readStep_1 : decode cX12_readStep 1 = .ok (.getfield 154, 3) := by decide +kernel
theorem dX12_readStep_4 : decode cX12_readStep 4 = .ok (.iconst 2, 1) := by decide +kernel
theorem dX12_readStep_5 : decode cX12_readStep 5 = .ok (.if_icmp .ne 20, 3) := by decide +kernel
theorem dX12_readStep_8 : decode cX12_readStep 8 = .ok (.aload_n 0, 1) := by decide +kernel
theorem dX12_readStep_9 : decode cX12_readStep 9 = .ok (.getfield 167, 3) := by decide +kernel
theorem dX12_readStep_12 : decode cX12_readStep 12 = .ok (.iconst 0, 1) := by decide +kernel
theorem dX12_readStep_13 : decode cX12_readStep 13 = .ok (.bipush 8, 2) := by decide +kernel
theorem dX12_readStep_15 : decode cX12_readStep 15 = .ok (.invokestatic 225, 3) := by decide +kernel
theorem dX12_readStep_18 : decode cX12_readStep 18 = .ok (.ifCond .eq 7, 3) := by decide +kernel
theorem dX12_readStep_21 : decode cX12_readStep 21 = .ok (.iconst 1, 1) := by decide +kernel
theorem dX12_readStep_22 : decode cX12_readStep 22 = .ok (.goto 4, 3) := by decide +kernel
theorem dX12_readStep_25 : decode cX12_readStep 25 = .ok (.iconst 0, 1) := by decide +kernel
theorem dX12_readStep_26 : decode cX12_readStep 26 = .ok (.istore_n 2, 1) := by decide +kernel
theorem dX12_readStep_27 : decode cX12_readStep 27 = .ok (.iload_n 2, 1) := by decide +kernel
theorem dX12_readStep_28 : decode cX12_readStep 28 = .ok (.ifCond .ne 11, 3) := by decide +kernel
theorem dX12_readStep_31 : decode cX12_readStep 31 = .ok (.aload_n 0, 1) := by decide +kernel
theorem dX12_readStep_32 : decode cX12_readStep 32 = .ok (.iconst 1, 1) := by decide +kernel
theorem dX12_readStep_33 : decode cX12_readStep 33 = .ok (.invokevirtual 190, 3) := by decide +kernel
theorem dX12_readStep_36 : decode cX12_readStep 36 = .ok (.goto 19, 3) := by decide +kernel
theorem dX12_readStep_39 : decode cX12_readStep 39 = .ok (.aload_n 0, 1) := by decide +kernel
theorem dX12_readStep_40 : decode cX12_readStep 40 = .ok (.getfield 28, 3) := by decide +kernel
theorem dX12_readStep_43 : decode cX12_readStep 43 = .ok (.iload_n 1, 1) := by decide +kernel
theorem dX12_readStep_44 : decode cX12_readStep 44 = .ok (.iaload, 1) := by decide +kernel
theorem dX12_readStep_45 : decode cX12_readStep 45 = .ok (.bipush 12, 2) := by decide +kernel
theorem dX12_readStep_47 : decode cX12_readStep 47 = .ok (.if_icmp .ne 8, 3) := by decide +kernel
theorem dX12_readStep_50 : decode cX12_readStep 50 = .ok (.aload_n 0, 1) := by decide +kernel
theorem dX12_readStep_51 : decode cX12_readStep 51 = .ok (.iconst 4, 1) := by decide +kernel
theorem dX12_readStep_52 : decode cX12_readStep 52 = .ok (.invokevirtual 190, 3) := by decide +kernel
theorem dX12_readStep_55 : decode cX12_readStep 55 = .ok (.aload_n 0, 1) := by decide +kernel
theorem dX12_readStep_56 : decode cX12_readStep 56 = .ok (.getfield 174, 3) := by decide +kernel
theorem dX12_readStep_59 : decode cX12_readStep 59 = .ok (.ifCond .le 4, 3) := by decide +kernel
theorem dX12_readStep_62 : decode cX12_readStep 62 = .ok (.return_, 1) := by decide +kernel
theorem dX12_readStep_63 : decode cX12_readStep 63 = .ok (.bipush 12, 2) := by decide +kernel
theorem dX12_readStep_65 : decode cX12_readStep 65 = .ok (.iload_n 1, 1) := by decide +kernel
theorem dX12_readStep_66 : decode cX12_readStep 66 = .ok (.imul, 1) := by decide +kernel
theorem dX12_readStep_67 : decode cX12_readStep 67 = .ok (.aload_n 0, 1) := by decide +kernel
theorem dX12_readStep_68 : decode cX12_readStep 68 = .ok (.getfield 28, 3) := by decide +kernel
theorem dX12_readStep_71 : decode cX12_readStep 71 = .ok (.iload_n 1, 1) := by decide +kernel
theorem dX12_readStep_72 : decode cX12_readStep 72 = .ok (.iaload, 1) := by decide +kernel
theorem dX12_readStep_73 : decode cX12_readStep 73 = .ok (.iadd, 1) := by decide +kernel
theorem dX12_readStep_74 : decode cX12_readStep 74 = .ok (.istore_n 3, 1) := by decide +kernel
theorem dX12_readStep_75 : decode cX12_readStep 75 = .ok (.aload_n 0, 1) := by decide +kernel
theorem dX12_readStep_76 : decode cX12_readStep 76 = .ok (.getfield 31, 3) := by decide +kernel
theorem dX12_readStep_79 : decode cX12_readStep 79 = .ok (.iload_n 3, 1) := by decide +kernel
theorem dX12_readStep_80 : decode cX12_readStep 80 = .ok (.aload_n 0, 1) := by decide +kernel
theorem dX12_readStep_81 : decode cX12_readStep 81 = .ok (.getfield 167, 3) := by decide +kernel
theorem dX12_readStep_84 : decode cX12_readStep 84 = .ok (.iastore, 1) := by decide +kernel
theorem dX12_readStep_85 : decode cX12_readStep 85 = .ok (.aload_n 0, 1) := by decide +kernel
theorem dX12_readStep_86 : decode cX12_readStep 86 = .ok (.getfield 34, 3) := by decide +kernel
theorem dX12_readStep_89 : decode cX12_readStep 89 = .ok (.iload_n 3, 1) := by decide +kernel
theorem dX12_readStep_90 : decode cX12_readStep 90 = .ok (.iconst (-1), 1) := by decide +kernel
theorem dX12_readStep_91 : decode cX12_readStep 91 = .ok (.iastore, 1) := by decide +kernel
theorem dX12_readStep_92 : decode cX12_readStep 92 = .ok (.aload_n 0, 1) := by decide +kernel
theorem dX12_readStep_93 : decode cX12_readStep 93 = .ok (.invokevirtual 197, 3) := by decide +kernel
theorem dX12_readStep_96 : decode cX12_readStep 96 = .ok (.aload_n 0, 1) := by decide +kernel
theorem dX12_readStep_97 : decode cX12_readStep 97 = .ok (.getfield 31, 3) := by decide +kernel
theorem dX12_readStep_100 : decode cX12_readStep 100 = .ok (.iload_n 3, 1) := by decide +kernel
theorem dX12_readStep_101 : decode cX12_readStep 101 = .ok (.iaload, 1) := by decide +kernel
theorem dX12_readStep_102 : decode cX12_readStep 102 = .ok (.iconst 4, 1) := by decide +kernel
theorem dX12_readStep_103 : decode cX12_readStep 103 = .ok (.if_icmp .gt 14, 3) := by decide +kernel
theorem dX12_readStep_106 : decode cX12_readStep 106 = .ok (.aload_n 0, 1) := by decide +kernel
theorem dX12_readStep_107 : decode cX12_readStep 107 = .ok (.getfield 34, 3) := by decide +kernel
theorem dX12_readStep_110 : decode cX12_readStep 110 = .ok (.iload_n 3, 1) := by decide +kernel
theorem dX12_readStep_111 : decode cX12_readStep 111 = .ok (.aload_n 0, 1) := by decide +kernel
theorem dX12_readStep_112 : decode cX12_readStep 112 = .ok (.iconst 1, 1) := by decide +kernel
theorem dX12_readStep_113 : decode cX12_readStep 113 = .ok (.invokevirtual 219, 3) := by decide +kernel
theorem dX12_readStep_116 : decode cX12_readStep 116 = .ok (.iastore, 1) := by decide +kernel
theorem dX12_readStep_117 : decode cX12_readStep 117 = .ok (.aload_n 0, 1) := by decide +kernel
theorem dX12_readStep_118 : decode cX12_readStep 118 = .ok (.getfield 28, 3) := by decide +kernel
theorem dX12_readStep_121 : decode cX12_readStep 121 = .ok (.iload_n 1, 1) := by decide +kernel
theorem dX12_readStep_122 : decode cX12_readStep 122 = .ok (.dup2, 1) := by decide +kernel
theorem dX12_readStep_123 : decode cX12_readStep 123 = .ok (.iaload, 1) := by decide +kernel
theorem dX12_readStep_124 : decode cX12_readStep 124 = .ok (.iconst 1, 1) := by decide +kernel
theorem dX12_readStep_125 : decode cX12_readStep 125 = .ok (.iadd, 1) := by decide +kernel
theorem dX12_readStep_126 : decode cX12_readStep 126 = .ok (.iastore, 1) := by decide +kernel
theorem dX12_readStep_127 : decode cX12_readStep 127 = .ok (.return_, 1) := by decide +kernel
theorem dX12_store_0 : decode cX12_store 0 = .ok (.iconst 1, 1) := by decide +kernel
theorem dX12_store_1 : decode cX12_store 1 = .ok (.aload_n 0, 1) := by decide +kernel
theorem dX12_store_2 : decode cX12_store 2 = .ok (.getfield 229, 3) := by decide +kernel
theorem dX12_store_5 : decode cX12_store 5 = .ok (.isub, 1) := by decide +kernel
theorem dX12_store_6 : decode cX12_store 6 = .ok (.istore_n 1, 1) := by decide +kernel
theorem dX12_store_7 : decode cX12_store 7 = .ok (.aload_n 0, 1) := by decide +kernel
theorem dX12_store_8 : decode cX12_store 8 = .ok (.aload_n 0, 1) := by decide +kernel
theorem dX12_store_9 : decode cX12_store 9 = .ok (.getfield 138, 3) := by decide +kernel
theorem dX12_store_12 : decode cX12_store 12 = .ok (.putfield 141, 3) := by decide +kernel
theorem dX12_store_15 : decode cX12_store 15 = .ok (.aload_n 0, 1) := by decide +kernel
theorem dX12_store_16 : decode cX12_store 16 = .ok (.iconst 0, 1) := by decide +kernel
theorem dX12_store_17 : decode cX12_store 17 = .ok (.putfield 138, 3) := by decide +kernel
theorem dX12_store_20 : decode cX12_store 20 = .ok (.aload_n 0, 1) := by decide +kernel
theorem dX12_store_21 : decode cX12_store 21 = .ok (.iconst 0, 1) := by decide +kernel
theorem dX12_store_22 : decode cX12_store 22 = .ok (.putfield 144, 3) := by decide +kernel
theorem dX12_store_25 : decode cX12_store 25 = .ok (.aload_n 0, 1) := by decide +kernel
theorem dX12_store_26 : decode cX12_store 26 = .ok (.iconst 0, 1) := by decide +kernel
theorem dX12_store_27 : decode cX12_store 27 = .ok (.putfield 174, 3) := by decide +kernel
theorem dX12_store_30 : decode cX12_store 30 = .ok (.aload_n 0, 1) := by decide +kernel
theorem dX12_store_31 : decode cX12_store 31 = .ok (.iconst (-1), 1) := by decide +kernel
theorem dX12_store_32 : decode cX12_store 32 = .ok (.putfield 177, 3) := by decide +kernel
theorem dX12_store_35 : decode cX12_store 35 = .ok (.aload_n 0, 1) := by decide +kernel
theorem dX12_store_36 : decode cX12_store 36 = .ok (.iconst 0, 1) := by decide +kernel
theorem dX12_store_37 : decode cX12_store 37 = .ok (.putfield 180, 3) := by decide +kernel
theorem dX12_store_40 : decode cX12_store 40 = .ok (.aload_n 0, 1) := by decide +kernel
theorem dX12_store_41 : decode cX12_store 41 = .ok (.iload_n 1, 1) := by decide +kernel
theorem dX12_store_42 : decode cX12_store 42 = .ok (.invokevirtual 131, 3) := by decide +kernel
theorem dX12_store_45 : decode cX12_store 45 = .ok (.aload_n 0, 1) := by decide +kernel
theorem dX12_store_46 : decode cX12_store 46 = .ok (.iload_n 1, 1) := by decide +kernel
theorem dX12_store_47 : decode cX12_store 47 = .ok (.invokevirtual 232, 3) := by decide +kernel
theorem dX12_store_50 : decode cX12_store 50 = .ok (.aload_n 0, 1) := by decide +kernel
theorem dX12_store_51 : decode cX12_store 51 = .ok (.aload_n 0, 1) := by decide +kernel
theorem dX12_store_52 : decode cX12_store 52 = .ok (.getfield 174, 3) := by decide +kernel
theorem dX12_store_55 : decode cX12_store 55 = .ok (.putfield 235, 3) := by decide +kernel
theorem dX12_store_58 : decode cX12_store 58 = .ok (.aload_n 0, 1) := by decide +kernel
theorem dX12_store_59 : decode cX12_store 59 = .ok (.aload_n 0, 1) := by decide +kernel
theorem dX12_store_60 : decode cX12_store 60 = .ok (.getfield 177, 3) := by decide +kernel
theorem dX12_store_63 : decode cX12_store 63 = .ok (.putfield 41, 3) := by decide +kernel
theorem dX12_store_66 : decode cX12_store 66 = .ok (.aload_n 0, 1) := by decide +kernel
theorem dX12_store_67 : decode cX12_store 67 = .ok (.getfield 235, 3) := by decide +kernel
theorem dX12_store_70 : decode cX12_store 70 = .ok (.ifCond .le 5, 3) := by decide +kernel
theorem dX12_store_73 : decode cX12_store 73 = .ok (.iconst (-1), 1) := by decide +kernel
theorem dX12_store_74 : decode cX12_store 74 = .ok (.ireturn, 1) := by decide +kernel
theorem dX12_store_75 : decode cX12_store 75 = .ok (.aload_n 0, 1) := by decide +kernel
theorem dX12_store_76 : decode cX12_store 76 = .ok (.iload_n 1, 1) := by decide +kernel
theorem dX12_store_77 : decode cX12_store 77 = .ok (.putfield 229, 3) := by decide +kernel
theorem dX12_store_80 : decode cX12_store 80 = .ok (.aload_n 0, 1) := by decide +kernel
theorem dX12_store_81 : decode cX12_store 81 = .ok (.invokevirtual 135, 3) := by decide +kernel
theorem dX12_store_84 : decode cX12_store 84 = .ok (.aload_n 0, 1) := by decide +kernel
theorem dX12_store_85 : decode cX12_store 85 = .ok (.getfield 19, 3) := by decide +kernel
theorem dX12_store_88 : decode cX12_store 88 = .ok (.iload_n 1, 1) := by decide +kernel
theorem dX12_store_89 : decode cX12_store 89 = .ok (.iaload, 1) := by decide +kernel
theorem dX12_store_90 : decode cX12_store 90 = .ok (.ireturn, 1) := by decide +kernel
theorem dX12_fault_0 : decode cX12_fault 0 = .ok (.iload_n 1, 1) := by decide +kernel
theorem dX12_fault_1 : decode cX12_fault 1 = .ok (.ifCond .ne 10, 3) := by decide +kernel
theorem dX12_fault_4 : decode cX12_fault 4 = .ok (.aload_n 0, 1) := by decide +kernel
theorem dX12_fault_5 : decode cX12_fault 5 = .ok (.getfield 235, 3) := by decide +kernel
theorem dX12_fault_8 : decode cX12_fault 8 = .ok (.goto 16, 3) := by decide +kernel
theorem dX12_fault_11 : decode cX12_fault 11 = .ok (.iload_n 1, 1) := by decide +kernel
theorem dX12_fault_12 : decode cX12_fault 12 = .ok (.iconst 1, 1) := by decide +kernel
theorem dX12_fault_13 : decode cX12_fault 13 = .ok (.if_icmp .ne 10, 3) := by decide +kernel
theorem dX12_fault_16 : decode cX12_fault 16 = .ok (.aload_n 0, 1) := by decide +kernel
theorem dX12_fault_17 : decode cX12_fault 17 = .ok (.getfield 41, 3) := by decide +kernel
theorem dX12_fault_20 : decode cX12_fault 20 = .ok (.goto 4, 3) := by decide +kernel
theorem dX12_fault_23 : decode cX12_fault 23 = .ok (.iconst (-1), 1) := by decide +kernel
theorem dX12_fault_24 : decode cX12_fault 24 = .ok (.ireturn, 1) := by decide +kernel
theorem dX12_isProgram_0 : decode cX12_isProgram 0 = .ok (.iload_n 1, 1) := by decide +kernel
theorem dX12_isProgram_1 : decode cX12_isProgram 1 = .ok (.iconst 0, 1) := by decide +kernel
theorem dX12_isProgram_2 : decode cX12_isProgram 2 = .ok (.aload_n 0, 1) := by decide +kernel
theorem dX12_isProgram_3 : decode cX12_isProgram 3 = .ok (.getfield 19, 3) := by decide +kernel
theorem dX12_isProgram_6 : decode cX12_isProgram 6 = .ok (.aload_n 0, 1) := by decide +kernel
theorem dX12_isProgram_7 : decode cX12_isProgram 7 = .ok (.getfield 229, 3) := by decide +kernel
theorem dX12_isProgram_10 : decode cX12_isProgram 10 = .ok (.iaload, 1) := by decide +kernel
theorem dX12_isProgram_11 : decode cX12_isProgram 11 = .ok (.iconst 1, 1) := by decide +kernel
theorem dX12_isProgram_12 : decode cX12_isProgram 12 = .ok (.isub, 1) := by decide +kernel
theorem dX12_isProgram_13 : decode cX12_isProgram 13 = .ok (.invokestatic 225, 3) := by decide +kernel
theorem dX12_isProgram_16 : decode cX12_isProgram 16 = .ok (.ireturn, 1) := by decide +kernel
theorem dX12_isNode_0 : decode cX12_isNode 0 = .ok (.iload_n 0, 1) := by decide +kernel
theorem dX12_isNode_1 : decode cX12_isNode 1 = .ok (.iconst 0, 1) := by decide +kernel
theorem dX12_isNode_2 : decode cX12_isNode 2 = .ok (.bipush 15, 2) := by decide +kernel
theorem dX12_isNode_4 : decode cX12_isNode 4 = .ok (.invokestatic 225, 3) := by decide +kernel
theorem dX12_isNode_7 : decode cX12_isNode 7 = .ok (.ireturn, 1) := by decide +kernel
theorem dX12_sortOf_0 : decode cX12_sortOf 0 = .ok (.aload_n 0, 1) := by decide +kernel
theorem dX12_sortOf_1 : decode cX12_sortOf 1 = .ok (.getfield 25, 3) := by decide +kernel
theorem dX12_sortOf_4 : decode cX12_sortOf 4 = .ok (.bipush 6, 2) := by decide +kernel
theorem dX12_sortOf_6 : decode cX12_sortOf 6 = .ok (.aload_n 0, 1) := by decide +kernel
theorem dX12_sortOf_7 : decode cX12_sortOf 7 = .ok (.getfield 229, 3) := by decide +kernel
theorem dX12_sortOf_10 : decode cX12_sortOf 10 = .ok (.imul, 1) := by decide +kernel
theorem dX12_sortOf_11 : decode cX12_sortOf 11 = .ok (.iload_n 1, 1) := by decide +kernel
theorem dX12_sortOf_12 : decode cX12_sortOf 12 = .ok (.iadd, 1) := by decide +kernel
theorem dX12_sortOf_13 : decode cX12_sortOf 13 = .ok (.iaload, 1) := by decide +kernel
theorem dX12_sortOf_14 : decode cX12_sortOf 14 = .ok (.ireturn, 1) := by decide +kernel
theorem dX12_stepsOf_0 : decode cX12_stepsOf 0 = .ok (.aload_n 0, 1) := by decide +kernel
theorem dX12_stepsOf_1 : decode cX12_stepsOf 1 = .ok (.getfield 28, 3) := by decide +kernel
theorem dX12_stepsOf_4 : decode cX12_stepsOf 4 = .ok (.bipush 6, 2) := by decide +kernel
theorem dX12_stepsOf_6 : decode cX12_stepsOf 6 = .ok (.aload_n 0, 1) := by decide +kernel
theorem dX12_stepsOf_7 : decode cX12_stepsOf 7 = .ok (.getfield 229, 3) := by decide +kernel
theorem dX12_stepsOf_10 : decode cX12_stepsOf 10 = .ok (.imul, 1) := by decide +kernel
theorem dX12_stepsOf_11 : decode cX12_stepsOf 11 = .ok (.iload_n 1, 1) := by decide +kernel
theorem dX12_stepsOf_12 : decode cX12_stepsOf 12 = .ok (.iadd, 1) := by decide +kernel
theorem dX12_stepsOf_13 : decode cX12_stepsOf 13 = .ok (.iaload, 1) := by decide +kernel
theorem dX12_stepsOf_14 : decode cX12_stepsOf 14 = .ok (.ireturn, 1) := by decide +kernel
theorem dX12_opOf_0 : decode cX12_opOf 0 = .ok (.aload_n 0, 1) := by decide +kernel
theorem dX12_opOf_1 : decode cX12_opOf 1 = .ok (.getfield 7, 3) := by decide +kernel
theorem dX12_opOf_4 : decode cX12_opOf 4 = .ok (.sipush 1541, 3) := by decide +kernel
theorem dX12_opOf_7 : decode cX12_opOf 7 = .ok (.bipush 12, 2) := by decide +kernel
theorem dX12_opOf_9 : decode cX12_opOf 9 = .ok (.iload_n 1, 1) := by decide +kernel
theorem dX12_opOf_10 : decode cX12_opOf 10 = .ok (.imul, 1) := by decide +kernel
theorem dX12_opOf_11 : decode cX12_opOf 11 = .ok (.iadd, 1) := by decide +kernel
theorem dX12_opOf_12 : decode cX12_opOf 12 = .ok (.iload_n 2, 1) := by decide +kernel
theorem dX12_opOf_13 : decode cX12_opOf 13 = .ok (.iadd, 1) := by decide +kernel
theorem dX12_opOf_14 : decode cX12_opOf 14 = .ok (.iaload, 1) := by decide +kernel
theorem dX12_opOf_15 : decode cX12_opOf 15 = .ok (.ireturn, 1) := by decide +kernel
theorem dX12_lockOf_0 : decode cX12_lockOf 0 = .ok (.aload_n 0, 1) := by decide +kernel
theorem dX12_lockOf_1 : decode cX12_lockOf 1 = .ok (.getfield 7, 3) := by decide +kernel
theorem dX12_lockOf_4 : decode cX12_lockOf 4 = .ok (.sipush 1613, 3) := by decide +kernel
theorem dX12_lockOf_7 : decode cX12_lockOf 7 = .ok (.bipush 12, 2) := by decide +kernel
theorem dX12_lockOf_9 : decode cX12_lockOf 9 = .ok (.iload_n 1, 1) := by decide +kernel
theorem dX12_lockOf_10 : decode cX12_lockOf 10 = .ok (.imul, 1) := by decide +kernel
theorem dX12_lockOf_11 : decode cX12_lockOf 11 = .ok (.iadd, 1) := by decide +kernel
theorem dX12_lockOf_12 : decode cX12_lockOf 12 = .ok (.iload_n 2, 1) := by decide +kernel
theorem dX12_lockOf_13 : decode cX12_lockOf 13 = .ok (.iadd, 1) := by decide +kernel
theorem dX12_lockOf_14 : decode cX12_lockOf 14 = .ok (.iaload, 1) := by decide +kernel
theorem dX12_lockOf_15 : decode cX12_lockOf 15 = .ok (.ireturn, 1) := by decide +kernel
theorem dX12_kind_0 : decode cX12_kind 0 = .ok (.aload_n 0, 1) := by decide +kernel
theorem dX12_kind_1 : decode cX12_kind 1 = .ok (.getfield 22, 3) := by decide +kernel
theorem dX12_kind_4 : decode cX12_kind 4 = .ok (.bipush 10, 2) := by decide +kernel
theorem dX12_kind_6 : decode cX12_kind 6 = .ok (.aload_n 0, 1) := by decide +kernel
theorem dX12_kind_7 : decode cX12_kind 7 = .ok (.getfield 229, 3) := by decide +kernel
theorem dX12_kind_10 : decode cX12_kind 10 = .ok (.imul, 1) := by decide +kernel
theorem dX12_kind_11 : decode cX12_kind 11 = .ok (.iload_n 1, 1) := by decide +kernel
theorem dX12_kind_12 : decode cX12_kind 12 = .ok (.iadd, 1) := by decide +kernel
theorem dX12_kind_13 : decode cX12_kind 13 = .ok (.iaload, 1) := by decide +kernel
theorem dX12_kind_14 : decode cX12_kind 14 = .ok (.ireturn, 1) := by decide +kernel
theorem dX12_startAnew_0 : decode cX12_startAnew 0 = .ok (.aload_n 0, 1) := by decide +kernel
theorem dX12_startAnew_1 : decode cX12_startAnew 1 = .ok (.invokevirtual 238, 3) := by decide +kernel
theorem dX12_startAnew_4 : decode cX12_startAnew 4 = .ok (.iconst 0, 1) := by decide +kernel
theorem dX12_startAnew_5 : decode cX12_startAnew 5 = .ok (.istore_n 1, 1) := by decide +kernel
theorem dX12_startAnew_6 : decode cX12_startAnew 6 = .ok (.iload_n 1, 1) := by decide +kernel
theorem dX12_startAnew_7 : decode cX12_startAnew 7 = .ok (.bipush 72, 2) := by decide +kernel
theorem dX12_startAnew_9 : decode cX12_startAnew 9 = .ok (.if_icmp .ge 57, 3) := by decide +kernel
theorem dX12_startAnew_12 : decode cX12_startAnew 12 = .ok (.aload_n 0, 1) := by decide +kernel
theorem dX12_startAnew_13 : decode cX12_startAnew 13 = .ok (.getfield 7, 3) := by decide +kernel
theorem dX12_startAnew_16 : decode cX12_startAnew 16 = .ok (.sipush 1541, 3) := by decide +kernel
theorem dX12_startAnew_19 : decode cX12_startAnew 19 = .ok (.iload_n 1, 1) := by decide +kernel
theorem dX12_startAnew_20 : decode cX12_startAnew 20 = .ok (.iadd, 1) := by decide +kernel
theorem dX12_startAnew_21 : decode cX12_startAnew 21 = .ok (.aload_n 0, 1) := by decide +kernel
theorem dX12_startAnew_22 : decode cX12_startAnew 22 = .ok (.getfield 31, 3) := by decide +kernel
theorem dX12_startAnew_25 : decode cX12_startAnew 25 = .ok (.bipush 72, 2) := by decide +kernel
theorem dX12_startAnew_27 : decode cX12_startAnew 27 = .ok (.aload_n 0, 1) := by decide +kernel
theorem dX12_startAnew_28 : decode cX12_startAnew 28 = .ok (.getfield 229, 3) := by decide +kernel
theorem dX12_startAnew_31 : decode cX12_startAnew 31 = .ok (.imul, 1) := by decide +kernel
theorem dX12_startAnew_32 : decode cX12_startAnew 32 = .ok (.iload_n 1, 1) := by decide +kernel
theorem dX12_startAnew_33 : decode cX12_startAnew 33 = .ok (.iadd, 1) := by decide +kernel
theorem dX12_startAnew_34 : decode cX12_startAnew 34 = .ok (.iaload, 1) := by decide +kernel
theorem dX12_startAnew_35 : decode cX12_startAnew 35 = .ok (.iastore, 1) := by decide +kernel
theorem dX12_startAnew_36 : decode cX12_startAnew 36 = .ok (.aload_n 0, 1) := by decide +kernel
theorem dX12_startAnew_37 : decode cX12_startAnew 37 = .ok (.getfield 7, 3) := by decide +kernel
theorem dX12_startAnew_40 : decode cX12_startAnew 40 = .ok (.sipush 1613, 3) := by decide +kernel
theorem dX12_startAnew_43 : decode cX12_startAnew 43 = .ok (.iload_n 1, 1) := by decide +kernel
theorem dX12_startAnew_44 : decode cX12_startAnew 44 = .ok (.iadd, 1) := by decide +kernel
theorem dX12_startAnew_45 : decode cX12_startAnew 45 = .ok (.aload_n 0, 1) := by decide +kernel
