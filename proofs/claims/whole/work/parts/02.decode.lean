theorem dL_law_0 : decode cL_law 0 = .ok (.new 7, 3) := by decide +kernel
theorem dL_law_3 : decode cL_law 3 = .ok (.dup, 1) := by decide +kernel
theorem dL_law_4 : decode cL_law 4 = .ok (.invokespecial 9, 3) := by decide +kernel
theorem dL_law_7 : decode cL_law 7 = .ok (.astore_n 1, 1) := by decide +kernel
theorem dL_law_8 : decode cL_law 8 = .ok (.new 10, 3) := by decide +kernel
theorem dL_law_11 : decode cL_law 11 = .ok (.dup, 1) := by decide +kernel
theorem dL_law_12 : decode cL_law 12 = .ok (.invokespecial 12, 3) := by decide +kernel
theorem dL_law_15 : decode cL_law 15 = .ok (.astore_n 2, 1) := by decide +kernel
theorem dL_law_16 : decode cL_law 16 = .ok (.iconst 0, 1) := by decide +kernel
theorem dL_law_17 : decode cL_law 17 = .ok (.istore_n 3, 1) := by decide +kernel
theorem dL_law_18 : decode cL_law 18 = .ok (.iload_n 3, 1) := by decide +kernel
theorem dL_law_19 : decode cL_law 19 = .ok (.aload_n 0, 1) := by decide +kernel
theorem dL_law_20 : decode cL_law 20 = .ok (.arraylength, 1) := by decide +kernel
theorem dL_law_21 : decode cL_law 21 = .ok (.iconst 4, 1) := by decide +kernel
theorem dL_law_22 : decode cL_law 22 = .ok (.isub, 1) := by decide +kernel
theorem dL_law_23 : decode cL_law 23 = .ok (.if_icmp .gt 565, 3) := by decide +kernel
theorem dL_law_26 : decode cL_law 26 = .ok (.aload_n 0, 1) := by decide +kernel
theorem dL_law_27 : decode cL_law 27 = .ok (.iload_n 3, 1) := by decide +kernel
theorem dL_law_28 : decode cL_law 28 = .ok (.iaload, 1) := by decide +kernel
theorem dL_law_29 : decode cL_law 29 = .ok (.bipush 31, 2) := by decide +kernel
theorem dL_law_31 : decode cL_law 31 = .ok (.iand, 1) := by decide +kernel
theorem dL_law_32 : decode cL_law 32 = .ok (.tableswitch 550 0 17 #[88, 111, 124, 137, 196, 219, 244, 257, 270, 283, 296, 329, 372, 415, 448, 481, 504, 527], 88) := by decide +kernel
theorem dL_law_120 : decode cL_law 120 = .ok (.aload_n 1, 1) := by decide +kernel
theorem dL_law_121 : decode cL_law 121 = .ok (.aload_n 0, 1) := by decide +kernel
theorem dL_law_122 : decode cL_law 122 = .ok (.iload_n 3, 1) := by decide +kernel
theorem dL_law_123 : decode cL_law 123 = .ok (.iconst 1, 1) := by decide +kernel
theorem dL_law_124 : decode cL_law 124 = .ok (.iadd, 1) := by decide +kernel
theorem dL_law_125 : decode cL_law 125 = .ok (.iaload, 1) := by decide +kernel
theorem dL_law_126 : decode cL_law 126 = .ok (.invokevirtual 13, 3) := by decide +kernel
theorem dL_law_129 : decode cL_law 129 = .ok (.aload_n 2, 1) := by decide +kernel
theorem dL_law_130 : decode cL_law 130 = .ok (.aload_n 0, 1) := by decide +kernel
theorem dL_law_131 : decode cL_law 131 = .ok (.iload_n 3, 1) := by decide +kernel
theorem dL_law_132 : decode cL_law 132 = .ok (.iconst 1, 1) := by decide +kernel
theorem dL_law_133 : decode cL_law 133 = .ok (.iadd, 1) := by decide +kernel
theorem dL_law_134 : decode cL_law 134 = .ok (.iaload, 1) := by decide +kernel
theorem dL_law_135 : decode cL_law 135 = .ok (.invokevirtual 17, 3) := by decide +kernel
theorem dL_law_138 : decode cL_law 138 = .ok (.if_icmp .eq 444, 3) := by decide +kernel
theorem dL_law_141 : decode cL_law 141 = .ok (.iconst 0, 1) := by decide +kernel
theorem dL_law_142 : decode cL_law 142 = .ok (.ireturn, 1) := by decide +kernel
theorem dL_law_143 : decode cL_law 143 = .ok (.aload_n 1, 1) := by decide +kernel
theorem dL_law_144 : decode cL_law 144 = .ok (.invokevirtual 18, 3) := by decide +kernel
theorem dL_law_147 : decode cL_law 147 = .ok (.aload_n 2, 1) := by decide +kernel
theorem dL_law_148 : decode cL_law 148 = .ok (.invokevirtual 22, 3) := by decide +kernel
theorem dL_law_151 : decode cL_law 151 = .ok (.if_icmp .eq 431, 3) := by decide +kernel
theorem dL_law_154 : decode cL_law 154 = .ok (.iconst 0, 1) := by decide +kernel
theorem dL_law_155 : decode cL_law 155 = .ok (.ireturn, 1) := by decide +kernel
theorem dL_law_156 : decode cL_law 156 = .ok (.aload_n 1, 1) := by decide +kernel
theorem dL_law_157 : decode cL_law 157 = .ok (.invokevirtual 23, 3) := by decide +kernel
theorem dL_law_160 : decode cL_law 160 = .ok (.aload_n 2, 1) := by decide +kernel
theorem dL_law_161 : decode cL_law 161 = .ok (.invokevirtual 26, 3) := by decide +kernel
theorem dL_law_164 : decode cL_law 164 = .ok (.if_icmp .eq 418, 3) := by decide +kernel
theorem dL_law_167 : decode cL_law 167 = .ok (.iconst 0, 1) := by decide +kernel
theorem dL_law_168 : decode cL_law 168 = .ok (.ireturn, 1) := by decide +kernel
theorem dL_law_169 : decode cL_law 169 = .ok (.aload_n 1, 1) := by decide +kernel
theorem dL_law_170 : decode cL_law 170 = .ok (.aload_n 0, 1) := by decide +kernel
theorem dL_law_171 : decode cL_law 171 = .ok (.iload_n 3, 1) := by decide +kernel
theorem dL_law_172 : decode cL_law 172 = .ok (.iconst 1, 1) := by decide +kernel
theorem dL_law_173 : decode cL_law 173 = .ok (.iadd, 1) := by decide +kernel
theorem dL_law_174 : decode cL_law 174 = .ok (.iaload, 1) := by decide +kernel
theorem dL_law_175 : decode cL_law 175 = .ok (.aload_n 0, 1) := by decide +kernel
theorem dL_law_176 : decode cL_law 176 = .ok (.iload_n 3, 1) := by decide +kernel
theorem dL_law_177 : decode cL_law 177 = .ok (.iconst 2, 1) := by decide +kernel
theorem dL_law_178 : decode cL_law 178 = .ok (.iadd, 1) := by decide +kernel
theorem dL_law_179 : decode cL_law 179 = .ok (.iaload, 1) := by decide +kernel
theorem dL_law_180 : decode cL_law 180 = .ok (.aload_n 0, 1) := by decide +kernel
theorem dL_law_181 : decode cL_law 181 = .ok (.iload_n 3, 1) := by decide +kernel
theorem dL_law_182 : decode cL_law 182 = .ok (.iconst 3, 1) := by decide +kernel
theorem dL_law_183 : decode cL_law 183 = .ok (.iadd, 1) := by decide +kernel
theorem dL_law_184 : decode cL_law 184 = .ok (.iaload, 1) := by decide +kernel
theorem dL_law_185 : decode cL_law 185 = .ok (.ifCond .eq 7, 3) := by decide +kernel
theorem dL_law_188 : decode cL_law 188 = .ok (.iconst 1, 1) := by decide +kernel
theorem dL_law_189 : decode cL_law 189 = .ok (.goto 4, 3) := by decide +kernel
theorem dL_law_192 : decode cL_law 192 = .ok (.iconst 0, 1) := by decide +kernel
theorem dL_law_193 : decode cL_law 193 = .ok (.invokevirtual 27, 3) := by decide +kernel
theorem dL_law_196 : decode cL_law 196 = .ok (.aload_n 2, 1) := by decide +kernel
theorem dL_law_197 : decode cL_law 197 = .ok (.aload_n 0, 1) := by decide +kernel
theorem dL_law_198 : decode cL_law 198 = .ok (.iload_n 3, 1) := by decide +kernel
theorem dL_law_199 : decode cL_law 199 = .ok (.iconst 1, 1) := by decide +kernel
theorem dL_law_200 : decode cL_law 200 = .ok (.iadd, 1) := by decide +kernel
theorem dL_law_201 : decode cL_law 201 = .ok (.iaload, 1) := by decide +kernel
theorem dL_law_202 : decode cL_law 202 = .ok (.aload_n 0, 1) := by decide +kernel
theorem dL_law_203 : decode cL_law 203 = .ok (.iload_n 3, 1) := by decide +kernel
theorem dL_law_204 : decode cL_law 204 = .ok (.iconst 2, 1) := by decide +kernel
theorem dL_law_205 : decode cL_law 205 = .ok (.iadd, 1) := by decide +kernel
theorem dL_law_206 : decode cL_law 206 = .ok (.iaload, 1) := by decide +kernel
theorem dL_law_207 : decode cL_law 207 = .ok (.aload_n 0, 1) := by decide +kernel
theorem dL_law_208 : decode cL_law 208 = .ok (.iload_n 3, 1) := by decide +kernel
theorem dL_law_209 : decode cL_law 209 = .ok (.iconst 3, 1) := by decide +kernel
theorem dL_law_210 : decode cL_law 210 = .ok (.iadd, 1) := by decide +kernel
theorem dL_law_211 : decode cL_law 211 = .ok (.iaload, 1) := by decide +kernel
theorem dL_law_212 : decode cL_law 212 = .ok (.ifCond .eq 7, 3) := by decide +kernel
theorem dL_law_215 : decode cL_law 215 = .ok (.iconst 1, 1) := by decide +kernel
theorem dL_law_216 : decode cL_law 216 = .ok (.goto 4, 3) := by decide +kernel
theorem dL_law_219 : decode cL_law 219 = .ok (.iconst 0, 1) := by decide +kernel
theorem dL_law_220 : decode cL_law 220 = .ok (.invokevirtual 31, 3) := by decide +kernel
theorem dL_law_223 : decode cL_law 223 = .ok (.if_icmp .eq 359, 3) := by decide +kernel
theorem dL_law_226 : decode cL_law 226 = .ok (.iconst 0, 1) := by decide +kernel
theorem dL_law_227 : decode cL_law 227 = .ok (.ireturn, 1) := by decide +kernel
theorem dL_law_228 : decode cL_law 228 = .ok (.aload_n 1, 1) := by decide +kernel
theorem dL_law_229 : decode cL_law 229 = .ok (.aload_n 0, 1) := by decide +kernel
theorem dL_law_230 : decode cL_law 230 = .ok (.iload_n 3, 1) := by decide +kernel
theorem dL_law_231 : decode cL_law 231 = .ok (.iconst 1, 1) := by decide +kernel
theorem dL_law_232 : decode cL_law 232 = .ok (.iadd, 1) := by decide +kernel
theorem dL_law_233 : decode cL_law 233 = .ok (.iaload, 1) := by decide +kernel
theorem dL_law_234 : decode cL_law 234 = .ok (.invokevirtual 32, 3) := by decide +kernel
theorem dL_law_237 : decode cL_law 237 = .ok (.aload_n 2, 1) := by decide +kernel
theorem dL_law_238 : decode cL_law 238 = .ok (.aload_n 0, 1) := by decide +kernel
theorem dL_law_239 : decode cL_law 239 = .ok (.iload_n 3, 1) := by decide +kernel
theorem dL_law_240 : decode cL_law 240 = .ok (.iconst 1, 1) := by decide +kernel
theorem dL_law_241 : decode cL_law 241 = .ok (.iadd, 1) := by decide +kernel
theorem dL_law_242 : decode cL_law 242 = .ok (.iaload, 1) := by decide +kernel
theorem dL_law_243 : decode cL_law 243 = .ok (.invokevirtual 35, 3) := by decide +kernel
theorem dL_law_246 : decode cL_law 246 = .ok (.if_icmp .eq 336, 3) := by decide +kernel
theorem dL_law_249 : decode cL_law 249 = .ok (.iconst 0, 1) := by decide +kernel
theorem dL_law_250 : decode cL_law 250 = .ok (.ireturn, 1) := by decide +kernel
theorem dL_law_251 : decode cL_law 251 = .ok (.aload_n 1, 1) := by decide +kernel
theorem dL_law_252 : decode cL_law 252 = .ok (.aload_n 0, 1) := by decide +kernel
theorem dL_law_253 : decode cL_law 253 = .ok (.iload_n 3, 1) := by decide +kernel
theorem dL_law_254 : decode cL_law 254 = .ok (.iconst 1, 1) := by decide +kernel
theorem dL_law_255 : decode cL_law 255 = .ok (.iadd, 1) := by decide +kernel
theorem dL_law_256 : decode cL_law 256 = .ok (.iaload, 1) := by decide +kernel
theorem dL_law_257 : decode cL_law 257 = .ok (.i2c, 1) := by decide +kernel
theorem dL_law_258 : decode cL_law 258 = .ok (.invokevirtual 36, 3) := by decide +kernel
theorem dL_law_261 : decode cL_law 261 = .ok (.aload_n 2, 1) := by decide +kernel
theorem dL_law_262 : decode cL_law 262 = .ok (.aload_n 0, 1) := by decide +kernel
theorem dL_law_263 : decode cL_law 263 = .ok (.iload_n 3, 1) := by decide +kernel
theorem dL_law_264 : decode cL_law 264 = .ok (.iconst 1, 1) := by decide +kernel
theorem dL_law_265 : decode cL_law 265 = .ok (.iadd, 1) := by decide +kernel
theorem dL_law_266 : decode cL_law 266 = .ok (.iaload, 1) := by decide +kernel
theorem dL_law_267 : decode cL_law 267 = .ok (.i2c, 1) := by decide +kernel
theorem dL_law_268 : decode cL_law 268 = .ok (.invokevirtual 40, 3) := by decide +kernel
theorem dL_law_271 : decode cL_law 271 = .ok (.if_icmp .eq 311, 3) := by decide +kernel
theorem dL_law_274 : decode cL_law 274 = .ok (.iconst 0, 1) := by decide +kernel
theorem dL_law_275 : decode cL_law 275 = .ok (.ireturn, 1) := by decide +kernel
theorem dL_law_276 : decode cL_law 276 = .ok (.aload_n 1, 1) := by decide +kernel
theorem dL_law_277 : decode cL_law 277 = .ok (.invokevirtual 41, 3) := by decide +kernel
theorem dL_law_280 : decode cL_law 280 = .ok (.aload_n 2, 1) := by decide +kernel
theorem dL_law_281 : decode cL_law 281 = .ok (.invokevirtual 44, 3) := by decide +kernel
theorem dL_law_284 : decode cL_law 284 = .ok (.if_icmp .eq 298, 3) := by decide +kernel
theorem dL_law_287 : decode cL_law 287 = .ok (.iconst 0, 1) := by decide +kernel
theorem dL_law_288 : decode cL_law 288 = .ok (.ireturn, 1) := by decide +kernel
theorem dL_law_289 : decode cL_law 289 = .ok (.aload_n 1, 1) := by decide +kernel
theorem dL_law_290 : decode cL_law 290 = .ok (.invokevirtual 45, 3) := by decide +kernel
theorem dL_law_293 : decode cL_law 293 = .ok (.aload_n 2, 1) := by decide +kernel
theorem dL_law_294 : decode cL_law 294 = .ok (.invokevirtual 48, 3) := by decide +kernel
theorem dL_law_297 : decode cL_law 297 = .ok (.if_icmp .eq 285, 3) := by decide +kernel
theorem dL_law_300 : decode cL_law 300 = .ok (.iconst 0, 1) := by decide +kernel
theorem dL_law_301 : decode cL_law 301 = .ok (.ireturn, 1) := by decide +kernel
theorem dL_law_302 : decode cL_law 302 = .ok (.aload_n 1, 1) := by decide +kernel
theorem dL_law_303 : decode cL_law 303 = .ok (.invokevirtual 49, 3) := by decide +kernel
theorem dL_law_306 : decode cL_law 306 = .ok (.aload_n 2, 1) := by decide +kernel
theorem dL_law_307 : decode cL_law 307 = .ok (.invokevirtual 52, 3) := by decide +kernel
theorem dL_law_310 : decode cL_law 310 = .ok (.if_icmp .eq 272, 3) := by decide +kernel
theorem dL_law_313 : decode cL_law 313 = .ok (.iconst 0, 1) := by decide +kernel
theorem dL_law_314 : decode cL_law 314 = .ok (.ireturn, 1) := by decide +kernel
theorem dL_law_315 : decode cL_law 315 = .ok (.aload_n 1, 1) := by decide +kernel
theorem dL_law_316 : decode cL_law 316 = .ok (.invokevirtual 53, 3) := by decide +kernel
theorem dL_law_319 : decode cL_law 319 = .ok (.aload_n 2, 1) := by decide +kernel
theorem dL_law_320 : decode cL_law 320 = .ok (.invokevirtual 56, 3) := by decide +kernel
theorem dL_law_323 : decode cL_law 323 = .ok (.if_icmp .eq 259, 3) := by decide +kernel
theorem dL_law_326 : decode cL_law 326 = .ok (.iconst 0, 1) := by decide +kernel
theorem dL_law_327 : decode cL_law 327 = .ok (.ireturn, 1) := by decide +kernel
theorem dL_law_328 : decode cL_law 328 = .ok (.aload_n 1, 1) := by decide +kernel
theorem dL_law_329 : decode cL_law 329 = .ok (.aload_n 0, 1) := by decide +kernel
theorem dL_law_330 : decode cL_law 330 = .ok (.iload_n 3, 1) := by decide +kernel
theorem dL_law_331 : decode cL_law 331 = .ok (.iconst 1, 1) := by decide +kernel
theorem dL_law_332 : decode cL_law 332 = .ok (.iadd, 1) := by decide +kernel
theorem dL_law_333 : decode cL_law 333 = .ok (.iaload, 1) := by decide +kernel
theorem dL_law_334 : decode cL_law 334 = .ok (.aload_n 0, 1) := by decide +kernel
theorem dL_law_335 : decode cL_law 335 = .ok (.iload_n 3, 1) := by decide +kernel
theorem dL_law_336 : decode cL_law 336 = .ok (.iconst 2, 1) := by decide +kernel
theorem dL_law_337 : decode cL_law 337 = .ok (.iadd, 1) := by decide +kernel
theorem dL_law_338 : decode cL_law 338 = .ok (.iaload, 1) := by decide +kernel
theorem dL_law_339 : decode cL_law 339 = .ok (.invokevirtual 57, 3) := by decide +kernel
theorem dL_law_342 : decode cL_law 342 = .ok (.aload_n 2, 1) := by decide +kernel
theorem dL_law_343 : decode cL_law 343 = .ok (.aload_n 0, 1) := by decide +kernel
theorem dL_law_344 : decode cL_law 344 = .ok (.iload_n 3, 1) := by decide +kernel
theorem dL_law_345 : decode cL_law 345 = .ok (.iconst 1, 1) := by decide +kernel
theorem dL_law_346 : decode cL_law 346 = .ok (.iadd, 1) := by decide +kernel
theorem dL_law_347 : decode cL_law 347 = .ok (.iaload, 1) := by decide +kernel
theorem dL_law_348 : decode cL_law 348 = .ok (.aload_n 0, 1) := by decide +kernel
theorem dL_law_349 : decode cL_law 349 = .ok (.iload_n 3, 1) := by decide +kernel
theorem dL_law_350 : decode cL_law 350 = .ok (.iconst 2, 1) := by decide +kernel
theorem dL_law_351 : decode cL_law 351 = .ok (.iadd, 1) := by decide +kernel
theorem dL_law_352 : decode cL_law 352 = .ok (.iaload, 1) := by decide +kernel
theorem dL_law_353 : decode cL_law 353 = .ok (.invokevirtual 61, 3) := by decide +kernel
theorem dL_law_356 : decode cL_law 356 = .ok (.if_icmp .eq 226, 3) := by decide +kernel
theorem dL_law_359 : decode cL_law 359 = .ok (.iconst 0, 1) := by decide +kernel
theorem dL_law_360 : decode cL_law 360 = .ok (.ireturn, 1) := by decide +kernel
theorem dL_law_361 : decode cL_law 361 = .ok (.aload_n 1, 1) := by decide +kernel
theorem dL_law_362 : decode cL_law 362 = .ok (.aload_n 0, 1) := by decide +kernel
theorem dL_law_363 : decode cL_law 363 = .ok (.iload_n 3, 1) := by decide +kernel
theorem dL_law_364 : decode cL_law 364 = .ok (.iconst 1, 1) := by decide +kernel
theorem dL_law_365 : decode cL_law 365 = .ok (.iadd, 1) := by decide +kernel
theorem dL_law_366 : decode cL_law 366 = .ok (.iaload, 1) := by decide +kernel
theorem dL_law_367 : decode cL_law 367 = .ok (.aload_n 0, 1) := by decide +kernel
theorem dL_law_368 : decode cL_law 368 = .ok (.iload_n 3, 1) := by decide +kernel
theorem dL_law_369 : decode cL_law 369 = .ok (.iconst 2, 1) := by decide +kernel
theorem dL_law_370 : decode cL_law 370 = .ok (.iadd, 1) := by decide +kernel
theorem dL_law_371 : decode cL_law 371 = .ok (.iaload, 1) := by decide +kernel
theorem dL_law_372 : decode cL_law 372 = .ok (.aload_n 0, 1) := by decide +kernel
theorem dL_law_373 : decode cL_law 373 = .ok (.iload_n 3, 1) := by decide +kernel
theorem dL_law_374 : decode cL_law 374 = .ok (.iconst 3, 1) := by decide +kernel
theorem dL_law_375 : decode cL_law 375 = .ok (.iadd, 1) := by decide +kernel
theorem dL_law_376 : decode cL_law 376 = .ok (.iaload, 1) := by decide +kernel
theorem dL_law_377 : decode cL_law 377 = .ok (.invokevirtual 62, 3) := by decide +kernel
theorem dL_law_380 : decode cL_law 380 = .ok (.aload_n 2, 1) := by decide +kernel
theorem dL_law_381 : decode cL_law 381 = .ok (.aload_n 0, 1) := by decide +kernel
theorem dL_law_382 : decode cL_law 382 = .ok (.iload_n 3, 1) := by decide +kernel
theorem dL_law_383 : decode cL_law 383 = .ok (.iconst 1, 1) := by decide +kernel
theorem dL_law_384 : decode cL_law 384 = .ok (.iadd, 1) := by decide +kernel
theorem dL_law_385 : decode cL_law 385 = .ok (.iaload, 1) := by decide +kernel
theorem dL_law_386 : decode cL_law 386 = .ok (.aload_n 0, 1) := by decide +kernel
theorem dL_law_387 : decode cL_law 387 = .ok (.iload_n 3, 1) := by decide +kernel
theorem dL_law_388 : decode cL_law 388 = .ok (.iconst 2, 1) := by decide +kernel
theorem dL_law_389 : decode cL_law 389 = .ok (.iadd, 1) := by decide +kernel
theorem dL_law_390 : decode cL_law 390 = .ok (.iaload, 1) := by decide +kernel
theorem dL_law_391 : decode cL_law 391 = .ok (.aload_n 0, 1) := by decide +kernel
theorem dL_law_392 : decode cL_law 392 = .ok (.iload_n 3, 1) := by decide +kernel
theorem dL_law_393 : decode cL_law 393 = .ok (.iconst 3, 1) := by decide +kernel
theorem dL_law_394 : decode cL_law 394 = .ok (.iadd, 1) := by decide +kernel
theorem dL_law_395 : decode cL_law 395 = .ok (.iaload, 1) := by decide +kernel
theorem dL_law_396 : decode cL_law 396 = .ok (.invokevirtual 66, 3) := by decide +kernel
theorem dL_law_399 : decode cL_law 399 = .ok (.if_icmp .eq 183, 3) := by decide +kernel
theorem dL_law_402 : decode cL_law 402 = .ok (.iconst 0, 1) := by decide +kernel
theorem dL_law_403 : decode cL_law 403 = .ok (.ireturn, 1) := by decide +kernel
theorem dL_law_404 : decode cL_law 404 = .ok (.aload_n 1, 1) := by decide +kernel
theorem dL_law_405 : decode cL_law 405 = .ok (.aload_n 0, 1) := by decide +kernel
theorem dL_law_406 : decode cL_law 406 = .ok (.iload_n 3, 1) := by decide +kernel
theorem dL_law_407 : decode cL_law 407 = .ok (.iconst 1, 1) := by decide +kernel
theorem dL_law_408 : decode cL_law 408 = .ok (.iadd, 1) := by decide +kernel
theorem dL_law_409 : decode cL_law 409 = .ok (.iaload, 1) := by decide +kernel
theorem dL_law_410 : decode cL_law 410 = .ok (.aload_n 0, 1) := by decide +kernel
theorem dL_law_411 : decode cL_law 411 = .ok (.iload_n 3, 1) := by decide +kernel
theorem dL_law_412 : decode cL_law 412 = .ok (.iconst 2, 1) := by decide +kernel
theorem dL_law_413 : decode cL_law 413 = .ok (.iadd, 1) := by decide +kernel
theorem dL_law_414 : decode cL_law 414 = .ok (.iaload, 1) := by decide +kernel
theorem dL_law_415 : decode cL_law 415 = .ok (.aload_n 0, 1) := by decide +kernel
theorem dL_law_416 : decode cL_law 416 = .ok (.iload_n 3, 1) := by decide +kernel
theorem dL_law_417 : decode cL_law 417 = .ok (.iconst 3, 1) := by decide +kernel
theorem dL_law_418 : decode cL_law 418 = .ok (.iadd, 1) := by decide +kernel
theorem dL_law_419 : decode cL_law 419 = .ok (.iaload, 1) := by decide +kernel
theorem dL_law_420 : decode cL_law 420 = .ok (.invokevirtual 67, 3) := by decide +kernel
theorem dL_law_423 : decode cL_law 423 = .ok (.aload_n 2, 1) := by decide +kernel
theorem dL_law_424 : decode cL_law 424 = .ok (.aload_n 0, 1) := by decide +kernel
theorem dL_law_425 : decode cL_law 425 = .ok (.iload_n 3, 1) := by decide +kernel
theorem dL_law_426 : decode cL_law 426 = .ok (.iconst 1, 1) := by decide +kernel
theorem dL_law_427 : decode cL_law 427 = .ok (.iadd, 1) := by decide +kernel
theorem dL_law_428 : decode cL_law 428 = .ok (.iaload, 1) := by decide +kernel
theorem dL_law_429 : decode cL_law 429 = .ok (.aload_n 0, 1) := by decide +kernel
theorem dL_law_430 : decode cL_law 430 = .ok (.iload_n 3, 1) := by decide +kernel
theorem dL_law_431 : decode cL_law 431 = .ok (.iconst 2, 1) := by decide +kernel
theorem dL_law_432 : decode cL_law 432 = .ok (.iadd, 1) := by decide +kernel
theorem dL_law_433 : decode cL_law 433 = .ok (.iaload, 1) := by decide +kernel
theorem dL_law_434 : decode cL_law 434 = .ok (.aload_n 0, 1) := by decide +kernel
theorem dL_law_435 : decode cL_law 435 = .ok (.iload_n 3, 1) := by decide +kernel
theorem dL_law_436 : decode cL_law 436 = .ok (.iconst 3, 1) := by decide +kernel
theorem dL_law_437 : decode cL_law 437 = .ok (.iadd, 1) := by decide +kernel
theorem dL_law_438 : decode cL_law 438 = .ok (.iaload, 1) := by decide +kernel
theorem dL_law_439 : decode cL_law 439 = .ok (.invokevirtual 70, 3) := by decide +kernel
theorem dL_law_442 : decode cL_law 442 = .ok (.if_icmp .eq 140, 3) := by decide +kernel
theorem dL_law_445 : decode cL_law 445 = .ok (.iconst 0, 1) := by decide +kernel
theorem dL_law_446 : decode cL_law 446 = .ok (.ireturn, 1) := by decide +kernel
theorem dL_law_447 : decode cL_law 447 = .ok (.aload_n 1, 1) := by decide +kernel
theorem dL_law_448 : decode cL_law 448 = .ok (.aload_n 0, 1) := by decide +kernel
theorem dL_law_449 : decode cL_law 449 = .ok (.iload_n 3, 1) := by decide +kernel
theorem dL_law_450 : decode cL_law 450 = .ok (.iconst 1, 1) := by decide +kernel
theorem dL_law_451 : decode cL_law 451 = .ok (.iadd, 1) := by decide +kernel
theorem dL_law_452 : decode cL_law 452 = .ok (.iaload, 1) := by decide +kernel
theorem dL_law_453 : decode cL_law 453 = .ok (.aload_n 0, 1) := by decide +kernel
theorem dL_law_454 : decode cL_law 454 = .ok (.iload_n 3, 1) := by decide +kernel
theorem dL_law_455 : decode cL_law 455 = .ok (.iconst 2, 1) := by decide +kernel
theorem dL_law_456 : decode cL_law 456 = .ok (.iadd, 1) := by decide +kernel
theorem dL_law_457 : decode cL_law 457 = .ok (.iaload, 1) := by decide +kernel
theorem dL_law_458 : decode cL_law 458 = .ok (.invokevirtual 71, 3) := by decide +kernel
theorem dL_law_461 : decode cL_law 461 = .ok (.aload_n 2, 1) := by decide +kernel
theorem dL_law_462 : decode cL_law 462 = .ok (.aload_n 0, 1) := by decide +kernel
theorem dL_law_463 : decode cL_law 463 = .ok (.iload_n 3, 1) := by decide +kernel
theorem dL_law_464 : decode cL_law 464 = .ok (.iconst 1, 1) := by decide +kernel
theorem dL_law_465 : decode cL_law 465 = .ok (.iadd, 1) := by decide +kernel
theorem dL_law_466 : decode cL_law 466 = .ok (.iaload, 1) := by decide +kernel
theorem dL_law_467 : decode cL_law 467 = .ok (.aload_n 0, 1) := by decide +kernel
theorem dL_law_468 : decode cL_law 468 = .ok (.iload_n 3, 1) := by decide +kernel
theorem dL_law_469 : decode cL_law 469 = .ok (.iconst 2, 1) := by decide +kernel
theorem dL_law_470 : decode cL_law 470 = .ok (.iadd, 1) := by decide +kernel
theorem dL_law_471 : decode cL_law 471 = .ok (.iaload, 1) := by decide +kernel
theorem dL_law_472 : decode cL_law 472 = .ok (.invokevirtual 74, 3) := by decide +kernel
theorem dL_law_475 : decode cL_law 475 = .ok (.if_icmp .eq 107, 3) := by decide +kernel
theorem dL_law_478 : decode cL_law 478 = .ok (.iconst 0, 1) := by decide +kernel
theorem dL_law_479 : decode cL_law 479 = .ok (.ireturn, 1) := by decide +kernel
theorem dL_law_480 : decode cL_law 480 = .ok (.aload_n 1, 1) := by decide +kernel
theorem dL_law_481 : decode cL_law 481 = .ok (.aload_n 0, 1) := by decide +kernel
theorem dL_law_482 : decode cL_law 482 = .ok (.iload_n 3, 1) := by decide +kernel
theorem dL_law_483 : decode cL_law 483 = .ok (.iconst 1, 1) := by decide +kernel
theorem dL_law_484 : decode cL_law 484 = .ok (.iadd, 1) := by decide +kernel
theorem dL_law_485 : decode cL_law 485 = .ok (.iaload, 1) := by decide +kernel
theorem dL_law_486 : decode cL_law 486 = .ok (.aload_n 0, 1) := by decide +kernel
theorem dL_law_487 : decode cL_law 487 = .ok (.iload_n 3, 1) := by decide +kernel
theorem dL_law_488 : decode cL_law 488 = .ok (.iconst 2, 1) := by decide +kernel
theorem dL_law_489 : decode cL_law 489 = .ok (.iadd, 1) := by decide +kernel
theorem dL_law_490 : decode cL_law 490 = .ok (.iaload, 1) := by decide +kernel
theorem dL_law_491 : decode cL_law 491 = .ok (.invokevirtual 75, 3) := by decide +kernel
theorem dL_law_494 : decode cL_law 494 = .ok (.aload_n 2, 1) := by decide +kernel
theorem dL_law_495 : decode cL_law 495 = .ok (.aload_n 0, 1) := by decide +kernel
theorem dL_law_496 : decode cL_law 496 = .ok (.iload_n 3, 1) := by decide +kernel
theorem dL_law_497 : decode cL_law 497 = .ok (.iconst 1, 1) := by decide +kernel
theorem dL_law_498 : decode cL_law 498 = .ok (.iadd, 1) := by decide +kernel
theorem dL_law_499 : decode cL_law 499 = .ok (.iaload, 1) := by decide +kernel
theorem dL_law_500 : decode cL_law 500 = .ok (.aload_n 0, 1) := by decide +kernel
theorem dL_law_501 : decode cL_law 501 = .ok (.iload_n 3, 1) := by decide +kernel
theorem dL_law_502 : decode cL_law 502 = .ok (.iconst 2, 1) := by decide +kernel
theorem dL_law_503 : decode cL_law 503 = .ok (.iadd, 1) := by decide +kernel
theorem dL_law_504 : decode cL_law 504 = .ok (.iaload, 1) := by decide +kernel
theorem dL_law_505 : decode cL_law 505 = .ok (.invokevirtual 78, 3) := by decide +kernel
theorem dL_law_508 : decode cL_law 508 = .ok (.if_icmp .eq 74, 3) := by decide +kernel
theorem dL_law_511 : decode cL_law 511 = .ok (.iconst 0, 1) := by decide +kernel
theorem dL_law_512 : decode cL_law 512 = .ok (.ireturn, 1) := by decide +kernel
theorem dL_law_513 : decode cL_law 513 = .ok (.aload_n 1, 1) := by decide +kernel
theorem dL_law_514 : decode cL_law 514 = .ok (.aload_n 0, 1) := by decide +kernel
theorem dL_law_515 : decode cL_law 515 = .ok (.iload_n 3, 1) := by decide +kernel
theorem dL_law_516 : decode cL_law 516 = .ok (.iconst 1, 1) := by decide +kernel
theorem dL_law_517 : decode cL_law 517 = .ok (.iadd, 1) := by decide +kernel
theorem dL_law_518 : decode cL_law 518 = .ok (.iaload, 1) := by decide +kernel
theorem dL_law_519 : decode cL_law 519 = .ok (.invokevirtual 79, 3) := by decide +kernel
theorem dL_law_522 : decode cL_law 522 = .ok (.aload_n 2, 1) := by decide +kernel
theorem dL_law_523 : decode cL_law 523 = .ok (.aload_n 0, 1) := by decide +kernel
theorem dL_law_524 : decode cL_law 524 = .ok (.iload_n 3, 1) := by decide +kernel
theorem dL_law_525 : decode cL_law 525 = .ok (.iconst 1, 1) := by decide +kernel
theorem dL_law_526 : decode cL_law 526 = .ok (.iadd, 1) := by decide +kernel
theorem dL_law_527 : decode cL_law 527 = .ok (.iaload, 1) := by decide +kernel
theorem dL_law_528 : decode cL_law 528 = .ok (.invokevirtual 82, 3) := by decide +kernel
theorem dL_law_531 : decode cL_law 531 = .ok (.if_icmp .eq 51, 3) := by decide +kernel
theorem dL_law_534 : decode cL_law 534 = .ok (.iconst 0, 1) := by decide +kernel
theorem dL_law_535 : decode cL_law 535 = .ok (.ireturn, 1) := by decide +kernel
theorem dL_law_536 : decode cL_law 536 = .ok (.aload_n 1, 1) := by decide +kernel
theorem dL_law_537 : decode cL_law 537 = .ok (.aload_n 0, 1) := by decide +kernel
theorem dL_law_538 : decode cL_law 538 = .ok (.iload_n 3, 1) := by decide +kernel
theorem dL_law_539 : decode cL_law 539 = .ok (.iconst 1, 1) := by decide +kernel
theorem dL_law_540 : decode cL_law 540 = .ok (.iadd, 1) := by decide +kernel
theorem dL_law_541 : decode cL_law 541 = .ok (.iaload, 1) := by decide +kernel
theorem dL_law_542 : decode cL_law 542 = .ok (.invokevirtual 83, 3) := by decide +kernel
theorem dL_law_545 : decode cL_law 545 = .ok (.aload_n 2, 1) := by decide +kernel
theorem dL_law_546 : decode cL_law 546 = .ok (.aload_n 0, 1) := by decide +kernel
theorem dL_law_547 : decode cL_law 547 = .ok (.iload_n 3, 1) := by decide +kernel
theorem dL_law_548 : decode cL_law 548 = .ok (.iconst 1, 1) := by decide +kernel
theorem dL_law_549 : decode cL_law 549 = .ok (.iadd, 1) := by decide +kernel
theorem dL_law_550 : decode cL_law 550 = .ok (.iaload, 1) := by decide +kernel
theorem dL_law_551 : decode cL_law 551 = .ok (.invokevirtual 86, 3) := by decide +kernel
theorem dL_law_554 : decode cL_law 554 = .ok (.if_icmp .eq 28, 3) := by decide +kernel
theorem dL_law_557 : decode cL_law 557 = .ok (.iconst 0, 1) := by decide +kernel
theorem dL_law_558 : decode cL_law 558 = .ok (.ireturn, 1) := by decide +kernel
theorem dL_law_559 : decode cL_law 559 = .ok (.aload_n 1, 1) := by decide +kernel
theorem dL_law_560 : decode cL_law 560 = .ok (.aload_n 0, 1) := by decide +kernel
theorem dL_law_561 : decode cL_law 561 = .ok (.iload_n 3, 1) := by decide +kernel
theorem dL_law_562 : decode cL_law 562 = .ok (.iconst 1, 1) := by decide +kernel
theorem dL_law_563 : decode cL_law 563 = .ok (.iadd, 1) := by decide +kernel
theorem dL_law_564 : decode cL_law 564 = .ok (.iaload, 1) := by decide +kernel
theorem dL_law_565 : decode cL_law 565 = .ok (.invokevirtual 87, 3) := by decide +kernel
theorem dL_law_568 : decode cL_law 568 = .ok (.aload_n 2, 1) := by decide +kernel
theorem dL_law_569 : decode cL_law 569 = .ok (.aload_n 0, 1) := by decide +kernel
theorem dL_law_570 : decode cL_law 570 = .ok (.iload_n 3, 1) := by decide +kernel
theorem dL_law_571 : decode cL_law 571 = .ok (.iconst 1, 1) := by decide +kernel
theorem dL_law_572 : decode cL_law 572 = .ok (.iadd, 1) := by decide +kernel
theorem dL_law_573 : decode cL_law 573 = .ok (.iaload, 1) := by decide +kernel
theorem dL_law_574 : decode cL_law 574 = .ok (.invokevirtual 90, 3) := by decide +kernel
theorem dL_law_577 : decode cL_law 577 = .ok (.if_icmp .eq 5, 3) := by decide +kernel
theorem dL_law_580 : decode cL_law 580 = .ok (.iconst 0, 1) := by decide +kernel
theorem dL_law_581 : decode cL_law 581 = .ok (.ireturn, 1) := by decide +kernel
theorem dL_law_582 : decode cL_law 582 = .ok (.iinc 3 4, 3) := by decide +kernel
theorem dL_law_585 : decode cL_law 585 = .ok (.goto (-567), 3) := by decide +kernel
theorem dL_law_588 : decode cL_law 588 = .ok (.iconst 1, 1) := by decide +kernel
theorem dL_law_589 : decode cL_law 589 = .ok (.ireturn, 1) := by decide +kernel
theorem dX0_init_0 : decode cX0_init 0 = .ok (.aload_n 0, 1) := by decide +kernel
theorem dX0_init_1 : decode cX0_init 1 = .ok (.invokespecial 3, 3) := by decide +kernel
theorem dX0_init_4 : decode cX0_init 4 = .ok (.aload_n 0, 1) := by decide +kernel
theorem dX0_init_5 : decode cX0_init 5 = .ok (.sipush 2048, 3) := by decide +kernel
theorem dX0_init_8 : decode cX0_init 8 = .ok (.newarray .int, 2) := by decide +kernel
theorem dX0_init_10 : decode cX0_init 10 = .ok (.putfield 9, 3) := by decide +kernel
theorem dX0_init_13 : decode cX0_init 13 = .ok (.aload_n 0, 1) := by decide +kernel
theorem dX0_init_14 : decode cX0_init 14 = .ok (.sipush 2048, 3) := by decide +kernel
theorem dX0_init_17 : decode cX0_init 17 = .ok (.newarray .int, 2) := by decide +kernel
theorem dX0_init_19 : decode cX0_init 19 = .ok (.putfield 15, 3) := by decide +kernel
theorem dX0_init_22 : decode cX0_init 22 = .ok (.aload_n 0, 1) := by decide +kernel
theorem dX0_init_23 : decode cX0_init 23 = .ok (.iconst 2, 1) := by decide +kernel
theorem dX0_init_24 : decode cX0_init 24 = .ok (.newarray .int, 2) := by decide +kernel
theorem dX0_init_26 : decode cX0_init 26 = .ok (.putfield 18, 3) := by decide +kernel
theorem dX0_init_29 : decode cX0_init 29 = .ok (.aload_n 0, 1) := by decide +kernel
theorem dX0_init_30 : decode cX0_init 30 = .ok (.aload_n 1, 1) := by decide +kernel
theorem dX0_init_31 : decode cX0_init 31 = .ok (.putfield 21, 3) := by decide +kernel
theorem dX0_init_34 : decode cX0_init 34 = .ok (.return_, 1) := by decide +kernel
theorem dX0_begin_0 : decode cX0_begin 0 = .ok (.aload_n 0, 1) := by decide +kernel
theorem dX0_begin_1 : decode cX0_begin 1 = .ok (.iload_n 1, 1) := by decide +kernel
theorem dX0_begin_2 : decode cX0_begin 2 = .ok (.putfield 25, 3) := by decide +kernel
theorem dX0_begin_5 : decode cX0_begin 5 = .ok (.aload_n 0, 1) := by decide +kernel
theorem dX0_begin_6 : decode cX0_begin 6 = .ok (.iconst 0, 1) := by decide +kernel
theorem dX0_begin_7 : decode cX0_begin 7 = .ok (.putfield 29, 3) := by decide +kernel
theorem dX0_begin_10 : decode cX0_begin 10 = .ok (.aload_n 0, 1) := by decide +kernel
theorem dX0_begin_11 : decode cX0_begin 11 = .ok (.iconst 0, 1) := by decide +kernel
theorem dX0_begin_12 : decode cX0_begin 12 = .ok (.putfield 32, 3) := by decide +kernel
theorem dX0_begin_15 : decode cX0_begin 15 = .ok (.return_, 1) := by decide +kernel
theorem dX0_put_0 : decode cX0_put 0 = .ok (.aload_n 0, 1) := by decide +kernel
theorem dX0_put_1 : decode cX0_put 1 = .ok (.getfield 21, 3) := by decide +kernel
theorem dX0_put_4 : decode cX0_put 4 = .ok (.getfield 35, 3) := by decide +kernel
theorem dX0_put_7 : decode cX0_put 7 = .ok (.iload_n 1, 1) := by decide +kernel
theorem dX0_put_8 : decode cX0_put 8 = .ok (.iaload, 1) := by decide +kernel
theorem dX0_put_9 : decode cX0_put 9 = .ok (.aload_n 0, 1) := by decide +kernel
theorem dX0_put_10 : decode cX0_put 10 = .ok (.getfield 25, 3) := by decide +kernel
theorem dX0_put_13 : decode cX0_put 13 = .ok (.if_icmp .ne 7, 3) := by decide +kernel
theorem dX0_put_16 : decode cX0_put 16 = .ok (.iconst 1, 1) := by decide +kernel
theorem dX0_put_17 : decode cX0_put 17 = .ok (.goto 4, 3) := by decide +kernel
theorem dX0_put_20 : decode cX0_put 20 = .ok (.iconst 0, 1) := by decide +kernel
theorem dX0_put_21 : decode cX0_put 21 = .ok (.istore_n 2, 1) := by decide +kernel
theorem dX0_put_22 : decode cX0_put 22 = .ok (.iload_n 2, 1) := by decide +kernel
theorem dX0_put_23 : decode cX0_put 23 = .ok (.ifCond .eq 15, 3) := by decide +kernel
theorem dX0_put_26 : decode cX0_put 26 = .ok (.aload_n 0, 1) := by decide +kernel
theorem dX0_put_27 : decode cX0_put 27 = .ok (.getfield 21, 3) := by decide +kernel
theorem dX0_put_30 : decode cX0_put 30 = .ok (.getfield 40, 3) := by decide +kernel
theorem dX0_put_33 : decode cX0_put 33 = .ok (.iload_n 1, 1) := by decide +kernel
theorem dX0_put_34 : decode cX0_put 34 = .ok (.iaload, 1) := by decide +kernel
theorem dX0_put_35 : decode cX0_put 35 = .ok (.goto 4, 3) := by decide +kernel
theorem dX0_put_38 : decode cX0_put 38 = .ok (.iconst 1, 1) := by decide +kernel
theorem dX0_put_39 : decode cX0_put 39 = .ok (.istore_n 3, 1) := by decide +kernel
theorem dX0_put_40 : decode cX0_put 40 = .ok (.iconst 0, 1) := by decide +kernel
theorem dX0_put_41 : decode cX0_put 41 = .ok (.istore 4, 2) := by decide +kernel
theorem dX0_put_43 : decode cX0_put 43 = .ok (.iload 4, 2) := by decide +kernel
theorem dX0_put_45 : decode cX0_put 45 = .ok (.iload_n 3, 1) := by decide +kernel
theorem dX0_put_46 : decode cX0_put 46 = .ok (.if_icmp .ge 180, 3) := by decide +kernel
theorem dX0_put_49 : decode cX0_put 49 = .ok (.iload_n 2, 1) := by decide +kernel
theorem dX0_put_50 : decode cX0_put 50 = .ok (.ifCond .eq 16, 3) := by decide +kernel
theorem dX0_put_53 : decode cX0_put 53 = .ok (.aload_n 0, 1) := by decide +kernel
theorem dX0_put_54 : decode cX0_put 54 = .ok (.getfield 21, 3) := by decide +kernel
theorem dX0_put_57 : decode cX0_put 57 = .ok (.iload_n 1, 1) := by decide +kernel
theorem dX0_put_58 : decode cX0_put 58 = .ok (.iload 4, 2) := by decide +kernel
theorem dX0_put_60 : decode cX0_put 60 = .ok (.invokevirtual 43, 3) := by decide +kernel
theorem dX0_put_63 : decode cX0_put 63 = .ok (.goto 4, 3) := by decide +kernel
theorem dX0_put_66 : decode cX0_put 66 = .ok (.iload_n 1, 1) := by decide +kernel
theorem dX0_put_67 : decode cX0_put 67 = .ok (.istore 5, 2) := by decide +kernel
theorem dX0_put_69 : decode cX0_put 69 = .ok (.iload 5, 2) := by decide +kernel
theorem dX0_put_71 : decode cX0_put 71 = .ok (.bipush 16, 2) := by decide +kernel
theorem dX0_put_73 : decode cX0_put 73 = .ok (.if_icmp .ge 16, 3) := by decide +kernel
theorem dX0_put_76 : decode cX0_put 76 = .ok (.aload_n 0, 1) := by decide +kernel
theorem dX0_put_77 : decode cX0_put 77 = .ok (.dup, 1) := by decide +kernel
theorem dX0_put_78 : decode cX0_put 78 = .ok (.getfield 32, 3) := by decide +kernel
theorem dX0_put_81 : decode cX0_put 81 = .ok (.iconst 1, 1) := by decide +kernel
theorem dX0_put_82 : decode cX0_put 82 = .ok (.iload 5, 2) := by decide +kernel
theorem dX0_put_84 : decode cX0_put 84 = .ok (.ishl, 1) := by decide +kernel
theorem dX0_put_85 : decode cX0_put 85 = .ok (.ior, 1) := by decide +kernel
theorem dX0_put_86 : decode cX0_put 86 = .ok (.putfield 32, 3) := by decide +kernel
theorem dX0_put_89 : decode cX0_put 89 = .ok (.aload_n 0, 1) := by decide +kernel
theorem dX0_put_90 : decode cX0_put 90 = .ok (.getfield 29, 3) := by decide +kernel
theorem dX0_put_93 : decode cX0_put 93 = .ok (.istore 6, 2) := by decide +kernel
theorem dX0_put_95 : decode cX0_put 95 = .ok (.iload 6, 2) := by decide +kernel
theorem dX0_put_97 : decode cX0_put 97 = .ok (.ifCond .le 30, 3) := by decide +kernel
theorem dX0_put_100 : decode cX0_put 100 = .ok (.aload_n 0, 1) := by decide +kernel
theorem dX0_put_101 : decode cX0_put 101 = .ok (.getfield 21, 3) := by decide +kernel
theorem dX0_put_104 : decode cX0_put 104 = .ok (.aload_n 0, 1) := by decide +kernel
theorem dX0_put_105 : decode cX0_put 105 = .ok (.getfield 15, 3) := by decide +kernel
theorem dX0_put_108 : decode cX0_put 108 = .ok (.iload 6, 2) := by decide +kernel
theorem dX0_put_110 : decode cX0_put 110 = .ok (.iconst 1, 1) := by decide +kernel
theorem dX0_put_111 : decode cX0_put 111 = .ok (.isub, 1) := by decide +kernel
theorem dX0_put_112 : decode cX0_put 112 = .ok (.iaload, 1) := by decide +kernel
theorem dX0_put_113 : decode cX0_put 113 = .ok (.iload 5, 2) := by decide +kernel
theorem dX0_put_115 : decode cX0_put 115 = .ok (.invokevirtual 47, 3) := by decide +kernel
theorem dX0_put_118 : decode cX0_put 118 = .ok (.ifCond .le 9, 3) := by decide +kernel
theorem dX0_put_121 : decode cX0_put 121 = .ok (.iinc 6 (-1), 3) := by decide +kernel
theorem dX0_put_124 : decode cX0_put 124 = .ok (.goto (-29), 3) := by decide +kernel
theorem dX0_put_127 : decode cX0_put 127 = .ok (.iload 6, 2) := by decide +kernel
theorem dX0_put_129 : decode cX0_put 129 = .ok (.ifCond .le 21, 3) := by decide +kernel
theorem dX0_put_132 : decode cX0_put 132 = .ok (.aload_n 0, 1) := by decide +kernel
theorem dX0_put_133 : decode cX0_put 133 = .ok (.getfield 15, 3) := by decide +kernel
theorem dX0_put_136 : decode cX0_put 136 = .ok (.iload 6, 2) := by decide +kernel
theorem dX0_put_138 : decode cX0_put 138 = .ok (.iconst 1, 1) := by decide +kernel
theorem dX0_put_139 : decode cX0_put 139 = .ok (.isub, 1) := by decide +kernel
theorem dX0_put_140 : decode cX0_put 140 = .ok (.iaload, 1) := by decide +kernel
theorem dX0_put_141 : decode cX0_put 141 = .ok (.iload 5, 2) := by decide +kernel
theorem dX0_put_143 : decode cX0_put 143 = .ok (.if_icmp .ne 7, 3) := by decide +kernel
theorem dX0_put_146 : decode cX0_put 146 = .ok (.iconst 1, 1) := by decide +kernel
theorem dX0_put_147 : decode cX0_put 147 = .ok (.goto 4, 3) := by decide +kernel
theorem dX0_put_150 : decode cX0_put 150 = .ok (.iconst 0, 1) := by decide +kernel
theorem dX0_put_151 : decode cX0_put 151 = .ok (.istore 7, 2) := by decide +kernel
theorem dX0_put_153 : decode cX0_put 153 = .ok (.iload 7, 2) := by decide +kernel
theorem dX0_put_155 : decode cX0_put 155 = .ok (.ifCond .ne 65, 3) := by decide +kernel
theorem dX0_put_158 : decode cX0_put 158 = .ok (.iload 5, 2) := by decide +kernel
theorem dX0_put_160 : decode cX0_put 160 = .ok (.aload_n 0, 1) := by decide +kernel
theorem dX0_put_161 : decode cX0_put 161 = .ok (.invokevirtual 50, 3) := by decide +kernel
theorem dX0_put_164 : decode cX0_put 164 = .ok (.if_icmp .eq 56, 3) := by decide +kernel
theorem dX0_put_167 : decode cX0_put 167 = .ok (.aload_n 0, 1) := by decide +kernel
theorem dX0_put_168 : decode cX0_put 168 = .ok (.getfield 29, 3) := by decide +kernel
theorem dX0_put_171 : decode cX0_put 171 = .ok (.sipush 2048, 3) := by decide +kernel
theorem dX0_put_174 : decode cX0_put 174 = .ok (.if_icmp .ge 46, 3) := by decide +kernel
theorem dX0_put_177 : decode cX0_put 177 = .ok (.aload_n 0, 1) := by decide +kernel
theorem dX0_put_178 : decode cX0_put 178 = .ok (.getfield 15, 3) := by decide +kernel
theorem dX0_put_181 : decode cX0_put 181 = .ok (.iload 6, 2) := by decide +kernel
theorem dX0_put_183 : decode cX0_put 183 = .ok (.aload_n 0, 1) := by decide +kernel
theorem dX0_put_184 : decode cX0_put 184 = .ok (.getfield 15, 3) := by decide +kernel
theorem dX0_put_187 : decode cX0_put 187 = .ok (.iload 6, 2) := by decide +kernel
theorem dX0_put_189 : decode cX0_put 189 = .ok (.iconst 1, 1) := by decide +kernel
theorem dX0_put_190 : decode cX0_put 190 = .ok (.iadd, 1) := by decide +kernel
theorem dX0_put_191 : decode cX0_put 191 = .ok (.aload_n 0, 1) := by decide +kernel
theorem dX0_put_192 : decode cX0_put 192 = .ok (.getfield 29, 3) := by decide +kernel
theorem dX0_put_195 : decode cX0_put 195 = .ok (.iload 6, 2) := by decide +kernel
theorem dX0_put_197 : decode cX0_put 197 = .ok (.isub, 1) := by decide +kernel
theorem dX0_put_198 : decode cX0_put 198 = .ok (.invokestatic 54, 3) := by decide +kernel
theorem dX0_put_201 : decode cX0_put 201 = .ok (.aload_n 0, 1) := by decide +kernel
theorem dX0_put_202 : decode cX0_put 202 = .ok (.getfield 15, 3) := by decide +kernel
theorem dX0_put_205 : decode cX0_put 205 = .ok (.iload 6, 2) := by decide +kernel
theorem dX0_put_207 : decode cX0_put 207 = .ok (.iload 5, 2) := by decide +kernel
theorem dX0_put_209 : decode cX0_put 209 = .ok (.iastore, 1) := by decide +kernel
theorem dX0_put_210 : decode cX0_put 210 = .ok (.aload_n 0, 1) := by decide +kernel
theorem dX0_put_211 : decode cX0_put 211 = .ok (.dup, 1) := by decide +kernel
theorem dX0_put_212 : decode cX0_put 212 = .ok (.getfield 29, 3) := by decide +kernel
theorem dX0_put_215 : decode cX0_put 215 = .ok (.iconst 1, 1) := by decide +kernel
theorem dX0_put_216 : decode cX0_put 216 = .ok (.iadd, 1) := by decide +kernel
theorem dX0_put_217 : decode cX0_put 217 = .ok (.putfield 29, 3) := by decide +kernel
theorem dX0_put_220 : decode cX0_put 220 = .ok (.iinc 4 1, 3) := by decide +kernel
theorem dX0_put_223 : decode cX0_put 223 = .ok (.goto (-180), 3) := by decide +kernel
theorem dX0_put_226 : decode cX0_put 226 = .ok (.return_, 1) := by decide +kernel
theorem dX0_neutral_0 : decode cX0_neutral 0 = .ok (.aload_n 0, 1) := by decide +kernel
theorem dX0_neutral_1 : decode cX0_neutral 1 = .ok (.getfield 25, 3) := by decide +kernel
theorem dX0_neutral_4 : decode cX0_neutral 4 = .ok (.bipush 20, 2) := by decide +kernel
theorem dX0_neutral_6 : decode cX0_neutral 6 = .ok (.if_icmp .ne 7, 3) := by decide +kernel
theorem dX0_neutral_9 : decode cX0_neutral 9 = .ok (.iconst 1, 1) := by decide +kernel
theorem dX0_neutral_10 : decode cX0_neutral 10 = .ok (.goto 4, 3) := by decide +kernel
theorem dX0_neutral_13 : decode cX0_neutral 13 = .ok (.iconst 0, 1) := by decide +kernel
theorem dX0_neutral_14 : decode cX0_neutral 14 = .ok (.ireturn, 1) := by decide +kernel
theorem dX0_done_0 : decode cX0_done 0 = .ok (.aload_n 0, 1) := by decide +kernel
theorem dX0_done_1 : decode cX0_done 1 = .ok (.invokevirtual 50, 3) := by decide +kernel
theorem dX0_done_4 : decode cX0_done 4 = .ok (.istore_n 1, 1) := by decide +kernel
theorem dX0_done_5 : decode cX0_done 5 = .ok (.iconst 1, 1) := by decide +kernel
theorem dX0_done_6 : decode cX0_done 6 = .ok (.iload_n 1, 1) := by decide +kernel
theorem dX0_done_7 : decode cX0_done 7 = .ok (.isub, 1) := by decide +kernel
theorem dX0_done_8 : decode cX0_done 8 = .ok (.istore_n 2, 1) := by decide +kernel
theorem dX0_done_9 : decode cX0_done 9 = .ok (.aload_n 0, 1) := by decide +kernel
theorem dX0_done_10 : decode cX0_done 10 = .ok (.getfield 32, 3) := by decide +kernel
theorem dX0_done_13 : decode cX0_done 13 = .ok (.iconst 1, 1) := by decide +kernel
theorem dX0_done_14 : decode cX0_done 14 = .ok (.iload_n 2, 1) := by decide +kernel
theorem dX0_done_15 : decode cX0_done 15 = .ok (.ishl, 1) := by decide +kernel
theorem dX0_done_16 : decode cX0_done 16 = .ok (.iand, 1) := by decide +kernel
theorem dX0_done_17 : decode cX0_done 17 = .ok (.ifCond .eq 7, 3) := by decide +kernel
theorem dX0_done_20 : decode cX0_done 20 = .ok (.iconst 1, 1) := by decide +kernel
theorem dX0_done_21 : decode cX0_done 21 = .ok (.goto 4, 3) := by decide +kernel
theorem dX0_done_24 : decode cX0_done 24 = .ok (.iconst 0, 1) := by decide +kernel
theorem dX0_done_25 : decode cX0_done 25 = .ok (.istore_n 3, 1) := by decide +kernel
theorem dX0_done_26 : decode cX0_done 26 = .ok (.aload_n 0, 1) := by decide +kernel
theorem dX0_done_27 : decode cX0_done 27 = .ok (.getfield 32, 3) := by decide +kernel
theorem dX0_done_30 : decode cX0_done 30 = .ok (.bipush 12, 2) := by decide +kernel
theorem dX0_done_32 : decode cX0_done 32 = .ok (.iand, 1) := by decide +kernel
theorem dX0_done_33 : decode cX0_done 33 = .ok (.bipush 12, 2) := by decide +kernel
theorem dX0_done_35 : decode cX0_done 35 = .ok (.if_icmp .ne 7, 3) := by decide +kernel
theorem dX0_done_38 : decode cX0_done 38 = .ok (.iconst 1, 1) := by decide +kernel
theorem dX0_done_39 : decode cX0_done 39 = .ok (.goto 4, 3) := by decide +kernel
theorem dX0_done_42 : decode cX0_done 42 = .ok (.iconst 0, 1) := by decide +kernel
theorem dX0_done_43 : decode cX0_done 43 = .ok (.istore 4, 2) := by decide +kernel
theorem dX0_done_45 : decode cX0_done 45 = .ok (.aload_n 0, 1) := by decide +kernel
theorem dX0_done_46 : decode cX0_done 46 = .ok (.getfield 32, 3) := by decide +kernel
theorem dX0_done_49 : decode cX0_done 49 = .ok (.iconst 4, 1) := by decide +kernel
theorem dX0_done_50 : decode cX0_done 50 = .ok (.ishr, 1) := by decide +kernel
theorem dX0_done_51 : decode cX0_done 51 = .ok (.aload_n 0, 1) := by decide +kernel
theorem dX0_done_52 : decode cX0_done 52 = .ok (.getfield 32, 3) := by decide +kernel
theorem dX0_done_55 : decode cX0_done 55 = .ok (.bipush 10, 2) := by decide +kernel
theorem dX0_done_57 : decode cX0_done 57 = .ok (.ishr, 1) := by decide +kernel
theorem dX0_done_58 : decode cX0_done 58 = .ok (.iand, 1) := by decide +kernel
theorem dX0_done_59 : decode cX0_done 59 = .ok (.ifCond .eq 7, 3) := by decide +kernel
theorem dX0_done_62 : decode cX0_done 62 = .ok (.iconst 1, 1) := by decide +kernel
theorem dX0_done_63 : decode cX0_done 63 = .ok (.goto 4, 3) := by decide +kernel
theorem dX0_done_66 : decode cX0_done 66 = .ok (.iconst 0, 1) := by decide +kernel
theorem dX0_done_67 : decode cX0_done 67 = .ok (.istore 5, 2) := by decide +kernel
theorem dX0_done_69 : decode cX0_done 69 = .ok (.iload_n 3, 1) := by decide +kernel
theorem dX0_done_70 : decode cX0_done 70 = .ok (.ifCond .ne 13, 3) := by decide +kernel
theorem dX0_done_73 : decode cX0_done 73 = .ok (.iload 4, 2) := by decide +kernel
theorem dX0_done_75 : decode cX0_done 75 = .ok (.ifCond .ne 8, 3) := by decide +kernel
theorem dX0_done_78 : decode cX0_done 78 = .ok (.iload 5, 2) := by decide +kernel
theorem dX0_done_80 : decode cX0_done 80 = .ok (.ifCond .eq 5, 3) := by decide +kernel
theorem dX0_done_83 : decode cX0_done 83 = .ok (.iload_n 2, 1) := by decide +kernel
theorem dX0_done_84 : decode cX0_done 84 = .ok (.ireturn, 1) := by decide +kernel
theorem dX0_done_85 : decode cX0_done 85 = .ok (.aload_n 0, 1) := by decide +kernel
theorem dX0_done_86 : decode cX0_done 86 = .ok (.getfield 29, 3) := by decide +kernel
theorem dX0_done_89 : decode cX0_done 89 = .ok (.ifCond .ne 5, 3) := by decide +kernel
theorem dX0_done_92 : decode cX0_done 92 = .ok (.iload_n 1, 1) := by decide +kernel
theorem dX0_done_93 : decode cX0_done 93 = .ok (.ireturn, 1) := by decide +kernel
theorem dX0_done_94 : decode cX0_done 94 = .ok (.aload_n 0, 1) := by decide +kernel
theorem dX0_done_95 : decode cX0_done 95 = .ok (.getfield 29, 3) := by decide +kernel
theorem dX0_done_98 : decode cX0_done 98 = .ok (.iconst 1, 1) := by decide +kernel
theorem dX0_done_99 : decode cX0_done 99 = .ok (.if_icmp .ne 12, 3) := by decide +kernel
theorem dX0_done_102 : decode cX0_done 102 = .ok (.aload_n 0, 1) := by decide +kernel
theorem dX0_done_103 : decode cX0_done 103 = .ok (.getfield 15, 3) := by decide +kernel
theorem dX0_done_106 : decode cX0_done 106 = .ok (.iconst 0, 1) := by decide +kernel
theorem dX0_done_107 : decode cX0_done 107 = .ok (.iaload, 1) := by decide +kernel
theorem dX0_done_108 : decode cX0_done 108 = .ok (.goto 23, 3) := by decide +kernel
theorem dX0_done_111 : decode cX0_done 111 = .ok (.aload_n 0, 1) := by decide +kernel
theorem dX0_done_112 : decode cX0_done 112 = .ok (.getfield 21, 3) := by decide +kernel
theorem dX0_done_115 : decode cX0_done 115 = .ok (.aload_n 0, 1) := by decide +kernel
theorem dX0_done_116 : decode cX0_done 116 = .ok (.getfield 25, 3) := by decide +kernel
theorem dX0_done_119 : decode cX0_done 119 = .ok (.aload_n 0, 1) := by decide +kernel
theorem dX0_done_120 : decode cX0_done 120 = .ok (.getfield 15, 3) := by decide +kernel
theorem dX0_done_123 : decode cX0_done 123 = .ok (.iconst 0, 1) := by decide +kernel
theorem dX0_done_124 : decode cX0_done 124 = .ok (.aload_n 0, 1) := by decide +kernel
theorem dX0_done_125 : decode cX0_done 125 = .ok (.getfield 29, 3) := by decide +kernel
theorem dX0_done_128 : decode cX0_done 128 = .ok (.invokevirtual 60, 3) := by decide +kernel
theorem dX0_done_131 : decode cX0_done 131 = .ok (.ireturn, 1) := by decide +kernel
theorem dX0_two_0 : decode cX0_two 0 = .ok (.aload_n 0, 1) := by decide +kernel
theorem dX0_two_1 : decode cX0_two 1 = .ok (.iload_n 1, 1) := by decide +kernel
theorem dX0_two_2 : decode cX0_two 2 = .ok (.invokevirtual 64, 3) := by decide +kernel
theorem dX0_two_5 : decode cX0_two 5 = .ok (.aload_n 0, 1) := by decide +kernel
theorem dX0_two_6 : decode cX0_two 6 = .ok (.iload_n 2, 1) := by decide +kernel
theorem dX0_two_7 : decode cX0_two 7 = .ok (.invokevirtual 68, 3) := by decide +kernel
theorem dX0_two_10 : decode cX0_two 10 = .ok (.aload_n 0, 1) := by decide +kernel
theorem dX0_two_11 : decode cX0_two 11 = .ok (.iload_n 3, 1) := by decide +kernel
theorem dX0_two_12 : decode cX0_two 12 = .ok (.invokevirtual 68, 3) := by decide +kernel
theorem dX0_two_15 : decode cX0_two 15 = .ok (.aload_n 0, 1) := by decide +kernel
theorem dX0_two_16 : decode cX0_two 16 = .ok (.invokevirtual 71, 3) := by decide +kernel
theorem dX0_two_19 : decode cX0_two 19 = .ok (.ireturn, 1) := by decide +kernel
theorem dX0_make_0 : decode cX0_make 0 = .ok (.aload_n 0, 1) := by decide +kernel
theorem dX0_make_1 : decode cX0_make 1 = .ok (.getfield 18, 3) := by decide +kernel
theorem dX0_make_4 : decode cX0_make 4 = .ok (.iconst 0, 1) := by decide +kernel
theorem dX0_make_5 : decode cX0_make 5 = .ok (.iload_n 2, 1) := by decide +kernel
theorem dX0_make_6 : decode cX0_make 6 = .ok (.iastore, 1) := by decide +kernel
theorem dX0_make_7 : decode cX0_make 7 = .ok (.aload_n 0, 1) := by decide +kernel
theorem dX0_make_8 : decode cX0_make 8 = .ok (.getfield 18, 3) := by decide +kernel
theorem dX0_make_11 : decode cX0_make 11 = .ok (.iconst 1, 1) := by decide +kernel
theorem dX0_make_12 : decode cX0_make 12 = .ok (.iload_n 3, 1) := by decide +kernel
theorem dX0_make_13 : decode cX0_make 13 = .ok (.iastore, 1) := by decide +kernel
theorem dX0_make_14 : decode cX0_make 14 = .ok (.aload_n 0, 1) := by decide +kernel
theorem dX0_make_15 : decode cX0_make 15 = .ok (.getfield 21, 3) := by decide +kernel
theorem dX0_make_18 : decode cX0_make 18 = .ok (.iload_n 1, 1) := by decide +kernel
theorem dX0_make_19 : decode cX0_make 19 = .ok (.aload_n 0, 1) := by decide +kernel
theorem dX0_make_20 : decode cX0_make 20 = .ok (.getfield 18, 3) := by decide +kernel
theorem dX0_make_23 : decode cX0_make 23 = .ok (.iconst 0, 1) := by decide +kernel
theorem dX0_make_24 : decode cX0_make 24 = .ok (.iload_n 1, 1) := by decide +kernel
theorem dX0_make_25 : decode cX0_make 25 = .ok (.bipush 16, 2) := by decide +kernel
theorem dX0_make_27 : decode cX0_make 27 = .ok (.if_icmp .eq 9, 3) := by decide +kernel
theorem dX0_make_30 : decode cX0_make 30 = .ok (.iload_n 1, 1) := by decide +kernel
theorem dX0_make_31 : decode cX0_make 31 = .ok (.bipush 17, 2) := by decide +kernel
theorem dX0_make_33 : decode cX0_make 33 = .ok (.if_icmp .ne 7, 3) := by decide +kernel
theorem dX0_make_36 : decode cX0_make 36 = .ok (.iconst 1, 1) := by decide +kernel
theorem dX0_make_37 : decode cX0_make 37 = .ok (.goto 4, 3) := by decide +kernel
theorem dX0_make_40 : decode cX0_make 40 = .ok (.iconst 2, 1) := by decide +kernel
theorem dX0_make_41 : decode cX0_make 41 = .ok (.invokevirtual 60, 3) := by decide +kernel
theorem dX0_make_44 : decode cX0_make 44 = .ok (.ireturn, 1) := by decide +kernel
theorem dX0_behind_0 : decode cX0_behind 0 = .ok (.aload_n 0, 1) := by decide +kernel
theorem dX0_behind_1 : decode cX0_behind 1 = .ok (.getfield 9, 3) := by decide +kernel
theorem dX0_behind_4 : decode cX0_behind 4 = .ok (.iconst 0, 1) := by decide +kernel
theorem dX0_behind_5 : decode cX0_behind 5 = .ok (.iconst 0, 1) := by decide +kernel
theorem dX0_behind_6 : decode cX0_behind 6 = .ok (.iastore, 1) := by decide +kernel
theorem dX0_behind_7 : decode cX0_behind 7 = .ok (.aload_n 0, 1) := by decide +kernel
theorem dX0_behind_8 : decode cX0_behind 8 = .ok (.getfield 9, 3) := by decide +kernel
theorem dX0_behind_11 : decode cX0_behind 11 = .ok (.iconst 1, 1) := by decide +kernel
theorem dX0_behind_12 : decode cX0_behind 12 = .ok (.iconst 1, 1) := by decide +kernel
theorem dX0_behind_13 : decode cX0_behind 13 = .ok (.iastore, 1) := by decide +kernel
theorem dX0_behind_14 : decode cX0_behind 14 = .ok (.aload_n 0, 1) := by decide +kernel
theorem dX0_behind_15 : decode cX0_behind 15 = .ok (.getfield 9, 3) := by decide +kernel
theorem dX0_behind_18 : decode cX0_behind 18 = .ok (.iconst 2, 1) := by decide +kernel
theorem dX0_behind_19 : decode cX0_behind 19 = .ok (.iconst 1, 1) := by decide +kernel
theorem dX0_behind_20 : decode cX0_behind 20 = .ok (.iastore, 1) := by decide +kernel
theorem dX0_behind_21 : decode cX0_behind 21 = .ok (.aload_n 0, 1) := by decide +kernel
theorem dX0_behind_22 : decode cX0_behind 22 = .ok (.getfield 9, 3) := by decide +kernel
theorem dX0_behind_25 : decode cX0_behind 25 = .ok (.iconst 3, 1) := by decide +kernel
theorem dX0_behind_26 : decode cX0_behind 26 = .ok (.iconst 0, 1) := by decide +kernel
theorem dX0_behind_27 : decode cX0_behind 27 = .ok (.iastore, 1) := by decide +kernel
theorem dX0_behind_28 : decode cX0_behind 28 = .ok (.iconst 0, 1) := by decide +kernel
theorem dX0_behind_29 : decode cX0_behind 29 = .ok (.istore_n 3, 1) := by decide +kernel
theorem dX0_behind_30 : decode cX0_behind 30 = .ok (.iload_n 3, 1) := by decide +kernel
theorem dX0_behind_31 : decode cX0_behind 31 = .ok (.bipush 6, 2) := by decide +kernel
theorem dX0_behind_33 : decode cX0_behind 33 = .ok (.if_icmp .ge 61, 3) := by decide +kernel
theorem dX0_behind_36 : decode cX0_behind 36 = .ok (.iload_n 2, 1) := by decide +kernel
theorem dX0_behind_37 : decode cX0_behind 37 = .ok (.iconst 1, 1) := by decide +kernel
theorem dX0_behind_38 : decode cX0_behind 38 = .ok (.iload_n 3, 1) := by decide +kernel
theorem dX0_behind_39 : decode cX0_behind 39 = .ok (.ishl, 1) := by decide +kernel
theorem dX0_behind_40 : decode cX0_behind 40 = .ok (.iand, 1) := by decide +kernel
theorem dX0_behind_41 : decode cX0_behind 41 = .ok (.ifCond .eq 7, 3) := by decide +kernel
theorem dX0_behind_44 : decode cX0_behind 44 = .ok (.iconst 1, 1) := by decide +kernel
theorem dX0_behind_45 : decode cX0_behind 45 = .ok (.goto 4, 3) := by decide +kernel
theorem dX0_behind_48 : decode cX0_behind 48 = .ok (.iconst 0, 1) := by decide +kernel
theorem dX0_behind_49 : decode cX0_behind 49 = .ok (.istore 4, 2) := by decide +kernel
theorem dX0_behind_51 : decode cX0_behind 51 = .ok (.aload_n 0, 1) := by decide +kernel
theorem dX0_behind_52 : decode cX0_behind 52 = .ok (.getfield 9, 3) := by decide +kernel
theorem dX0_behind_55 : decode cX0_behind 55 = .ok (.iconst 4, 1) := by decide +kernel
theorem dX0_behind_56 : decode cX0_behind 56 = .ok (.iload_n 3, 1) := by decide +kernel
theorem dX0_behind_57 : decode cX0_behind 57 = .ok (.iadd, 1) := by decide +kernel
theorem dX0_behind_58 : decode cX0_behind 58 = .ok (.iload 4, 2) := by decide +kernel
theorem dX0_behind_60 : decode cX0_behind 60 = .ok (.ifCond .eq 7, 3) := by decide +kernel
theorem dX0_behind_63 : decode cX0_behind 63 = .ok (.iconst 1, 1) := by decide +kernel
theorem dX0_behind_64 : decode cX0_behind 64 = .ok (.goto 4, 3) := by decide +kernel
theorem dX0_behind_67 : decode cX0_behind 67 = .ok (.iconst 0, 1) := by decide +kernel
theorem dX0_behind_68 : decode cX0_behind 68 = .ok (.iastore, 1) := by decide +kernel
theorem dX0_behind_69 : decode cX0_behind 69 = .ok (.aload_n 0, 1) := by decide +kernel
theorem dX0_behind_70 : decode cX0_behind 70 = .ok (.getfield 9, 3) := by decide +kernel
theorem dX0_behind_73 : decode cX0_behind 73 = .ok (.bipush 10, 2) := by decide +kernel
theorem dX0_behind_75 : decode cX0_behind 75 = .ok (.iload_n 3, 1) := by decide +kernel
theorem dX0_behind_76 : decode cX0_behind 76 = .ok (.iadd, 1) := by decide +kernel
theorem dX0_behind_77 : decode cX0_behind 77 = .ok (.iload 4, 2) := by decide +kernel
theorem dX0_behind_79 : decode cX0_behind 79 = .ok (.ifCond .eq 7, 3) := by decide +kernel
theorem dX0_behind_82 : decode cX0_behind 82 = .ok (.iconst 0, 1) := by decide +kernel
theorem dX0_behind_83 : decode cX0_behind 83 = .ok (.goto 4, 3) := by decide +kernel
theorem dX0_behind_86 : decode cX0_behind 86 = .ok (.iconst 1, 1) := by decide +kernel
theorem dX0_behind_87 : decode cX0_behind 87 = .ok (.iastore, 1) := by decide +kernel
theorem dX0_behind_88 : decode cX0_behind 88 = .ok (.iinc 3 1, 3) := by decide +kernel
theorem dX0_behind_91 : decode cX0_behind 91 = .ok (.goto (-61), 3) := by decide +kernel
theorem dX0_behind_94 : decode cX0_behind 94 = .ok (.bipush 16, 2) := by decide +kernel
theorem dX0_behind_96 : decode cX0_behind 96 = .ok (.istore_n 3, 1) := by decide +kernel
theorem dX0_behind_97 : decode cX0_behind 97 = .ok (.iload_n 3, 1) := by decide +kernel
theorem dX0_behind_98 : decode cX0_behind 98 = .ok (.iload_n 1, 1) := by decide +kernel
theorem dX0_behind_99 : decode cX0_behind 99 = .ok (.if_icmp .gt 207, 3) := by decide +kernel
theorem dX0_behind_102 : decode cX0_behind 102 = .ok (.aload_n 0, 1) := by decide +kernel
theorem dX0_behind_103 : decode cX0_behind 103 = .ok (.getfield 21, 3) := by decide +kernel
theorem dX0_behind_106 : decode cX0_behind 106 = .ok (.iload_n 3, 1) := by decide +kernel
theorem dX0_behind_107 : decode cX0_behind 107 = .ok (.iconst 0, 1) := by decide +kernel
theorem dX0_behind_108 : decode cX0_behind 108 = .ok (.invokevirtual 43, 3) := by decide +kernel
theorem dX0_behind_111 : decode cX0_behind 111 = .ok (.istore 4, 2) := by decide +kernel
theorem dX0_behind_113 : decode cX0_behind 113 = .ok (.aload_n 0, 1) := by decide +kernel
theorem dX0_behind_114 : decode cX0_behind 114 = .ok (.getfield 21, 3) := by decide +kernel
theorem dX0_behind_117 : decode cX0_behind 117 = .ok (.iload_n 3, 1) := by decide +kernel
theorem dX0_behind_118 : decode cX0_behind 118 = .ok (.aload_n 0, 1) := by decide +kernel
theorem dX0_behind_119 : decode cX0_behind 119 = .ok (.getfield 21, 3) := by decide +kernel
theorem dX0_behind_122 : decode cX0_behind 122 = .ok (.getfield 40, 3) := by decide +kernel
theorem dX0_behind_125 : decode cX0_behind 125 = .ok (.iload_n 3, 1) := by decide +kernel
theorem dX0_behind_126 : decode cX0_behind 126 = .ok (.iaload, 1) := by decide +kernel
theorem dX0_behind_127 : decode cX0_behind 127 = .ok (.iconst 1, 1) := by decide +kernel
theorem dX0_behind_128 : decode cX0_behind 128 = .ok (.isub, 1) := by decide +kernel
theorem dX0_behind_129 : decode cX0_behind 129 = .ok (.invokevirtual 43, 3) := by decide +kernel
theorem dX0_behind_132 : decode cX0_behind 132 = .ok (.istore 5, 2) := by decide +kernel
theorem dX0_behind_134 : decode cX0_behind 134 = .ok (.aload_n 0, 1) := by decide +kernel
theorem dX0_behind_135 : decode cX0_behind 135 = .ok (.getfield 21, 3) := by decide +kernel
theorem dX0_behind_138 : decode cX0_behind 138 = .ok (.getfield 35, 3) := by decide +kernel
theorem dX0_behind_141 : decode cX0_behind 141 = .ok (.iload_n 3, 1) := by decide +kernel
theorem dX0_behind_142 : decode cX0_behind 142 = .ok (.iaload, 1) := by decide +kernel
theorem dX0_behind_143 : decode cX0_behind 143 = .ok (.tableswitch 137 16 19 #[29, 47, 65, 101], 29) := by decide +kernel
theorem dX0_behind_172 : decode cX0_behind 172 = .ok (.aload_n 0, 1) := by decide +kernel
theorem dX0_behind_173 : decode cX0_behind 173 = .ok (.getfield 9, 3) := by decide +kernel
theorem dX0_behind_176 : decode cX0_behind 176 = .ok (.iload_n 3, 1) := by decide +kernel
theorem dX0_behind_177 : decode cX0_behind 177 = .ok (.aload_n 0, 1) := by decide +kernel
theorem dX0_behind_178 : decode cX0_behind 178 = .ok (.bipush 20, 2) := by decide +kernel
theorem dX0_behind_180 : decode cX0_behind 180 = .ok (.iconst 2, 1) := by decide +kernel
theorem dX0_behind_181 : decode cX0_behind 181 = .ok (.iload 4, 2) := by decide +kernel
theorem dX0_behind_183 : decode cX0_behind 183 = .ok (.invokevirtual 74, 3) := by decide +kernel
theorem dX0_behind_186 : decode cX0_behind 186 = .ok (.iastore, 1) := by decide +kernel
theorem dX0_behind_187 : decode cX0_behind 187 = .ok (.goto 113, 3) := by decide +kernel
theorem dX0_behind_190 : decode cX0_behind 190 = .ok (.aload_n 0, 1) := by decide +kernel
theorem dX0_behind_191 : decode cX0_behind 191 = .ok (.getfield 9, 3) := by decide +kernel
theorem dX0_behind_194 : decode cX0_behind 194 = .ok (.iload_n 3, 1) := by decide +kernel
theorem dX0_behind_195 : decode cX0_behind 195 = .ok (.aload_n 0, 1) := by decide +kernel
theorem dX0_behind_196 : decode cX0_behind 196 = .ok (.bipush 21, 2) := by decide +kernel
theorem dX0_behind_198 : decode cX0_behind 198 = .ok (.iconst 3, 1) := by decide +kernel
theorem dX0_behind_199 : decode cX0_behind 199 = .ok (.iload 4, 2) := by decide +kernel
theorem dX0_behind_201 : decode cX0_behind 201 = .ok (.invokevirtual 74, 3) := by decide +kernel
theorem dX0_behind_204 : decode cX0_behind 204 = .ok (.iastore, 1) := by decide +kernel
theorem dX0_behind_205 : decode cX0_behind 205 = .ok (.goto 95, 3) := by decide +kernel
theorem dX0_behind_208 : decode cX0_behind 208 = .ok (.aload_n 0, 1) := by decide +kernel
theorem dX0_behind_209 : decode cX0_behind 209 = .ok (.getfield 9, 3) := by decide +kernel
theorem dX0_behind_212 : decode cX0_behind 212 = .ok (.iload_n 3, 1) := by decide +kernel
theorem dX0_behind_213 : decode cX0_behind 213 = .ok (.aload_n 0, 1) := by decide +kernel
theorem dX0_behind_214 : decode cX0_behind 214 = .ok (.bipush 21, 2) := by decide +kernel
theorem dX0_behind_216 : decode cX0_behind 216 = .ok (.aload_n 0, 1) := by decide +kernel
theorem dX0_behind_217 : decode cX0_behind 217 = .ok (.getfield 9, 3) := by decide +kernel
theorem dX0_behind_220 : decode cX0_behind 220 = .ok (.iload 5, 2) := by decide +kernel
theorem dX0_behind_222 : decode cX0_behind 222 = .ok (.iaload, 1) := by decide +kernel
theorem dX0_behind_223 : decode cX0_behind 223 = .ok (.aload_n 0, 1) := by decide +kernel
theorem dX0_behind_224 : decode cX0_behind 224 = .ok (.bipush 20, 2) := by decide +kernel
theorem dX0_behind_226 : decode cX0_behind 226 = .ok (.aload_n 0, 1) := by decide +kernel
theorem dX0_behind_227 : decode cX0_behind 227 = .ok (.getfield 9, 3) := by decide +kernel
theorem dX0_behind_230 : decode cX0_behind 230 = .ok (.iload 4, 2) := by decide +kernel
theorem dX0_behind_232 : decode cX0_behind 232 = .ok (.iaload, 1) := by decide +kernel
theorem dX0_behind_233 : decode cX0_behind 233 = .ok (.iload_n 3, 1) := by decide +kernel
theorem dX0_behind_234 : decode cX0_behind 234 = .ok (.invokevirtual 74, 3) := by decide +kernel
theorem dX0_behind_237 : decode cX0_behind 237 = .ok (.invokevirtual 74, 3) := by decide +kernel
theorem dX0_behind_240 : decode cX0_behind 240 = .ok (.iastore, 1) := by decide +kernel
theorem dX0_behind_241 : decode cX0_behind 241 = .ok (.goto 59, 3) := by decide +kernel
theorem dX0_behind_244 : decode cX0_behind 244 = .ok (.aload_n 0, 1) := by decide +kernel
theorem dX0_behind_245 : decode cX0_behind 245 = .ok (.getfield 9, 3) := by decide +kernel
theorem dX0_behind_248 : decode cX0_behind 248 = .ok (.iload_n 3, 1) := by decide +kernel
theorem dX0_behind_249 : decode cX0_behind 249 = .ok (.aload_n 0, 1) := by decide +kernel
theorem dX0_behind_250 : decode cX0_behind 250 = .ok (.bipush 20, 2) := by decide +kernel
theorem dX0_behind_252 : decode cX0_behind 252 = .ok (.aload_n 0, 1) := by decide +kernel
theorem dX0_behind_253 : decode cX0_behind 253 = .ok (.getfield 9, 3) := by decide +kernel
theorem dX0_behind_256 : decode cX0_behind 256 = .ok (.iload 5, 2) := by decide +kernel
theorem dX0_behind_258 : decode cX0_behind 258 = .ok (.iaload, 1) := by decide +kernel
theorem dX0_behind_259 : decode cX0_behind 259 = .ok (.aload_n 0, 1) := by decide +kernel
theorem dX0_behind_260 : decode cX0_behind 260 = .ok (.bipush 21, 2) := by decide +kernel
theorem dX0_behind_262 : decode cX0_behind 262 = .ok (.aload_n 0, 1) := by decide +kernel
theorem dX0_behind_263 : decode cX0_behind 263 = .ok (.getfield 9, 3) := by decide +kernel
theorem dX0_behind_266 : decode cX0_behind 266 = .ok (.iload 4, 2) := by decide +kernel
theorem dX0_behind_268 : decode cX0_behind 268 = .ok (.iaload, 1) := by decide +kernel
theorem dX0_behind_269 : decode cX0_behind 269 = .ok (.iload_n 3, 1) := by decide +kernel
theorem dX0_behind_270 : decode cX0_behind 270 = .ok (.invokevirtual 74, 3) := by decide +kernel
theorem dX0_behind_273 : decode cX0_behind 273 = .ok (.invokevirtual 74, 3) := by decide +kernel
theorem dX0_behind_276 : decode cX0_behind 276 = .ok (.iastore, 1) := by decide +kernel
theorem dX0_behind_277 : decode cX0_behind 277 = .ok (.goto 23, 3) := by decide +kernel
theorem dX0_behind_280 : decode cX0_behind 280 = .ok (.aload_n 0, 1) := by decide +kernel
theorem dX0_behind_281 : decode cX0_behind 281 = .ok (.getfield 9, 3) := by decide +kernel
theorem dX0_behind_284 : decode cX0_behind 284 = .ok (.iload_n 3, 1) := by decide +kernel
theorem dX0_behind_285 : decode cX0_behind 285 = .ok (.aload_n 0, 1) := by decide +kernel
theorem dX0_behind_286 : decode cX0_behind 286 = .ok (.iload_n 3, 1) := by decide +kernel
theorem dX0_behind_287 : decode cX0_behind 287 = .ok (.aload_n 0, 1) := by decide +kernel
theorem dX0_behind_288 : decode cX0_behind 288 = .ok (.getfield 21, 3) := by decide +kernel
theorem dX0_behind_291 : decode cX0_behind 291 = .ok (.getfield 35, 3) := by decide +kernel
theorem dX0_behind_294 : decode cX0_behind 294 = .ok (.iload_n 3, 1) := by decide +kernel
theorem dX0_behind_295 : decode cX0_behind 295 = .ok (.iaload, 1) := by decide +kernel
theorem dX0_behind_296 : decode cX0_behind 296 = .ok (.invokevirtual 78, 3) := by decide +kernel
theorem dX0_behind_299 : decode cX0_behind 299 = .ok (.iastore, 1) := by decide +kernel
theorem dX0_behind_300 : decode cX0_behind 300 = .ok (.iinc 3 1, 3) := by decide +kernel
theorem dX0_behind_303 : decode cX0_behind 303 = .ok (.goto (-206), 3) := by decide +kernel
theorem dX0_behind_306 : decode cX0_behind 306 = .ok (.aload_n 0, 1) := by decide +kernel
theorem dX0_behind_307 : decode cX0_behind 307 = .ok (.getfield 9, 3) := by decide +kernel
theorem dX0_behind_310 : decode cX0_behind 310 = .ok (.iload_n 1, 1) := by decide +kernel
theorem dX0_behind_311 : decode cX0_behind 311 = .ok (.iaload, 1) := by decide +kernel
theorem dX0_behind_312 : decode cX0_behind 312 = .ok (.ireturn, 1) := by decide +kernel
theorem dX0_opposite_0 : decode cX0_opposite 0 = .ok (.aload_n 0, 1) := by decide +kernel
theorem dX0_opposite_1 : decode cX0_opposite 1 = .ok (.getfield 9, 3) := by decide +kernel
theorem dX0_opposite_4 : decode cX0_opposite 4 = .ok (.iconst 0, 1) := by decide +kernel
theorem dX0_opposite_5 : decode cX0_opposite 5 = .ok (.iconst 1, 1) := by decide +kernel
theorem dX0_opposite_6 : decode cX0_opposite 6 = .ok (.iastore, 1) := by decide +kernel
theorem dX0_opposite_7 : decode cX0_opposite 7 = .ok (.aload_n 0, 1) := by decide +kernel
theorem dX0_opposite_8 : decode cX0_opposite 8 = .ok (.getfield 9, 3) := by decide +kernel
theorem dX0_opposite_11 : decode cX0_opposite 11 = .ok (.iconst 1, 1) := by decide +kernel
theorem dX0_opposite_12 : decode cX0_opposite 12 = .ok (.iconst 0, 1) := by decide +kernel
theorem dX0_opposite_13 : decode cX0_opposite 13 = .ok (.iastore, 1) := by decide +kernel
theorem dX0_opposite_14 : decode cX0_opposite 14 = .ok (.aload_n 0, 1) := by decide +kernel
theorem dX0_opposite_15 : decode cX0_opposite 15 = .ok (.getfield 9, 3) := by decide +kernel
theorem dX0_opposite_18 : decode cX0_opposite 18 = .ok (.iconst 2, 1) := by decide +kernel
theorem dX0_opposite_19 : decode cX0_opposite 19 = .ok (.iconst 3, 1) := by decide +kernel
theorem dX0_opposite_20 : decode cX0_opposite 20 = .ok (.iastore, 1) := by decide +kernel
theorem dX0_opposite_21 : decode cX0_opposite 21 = .ok (.aload_n 0, 1) := by decide +kernel
theorem dX0_opposite_22 : decode cX0_opposite 22 = .ok (.getfield 9, 3) := by decide +kernel
theorem dX0_opposite_25 : decode cX0_opposite 25 = .ok (.iconst 3, 1) := by decide +kernel
theorem dX0_opposite_26 : decode cX0_opposite 26 = .ok (.iconst 2, 1) := by decide +kernel
theorem dX0_opposite_27 : decode cX0_opposite 27 = .ok (.iastore, 1) := by decide +kernel
theorem dX0_opposite_28 : decode cX0_opposite 28 = .ok (.iconst 0, 1) := by decide +kernel
theorem dX0_opposite_29 : decode cX0_opposite 29 = .ok (.istore_n 2, 1) := by decide +kernel
theorem dX0_opposite_30 : decode cX0_opposite 30 = .ok (.iload_n 2, 1) := by decide +kernel
theorem dX0_opposite_31 : decode cX0_opposite 31 = .ok (.bipush 6, 2) := by decide +kernel
theorem dX0_opposite_33 : decode cX0_opposite 33 = .ok (.if_icmp .ge 33, 3) := by decide +kernel
theorem dX0_opposite_36 : decode cX0_opposite 36 = .ok (.aload_n 0, 1) := by decide +kernel
theorem dX0_opposite_37 : decode cX0_opposite 37 = .ok (.getfield 9, 3) := by decide +kernel
theorem dX0_opposite_40 : decode cX0_opposite 40 = .ok (.iconst 4, 1) := by decide +kernel
theorem dX0_opposite_41 : decode cX0_opposite 41 = .ok (.iload_n 2, 1) := by decide +kernel
theorem dX0_opposite_42 : decode cX0_opposite 42 = .ok (.iadd, 1) := by decide +kernel
theorem dX0_opposite_43 : decode cX0_opposite 43 = .ok (.bipush 10, 2) := by decide +kernel
theorem dX0_opposite_45 : decode cX0_opposite 45 = .ok (.iload_n 2, 1) := by decide +kernel
theorem dX0_opposite_46 : decode cX0_opposite 46 = .ok (.iadd, 1) := by decide +kernel
theorem dX0_opposite_47 : decode cX0_opposite 47 = .ok (.iastore, 1) := by decide +kernel
theorem dX0_opposite_48 : decode cX0_opposite 48 = .ok (.aload_n 0, 1) := by decide +kernel
theorem dX0_opposite_49 : decode cX0_opposite 49 = .ok (.getfield 9, 3) := by decide +kernel
theorem dX0_opposite_52 : decode cX0_opposite 52 = .ok (.bipush 10, 2) := by decide +kernel
theorem dX0_opposite_54 : decode cX0_opposite 54 = .ok (.iload_n 2, 1) := by decide +kernel
theorem dX0_opposite_55 : decode cX0_opposite 55 = .ok (.iadd, 1) := by decide +kernel
theorem dX0_opposite_56 : decode cX0_opposite 56 = .ok (.iconst 4, 1) := by decide +kernel
theorem dX0_opposite_57 : decode cX0_opposite 57 = .ok (.iload_n 2, 1) := by decide +kernel
theorem dX0_opposite_58 : decode cX0_opposite 58 = .ok (.iadd, 1) := by decide +kernel
theorem dX0_opposite_59 : decode cX0_opposite 59 = .ok (.iastore, 1) := by decide +kernel
theorem dX0_opposite_60 : decode cX0_opposite 60 = .ok (.iinc 2 1, 3) := by decide +kernel
theorem dX0_opposite_63 : decode cX0_opposite 63 = .ok (.goto (-33), 3) := by decide +kernel
theorem dX0_opposite_66 : decode cX0_opposite 66 = .ok (.bipush 16, 2) := by decide +kernel
theorem dX0_opposite_68 : decode cX0_opposite 68 = .ok (.istore_n 2, 1) := by decide +kernel
theorem dX0_opposite_69 : decode cX0_opposite 69 = .ok (.iload_n 2, 1) := by decide +kernel
theorem dX0_opposite_70 : decode cX0_opposite 70 = .ok (.iload_n 1, 1) := by decide +kernel
theorem dX0_opposite_71 : decode cX0_opposite 71 = .ok (.if_icmp .gt 184, 3) := by decide +kernel
theorem dX0_opposite_74 : decode cX0_opposite 74 = .ok (.aload_n 0, 1) := by decide +kernel
theorem dX0_opposite_75 : decode cX0_opposite 75 = .ok (.getfield 9, 3) := by decide +kernel
theorem dX0_opposite_78 : decode cX0_opposite 78 = .ok (.aload_n 0, 1) := by decide +kernel
theorem dX0_opposite_79 : decode cX0_opposite 79 = .ok (.getfield 21, 3) := by decide +kernel
theorem dX0_opposite_82 : decode cX0_opposite 82 = .ok (.iload_n 2, 1) := by decide +kernel
theorem dX0_opposite_83 : decode cX0_opposite 83 = .ok (.iconst 0, 1) := by decide +kernel
theorem dX0_opposite_84 : decode cX0_opposite 84 = .ok (.invokevirtual 43, 3) := by decide +kernel
theorem dX0_opposite_87 : decode cX0_opposite 87 = .ok (.iaload, 1) := by decide +kernel
theorem dX0_opposite_88 : decode cX0_opposite 88 = .ok (.istore_n 3, 1) := by decide +kernel
theorem dX0_opposite_89 : decode cX0_opposite 89 = .ok (.aload_n 0, 1) := by decide +kernel
theorem dX0_opposite_90 : decode cX0_opposite 90 = .ok (.getfield 9, 3) := by decide +kernel
theorem dX0_opposite_93 : decode cX0_opposite 93 = .ok (.aload_n 0, 1) := by decide +kernel
theorem dX0_opposite_94 : decode cX0_opposite 94 = .ok (.getfield 21, 3) := by decide +kernel
theorem dX0_opposite_97 : decode cX0_opposite 97 = .ok (.iload_n 2, 1) := by decide +kernel
theorem dX0_opposite_98 : decode cX0_opposite 98 = .ok (.aload_n 0, 1) := by decide +kernel
theorem dX0_opposite_99 : decode cX0_opposite 99 = .ok (.getfield 21, 3) := by decide +kernel
theorem dX0_opposite_102 : decode cX0_opposite 102 = .ok (.getfield 40, 3) := by decide +kernel
theorem dX0_opposite_105 : decode cX0_opposite 105 = .ok (.iload_n 2, 1) := by decide +kernel
theorem dX0_opposite_106 : decode cX0_opposite 106 = .ok (.iaload, 1) := by decide +kernel
theorem dX0_opposite_107 : decode cX0_opposite 107 = .ok (.iconst 1, 1) := by decide +kernel
theorem dX0_opposite_108 : decode cX0_opposite 108 = .ok (.isub, 1) := by decide +kernel
theorem dX0_opposite_109 : decode cX0_opposite 109 = .ok (.invokevirtual 43, 3) := by decide +kernel
theorem dX0_opposite_112 : decode cX0_opposite 112 = .ok (.iaload, 1) := by decide +kernel
theorem dX0_opposite_113 : decode cX0_opposite 113 = .ok (.istore 4, 2) := by decide +kernel
theorem dX0_opposite_115 : decode cX0_opposite 115 = .ok (.aload_n 0, 1) := by decide +kernel
theorem dX0_opposite_116 : decode cX0_opposite 116 = .ok (.getfield 21, 3) := by decide +kernel
theorem dX0_opposite_119 : decode cX0_opposite 119 = .ok (.getfield 35, 3) := by decide +kernel
theorem dX0_opposite_122 : decode cX0_opposite 122 = .ok (.iload_n 2, 1) := by decide +kernel
theorem dX0_opposite_123 : decode cX0_opposite 123 = .ok (.iaload, 1) := by decide +kernel
theorem dX0_opposite_124 : decode cX0_opposite 124 = .ok (.tableswitch 102 16 19 #[32, 49, 66, 84], 32) := by decide +kernel
theorem dX0_opposite_156 : decode cX0_opposite 156 = .ok (.aload_n 0, 1) := by decide +kernel
theorem dX0_opposite_157 : decode cX0_opposite 157 = .ok (.getfield 9, 3) := by decide +kernel
theorem dX0_opposite_160 : decode cX0_opposite 160 = .ok (.iload_n 2, 1) := by decide +kernel
theorem dX0_opposite_161 : decode cX0_opposite 161 = .ok (.aload_n 0, 1) := by decide +kernel
theorem dX0_opposite_162 : decode cX0_opposite 162 = .ok (.bipush 17, 2) := by decide +kernel
theorem dX0_opposite_164 : decode cX0_opposite 164 = .ok (.iload_n 3, 1) := by decide +kernel
theorem dX0_opposite_165 : decode cX0_opposite 165 = .ok (.iload_n 3, 1) := by decide +kernel
theorem dX0_opposite_166 : decode cX0_opposite 166 = .ok (.invokevirtual 81, 3) := by decide +kernel
theorem dX0_opposite_169 : decode cX0_opposite 169 = .ok (.iastore, 1) := by decide +kernel
theorem dX0_opposite_170 : decode cX0_opposite 170 = .ok (.goto 79, 3) := by decide +kernel
theorem dX0_opposite_173 : decode cX0_opposite 173 = .ok (.aload_n 0, 1) := by decide +kernel
theorem dX0_opposite_174 : decode cX0_opposite 174 = .ok (.getfield 9, 3) := by decide +kernel
theorem dX0_opposite_177 : decode cX0_opposite 177 = .ok (.iload_n 2, 1) := by decide +kernel
theorem dX0_opposite_178 : decode cX0_opposite 178 = .ok (.aload_n 0, 1) := by decide +kernel
theorem dX0_opposite_179 : decode cX0_opposite 179 = .ok (.bipush 16, 2) := by decide +kernel
theorem dX0_opposite_181 : decode cX0_opposite 181 = .ok (.iload_n 3, 1) := by decide +kernel
theorem dX0_opposite_182 : decode cX0_opposite 182 = .ok (.iload_n 3, 1) := by decide +kernel
theorem dX0_opposite_183 : decode cX0_opposite 183 = .ok (.invokevirtual 81, 3) := by decide +kernel
theorem dX0_opposite_186 : decode cX0_opposite 186 = .ok (.iastore, 1) := by decide +kernel
theorem dX0_opposite_187 : decode cX0_opposite 187 = .ok (.goto 62, 3) := by decide +kernel
theorem dX0_opposite_190 : decode cX0_opposite 190 = .ok (.aload_n 0, 1) := by decide +kernel
theorem dX0_opposite_191 : decode cX0_opposite 191 = .ok (.getfield 9, 3) := by decide +kernel
theorem dX0_opposite_194 : decode cX0_opposite 194 = .ok (.iload_n 2, 1) := by decide +kernel
theorem dX0_opposite_195 : decode cX0_opposite 195 = .ok (.aload_n 0, 1) := by decide +kernel
theorem dX0_opposite_196 : decode cX0_opposite 196 = .ok (.bipush 19, 2) := by decide +kernel
theorem dX0_opposite_198 : decode cX0_opposite 198 = .ok (.iload_n 3, 1) := by decide +kernel
theorem dX0_opposite_199 : decode cX0_opposite 199 = .ok (.iload 4, 2) := by decide +kernel
theorem dX0_opposite_201 : decode cX0_opposite 201 = .ok (.invokevirtual 81, 3) := by decide +kernel
theorem dX0_opposite_204 : decode cX0_opposite 204 = .ok (.iastore, 1) := by decide +kernel
theorem dX0_opposite_205 : decode cX0_opposite 205 = .ok (.goto 44, 3) := by decide +kernel
theorem dX0_opposite_208 : decode cX0_opposite 208 = .ok (.aload_n 0, 1) := by decide +kernel
theorem dX0_opposite_209 : decode cX0_opposite 209 = .ok (.getfield 9, 3) := by decide +kernel
theorem dX0_opposite_212 : decode cX0_opposite 212 = .ok (.iload_n 2, 1) := by decide +kernel
theorem dX0_opposite_213 : decode cX0_opposite 213 = .ok (.aload_n 0, 1) := by decide +kernel
theorem dX0_opposite_214 : decode cX0_opposite 214 = .ok (.bipush 18, 2) := by decide +kernel
theorem dX0_opposite_216 : decode cX0_opposite 216 = .ok (.iload_n 3, 1) := by decide +kernel
theorem dX0_opposite_217 : decode cX0_opposite 217 = .ok (.iload 4, 2) := by decide +kernel
theorem dX0_opposite_219 : decode cX0_opposite 219 = .ok (.invokevirtual 81, 3) := by decide +kernel
theorem dX0_opposite_222 : decode cX0_opposite 222 = .ok (.iastore, 1) := by decide +kernel
theorem dX0_opposite_223 : decode cX0_opposite 223 = .ok (.goto 26, 3) := by decide +kernel
theorem dX0_opposite_226 : decode cX0_opposite 226 = .ok (.aload_n 0, 1) := by decide +kernel
theorem dX0_opposite_227 : decode cX0_opposite 227 = .ok (.getfield 9, 3) := by decide +kernel
theorem dX0_opposite_230 : decode cX0_opposite 230 = .ok (.iload_n 2, 1) := by decide +kernel
theorem dX0_opposite_231 : decode cX0_opposite 231 = .ok (.aload_n 0, 1) := by decide +kernel
theorem dX0_opposite_232 : decode cX0_opposite 232 = .ok (.iload_n 2, 1) := by decide +kernel
theorem dX0_opposite_233 : decode cX0_opposite 233 = .ok (.bipush 41, 2) := by decide +kernel
theorem dX0_opposite_235 : decode cX0_opposite 235 = .ok (.aload_n 0, 1) := by decide +kernel
theorem dX0_opposite_236 : decode cX0_opposite 236 = .ok (.getfield 21, 3) := by decide +kernel
theorem dX0_opposite_239 : decode cX0_opposite 239 = .ok (.getfield 35, 3) := by decide +kernel
theorem dX0_opposite_242 : decode cX0_opposite 242 = .ok (.iload_n 2, 1) := by decide +kernel
theorem dX0_opposite_243 : decode cX0_opposite 243 = .ok (.iaload, 1) := by decide +kernel
theorem dX0_opposite_244 : decode cX0_opposite 244 = .ok (.isub, 1) := by decide +kernel
theorem dX0_opposite_245 : decode cX0_opposite 245 = .ok (.invokevirtual 78, 3) := by decide +kernel
theorem dX0_opposite_248 : decode cX0_opposite 248 = .ok (.iastore, 1) := by decide +kernel
theorem dX0_opposite_249 : decode cX0_opposite 249 = .ok (.iinc 2 1, 3) := by decide +kernel
theorem dX0_opposite_252 : decode cX0_opposite 252 = .ok (.goto (-183), 3) := by decide +kernel
theorem dX0_opposite_255 : decode cX0_opposite 255 = .ok (.aload_n 0, 1) := by decide +kernel
theorem dX0_opposite_256 : decode cX0_opposite 256 = .ok (.getfield 9, 3) := by decide +kernel
theorem dX0_opposite_259 : decode cX0_opposite 259 = .ok (.iload_n 1, 1) := by decide +kernel
theorem dX0_opposite_260 : decode cX0_opposite 260 = .ok (.iaload, 1) := by decide +kernel
theorem dX0_opposite_261 : decode cX0_opposite 261 = .ok (.ireturn, 1) := by decide +kernel
theorem dX0_joinKids_0 : decode cX0_joinKids 0 = .ok (.aload_n 0, 1) := by decide +kernel
theorem dX0_joinKids_1 : decode cX0_joinKids 1 = .ok (.iload_n 2, 1) := by decide +kernel
theorem dX0_joinKids_2 : decode cX0_joinKids 2 = .ok (.invokevirtual 64, 3) := by decide +kernel
theorem dX0_joinKids_5 : decode cX0_joinKids 5 = .ok (.iconst 0, 1) := by decide +kernel
theorem dX0_joinKids_6 : decode cX0_joinKids 6 = .ok (.istore_n 3, 1) := by decide +kernel
theorem dX0_joinKids_7 : decode cX0_joinKids 7 = .ok (.iload_n 3, 1) := by decide +kernel
theorem dX0_joinKids_8 : decode cX0_joinKids 8 = .ok (.aload_n 0, 1) := by decide +kernel
theorem dX0_joinKids_9 : decode cX0_joinKids 9 = .ok (.getfield 21, 3) := by decide +kernel
theorem dX0_joinKids_12 : decode cX0_joinKids 12 = .ok (.getfield 40, 3) := by decide +kernel
theorem dX0_joinKids_15 : decode cX0_joinKids 15 = .ok (.iload_n 1, 1) := by decide +kernel
theorem dX0_joinKids_16 : decode cX0_joinKids 16 = .ok (.iaload, 1) := by decide +kernel
theorem dX0_joinKids_17 : decode cX0_joinKids 17 = .ok (.if_icmp .ge 27, 3) := by decide +kernel
theorem dX0_joinKids_20 : decode cX0_joinKids 20 = .ok (.aload_n 0, 1) := by decide +kernel
theorem dX0_joinKids_21 : decode cX0_joinKids 21 = .ok (.aload_n 0, 1) := by decide +kernel
theorem dX0_joinKids_22 : decode cX0_joinKids 22 = .ok (.getfield 9, 3) := by decide +kernel
theorem dX0_joinKids_25 : decode cX0_joinKids 25 = .ok (.aload_n 0, 1) := by decide +kernel
theorem dX0_joinKids_26 : decode cX0_joinKids 26 = .ok (.getfield 21, 3) := by decide +kernel
theorem dX0_joinKids_29 : decode cX0_joinKids 29 = .ok (.iload_n 1, 1) := by decide +kernel
theorem dX0_joinKids_30 : decode cX0_joinKids 30 = .ok (.iload_n 3, 1) := by decide +kernel
theorem dX0_joinKids_31 : decode cX0_joinKids 31 = .ok (.invokevirtual 43, 3) := by decide +kernel
theorem dX0_joinKids_34 : decode cX0_joinKids 34 = .ok (.iaload, 1) := by decide +kernel
theorem dX0_joinKids_35 : decode cX0_joinKids 35 = .ok (.invokevirtual 68, 3) := by decide +kernel
theorem dX0_joinKids_38 : decode cX0_joinKids 38 = .ok (.iinc 3 1, 3) := by decide +kernel
theorem dX0_joinKids_41 : decode cX0_joinKids 41 = .ok (.goto (-34), 3) := by decide +kernel
theorem dX0_joinKids_44 : decode cX0_joinKids 44 = .ok (.aload_n 0, 1) := by decide +kernel
theorem dX0_joinKids_45 : decode cX0_joinKids 45 = .ok (.invokevirtual 71, 3) := by decide +kernel
theorem dX0_joinKids_48 : decode cX0_joinKids 48 = .ok (.ireturn, 1) := by decide +kernel
theorem dX1_init_0 : decode cX1_init 0 = .ok (.aload_n 0, 1) := by decide +kernel
theorem dX1_init_1 : decode cX1_init 1 = .ok (.invokespecial 3, 3) := by decide +kernel
theorem dX1_init_4 : decode cX1_init 4 = .ok (.aload_n 0, 1) := by decide +kernel
theorem dX1_init_5 : decode cX1_init 5 = .ok (.sipush 2048, 3) := by decide +kernel
theorem dX1_init_8 : decode cX1_init 8 = .ok (.newarray .int, 2) := by decide +kernel
theorem dX1_init_10 : decode cX1_init 10 = .ok (.putfield 9, 3) := by decide +kernel
theorem dX1_init_13 : decode cX1_init 13 = .ok (.aload_n 0, 1) := by decide +kernel
theorem dX1_init_14 : decode cX1_init 14 = .ok (.sipush 2048, 3) := by decide +kernel
theorem dX1_init_17 : decode cX1_init 17 = .ok (.newarray .int, 2) := by decide +kernel
theorem dX1_init_19 : decode cX1_init 19 = .ok (.putfield 15, 3) := by decide +kernel
theorem dX1_init_22 : decode cX1_init 22 = .ok (.aload_n 0, 1) := by decide +kernel
theorem dX1_init_23 : decode cX1_init 23 = .ok (.sipush 2048, 3) := by decide +kernel
theorem dX1_init_26 : decode cX1_init 26 = .ok (.newarray .int, 2) := by decide +kernel
theorem dX1_init_28 : decode cX1_init 28 = .ok (.putfield 18, 3) := by decide +kernel
theorem dX1_init_31 : decode cX1_init 31 = .ok (.aload_n 0, 1) := by decide +kernel
theorem dX1_init_32 : decode cX1_init 32 = .ok (.sipush 2048, 3) := by decide +kernel
theorem dX1_init_35 : decode cX1_init 35 = .ok (.newarray .int, 2) := by decide +kernel
theorem dX1_init_37 : decode cX1_init 37 = .ok (.putfield 21, 3) := by decide +kernel
theorem dX1_init_40 : decode cX1_init 40 = .ok (.aload_n 0, 1) := by decide +kernel
theorem dX1_init_41 : decode cX1_init 41 = .ok (.sipush 2048, 3) := by decide +kernel
theorem dX1_init_44 : decode cX1_init 44 = .ok (.newarray .int, 2) := by decide +kernel
theorem dX1_init_46 : decode cX1_init 46 = .ok (.putfield 24, 3) := by decide +kernel
theorem dX1_init_49 : decode cX1_init 49 = .ok (.aload_n 0, 1) := by decide +kernel
theorem dX1_init_50 : decode cX1_init 50 = .ok (.sipush 2048, 3) := by decide +kernel
theorem dX1_init_53 : decode cX1_init 53 = .ok (.newarray .boolean, 2) := by decide +kernel
theorem dX1_init_55 : decode cX1_init 55 = .ok (.putfield 27, 3) := by decide +kernel
theorem dX1_init_58 : decode cX1_init 58 = .ok (.aload_n 0, 1) := by decide +kernel
theorem dX1_init_59 : decode cX1_init 59 = .ok (.sipush 2048, 3) := by decide +kernel
theorem dX1_init_62 : decode cX1_init 62 = .ok (.newarray .char, 2) := by decide +kernel
theorem dX1_init_64 : decode cX1_init 64 = .ok (.putfield 31, 3) := by decide +kernel
theorem dX1_init_67 : decode cX1_init 67 = .ok (.aload_n 0, 1) := by decide +kernel
theorem dX1_init_68 : decode cX1_init 68 = .ok (.sipush 8192, 3) := by decide +kernel
theorem dX1_init_71 : decode cX1_init 71 = .ok (.newarray .int, 2) := by decide +kernel
theorem dX1_init_73 : decode cX1_init 73 = .ok (.putfield 35, 3) := by decide +kernel
theorem dX1_init_76 : decode cX1_init 76 = .ok (.aload_n 0, 1) := by decide +kernel
theorem dX1_init_77 : decode cX1_init 77 = .ok (.sipush 512, 3) := by decide +kernel
theorem dX1_init_80 : decode cX1_init 80 = .ok (.newarray .int, 2) := by decide +kernel
theorem dX1_init_82 : decode cX1_init 82 = .ok (.putfield 38, 3) := by decide +kernel
theorem dX1_init_85 : decode cX1_init 85 = .ok (.aload_n 0, 1) := by decide +kernel
theorem dX1_init_86 : decode cX1_init 86 = .ok (.sipush 2048, 3) := by decide +kernel
theorem dX1_init_89 : decode cX1_init 89 = .ok (.newarray .int, 2) := by decide +kernel
theorem dX1_init_91 : decode cX1_init 91 = .ok (.putfield 41, 3) := by decide +kernel
theorem dX1_init_94 : decode cX1_init 94 = .ok (.aload_n 0, 1) := by decide +kernel
theorem dX1_init_95 : decode cX1_init 95 = .ok (.sipush 2048, 3) := by decide +kernel
theorem dX1_init_98 : decode cX1_init 98 = .ok (.newarray .int, 2) := by decide +kernel
theorem dX1_init_100 : decode cX1_init 100 = .ok (.putfield 44, 3) := by decide +kernel
theorem dX1_init_103 : decode cX1_init 103 = .ok (.aload_n 0, 1) := by decide +kernel
theorem dX1_init_104 : decode cX1_init 104 = .ok (.bipush 16, 2) := by decide +kernel
theorem dX1_init_106 : decode cX1_init 106 = .ok (.putfield 47, 3) := by decide +kernel
theorem dX1_init_109 : decode cX1_init 109 = .ok (.iconst 0, 1) := by decide +kernel
theorem dX1_init_110 : decode cX1_init 110 = .ok (.istore_n 1, 1) := by decide +kernel
theorem dX1_init_111 : decode cX1_init 111 = .ok (.iload_n 1, 1) := by decide +kernel
theorem dX1_init_112 : decode cX1_init 112 = .ok (.bipush 16, 2) := by decide +kernel
theorem dX1_init_114 : decode cX1_init 114 = .ok (.if_icmp .ge 95, 3) := by decide +kernel
theorem dX1_init_117 : decode cX1_init 117 = .ok (.aload_n 0, 1) := by decide +kernel
theorem dX1_init_118 : decode cX1_init 118 = .ok (.getfield 9, 3) := by decide +kernel
theorem dX1_init_121 : decode cX1_init 121 = .ok (.iload_n 1, 1) := by decide +kernel
theorem dX1_init_122 : decode cX1_init 122 = .ok (.iload_n 1, 1) := by decide +kernel
theorem dX1_init_123 : decode cX1_init 123 = .ok (.iastore, 1) := by decide +kernel
theorem dX1_init_124 : decode cX1_init 124 = .ok (.aload_n 0, 1) := by decide +kernel
theorem dX1_init_125 : decode cX1_init 125 = .ok (.getfield 21, 3) := by decide +kernel
theorem dX1_init_128 : decode cX1_init 128 = .ok (.iload_n 1, 1) := by decide +kernel
theorem dX1_init_129 : decode cX1_init 129 = .ok (.iconst 1, 1) := by decide +kernel
theorem dX1_init_130 : decode cX1_init 130 = .ok (.iastore, 1) := by decide +kernel
theorem dX1_init_131 : decode cX1_init 131 = .ok (.aload_n 0, 1) := by decide +kernel
theorem dX1_init_132 : decode cX1_init 132 = .ok (.getfield 24, 3) := by decide +kernel
theorem dX1_init_135 : decode cX1_init 135 = .ok (.iload_n 1, 1) := by decide +kernel
theorem dX1_init_136 : decode cX1_init 136 = .ok (.iload_n 1, 1) := by decide +kernel
theorem dX1_init_137 : decode cX1_init 137 = .ok (.iconst 4, 1) := by decide +kernel
theorem dX1_init_138 : decode cX1_init 138 = .ok (.if_icmp .ge 7, 3) := by decide +kernel
theorem dX1_init_141 : decode cX1_init 141 = .ok (.iconst 0, 1) := by decide +kernel
theorem dX1_init_142 : decode cX1_init 142 = .ok (.goto 11, 3) := by decide +kernel
theorem dX1_init_145 : decode cX1_init 145 = .ok (.iconst 1, 1) := by decide +kernel
theorem dX1_init_146 : decode cX1_init 146 = .ok (.iload_n 1, 1) := by decide +kernel
theorem dX1_init_147 : decode cX1_init 147 = .ok (.iconst 4, 1) := by decide +kernel
theorem dX1_init_148 : decode cX1_init 148 = .ok (.isub, 1) := by decide +kernel
theorem dX1_init_149 : decode cX1_init 149 = .ok (.bipush 6, 2) := by decide +kernel
theorem dX1_init_151 : decode cX1_init 151 = .ok (.irem, 1) := by decide +kernel
theorem dX1_init_152 : decode cX1_init 152 = .ok (.ishl, 1) := by decide +kernel
theorem dX1_init_153 : decode cX1_init 153 = .ok (.iastore, 1) := by decide +kernel
theorem dX1_init_154 : decode cX1_init 154 = .ok (.aload_n 0, 1) := by decide +kernel
theorem dX1_init_155 : decode cX1_init 155 = .ok (.getfield 27, 3) := by decide +kernel
theorem dX1_init_158 : decode cX1_init 158 = .ok (.iload_n 1, 1) := by decide +kernel
theorem dX1_init_159 : decode cX1_init 159 = .ok (.iload_n 1, 1) := by decide +kernel
theorem dX1_init_160 : decode cX1_init 160 = .ok (.iconst 1, 1) := by decide +kernel
theorem dX1_init_161 : decode cX1_init 161 = .ok (.if_icmp .eq 14, 3) := by decide +kernel
theorem dX1_init_164 : decode cX1_init 164 = .ok (.iload_n 1, 1) := by decide +kernel
theorem dX1_init_165 : decode cX1_init 165 = .ok (.iconst 3, 1) := by decide +kernel
theorem dX1_init_166 : decode cX1_init 166 = .ok (.if_icmp .eq 9, 3) := by decide +kernel
theorem dX1_init_169 : decode cX1_init 169 = .ok (.iload_n 1, 1) := by decide +kernel
theorem dX1_init_170 : decode cX1_init 170 = .ok (.bipush 10, 2) := by decide +kernel
theorem dX1_init_172 : decode cX1_init 172 = .ok (.if_icmp .lt 7, 3) := by decide +kernel
theorem dX1_init_175 : decode cX1_init 175 = .ok (.iconst 1, 1) := by decide +kernel
theorem dX1_init_176 : decode cX1_init 176 = .ok (.goto 4, 3) := by decide +kernel
theorem dX1_init_179 : decode cX1_init 179 = .ok (.iconst 0, 1) := by decide +kernel
theorem dX1_init_180 : decode cX1_init 180 = .ok (.bastore, 1) := by decide +kernel
theorem dX1_init_181 : decode cX1_init 181 = .ok (.aload_n 0, 1) := by decide +kernel
theorem dX1_init_182 : decode cX1_init 182 = .ok (.getfield 31, 3) := by decide +kernel
theorem dX1_init_185 : decode cX1_init 185 = .ok (.iload_n 1, 1) := by decide +kernel
theorem dX1_init_186 : decode cX1_init 186 = .ok (.iload_n 1, 1) := by decide +kernel
theorem dX1_init_187 : decode cX1_init 187 = .ok (.bipush 10, 2) := by decide +kernel
theorem dX1_init_189 : decode cX1_init 189 = .ok (.if_icmp .lt 8, 3) := by decide +kernel
theorem dX1_init_192 : decode cX1_init 192 = .ok (.bipush 45, 2) := by decide +kernel
theorem dX1_init_194 : decode cX1_init 194 = .ok (.goto 8, 3) := by decide +kernel
theorem dX1_init_197 : decode cX1_init 197 = .ok (.getstatic 51, 3) := by decide +kernel
theorem dX1_init_200 : decode cX1_init 200 = .ok (.iload_n 1, 1) := by decide +kernel
theorem dX1_init_201 : decode cX1_init 201 = .ok (.caload, 1) := by decide +kernel
theorem dX1_init_202 : decode cX1_init 202 = .ok (.castore, 1) := by decide +kernel
theorem dX1_init_203 : decode cX1_init 203 = .ok (.iinc 1 1, 3) := by decide +kernel
theorem dX1_init_206 : decode cX1_init 206 = .ok (.goto (-95), 3) := by decide +kernel
theorem dX1_init_209 : decode cX1_init 209 = .ok (.return_, 1) := by decide +kernel
theorem dX1_kid_0 : decode cX1_kid 0 = .ok (.iload_n 2, 1) := by decide +kernel
theorem dX1_kid_1 : decode cX1_kid 1 = .ok (.ifCond .lt 29, 3) := by decide +kernel
theorem dX1_kid_4 : decode cX1_kid 4 = .ok (.iload_n 2, 1) := by decide +kernel
theorem dX1_kid_5 : decode cX1_kid 5 = .ok (.aload_n 0, 1) := by decide +kernel
theorem dX1_kid_6 : decode cX1_kid 6 = .ok (.getfield 18, 3) := by decide +kernel
theorem dX1_kid_9 : decode cX1_kid 9 = .ok (.iload_n 1, 1) := by decide +kernel
theorem dX1_kid_10 : decode cX1_kid 10 = .ok (.iaload, 1) := by decide +kernel
theorem dX1_kid_11 : decode cX1_kid 11 = .ok (.if_icmp .ge 19, 3) := by decide +kernel
theorem dX1_kid_14 : decode cX1_kid 14 = .ok (.aload_n 0, 1) := by decide +kernel
theorem dX1_kid_15 : decode cX1_kid 15 = .ok (.getfield 35, 3) := by decide +kernel
theorem dX1_kid_18 : decode cX1_kid 18 = .ok (.aload_n 0, 1) := by decide +kernel
theorem dX1_kid_19 : decode cX1_kid 19 = .ok (.getfield 15, 3) := by decide +kernel
theorem dX1_kid_22 : decode cX1_kid 22 = .ok (.iload_n 1, 1) := by decide +kernel
theorem dX1_kid_23 : decode cX1_kid 23 = .ok (.iaload, 1) := by decide +kernel
theorem dX1_kid_24 : decode cX1_kid 24 = .ok (.iload_n 2, 1) := by decide +kernel
theorem dX1_kid_25 : decode cX1_kid 25 = .ok (.iadd, 1) := by decide +kernel
theorem dX1_kid_26 : decode cX1_kid 26 = .ok (.iaload, 1) := by decide +kernel
theorem dX1_kid_27 : decode cX1_kid 27 = .ok (.goto 4, 3) := by decide +kernel
theorem dX1_kid_30 : decode cX1_kid 30 = .ok (.iconst 0, 1) := by decide +kernel
theorem dX1_kid_31 : decode cX1_kid 31 = .ok (.ireturn, 1) := by decide +kernel
theorem dX1_release_0 : decode cX1_release 0 = .ok (.aload_n 0, 1) := by decide +kernel
theorem dX1_release_1 : decode cX1_release 1 = .ok (.getfield 47, 3) := by decide +kernel
theorem dX1_release_4 : decode cX1_release 4 = .ok (.iconst 1, 1) := by decide +kernel
theorem dX1_release_5 : decode cX1_release 5 = .ok (.isub, 1) := by decide +kernel
theorem dX1_release_6 : decode cX1_release 6 = .ok (.istore_n 2, 1) := by decide +kernel
theorem dX1_release_7 : decode cX1_release 7 = .ok (.iload_n 2, 1) := by decide +kernel
theorem dX1_release_8 : decode cX1_release 8 = .ok (.iload_n 1, 1) := by decide +kernel
theorem dX1_release_9 : decode cX1_release 9 = .ok (.if_icmp .lt 47, 3) := by decide +kernel
theorem dX1_release_12 : decode cX1_release 12 = .ok (.iload_n 2, 1) := by decide +kernel
theorem dX1_release_13 : decode cX1_release 13 = .ok (.bipush 16, 2) := by decide +kernel
theorem dX1_release_15 : decode cX1_release 15 = .ok (.if_icmp .lt 41, 3) := by decide +kernel
theorem dX1_release_18 : decode cX1_release 18 = .ok (.aload_n 0, 1) := by decide +kernel
theorem dX1_release_19 : decode cX1_release 19 = .ok (.getfield 38, 3) := by decide +kernel
theorem dX1_release_22 : decode cX1_release 22 = .ok (.aload_n 0, 1) := by decide +kernel
theorem dX1_release_23 : decode cX1_release 23 = .ok (.getfield 44, 3) := by decide +kernel
theorem dX1_release_26 : decode cX1_release 26 = .ok (.iload_n 2, 1) := by decide +kernel
theorem dX1_release_27 : decode cX1_release 27 = .ok (.iaload, 1) := by decide +kernel
theorem dX1_release_28 : decode cX1_release 28 = .ok (.aload_n 0, 1) := by decide +kernel
theorem dX1_release_29 : decode cX1_release 29 = .ok (.getfield 41, 3) := by decide +kernel
theorem dX1_release_32 : decode cX1_release 32 = .ok (.iload_n 2, 1) := by decide +kernel
theorem dX1_release_33 : decode cX1_release 33 = .ok (.iaload, 1) := by decide +kernel
theorem dX1_release_34 : decode cX1_release 34 = .ok (.iastore, 1) := by decide +kernel
theorem dX1_release_35 : decode cX1_release 35 = .ok (.aload_n 0, 1) := by decide +kernel
theorem dX1_release_36 : decode cX1_release 36 = .ok (.aload_n 0, 1) := by decide +kernel
theorem dX1_release_37 : decode cX1_release 37 = .ok (.getfield 15, 3) := by decide +kernel
theorem dX1_release_40 : decode cX1_release 40 = .ok (.iload_n 2, 1) := by decide +kernel
theorem dX1_release_41 : decode cX1_release 41 = .ok (.iaload, 1) := by decide +kernel
theorem dX1_release_42 : decode cX1_release 42 = .ok (.putfield 54, 3) := by decide +kernel
theorem dX1_release_45 : decode cX1_release 45 = .ok (.aload_n 0, 1) := by decide +kernel
theorem dX1_release_46 : decode cX1_release 46 = .ok (.iload_n 2, 1) := by decide +kernel
theorem dX1_release_47 : decode cX1_release 47 = .ok (.putfield 47, 3) := by decide +kernel
theorem dX1_release_50 : decode cX1_release 50 = .ok (.iinc 2 (-1), 3) := by decide +kernel
theorem dX1_release_53 : decode cX1_release 53 = .ok (.goto (-46), 3) := by decide +kernel
theorem dX1_release_56 : decode cX1_release 56 = .ok (.return_, 1) := by decide +kernel
theorem dX1_make_0 : decode cX1_make 0 = .ok (.iload_n 3, 1) := by decide +kernel
theorem dX1_make_1 : decode cX1_make 1 = .ok (.ifCond .lt 12, 3) := by decide +kernel
theorem dX1_make_4 : decode cX1_make 4 = .ok (.iload 4, 2) := by decide +kernel
theorem dX1_make_6 : decode cX1_make 6 = .ok (.aload_n 2, 1) := by decide +kernel
theorem dX1_make_7 : decode cX1_make 7 = .ok (.arraylength, 1) := by decide +kernel
theorem dX1_make_8 : decode cX1_make 8 = .ok (.iload_n 3, 1) := by decide +kernel
theorem dX1_make_9 : decode cX1_make 9 = .ok (.isub, 1) := by decide +kernel
theorem dX1_make_10 : decode cX1_make 10 = .ok (.if_icmp .le 5, 3) := by decide +kernel
theorem dX1_make_13 : decode cX1_make 13 = .ok (.iconst 0, 1) := by decide +kernel
theorem dX1_make_14 : decode cX1_make 14 = .ok (.ireturn, 1) := by decide +kernel
theorem dX1_make_15 : decode cX1_make 15 = .ok (.iload_n 1, 1) := by decide +kernel
theorem dX1_make_16 : decode cX1_make 16 = .ok (.istore 5, 2) := by decide +kernel
theorem dX1_make_18 : decode cX1_make 18 = .ok (.iconst 0, 1) := by decide +kernel
theorem dX1_make_19 : decode cX1_make 19 = .ok (.istore 6, 2) := by decide +kernel
theorem dX1_make_21 : decode cX1_make 21 = .ok (.iload 6, 2) := by decide +kernel
theorem dX1_make_23 : decode cX1_make 23 = .ok (.iload 4, 2) := by decide +kernel
theorem dX1_make_25 : decode cX1_make 25 = .ok (.if_icmp .ge 23, 3) := by decide +kernel
theorem dX1_make_28 : decode cX1_make 28 = .ok (.iload 5, 2) := by decide +kernel
theorem dX1_make_30 : decode cX1_make 30 = .ok (.bipush 31, 2) := by decide +kernel
theorem dX1_make_32 : decode cX1_make 32 = .ok (.imul, 1) := by decide +kernel
theorem dX1_make_33 : decode cX1_make 33 = .ok (.aload_n 2, 1) := by decide +kernel
theorem dX1_make_34 : decode cX1_make 34 = .ok (.iload_n 3, 1) := by decide +kernel
theorem dX1_make_35 : decode cX1_make 35 = .ok (.iload 6, 2) := by decide +kernel
theorem dX1_make_37 : decode cX1_make 37 = .ok (.iadd, 1) := by decide +kernel
theorem dX1_make_38 : decode cX1_make 38 = .ok (.iaload, 1) := by decide +kernel
theorem dX1_make_39 : decode cX1_make 39 = .ok (.iadd, 1) := by decide +kernel
theorem dX1_make_40 : decode cX1_make 40 = .ok (.istore 5, 2) := by decide +kernel
theorem dX1_make_42 : decode cX1_make 42 = .ok (.iinc 6 1, 3) := by decide +kernel
theorem dX1_make_45 : decode cX1_make 45 = .ok (.goto (-24), 3) := by decide +kernel
theorem dX1_make_48 : decode cX1_make 48 = .ok (.iload 5, 2) := by decide +kernel
theorem dX1_make_50 : decode cX1_make 50 = .ok (.iload 5, 2) := by decide +kernel
theorem dX1_make_52 : decode cX1_make 52 = .ok (.bipush 9, 2) := by decide +kernel
theorem dX1_make_54 : decode cX1_make 54 = .ok (.iushr, 1) := by decide +kernel
theorem dX1_make_55 : decode cX1_make 55 = .ok (.ixor, 1) := by decide +kernel
theorem dX1_make_56 : decode cX1_make 56 = .ok (.sipush 511, 3) := by decide +kernel
theorem dX1_make_59 : decode cX1_make 59 = .ok (.iand, 1) := by decide +kernel
theorem dX1_make_60 : decode cX1_make 60 = .ok (.istore 6, 2) := by decide +kernel
theorem dX1_make_62 : decode cX1_make 62 = .ok (.aload_n 0, 1) := by decide +kernel
theorem dX1_make_63 : decode cX1_make 63 = .ok (.getfield 38, 3) := by decide +kernel
theorem dX1_make_66 : decode cX1_make 66 = .ok (.iload 6, 2) := by decide +kernel
theorem dX1_make_68 : decode cX1_make 68 = .ok (.iaload, 1) := by decide +kernel
theorem dX1_make_69 : decode cX1_make 69 = .ok (.istore 7, 2) := by decide +kernel
theorem dX1_make_71 : decode cX1_make 71 = .ok (.iconst 0, 1) := by decide +kernel
theorem dX1_make_72 : decode cX1_make 72 = .ok (.istore 8, 2) := by decide +kernel
theorem dX1_make_74 : decode cX1_make 74 = .ok (.iload 8, 2) := by decide +kernel
theorem dX1_make_76 : decode cX1_make 76 = .ok (.sipush 2048, 3) := by decide +kernel
theorem dX1_make_79 : decode cX1_make 79 = .ok (.if_icmp .ge 40, 3) := by decide +kernel
theorem dX1_make_82 : decode cX1_make 82 = .ok (.iload 7, 2) := by decide +kernel
theorem dX1_make_84 : decode cX1_make 84 = .ok (.ifCond .eq 35, 3) := by decide +kernel
theorem dX1_make_87 : decode cX1_make 87 = .ok (.aload_n 0, 1) := by decide +kernel
theorem dX1_make_88 : decode cX1_make 88 = .ok (.iload 7, 2) := by decide +kernel
theorem dX1_make_90 : decode cX1_make 90 = .ok (.iload_n 1, 1) := by decide +kernel
theorem dX1_make_91 : decode cX1_make 91 = .ok (.aload_n 2, 1) := by decide +kernel
theorem dX1_make_92 : decode cX1_make 92 = .ok (.iload_n 3, 1) := by decide +kernel
theorem dX1_make_93 : decode cX1_make 93 = .ok (.iload 4, 2) := by decide +kernel
theorem dX1_make_95 : decode cX1_make 95 = .ok (.invokevirtual 57, 3) := by decide +kernel
theorem dX1_make_98 : decode cX1_make 98 = .ok (.ifCond .eq 6, 3) := by decide +kernel
theorem dX1_make_101 : decode cX1_make 101 = .ok (.iload 7, 2) := by decide +kernel
theorem dX1_make_103 : decode cX1_make 103 = .ok (.ireturn, 1) := by decide +kernel
theorem dX1_make_104 : decode cX1_make 104 = .ok (.aload_n 0, 1) := by decide +kernel
theorem dX1_make_105 : decode cX1_make 105 = .ok (.getfield 41, 3) := by decide +kernel
theorem dX1_make_108 : decode cX1_make 108 = .ok (.iload 7, 2) := by decide +kernel
theorem dX1_make_110 : decode cX1_make 110 = .ok (.iaload, 1) := by decide +kernel
theorem dX1_make_111 : decode cX1_make 111 = .ok (.istore 7, 2) := by decide +kernel
theorem dX1_make_113 : decode cX1_make 113 = .ok (.iinc 8 1, 3) := by decide +kernel
theorem dX1_make_116 : decode cX1_make 116 = .ok (.goto (-42), 3) := by decide +kernel
theorem dX1_make_119 : decode cX1_make 119 = .ok (.aload_n 0, 1) := by decide +kernel
theorem dX1_make_120 : decode cX1_make 120 = .ok (.getfield 47, 3) := by decide +kernel
theorem dX1_make_123 : decode cX1_make 123 = .ok (.sipush 2048, 3) := by decide +kernel
theorem dX1_make_126 : decode cX1_make 126 = .ok (.if_icmp .ge 16, 3) := by decide +kernel
theorem dX1_make_129 : decode cX1_make 129 = .ok (.iload 4, 2) := by decide +kernel
theorem dX1_make_131 : decode cX1_make 131 = .ok (.sipush 8192, 3) := by decide +kernel
theorem dX1_make_134 : decode cX1_make 134 = .ok (.aload_n 0, 1) := by decide +kernel
theorem dX1_make_135 : decode cX1_make 135 = .ok (.getfield 54, 3) := by decide +kernel
theorem dX1_make_138 : decode cX1_make 138 = .ok (.isub, 1) := by decide +kernel
theorem dX1_make_139 : decode cX1_make 139 = .ok (.if_icmp .le 5, 3) := by decide +kernel
theorem dX1_make_142 : decode cX1_make 142 = .ok (.iconst 0, 1) := by decide +kernel
theorem dX1_make_143 : decode cX1_make 143 = .ok (.ireturn, 1) := by decide +kernel
theorem dX1_make_144 : decode cX1_make 144 = .ok (.aload_n 0, 1) := by decide +kernel
theorem dX1_make_145 : decode cX1_make 145 = .ok (.getfield 47, 3) := by decide +kernel
theorem dX1_make_148 : decode cX1_make 148 = .ok (.istore 8, 2) := by decide +kernel
theorem dX1_make_150 : decode cX1_make 150 = .ok (.aload_n 0, 1) := by decide +kernel
theorem dX1_make_151 : decode cX1_make 151 = .ok (.dup, 1) := by decide +kernel
theorem dX1_make_152 : decode cX1_make 152 = .ok (.getfield 47, 3) := by decide +kernel
theorem dX1_make_155 : decode cX1_make 155 = .ok (.iconst 1, 1) := by decide +kernel
theorem dX1_make_156 : decode cX1_make 156 = .ok (.iadd, 1) := by decide +kernel
theorem dX1_make_157 : decode cX1_make 157 = .ok (.putfield 47, 3) := by decide +kernel
theorem dX1_make_160 : decode cX1_make 160 = .ok (.aload_n 0, 1) := by decide +kernel
theorem dX1_make_161 : decode cX1_make 161 = .ok (.getfield 44, 3) := by decide +kernel
theorem dX1_make_164 : decode cX1_make 164 = .ok (.iload 8, 2) := by decide +kernel
theorem dX1_make_166 : decode cX1_make 166 = .ok (.iload 6, 2) := by decide +kernel
theorem dX1_make_168 : decode cX1_make 168 = .ok (.iastore, 1) := by decide +kernel
theorem dX1_make_169 : decode cX1_make 169 = .ok (.aload_n 0, 1) := by decide +kernel
theorem dX1_make_170 : decode cX1_make 170 = .ok (.getfield 41, 3) := by decide +kernel
theorem dX1_make_173 : decode cX1_make 173 = .ok (.iload 8, 2) := by decide +kernel
theorem dX1_make_175 : decode cX1_make 175 = .ok (.aload_n 0, 1) := by decide +kernel
theorem dX1_make_176 : decode cX1_make 176 = .ok (.getfield 38, 3) := by decide +kernel
theorem dX1_make_179 : decode cX1_make 179 = .ok (.iload 6, 2) := by decide +kernel
theorem dX1_make_181 : decode cX1_make 181 = .ok (.iaload, 1) := by decide +kernel
theorem dX1_make_182 : decode cX1_make 182 = .ok (.iastore, 1) := by decide +kernel
theorem dX1_make_183 : decode cX1_make 183 = .ok (.aload_n 0, 1) := by decide +kernel
theorem dX1_make_184 : decode cX1_make 184 = .ok (.getfield 38, 3) := by decide +kernel
theorem dX1_make_187 : decode cX1_make 187 = .ok (.iload 6, 2) := by decide +kernel
theorem dX1_make_189 : decode cX1_make 189 = .ok (.iload 8, 2) := by decide +kernel
theorem dX1_make_191 : decode cX1_make 191 = .ok (.iastore, 1) := by decide +kernel
theorem dX1_make_192 : decode cX1_make 192 = .ok (.aload_n 0, 1) := by decide +kernel
theorem dX1_make_193 : decode cX1_make 193 = .ok (.getfield 9, 3) := by decide +kernel
theorem dX1_make_196 : decode cX1_make 196 = .ok (.iload 8, 2) := by decide +kernel
theorem dX1_make_198 : decode cX1_make 198 = .ok (.iload_n 1, 1) := by decide +kernel
theorem dX1_make_199 : decode cX1_make 199 = .ok (.iastore, 1) := by decide +kernel
theorem dX1_make_200 : decode cX1_make 200 = .ok (.aload_n 0, 1) := by decide +kernel
theorem dX1_make_201 : decode cX1_make 201 = .ok (.getfield 15, 3) := by decide +kernel
theorem dX1_make_204 : decode cX1_make 204 = .ok (.iload 8, 2) := by decide +kernel
theorem dX1_make_206 : decode cX1_make 206 = .ok (.aload_n 0, 1) := by decide +kernel
theorem dX1_make_207 : decode cX1_make 207 = .ok (.getfield 54, 3) := by decide +kernel
theorem dX1_make_210 : decode cX1_make 210 = .ok (.iastore, 1) := by decide +kernel
theorem dX1_make_211 : decode cX1_make 211 = .ok (.aload_n 0, 1) := by decide +kernel
theorem dX1_make_212 : decode cX1_make 212 = .ok (.getfield 18, 3) := by decide +kernel
theorem dX1_make_215 : decode cX1_make 215 = .ok (.iload 8, 2) := by decide +kernel
theorem dX1_make_217 : decode cX1_make 217 = .ok (.iload 4, 2) := by decide +kernel
theorem dX1_make_219 : decode cX1_make 219 = .ok (.iastore, 1) := by decide +kernel
theorem dX1_make_220 : decode cX1_make 220 = .ok (.aload_n 2, 1) := by decide +kernel
theorem dX1_make_221 : decode cX1_make 221 = .ok (.iload_n 3, 1) := by decide +kernel
theorem dX1_make_222 : decode cX1_make 222 = .ok (.aload_n 0, 1) := by decide +kernel
theorem dX1_make_223 : decode cX1_make 223 = .ok (.getfield 35, 3) := by decide +kernel
theorem dX1_make_226 : decode cX1_make 226 = .ok (.aload_n 0, 1) := by decide +kernel
theorem dX1_make_227 : decode cX1_make 227 = .ok (.getfield 54, 3) := by decide +kernel
theorem dX1_make_230 : decode cX1_make 230 = .ok (.iload 4, 2) := by decide +kernel
theorem dX1_make_232 : decode cX1_make 232 = .ok (.invokestatic 61, 3) := by decide +kernel
theorem dX1_make_235 : decode cX1_make 235 = .ok (.aload_n 0, 1) := by decide +kernel
theorem dX1_make_236 : decode cX1_make 236 = .ok (.dup, 1) := by decide +kernel
theorem dX1_make_237 : decode cX1_make 237 = .ok (.getfield 54, 3) := by decide +kernel
theorem dX1_make_240 : decode cX1_make 240 = .ok (.iload 4, 2) := by decide +kernel
theorem dX1_make_242 : decode cX1_make 242 = .ok (.iadd, 1) := by decide +kernel
theorem dX1_make_243 : decode cX1_make 243 = .ok (.putfield 54, 3) := by decide +kernel
theorem dX1_make_246 : decode cX1_make 246 = .ok (.aload_n 0, 1) := by decide +kernel
theorem dX1_make_247 : decode cX1_make 247 = .ok (.iload 8, 2) := by decide +kernel
theorem dX1_make_249 : decode cX1_make 249 = .ok (.invokevirtual 67, 3) := by decide +kernel
theorem dX1_make_252 : decode cX1_make 252 = .ok (.iload 8, 2) := by decide +kernel
theorem dX1_make_254 : decode cX1_make 254 = .ok (.ireturn, 1) := by decide +kernel
theorem dX1_isMadeOf_0 : decode cX1_isMadeOf 0 = .ok (.aload_n 0, 1) := by decide +kernel
theorem dX1_isMadeOf_1 : decode cX1_isMadeOf 1 = .ok (.getfield 9, 3) := by decide +kernel
theorem dX1_isMadeOf_4 : decode cX1_isMadeOf 4 = .ok (.iload_n 1, 1) := by decide +kernel
theorem dX1_isMadeOf_5 : decode cX1_isMadeOf 5 = .ok (.iaload, 1) := by decide +kernel
theorem dX1_isMadeOf_6 : decode cX1_isMadeOf 6 = .ok (.iload_n 2, 1) := by decide +kernel
theorem dX1_isMadeOf_7 : decode cX1_isMadeOf 7 = .ok (.if_icmp .ne 14, 3) := by decide +kernel
theorem dX1_isMadeOf_10 : decode cX1_isMadeOf 10 = .ok (.aload_n 0, 1) := by decide +kernel
theorem dX1_isMadeOf_11 : decode cX1_isMadeOf 11 = .ok (.getfield 18, 3) := by decide +kernel
theorem dX1_isMadeOf_14 : decode cX1_isMadeOf 14 = .ok (.iload_n 1, 1) := by decide +kernel
theorem dX1_isMadeOf_15 : decode cX1_isMadeOf 15 = .ok (.iaload, 1) := by decide +kernel
theorem dX1_isMadeOf_16 : decode cX1_isMadeOf 16 = .ok (.iload 5, 2) := by decide +kernel
theorem dX1_isMadeOf_18 : decode cX1_isMadeOf 18 = .ok (.if_icmp .eq 5, 3) := by decide +kernel
theorem dX1_isMadeOf_21 : decode cX1_isMadeOf 21 = .ok (.iconst 0, 1) := by decide +kernel
theorem dX1_isMadeOf_22 : decode cX1_isMadeOf 22 = .ok (.ireturn, 1) := by decide +kernel
theorem dX1_isMadeOf_23 : decode cX1_isMadeOf 23 = .ok (.iconst 0, 1) := by decide +kernel
theorem dX1_isMadeOf_24 : decode cX1_isMadeOf 24 = .ok (.istore 6, 2) := by decide +kernel
theorem dX1_isMadeOf_26 : decode cX1_isMadeOf 26 = .ok (.iload 6, 2) := by decide +kernel
theorem dX1_isMadeOf_28 : decode cX1_isMadeOf 28 = .ok (.iload 5, 2) := by decide +kernel
theorem dX1_isMadeOf_30 : decode cX1_isMadeOf 30 = .ok (.if_icmp .ge 35, 3) := by decide +kernel
theorem dX1_isMadeOf_33 : decode cX1_isMadeOf 33 = .ok (.aload_n 0, 1) := by decide +kernel
theorem dX1_isMadeOf_34 : decode cX1_isMadeOf 34 = .ok (.getfield 35, 3) := by decide +kernel
theorem dX1_isMadeOf_37 : decode cX1_isMadeOf 37 = .ok (.aload_n 0, 1) := by decide +kernel
theorem dX1_isMadeOf_38 : decode cX1_isMadeOf 38 = .ok (.getfield 15, 3) := by decide +kernel
theorem dX1_isMadeOf_41 : decode cX1_isMadeOf 41 = .ok (.iload_n 1, 1) := by decide +kernel
theorem dX1_isMadeOf_42 : decode cX1_isMadeOf 42 = .ok (.iaload, 1) := by decide +kernel
theorem dX1_isMadeOf_43 : decode cX1_isMadeOf 43 = .ok (.iload 6, 2) := by decide +kernel
theorem dX1_isMadeOf_45 : decode cX1_isMadeOf 45 = .ok (.iadd, 1) := by decide +kernel
theorem dX1_isMadeOf_46 : decode cX1_isMadeOf 46 = .ok (.iaload, 1) := by decide +kernel
theorem dX1_isMadeOf_47 : decode cX1_isMadeOf 47 = .ok (.aload_n 3, 1) := by decide +kernel
theorem dX1_isMadeOf_48 : decode cX1_isMadeOf 48 = .ok (.iload 4, 2) := by decide +kernel
theorem dX1_isMadeOf_50 : decode cX1_isMadeOf 50 = .ok (.iload 6, 2) := by decide +kernel
theorem dX1_isMadeOf_52 : decode cX1_isMadeOf 52 = .ok (.iadd, 1) := by decide +kernel
theorem dX1_isMadeOf_53 : decode cX1_isMadeOf 53 = .ok (.iaload, 1) := by decide +kernel
theorem dX1_isMadeOf_54 : decode cX1_isMadeOf 54 = .ok (.if_icmp .eq 5, 3) := by decide +kernel
theorem dX1_isMadeOf_57 : decode cX1_isMadeOf 57 = .ok (.iconst 0, 1) := by decide +kernel
theorem dX1_isMadeOf_58 : decode cX1_isMadeOf 58 = .ok (.ireturn, 1) := by decide +kernel
theorem dX1_isMadeOf_59 : decode cX1_isMadeOf 59 = .ok (.iinc 6 1, 3) := by decide +kernel
theorem dX1_isMadeOf_62 : decode cX1_isMadeOf 62 = .ok (.goto (-36), 3) := by decide +kernel
theorem dX1_isMadeOf_65 : decode cX1_isMadeOf 65 = .ok (.iconst 1, 1) := by decide +kernel
theorem dX1_isMadeOf_66 : decode cX1_isMadeOf 66 = .ok (.ireturn, 1) := by decide +kernel
theorem dX1_describe_0 : decode cX1_describe 0 = .ok (.aload_n 0, 1) := by decide +kernel
theorem dX1_describe_1 : decode cX1_describe 1 = .ok (.getfield 9, 3) := by decide +kernel
theorem dX1_describe_4 : decode cX1_describe 4 = .ok (.iload_n 1, 1) := by decide +kernel
theorem dX1_describe_5 : decode cX1_describe 5 = .ok (.iaload, 1) := by decide +kernel
theorem dX1_describe_6 : decode cX1_describe 6 = .ok (.istore_n 2, 1) := by decide +kernel
theorem dX1_describe_7 : decode cX1_describe 7 = .ok (.iconst 1, 1) := by decide +kernel
theorem dX1_describe_8 : decode cX1_describe 8 = .ok (.istore_n 3, 1) := by decide +kernel
theorem dX1_describe_9 : decode cX1_describe 9 = .ok (.iconst 0, 1) := by decide +kernel
theorem dX1_describe_10 : decode cX1_describe 10 = .ok (.istore 4, 2) := by decide +kernel
theorem dX1_describe_12 : decode cX1_describe 12 = .ok (.iconst 1, 1) := by decide +kernel
theorem dX1_describe_13 : decode cX1_describe 13 = .ok (.istore 5, 2) := by decide +kernel
theorem dX1_describe_15 : decode cX1_describe 15 = .ok (.iconst 0, 1) := by decide +kernel
theorem dX1_describe_16 : decode cX1_describe 16 = .ok (.istore 6, 2) := by decide +kernel
theorem dX1_describe_18 : decode cX1_describe 18 = .ok (.aload_n 0, 1) := by decide +kernel
theorem dX1_describe_19 : decode cX1_describe 19 = .ok (.getfield 15, 3) := by decide +kernel
theorem dX1_describe_22 : decode cX1_describe 22 = .ok (.iload_n 1, 1) := by decide +kernel
theorem dX1_describe_23 : decode cX1_describe 23 = .ok (.iaload, 1) := by decide +kernel
theorem dX1_describe_24 : decode cX1_describe 24 = .ok (.istore 7, 2) := by decide +kernel
theorem dX1_describe_26 : decode cX1_describe 26 = .ok (.iload 7, 2) := by decide +kernel
theorem dX1_describe_28 : decode cX1_describe 28 = .ok (.aload_n 0, 1) := by decide +kernel
theorem dX1_describe_29 : decode cX1_describe 29 = .ok (.getfield 54, 3) := by decide +kernel
theorem dX1_describe_32 : decode cX1_describe 32 = .ok (.if_icmp .ge 84, 3) := by decide +kernel
theorem dX1_describe_35 : decode cX1_describe 35 = .ok (.aload_n 0, 1) := by decide +kernel
theorem dX1_describe_36 : decode cX1_describe 36 = .ok (.getfield 35, 3) := by decide +kernel
theorem dX1_describe_39 : decode cX1_describe 39 = .ok (.iload 7, 2) := by decide +kernel
theorem dX1_describe_41 : decode cX1_describe 41 = .ok (.iaload, 1) := by decide +kernel
theorem dX1_describe_42 : decode cX1_describe 42 = .ok (.istore 8, 2) := by decide +kernel
theorem dX1_describe_44 : decode cX1_describe 44 = .ok (.iload_n 3, 1) := by decide +kernel
theorem dX1_describe_45 : decode cX1_describe 45 = .ok (.aload_n 0, 1) := by decide +kernel
theorem dX1_describe_46 : decode cX1_describe 46 = .ok (.getfield 21, 3) := by decide +kernel
theorem dX1_describe_49 : decode cX1_describe 49 = .ok (.iload 8, 2) := by decide +kernel
theorem dX1_describe_51 : decode cX1_describe 51 = .ok (.iaload, 1) := by decide +kernel
theorem dX1_describe_52 : decode cX1_describe 52 = .ok (.iadd, 1) := by decide +kernel
theorem dX1_describe_53 : decode cX1_describe 53 = .ok (.istore_n 3, 1) := by decide +kernel
theorem dX1_describe_54 : decode cX1_describe 54 = .ok (.iload 4, 2) := by decide +kernel
theorem dX1_describe_56 : decode cX1_describe 56 = .ok (.aload_n 0, 1) := by decide +kernel
theorem dX1_describe_57 : decode cX1_describe 57 = .ok (.getfield 24, 3) := by decide +kernel
theorem dX1_describe_60 : decode cX1_describe 60 = .ok (.iload 8, 2) := by decide +kernel
theorem dX1_describe_62 : decode cX1_describe 62 = .ok (.iaload, 1) := by decide +kernel
theorem dX1_describe_63 : decode cX1_describe 63 = .ok (.ior, 1) := by decide +kernel
theorem dX1_describe_64 : decode cX1_describe 64 = .ok (.istore 4, 2) := by decide +kernel
theorem dX1_describe_66 : decode cX1_describe 66 = .ok (.iload 5, 2) := by decide +kernel
theorem dX1_describe_68 : decode cX1_describe 68 = .ok (.ifCond .eq 17, 3) := by decide +kernel
theorem dX1_describe_71 : decode cX1_describe 71 = .ok (.aload_n 0, 1) := by decide +kernel
theorem dX1_describe_72 : decode cX1_describe 72 = .ok (.getfield 27, 3) := by decide +kernel
theorem dX1_describe_75 : decode cX1_describe 75 = .ok (.iload 8, 2) := by decide +kernel
theorem dX1_describe_77 : decode cX1_describe 77 = .ok (.baload, 1) := by decide +kernel
theorem dX1_describe_78 : decode cX1_describe 78 = .ok (.ifCond .eq 7, 3) := by decide +kernel
theorem dX1_describe_81 : decode cX1_describe 81 = .ok (.iconst 1, 1) := by decide +kernel
theorem dX1_describe_82 : decode cX1_describe 82 = .ok (.goto 4, 3) := by decide +kernel
theorem dX1_describe_85 : decode cX1_describe 85 = .ok (.iconst 0, 1) := by decide +kernel
theorem dX1_describe_86 : decode cX1_describe 86 = .ok (.istore 5, 2) := by decide +kernel
theorem dX1_describe_88 : decode cX1_describe 88 = .ok (.iload 6, 2) := by decide +kernel
theorem dX1_describe_90 : decode cX1_describe 90 = .ok (.ifCond .ne 13, 3) := by decide +kernel
theorem dX1_describe_93 : decode cX1_describe 93 = .ok (.aload_n 0, 1) := by decide +kernel
theorem dX1_describe_94 : decode cX1_describe 94 = .ok (.getfield 27, 3) := by decide +kernel
theorem dX1_describe_97 : decode cX1_describe 97 = .ok (.iload 8, 2) := by decide +kernel
theorem dX1_describe_99 : decode cX1_describe 99 = .ok (.baload, 1) := by decide +kernel
theorem dX1_describe_100 : decode cX1_describe 100 = .ok (.ifCond .eq 7, 3) := by decide +kernel
theorem dX1_describe_103 : decode cX1_describe 103 = .ok (.iconst 1, 1) := by decide +kernel
theorem dX1_describe_104 : decode cX1_describe 104 = .ok (.goto 4, 3) := by decide +kernel
theorem dX1_describe_107 : decode cX1_describe 107 = .ok (.iconst 0, 1) := by decide +kernel
theorem dX1_describe_108 : decode cX1_describe 108 = .ok (.istore 6, 2) := by decide +kernel
theorem dX1_describe_110 : decode cX1_describe 110 = .ok (.iinc 7 1, 3) := by decide +kernel
theorem dX1_describe_113 : decode cX1_describe 113 = .ok (.goto (-87), 3) := by decide +kernel
theorem dX1_describe_116 : decode cX1_describe 116 = .ok (.aload_n 0, 1) := by decide +kernel
theorem dX1_describe_117 : decode cX1_describe 117 = .ok (.getfield 21, 3) := by decide +kernel
theorem dX1_describe_120 : decode cX1_describe 120 = .ok (.iload_n 1, 1) := by decide +kernel
theorem dX1_describe_121 : decode cX1_describe 121 = .ok (.iload_n 3, 1) := by decide +kernel
theorem dX1_describe_122 : decode cX1_describe 122 = .ok (.iastore, 1) := by decide +kernel
theorem dX1_describe_123 : decode cX1_describe 123 = .ok (.aload_n 0, 1) := by decide +kernel
theorem dX1_describe_124 : decode cX1_describe 124 = .ok (.getfield 24, 3) := by decide +kernel
theorem dX1_describe_127 : decode cX1_describe 127 = .ok (.iload_n 1, 1) := by decide +kernel
theorem dX1_describe_128 : decode cX1_describe 128 = .ok (.iload 4, 2) := by decide +kernel
theorem dX1_describe_130 : decode cX1_describe 130 = .ok (.iastore, 1) := by decide +kernel
theorem dX1_describe_131 : decode cX1_describe 131 = .ok (.aload_n 0, 1) := by decide +kernel
theorem dX1_describe_132 : decode cX1_describe 132 = .ok (.getfield 31, 3) := by decide +kernel
theorem dX1_describe_135 : decode cX1_describe 135 = .ok (.iload_n 1, 1) := by decide +kernel
theorem dX1_describe_136 : decode cX1_describe 136 = .ok (.iload_n 2, 1) := by decide +kernel
theorem dX1_describe_137 : decode cX1_describe 137 = .ok (.bipush 16, 2) := by decide +kernel
theorem dX1_describe_139 : decode cX1_describe 139 = .ok (.if_icmp .ne 8, 3) := by decide +kernel
theorem dX1_describe_142 : decode cX1_describe 142 = .ok (.bipush 88, 2) := by decide +kernel
theorem dX1_describe_144 : decode cX1_describe 144 = .ok (.goto 16, 3) := by decide +kernel
theorem dX1_describe_147 : decode cX1_describe 147 = .ok (.iload_n 2, 1) := by decide +kernel
theorem dX1_describe_148 : decode cX1_describe 148 = .ok (.bipush 17, 2) := by decide +kernel
theorem dX1_describe_150 : decode cX1_describe 150 = .ok (.if_icmp .ne 8, 3) := by decide +kernel
theorem dX1_describe_153 : decode cX1_describe 153 = .ok (.bipush 78, 2) := by decide +kernel
theorem dX1_describe_155 : decode cX1_describe 155 = .ok (.goto 5, 3) := by decide +kernel
theorem dX1_describe_158 : decode cX1_describe 158 = .ok (.bipush 40, 2) := by decide +kernel
theorem dX1_describe_160 : decode cX1_describe 160 = .ok (.castore, 1) := by decide +kernel
theorem dX1_describe_161 : decode cX1_describe 161 = .ok (.aload_n 0, 1) := by decide +kernel
theorem dX1_describe_162 : decode cX1_describe 162 = .ok (.getfield 27, 3) := by decide +kernel
theorem dX1_describe_165 : decode cX1_describe 165 = .ok (.iload_n 1, 1) := by decide +kernel
theorem dX1_describe_166 : decode cX1_describe 166 = .ok (.iload_n 2, 1) := by decide +kernel
theorem dX1_describe_167 : decode cX1_describe 167 = .ok (.bipush 17, 2) := by decide +kernel
theorem dX1_describe_169 : decode cX1_describe 169 = .ok (.if_icmp .eq 31, 3) := by decide +kernel
theorem dX1_describe_172 : decode cX1_describe 172 = .ok (.iload_n 2, 1) := by decide +kernel
theorem dX1_describe_173 : decode cX1_describe 173 = .ok (.bipush 19, 2) := by decide +kernel
theorem dX1_describe_175 : decode cX1_describe 175 = .ok (.if_icmp .eq 25, 3) := by decide +kernel
theorem dX1_describe_178 : decode cX1_describe 178 = .ok (.iload_n 2, 1) := by decide +kernel
theorem dX1_describe_179 : decode cX1_describe 179 = .ok (.bipush 20, 2) := by decide +kernel
theorem dX1_describe_181 : decode cX1_describe 181 = .ok (.if_icmp .ne 8, 3) := by decide +kernel
theorem dX1_describe_184 : decode cX1_describe 184 = .ok (.iload 5, 2) := by decide +kernel
theorem dX1_describe_186 : decode cX1_describe 186 = .ok (.ifCond .ne 14, 3) := by decide +kernel
theorem dX1_describe_189 : decode cX1_describe 189 = .ok (.iload_n 2, 1) := by decide +kernel
theorem dX1_describe_190 : decode cX1_describe 190 = .ok (.bipush 21, 2) := by decide +kernel
theorem dX1_describe_192 : decode cX1_describe 192 = .ok (.if_icmp .ne 12, 3) := by decide +kernel
theorem dX1_describe_195 : decode cX1_describe 195 = .ok (.iload 6, 2) := by decide +kernel
theorem dX1_describe_197 : decode cX1_describe 197 = .ok (.ifCond .eq 7, 3) := by decide +kernel
theorem dX1_describe_200 : decode cX1_describe 200 = .ok (.iconst 1, 1) := by decide +kernel
theorem dX1_describe_201 : decode cX1_describe 201 = .ok (.goto 4, 3) := by decide +kernel
theorem dX1_describe_204 : decode cX1_describe 204 = .ok (.iconst 0, 1) := by decide +kernel
theorem dX1_describe_205 : decode cX1_describe 205 = .ok (.bastore, 1) := by decide +kernel
theorem dX1_describe_206 : decode cX1_describe 206 = .ok (.return_, 1) := by decide +kernel
theorem dX1_order_0 : decode cX1_order 0 = .ok (.iload_n 1, 1) := by decide +kernel
theorem dX1_order_1 : decode cX1_order 1 = .ok (.istore_n 3, 1) := by decide +kernel
theorem dX1_order_2 : decode cX1_order 2 = .ok (.iload_n 2, 1) := by decide +kernel
theorem dX1_order_3 : decode cX1_order 3 = .ok (.istore 4, 2) := by decide +kernel
theorem dX1_order_5 : decode cX1_order 5 = .ok (.iconst 0, 1) := by decide +kernel
theorem dX1_order_6 : decode cX1_order 6 = .ok (.istore 5, 2) := by decide +kernel
theorem dX1_order_8 : decode cX1_order 8 = .ok (.iload 5, 2) := by decide +kernel
theorem dX1_order_10 : decode cX1_order 10 = .ok (.sipush 2048, 3) := by decide +kernel
theorem dX1_order_13 : decode cX1_order 13 = .ok (.if_icmp .ge 293, 3) := by decide +kernel
theorem dX1_order_16 : decode cX1_order 16 = .ok (.iload_n 3, 1) := by decide +kernel
theorem dX1_order_17 : decode cX1_order 17 = .ok (.iload 4, 2) := by decide +kernel
theorem dX1_order_19 : decode cX1_order 19 = .ok (.if_icmp .eq 287, 3) := by decide +kernel
theorem dX1_order_22 : decode cX1_order 22 = .ok (.aload_n 0, 1) := by decide +kernel
theorem dX1_order_23 : decode cX1_order 23 = .ok (.getfield 31, 3) := by decide +kernel
theorem dX1_order_26 : decode cX1_order 26 = .ok (.iload_n 3, 1) := by decide +kernel
theorem dX1_order_27 : decode cX1_order 27 = .ok (.caload, 1) := by decide +kernel
theorem dX1_order_28 : decode cX1_order 28 = .ok (.aload_n 0, 1) := by decide +kernel
theorem dX1_order_29 : decode cX1_order 29 = .ok (.getfield 31, 3) := by decide +kernel
theorem dX1_order_32 : decode cX1_order 32 = .ok (.iload 4, 2) := by decide +kernel
theorem dX1_order_34 : decode cX1_order 34 = .ok (.caload, 1) := by decide +kernel
theorem dX1_order_35 : decode cX1_order 35 = .ok (.if_icmp .eq 18, 3) := by decide +kernel
theorem dX1_order_38 : decode cX1_order 38 = .ok (.aload_n 0, 1) := by decide +kernel
theorem dX1_order_39 : decode cX1_order 39 = .ok (.getfield 31, 3) := by decide +kernel
theorem dX1_order_42 : decode cX1_order 42 = .ok (.iload_n 3, 1) := by decide +kernel
theorem dX1_order_43 : decode cX1_order 43 = .ok (.caload, 1) := by decide +kernel
theorem dX1_order_44 : decode cX1_order 44 = .ok (.aload_n 0, 1) := by decide +kernel
theorem dX1_order_45 : decode cX1_order 45 = .ok (.getfield 31, 3) := by decide +kernel
theorem dX1_order_48 : decode cX1_order 48 = .ok (.iload 4, 2) := by decide +kernel
theorem dX1_order_50 : decode cX1_order 50 = .ok (.caload, 1) := by decide +kernel
theorem dX1_order_51 : decode cX1_order 51 = .ok (.isub, 1) := by decide +kernel
theorem dX1_order_52 : decode cX1_order 52 = .ok (.ireturn, 1) := by decide +kernel
theorem dX1_order_53 : decode cX1_order 53 = .ok (.iload_n 3, 1) := by decide +kernel
theorem dX1_order_54 : decode cX1_order 54 = .ok (.bipush 16, 2) := by decide +kernel
theorem dX1_order_56 : decode cX1_order 56 = .ok (.if_icmp .lt 10, 3) := by decide +kernel
theorem dX1_order_59 : decode cX1_order 59 = .ok (.iload 4, 2) := by decide +kernel
theorem dX1_order_61 : decode cX1_order 61 = .ok (.bipush 16, 2) := by decide +kernel
theorem dX1_order_63 : decode cX1_order 63 = .ok (.if_icmp .ge 8, 3) := by decide +kernel
theorem dX1_order_66 : decode cX1_order 66 = .ok (.iload_n 3, 1) := by decide +kernel
theorem dX1_order_67 : decode cX1_order 67 = .ok (.iload 4, 2) := by decide +kernel
theorem dX1_order_69 : decode cX1_order 69 = .ok (.isub, 1) := by decide +kernel
theorem dX1_order_70 : decode cX1_order 70 = .ok (.ireturn, 1) := by decide +kernel
theorem dX1_order_71 : decode cX1_order 71 = .ok (.aload_n 0, 1) := by decide +kernel
theorem dX1_order_72 : decode cX1_order 72 = .ok (.getfield 18, 3) := by decide +kernel
theorem dX1_order_75 : decode cX1_order 75 = .ok (.iload_n 3, 1) := by decide +kernel
theorem dX1_order_76 : decode cX1_order 76 = .ok (.iaload, 1) := by decide +kernel
theorem dX1_order_77 : decode cX1_order 77 = .ok (.aload_n 0, 1) := by decide +kernel
theorem dX1_order_78 : decode cX1_order 78 = .ok (.getfield 18, 3) := by decide +kernel
theorem dX1_order_81 : decode cX1_order 81 = .ok (.iload 4, 2) := by decide +kernel
theorem dX1_order_83 : decode cX1_order 83 = .ok (.iaload, 1) := by decide +kernel
theorem dX1_order_84 : decode cX1_order 84 = .ok (.if_icmp .ge 12, 3) := by decide +kernel
theorem dX1_order_87 : decode cX1_order 87 = .ok (.aload_n 0, 1) := by decide +kernel
theorem dX1_order_88 : decode cX1_order 88 = .ok (.getfield 18, 3) := by decide +kernel
theorem dX1_order_91 : decode cX1_order 91 = .ok (.iload_n 3, 1) := by decide +kernel
theorem dX1_order_92 : decode cX1_order 92 = .ok (.iaload, 1) := by decide +kernel
theorem dX1_order_93 : decode cX1_order 93 = .ok (.goto 10, 3) := by decide +kernel
theorem dX1_order_96 : decode cX1_order 96 = .ok (.aload_n 0, 1) := by decide +kernel
theorem dX1_order_97 : decode cX1_order 97 = .ok (.getfield 18, 3) := by decide +kernel
theorem dX1_order_100 : decode cX1_order 100 = .ok (.iload 4, 2) := by decide +kernel
theorem dX1_order_102 : decode cX1_order 102 = .ok (.iaload, 1) := by decide +kernel
theorem dX1_order_103 : decode cX1_order 103 = .ok (.istore 6, 2) := by decide +kernel
theorem dX1_order_105 : decode cX1_order 105 = .ok (.iconst 0, 1) := by decide +kernel
theorem dX1_order_106 : decode cX1_order 106 = .ok (.istore 7, 2) := by decide +kernel
theorem dX1_order_108 : decode cX1_order 108 = .ok (.iload 7, 2) := by decide +kernel
theorem dX1_order_110 : decode cX1_order 110 = .ok (.iload 6, 2) := by decide +kernel
theorem dX1_order_112 : decode cX1_order 112 = .ok (.if_icmp .ge 41, 3) := by decide +kernel
theorem dX1_order_115 : decode cX1_order 115 = .ok (.aload_n 0, 1) := by decide +kernel
theorem dX1_order_116 : decode cX1_order 116 = .ok (.getfield 35, 3) := by decide +kernel
theorem dX1_order_119 : decode cX1_order 119 = .ok (.aload_n 0, 1) := by decide +kernel
theorem dX1_order_120 : decode cX1_order 120 = .ok (.getfield 15, 3) := by decide +kernel
theorem dX1_order_123 : decode cX1_order 123 = .ok (.iload_n 3, 1) := by decide +kernel
theorem dX1_order_124 : decode cX1_order 124 = .ok (.iaload, 1) := by decide +kernel
theorem dX1_order_125 : decode cX1_order 125 = .ok (.iload 7, 2) := by decide +kernel
theorem dX1_order_127 : decode cX1_order 127 = .ok (.iadd, 1) := by decide +kernel
theorem dX1_order_128 : decode cX1_order 128 = .ok (.iaload, 1) := by decide +kernel
theorem dX1_order_129 : decode cX1_order 129 = .ok (.aload_n 0, 1) := by decide +kernel
theorem dX1_order_130 : decode cX1_order 130 = .ok (.getfield 35, 3) := by decide +kernel
theorem dX1_order_133 : decode cX1_order 133 = .ok (.aload_n 0, 1) := by decide +kernel
theorem dX1_order_134 : decode cX1_order 134 = .ok (.getfield 15, 3) := by decide +kernel
theorem dX1_order_137 : decode cX1_order 137 = .ok (.iload 4, 2) := by decide +kernel
theorem dX1_order_139 : decode cX1_order 139 = .ok (.iaload, 1) := by decide +kernel
theorem dX1_order_140 : decode cX1_order 140 = .ok (.iload 7, 2) := by decide +kernel
theorem dX1_order_142 : decode cX1_order 142 = .ok (.iadd, 1) := by decide +kernel
theorem dX1_order_143 : decode cX1_order 143 = .ok (.iaload, 1) := by decide +kernel
theorem dX1_order_144 : decode cX1_order 144 = .ok (.if_icmp .ne 9, 3) := by decide +kernel
theorem dX1_order_147 : decode cX1_order 147 = .ok (.iinc 7 1, 3) := by decide +kernel
theorem dX1_order_150 : decode cX1_order 150 = .ok (.goto (-42), 3) := by decide +kernel
theorem dX1_order_153 : decode cX1_order 153 = .ok (.iload 7, 2) := by decide +kernel
theorem dX1_order_155 : decode cX1_order 155 = .ok (.ifCond .le 42, 3) := by decide +kernel
theorem dX1_order_158 : decode cX1_order 158 = .ok (.aload_n 0, 1) := by decide +kernel
theorem dX1_order_159 : decode cX1_order 159 = .ok (.getfield 9, 3) := by decide +kernel
theorem dX1_order_162 : decode cX1_order 162 = .ok (.iload_n 3, 1) := by decide +kernel
theorem dX1_order_163 : decode cX1_order 163 = .ok (.iaload, 1) := by decide +kernel
theorem dX1_order_164 : decode cX1_order 164 = .ok (.aload_n 0, 1) := by decide +kernel
theorem dX1_order_165 : decode cX1_order 165 = .ok (.getfield 9, 3) := by decide +kernel
theorem dX1_order_168 : decode cX1_order 168 = .ok (.iload 4, 2) := by decide +kernel
theorem dX1_order_170 : decode cX1_order 170 = .ok (.iaload, 1) := by decide +kernel
theorem dX1_order_171 : decode cX1_order 171 = .ok (.if_icmp .eq 26, 3) := by decide +kernel
theorem dX1_order_174 : decode cX1_order 174 = .ok (.getstatic 71, 3) := by decide +kernel
theorem dX1_order_177 : decode cX1_order 177 = .ok (.aload_n 0, 1) := by decide +kernel
theorem dX1_order_178 : decode cX1_order 178 = .ok (.getfield 9, 3) := by decide +kernel
theorem dX1_order_181 : decode cX1_order 181 = .ok (.iload_n 3, 1) := by decide +kernel
theorem dX1_order_182 : decode cX1_order 182 = .ok (.iaload, 1) := by decide +kernel
theorem dX1_order_183 : decode cX1_order 183 = .ok (.caload, 1) := by decide +kernel
theorem dX1_order_184 : decode cX1_order 184 = .ok (.getstatic 71, 3) := by decide +kernel
theorem dX1_order_187 : decode cX1_order 187 = .ok (.aload_n 0, 1) := by decide +kernel
theorem dX1_order_188 : decode cX1_order 188 = .ok (.getfield 9, 3) := by decide +kernel
theorem dX1_order_191 : decode cX1_order 191 = .ok (.iload 4, 2) := by decide +kernel
theorem dX1_order_193 : decode cX1_order 193 = .ok (.iaload, 1) := by decide +kernel
theorem dX1_order_194 : decode cX1_order 194 = .ok (.caload, 1) := by decide +kernel
theorem dX1_order_195 : decode cX1_order 195 = .ok (.isub, 1) := by decide +kernel
theorem dX1_order_196 : decode cX1_order 196 = .ok (.ireturn, 1) := by decide +kernel
theorem dX1_order_197 : decode cX1_order 197 = .ok (.iload 7, 2) := by decide +kernel
theorem dX1_order_199 : decode cX1_order 199 = .ok (.iload 6, 2) := by decide +kernel
theorem dX1_order_201 : decode cX1_order 201 = .ok (.if_icmp .ne 67, 3) := by decide +kernel
theorem dX1_order_204 : decode cX1_order 204 = .ok (.aload_n 0, 1) := by decide +kernel
theorem dX1_order_205 : decode cX1_order 205 = .ok (.getfield 18, 3) := by decide +kernel
theorem dX1_order_208 : decode cX1_order 208 = .ok (.iload_n 3, 1) := by decide +kernel
theorem dX1_order_209 : decode cX1_order 209 = .ok (.iaload, 1) := by decide +kernel
theorem dX1_order_210 : decode cX1_order 210 = .ok (.iload 6, 2) := by decide +kernel
theorem dX1_order_212 : decode cX1_order 212 = .ok (.if_icmp .ne 8, 3) := by decide +kernel
theorem dX1_order_215 : decode cX1_order 215 = .ok (.bipush 41, 2) := by decide +kernel
theorem dX1_order_217 : decode cX1_order 217 = .ok (.goto 13, 3) := by decide +kernel
theorem dX1_order_220 : decode cX1_order 220 = .ok (.getstatic 71, 3) := by decide +kernel
theorem dX1_order_223 : decode cX1_order 223 = .ok (.aload_n 0, 1) := by decide +kernel
theorem dX1_order_224 : decode cX1_order 224 = .ok (.getfield 9, 3) := by decide +kernel
theorem dX1_order_227 : decode cX1_order 227 = .ok (.iload_n 3, 1) := by decide +kernel
theorem dX1_order_228 : decode cX1_order 228 = .ok (.iaload, 1) := by decide +kernel
theorem dX1_order_229 : decode cX1_order 229 = .ok (.caload, 1) := by decide +kernel
theorem dX1_order_230 : decode cX1_order 230 = .ok (.istore 8, 2) := by decide +kernel
theorem dX1_order_232 : decode cX1_order 232 = .ok (.aload_n 0, 1) := by decide +kernel
theorem dX1_order_233 : decode cX1_order 233 = .ok (.getfield 18, 3) := by decide +kernel
theorem dX1_order_236 : decode cX1_order 236 = .ok (.iload 4, 2) := by decide +kernel
theorem dX1_order_238 : decode cX1_order 238 = .ok (.iaload, 1) := by decide +kernel
theorem dX1_order_239 : decode cX1_order 239 = .ok (.iload 6, 2) := by decide +kernel
theorem dX1_order_241 : decode cX1_order 241 = .ok (.if_icmp .ne 8, 3) := by decide +kernel
theorem dX1_order_244 : decode cX1_order 244 = .ok (.bipush 41, 2) := by decide +kernel
theorem dX1_order_246 : decode cX1_order 246 = .ok (.goto 14, 3) := by decide +kernel
theorem dX1_order_249 : decode cX1_order 249 = .ok (.getstatic 71, 3) := by decide +kernel
theorem dX1_order_252 : decode cX1_order 252 = .ok (.aload_n 0, 1) := by decide +kernel
theorem dX1_order_253 : decode cX1_order 253 = .ok (.getfield 9, 3) := by decide +kernel
theorem dX1_order_256 : decode cX1_order 256 = .ok (.iload 4, 2) := by decide +kernel
theorem dX1_order_258 : decode cX1_order 258 = .ok (.iaload, 1) := by decide +kernel
theorem dX1_order_259 : decode cX1_order 259 = .ok (.caload, 1) := by decide +kernel
theorem dX1_order_260 : decode cX1_order 260 = .ok (.istore 9, 2) := by decide +kernel
theorem dX1_order_262 : decode cX1_order 262 = .ok (.iload 8, 2) := by decide +kernel
theorem dX1_order_264 : decode cX1_order 264 = .ok (.iload 9, 2) := by decide +kernel
theorem dX1_order_266 : decode cX1_order 266 = .ok (.isub, 1) := by decide +kernel
theorem dX1_order_267 : decode cX1_order 267 = .ok (.ireturn, 1) := by decide +kernel
theorem dX1_order_268 : decode cX1_order 268 = .ok (.aload_n 0, 1) := by decide +kernel
theorem dX1_order_269 : decode cX1_order 269 = .ok (.getfield 35, 3) := by decide +kernel
theorem dX1_order_272 : decode cX1_order 272 = .ok (.aload_n 0, 1) := by decide +kernel
theorem dX1_order_273 : decode cX1_order 273 = .ok (.getfield 15, 3) := by decide +kernel
theorem dX1_order_276 : decode cX1_order 276 = .ok (.iload_n 3, 1) := by decide +kernel
theorem dX1_order_277 : decode cX1_order 277 = .ok (.iaload, 1) := by decide +kernel
theorem dX1_order_278 : decode cX1_order 278 = .ok (.iload 7, 2) := by decide +kernel
theorem dX1_order_280 : decode cX1_order 280 = .ok (.iadd, 1) := by decide +kernel
theorem dX1_order_281 : decode cX1_order 281 = .ok (.iaload, 1) := by decide +kernel
theorem dX1_order_282 : decode cX1_order 282 = .ok (.istore_n 3, 1) := by decide +kernel
theorem dX1_order_283 : decode cX1_order 283 = .ok (.aload_n 0, 1) := by decide +kernel
theorem dX1_order_284 : decode cX1_order 284 = .ok (.getfield 35, 3) := by decide +kernel
theorem dX1_order_287 : decode cX1_order 287 = .ok (.aload_n 0, 1) := by decide +kernel
theorem dX1_order_288 : decode cX1_order 288 = .ok (.getfield 15, 3) := by decide +kernel
theorem dX1_order_291 : decode cX1_order 291 = .ok (.iload 4, 2) := by decide +kernel
theorem dX1_order_293 : decode cX1_order 293 = .ok (.iaload, 1) := by decide +kernel
theorem dX1_order_294 : decode cX1_order 294 = .ok (.iload 7, 2) := by decide +kernel
theorem dX1_order_296 : decode cX1_order 296 = .ok (.iadd, 1) := by decide +kernel
theorem dX1_order_297 : decode cX1_order 297 = .ok (.iaload, 1) := by decide +kernel
theorem dX1_order_298 : decode cX1_order 298 = .ok (.istore 4, 2) := by decide +kernel
theorem dX1_order_300 : decode cX1_order 300 = .ok (.iinc 5 1, 3) := by decide +kernel
theorem dX1_order_303 : decode cX1_order 303 = .ok (.goto (-295), 3) := by decide +kernel
theorem dX1_order_306 : decode cX1_order 306 = .ok (.iconst 0, 1) := by decide +kernel
theorem dX1_order_307 : decode cX1_order 307 = .ok (.ireturn, 1) := by decide +kernel
theorem dX2_init_0 : decode cX2_init 0 = .ok (.aload_n 0, 1) := by decide +kernel
theorem dX2_init_1 : decode cX2_init 1 = .ok (.invokespecial 3, 3) := by decide +kernel
theorem dX2_init_4 : decode cX2_init 4 = .ok (.aload_n 0, 1) := by decide +kernel
theorem dX2_init_5 : decode cX2_init 5 = .ok (.bipush 60, 2) := by decide +kernel
theorem dX2_init_7 : decode cX2_init 7 = .ok (.newarray .char, 2) := by decide +kernel
theorem dX2_init_9 : decode cX2_init 9 = .ok (.putfield 9, 3) := by decide +kernel
theorem dX2_init_12 : decode cX2_init 12 = .ok (.aload_n 0, 1) := by decide +kernel
theorem dX2_init_13 : decode cX2_init 13 = .ok (.bipush 60, 2) := by decide +kernel
theorem dX2_init_15 : decode cX2_init 15 = .ok (.newarray .int, 2) := by decide +kernel
theorem dX2_init_17 : decode cX2_init 17 = .ok (.putfield 15, 3) := by decide +kernel
theorem dX2_init_20 : decode cX2_init 20 = .ok (.aload_n 0, 1) := by decide +kernel
theorem dX2_init_21 : decode cX2_init 21 = .ok (.bipush 60, 2) := by decide +kernel
theorem dX2_init_23 : decode cX2_init 23 = .ok (.newarray .char, 2) := by decide +kernel
theorem dX2_init_25 : decode cX2_init 25 = .ok (.putfield 19, 3) := by decide +kernel
theorem dX2_init_28 : decode cX2_init 28 = .ok (.aload_n 0, 1) := by decide +kernel
theorem dX2_init_29 : decode cX2_init 29 = .ok (.aload_n 1, 1) := by decide +kernel
theorem dX2_init_30 : decode cX2_init 30 = .ok (.putfield 22, 3) := by decide +kernel
theorem dX2_init_33 : decode cX2_init 33 = .ok (.aload_n 0, 1) := by decide +kernel
theorem dX2_init_34 : decode cX2_init 34 = .ok (.aload_n 2, 1) := by decide +kernel
theorem dX2_init_35 : decode cX2_init 35 = .ok (.putfield 26, 3) := by decide +kernel
theorem dX2_init_38 : decode cX2_init 38 = .ok (.return_, 1) := by decide +kernel
theorem dX2_append_0 : decode cX2_append 0 = .ok (.aload_n 0, 1) := by decide +kernel
theorem dX2_append_1 : decode cX2_append 1 = .ok (.getfield 30, 3) := by decide +kernel
theorem dX2_append_4 : decode cX2_append 4 = .ok (.bipush 60, 2) := by decide +kernel
theorem dX2_append_6 : decode cX2_append 6 = .ok (.if_icmp .lt 5, 3) := by decide +kernel
theorem dX2_append_9 : decode cX2_append 9 = .ok (.iconst 0, 1) := by decide +kernel
theorem dX2_append_10 : decode cX2_append 10 = .ok (.ireturn, 1) := by decide +kernel
theorem dX2_append_11 : decode cX2_append 11 = .ok (.aload_n 0, 1) := by decide +kernel
theorem dX2_append_12 : decode cX2_append 12 = .ok (.getfield 9, 3) := by decide +kernel
theorem dX2_append_15 : decode cX2_append 15 = .ok (.aload_n 0, 1) := by decide +kernel
theorem dX2_append_16 : decode cX2_append 16 = .ok (.getfield 30, 3) := by decide +kernel
theorem dX2_append_19 : decode cX2_append 19 = .ok (.iload_n 1, 1) := by decide +kernel
theorem dX2_append_20 : decode cX2_append 20 = .ok (.castore, 1) := by decide +kernel
theorem dX2_append_21 : decode cX2_append 21 = .ok (.aload_n 0, 1) := by decide +kernel
theorem dX2_append_22 : decode cX2_append 22 = .ok (.dup, 1) := by decide +kernel
theorem dX2_append_23 : decode cX2_append 23 = .ok (.getfield 30, 3) := by decide +kernel
theorem dX2_append_26 : decode cX2_append 26 = .ok (.iconst 1, 1) := by decide +kernel
theorem dX2_append_27 : decode cX2_append 27 = .ok (.iadd, 1) := by decide +kernel
theorem dX2_append_28 : decode cX2_append 28 = .ok (.putfield 30, 3) := by decide +kernel
theorem dX2_append_31 : decode cX2_append 31 = .ok (.iconst 1, 1) := by decide +kernel
theorem dX2_append_32 : decode cX2_append 32 = .ok (.ireturn, 1) := by decide +kernel
theorem dX2_findFault_0 : decode cX2_findFault 0 = .ok (.iconst 1, 1) := by decide +kernel
theorem dX2_findFault_1 : decode cX2_findFault 1 = .ok (.istore_n 1, 1) := by decide +kernel
theorem dX2_findFault_2 : decode cX2_findFault 2 = .ok (.iconst 0, 1) := by decide +kernel
theorem dX2_findFault_3 : decode cX2_findFault 3 = .ok (.istore_n 2, 1) := by decide +kernel
theorem dX2_findFault_4 : decode cX2_findFault 4 = .ok (.iconst 0, 1) := by decide +kernel
theorem dX2_findFault_5 : decode cX2_findFault 5 = .ok (.istore_n 3, 1) := by decide +kernel
theorem dX2_findFault_6 : decode cX2_findFault 6 = .ok (.iload_n 3, 1) := by decide +kernel
theorem dX2_findFault_7 : decode cX2_findFault 7 = .ok (.aload_n 0, 1) := by decide +kernel
theorem dX2_findFault_8 : decode cX2_findFault 8 = .ok (.getfield 30, 3) := by decide +kernel
theorem dX2_findFault_11 : decode cX2_findFault 11 = .ok (.if_icmp .ge 94, 3) := by decide +kernel
theorem dX2_findFault_14 : decode cX2_findFault 14 = .ok (.aload_n 0, 1) := by decide +kernel
theorem dX2_findFault_15 : decode cX2_findFault 15 = .ok (.getfield 9, 3) := by decide +kernel
theorem dX2_findFault_18 : decode cX2_findFault 18 = .ok (.iload_n 3, 1) := by decide +kernel
theorem dX2_findFault_19 : decode cX2_findFault 19 = .ok (.caload, 1) := by decide +kernel
theorem dX2_findFault_20 : decode cX2_findFault 20 = .ok (.istore 4, 2) := by decide +kernel
theorem dX2_findFault_22 : decode cX2_findFault 22 = .ok (.iload_n 1, 1) := by decide +kernel
theorem dX2_findFault_23 : decode cX2_findFault 23 = .ok (.ifCond .eq 44, 3) := by decide +kernel
theorem dX2_findFault_26 : decode cX2_findFault 26 = .ok (.iload 4, 2) := by decide +kernel
theorem dX2_findFault_28 : decode cX2_findFault 28 = .ok (.bipush 40, 2) := by decide +kernel
theorem dX2_findFault_30 : decode cX2_findFault 30 = .ok (.if_icmp .ne 14, 3) := by decide +kernel
theorem dX2_findFault_33 : decode cX2_findFault 33 = .ok (.iload_n 2, 1) := by decide +kernel
theorem dX2_findFault_34 : decode cX2_findFault 34 = .ok (.iconst 4, 1) := by decide +kernel
theorem dX2_findFault_35 : decode cX2_findFault 35 = .ok (.if_icmp .ge 9, 3) := by decide +kernel
theorem dX2_findFault_38 : decode cX2_findFault 38 = .ok (.iinc 2 1, 3) := by decide +kernel
theorem dX2_findFault_41 : decode cX2_findFault 41 = .ok (.goto 58, 3) := by decide +kernel
theorem dX2_findFault_44 : decode cX2_findFault 44 = .ok (.iload 4, 2) := by decide +kernel
theorem dX2_findFault_46 : decode cX2_findFault 46 = .ok (.invokestatic 34, 3) := by decide +kernel
theorem dX2_findFault_49 : decode cX2_findFault 49 = .ok (.ifCond .eq 8, 3) := by decide +kernel
theorem dX2_findFault_52 : decode cX2_findFault 52 = .ok (.iconst 0, 1) := by decide +kernel
theorem dX2_findFault_53 : decode cX2_findFault 53 = .ok (.istore_n 1, 1) := by decide +kernel
theorem dX2_findFault_54 : decode cX2_findFault 54 = .ok (.goto 45, 3) := by decide +kernel
theorem dX2_findFault_57 : decode cX2_findFault 57 = .ok (.iload 4, 2) := by decide +kernel
theorem dX2_findFault_59 : decode cX2_findFault 59 = .ok (.invokestatic 38, 3) := by decide +kernel
theorem dX2_findFault_62 : decode cX2_findFault 62 = .ok (.ifCond .ne 37, 3) := by decide +kernel
theorem dX2_findFault_65 : decode cX2_findFault 65 = .ok (.iload_n 3, 1) := by decide +kernel
theorem dX2_findFault_66 : decode cX2_findFault 66 = .ok (.ireturn, 1) := by decide +kernel
theorem dX2_findFault_67 : decode cX2_findFault 67 = .ok (.iload 4, 2) := by decide +kernel
theorem dX2_findFault_69 : decode cX2_findFault 69 = .ok (.bipush 41, 2) := by decide +kernel
theorem dX2_findFault_71 : decode cX2_findFault 71 = .ok (.if_icmp .ne 13, 3) := by decide +kernel
theorem dX2_findFault_74 : decode cX2_findFault 74 = .ok (.iload_n 2, 1) := by decide +kernel
theorem dX2_findFault_75 : decode cX2_findFault 75 = .ok (.ifCond .le 9, 3) := by decide +kernel
theorem dX2_findFault_78 : decode cX2_findFault 78 = .ok (.iinc 2 (-1), 3) := by decide +kernel
theorem dX2_findFault_81 : decode cX2_findFault 81 = .ok (.goto 18, 3) := by decide +kernel
theorem dX2_findFault_84 : decode cX2_findFault 84 = .ok (.iload 4, 2) := by decide +kernel
theorem dX2_findFault_86 : decode cX2_findFault 86 = .ok (.invokestatic 41, 3) := by decide +kernel
theorem dX2_findFault_89 : decode cX2_findFault 89 = .ok (.ifCond .eq 8, 3) := by decide +kernel
theorem dX2_findFault_92 : decode cX2_findFault 92 = .ok (.iconst 1, 1) := by decide +kernel
theorem dX2_findFault_93 : decode cX2_findFault 93 = .ok (.istore_n 1, 1) := by decide +kernel
theorem dX2_findFault_94 : decode cX2_findFault 94 = .ok (.goto 5, 3) := by decide +kernel
theorem dX2_findFault_97 : decode cX2_findFault 97 = .ok (.iload_n 3, 1) := by decide +kernel
theorem dX2_findFault_98 : decode cX2_findFault 98 = .ok (.ireturn, 1) := by decide +kernel
theorem dX2_findFault_99 : decode cX2_findFault 99 = .ok (.iinc 3 1, 3) := by decide +kernel
theorem dX2_findFault_102 : decode cX2_findFault 102 = .ok (.goto (-96), 3) := by decide +kernel
theorem dX2_findFault_105 : decode cX2_findFault 105 = .ok (.iload_n 1, 1) := by decide +kernel
theorem dX2_findFault_106 : decode cX2_findFault 106 = .ok (.ifCond .ne 7, 3) := by decide +kernel
theorem dX2_findFault_109 : decode cX2_findFault 109 = .ok (.iload_n 2, 1) := by decide +kernel
theorem dX2_findFault_110 : decode cX2_findFault 110 = .ok (.ifCond .le 10, 3) := by decide +kernel
theorem dX2_findFault_113 : decode cX2_findFault 113 = .ok (.aload_n 0, 1) := by decide +kernel
theorem dX2_findFault_114 : decode cX2_findFault 114 = .ok (.getfield 30, 3) := by decide +kernel
theorem dX2_findFault_117 : decode cX2_findFault 117 = .ok (.goto 4, 3) := by decide +kernel
theorem dX2_findFault_120 : decode cX2_findFault 120 = .ok (.iconst (-1), 1) := by decide +kernel
theorem dX2_findFault_121 : decode cX2_findFault 121 = .ok (.ireturn, 1) := by decide +kernel
theorem dX2_read_0 : decode cX2_read 0 = .ok (.aload_n 0, 1) := by decide +kernel
theorem dX2_read_1 : decode cX2_read 1 = .ok (.iconst 0, 1) := by decide +kernel
theorem dX2_read_2 : decode cX2_read 2 = .ok (.putfield 44, 3) := by decide +kernel
theorem dX2_read_5 : decode cX2_read 5 = .ok (.aload_n 0, 1) := by decide +kernel
theorem dX2_read_6 : decode cX2_read 6 = .ok (.iconst 0, 1) := by decide +kernel
theorem dX2_read_7 : decode cX2_read 7 = .ok (.putfield 47, 3) := by decide +kernel
theorem dX2_read_10 : decode cX2_read 10 = .ok (.iconst 0, 1) := by decide +kernel
theorem dX2_read_11 : decode cX2_read 11 = .ok (.istore_n 1, 1) := by decide +kernel
theorem dX2_read_12 : decode cX2_read 12 = .ok (.iload_n 1, 1) := by decide +kernel
theorem dX2_read_13 : decode cX2_read 13 = .ok (.aload_n 0, 1) := by decide +kernel
theorem dX2_read_14 : decode cX2_read 14 = .ok (.getfield 30, 3) := by decide +kernel
theorem dX2_read_17 : decode cX2_read 17 = .ok (.if_icmp .ge 97, 3) := by decide +kernel
theorem dX2_read_20 : decode cX2_read 20 = .ok (.aload_n 0, 1) := by decide +kernel
theorem dX2_read_21 : decode cX2_read 21 = .ok (.getfield 9, 3) := by decide +kernel
theorem dX2_read_24 : decode cX2_read 24 = .ok (.iload_n 1, 1) := by decide +kernel
theorem dX2_read_25 : decode cX2_read 25 = .ok (.caload, 1) := by decide +kernel
theorem dX2_read_26 : decode cX2_read 26 = .ok (.istore_n 2, 1) := by decide +kernel
theorem dX2_read_27 : decode cX2_read 27 = .ok (.iload_n 2, 1) := by decide +kernel
theorem dX2_read_28 : decode cX2_read 28 = .ok (.invokestatic 34, 3) := by decide +kernel
theorem dX2_read_31 : decode cX2_read 31 = .ok (.ifCond .eq 18, 3) := by decide +kernel
theorem dX2_read_34 : decode cX2_read 34 = .ok (.aload_n 0, 1) := by decide +kernel
theorem dX2_read_35 : decode cX2_read 35 = .ok (.iload_n 2, 1) := by decide +kernel
theorem dX2_read_36 : decode cX2_read 36 = .ok (.invokestatic 50, 3) := by decide +kernel
theorem dX2_read_39 : decode cX2_read 39 = .ok (.invokevirtual 54, 3) := by decide +kernel
theorem dX2_read_42 : decode cX2_read 42 = .ok (.aload_n 0, 1) := by decide +kernel
theorem dX2_read_43 : decode cX2_read 43 = .ok (.invokevirtual 58, 3) := by decide +kernel
theorem dX2_read_46 : decode cX2_read 46 = .ok (.goto 62, 3) := by decide +kernel
theorem dX2_read_49 : decode cX2_read 49 = .ok (.iload_n 2, 1) := by decide +kernel
theorem dX2_read_50 : decode cX2_read 50 = .ok (.bipush 41, 2) := by decide +kernel
theorem dX2_read_52 : decode cX2_read 52 = .ok (.if_icmp .ne 36, 3) := by decide +kernel
theorem dX2_read_55 : decode cX2_read 55 = .ok (.aload_n 0, 1) := by decide +kernel
theorem dX2_read_56 : decode cX2_read 56 = .ok (.iconst 1, 1) := by decide +kernel
theorem dX2_read_57 : decode cX2_read 57 = .ok (.invokevirtual 61, 3) := by decide +kernel
theorem dX2_read_60 : decode cX2_read 60 = .ok (.aload_n 0, 1) := by decide +kernel
theorem dX2_read_61 : decode cX2_read 61 = .ok (.aload_n 0, 1) := by decide +kernel
theorem dX2_read_62 : decode cX2_read 62 = .ok (.getfield 47, 3) := by decide +kernel
theorem dX2_read_65 : decode cX2_read 65 = .ok (.ifCond .le 12, 3) := by decide +kernel
theorem dX2_read_68 : decode cX2_read 68 = .ok (.aload_n 0, 1) := by decide +kernel
theorem dX2_read_69 : decode cX2_read 69 = .ok (.getfield 47, 3) := by decide +kernel
theorem dX2_read_72 : decode cX2_read 72 = .ok (.iconst 1, 1) := by decide +kernel
theorem dX2_read_73 : decode cX2_read 73 = .ok (.isub, 1) := by decide +kernel
theorem dX2_read_74 : decode cX2_read 74 = .ok (.goto 4, 3) := by decide +kernel
theorem dX2_read_77 : decode cX2_read 77 = .ok (.iconst 0, 1) := by decide +kernel
theorem dX2_read_78 : decode cX2_read 78 = .ok (.putfield 47, 3) := by decide +kernel
theorem dX2_read_81 : decode cX2_read 81 = .ok (.aload_n 0, 1) := by decide +kernel
theorem dX2_read_82 : decode cX2_read 82 = .ok (.invokevirtual 58, 3) := by decide +kernel
theorem dX2_read_85 : decode cX2_read 85 = .ok (.goto 23, 3) := by decide +kernel
theorem dX2_read_88 : decode cX2_read 88 = .ok (.iload_n 2, 1) := by decide +kernel
theorem dX2_read_89 : decode cX2_read 89 = .ok (.invokestatic 41, 3) := by decide +kernel
theorem dX2_read_92 : decode cX2_read 92 = .ok (.ifCond .eq 11, 3) := by decide +kernel
theorem dX2_read_95 : decode cX2_read 95 = .ok (.aload_n 0, 1) := by decide +kernel
theorem dX2_read_96 : decode cX2_read 96 = .ok (.iload_n 2, 1) := by decide +kernel
theorem dX2_read_97 : decode cX2_read 97 = .ok (.invokestatic 64, 3) := by decide +kernel
theorem dX2_read_100 : decode cX2_read 100 = .ok (.invokevirtual 61, 3) := by decide +kernel
theorem dX2_read_103 : decode cX2_read 103 = .ok (.aload_n 0, 1) := by decide +kernel
theorem dX2_read_104 : decode cX2_read 104 = .ok (.iload_n 2, 1) := by decide +kernel
theorem dX2_read_105 : decode cX2_read 105 = .ok (.invokevirtual 67, 3) := by decide +kernel
theorem dX2_read_108 : decode cX2_read 108 = .ok (.iinc 1 1, 3) := by decide +kernel
theorem dX2_read_111 : decode cX2_read 111 = .ok (.goto (-99), 3) := by decide +kernel
theorem dX2_read_114 : decode cX2_read 114 = .ok (.aload_n 0, 1) := by decide +kernel
theorem dX2_read_115 : decode cX2_read 115 = .ok (.iconst 1, 1) := by decide +kernel
theorem dX2_read_116 : decode cX2_read 116 = .ok (.invokevirtual 61, 3) := by decide +kernel
theorem dX2_read_119 : decode cX2_read 119 = .ok (.aload_n 0, 1) := by decide +kernel
theorem dX2_read_120 : decode cX2_read 120 = .ok (.getfield 44, 3) := by decide +kernel
theorem dX2_read_123 : decode cX2_read 123 = .ok (.ifCond .le 12, 3) := by decide +kernel
theorem dX2_read_126 : decode cX2_read 126 = .ok (.aload_n 0, 1) := by decide +kernel
theorem dX2_read_127 : decode cX2_read 127 = .ok (.getfield 15, 3) := by decide +kernel
theorem dX2_read_130 : decode cX2_read 130 = .ok (.iconst 0, 1) := by decide +kernel
theorem dX2_read_131 : decode cX2_read 131 = .ok (.iaload, 1) := by decide +kernel
theorem dX2_read_132 : decode cX2_read 132 = .ok (.goto 4, 3) := by decide +kernel
theorem dX2_read_135 : decode cX2_read 135 = .ok (.iconst 0, 1) := by decide +kernel
theorem dX2_read_136 : decode cX2_read 136 = .ok (.ireturn, 1) := by decide +kernel
theorem dX2_hold_0 : decode cX2_hold 0 = .ok (.aload_n 0, 1) := by decide +kernel
theorem dX2_hold_1 : decode cX2_hold 1 = .ok (.getfield 44, 3) := by decide +kernel
theorem dX2_hold_4 : decode cX2_hold 4 = .ok (.bipush 60, 2) := by decide +kernel
theorem dX2_hold_6 : decode cX2_hold 6 = .ok (.if_icmp .ge 23, 3) := by decide +kernel
theorem dX2_hold_9 : decode cX2_hold 9 = .ok (.aload_n 0, 1) := by decide +kernel
theorem dX2_hold_10 : decode cX2_hold 10 = .ok (.getfield 15, 3) := by decide +kernel
theorem dX2_hold_13 : decode cX2_hold 13 = .ok (.aload_n 0, 1) := by decide +kernel
theorem dX2_hold_14 : decode cX2_hold 14 = .ok (.getfield 44, 3) := by decide +kernel
theorem dX2_hold_17 : decode cX2_hold 17 = .ok (.iload_n 1, 1) := by decide +kernel
theorem dX2_hold_18 : decode cX2_hold 18 = .ok (.iastore, 1) := by decide +kernel
theorem dX2_hold_19 : decode cX2_hold 19 = .ok (.aload_n 0, 1) := by decide +kernel
theorem dX2_hold_20 : decode cX2_hold 20 = .ok (.dup, 1) := by decide +kernel
theorem dX2_hold_21 : decode cX2_hold 21 = .ok (.getfield 44, 3) := by decide +kernel
theorem dX2_hold_24 : decode cX2_hold 24 = .ok (.iconst 1, 1) := by decide +kernel
theorem dX2_hold_25 : decode cX2_hold 25 = .ok (.iadd, 1) := by decide +kernel
theorem dX2_hold_26 : decode cX2_hold 26 = .ok (.putfield 44, 3) := by decide +kernel
theorem dX2_hold_29 : decode cX2_hold 29 = .ok (.return_, 1) := by decide +kernel
theorem dX2_await_0 : decode cX2_await 0 = .ok (.aload_n 0, 1) := by decide +kernel
theorem dX2_await_1 : decode cX2_await 1 = .ok (.getfield 47, 3) := by decide +kernel
theorem dX2_await_4 : decode cX2_await 4 = .ok (.bipush 60, 2) := by decide +kernel
theorem dX2_await_6 : decode cX2_await 6 = .ok (.if_icmp .ge 23, 3) := by decide +kernel
theorem dX2_await_9 : decode cX2_await 9 = .ok (.aload_n 0, 1) := by decide +kernel
theorem dX2_await_10 : decode cX2_await 10 = .ok (.getfield 19, 3) := by decide +kernel
theorem dX2_await_13 : decode cX2_await 13 = .ok (.aload_n 0, 1) := by decide +kernel
theorem dX2_await_14 : decode cX2_await 14 = .ok (.getfield 47, 3) := by decide +kernel
theorem dX2_await_17 : decode cX2_await 17 = .ok (.iload_n 1, 1) := by decide +kernel
theorem dX2_await_18 : decode cX2_await 18 = .ok (.castore, 1) := by decide +kernel
theorem dX2_await_19 : decode cX2_await 19 = .ok (.aload_n 0, 1) := by decide +kernel
theorem dX2_await_20 : decode cX2_await 20 = .ok (.dup, 1) := by decide +kernel
theorem dX2_await_21 : decode cX2_await 21 = .ok (.getfield 47, 3) := by decide +kernel
theorem dX2_await_24 : decode cX2_await 24 = .ok (.iconst 1, 1) := by decide +kernel
theorem dX2_await_25 : decode cX2_await 25 = .ok (.iadd, 1) := by decide +kernel
theorem dX2_await_26 : decode cX2_await 26 = .ok (.putfield 47, 3) := by decide +kernel
theorem dX2_await_29 : decode cX2_await 29 = .ok (.return_, 1) := by decide +kernel
theorem dX2_applyInFront_0 : decode cX2_applyInFront 0 = .ok (.aload_n 0, 1) := by decide +kernel
theorem dX2_applyInFront_1 : decode cX2_applyInFront 1 = .ok (.getfield 47, 3) := by decide +kernel
theorem dX2_applyInFront_4 : decode cX2_applyInFront 4 = .ok (.ifCond .le 184, 3) := by decide +kernel
theorem dX2_applyInFront_7 : decode cX2_applyInFront 7 = .ok (.aload_n 0, 1) := by decide +kernel
theorem dX2_applyInFront_8 : decode cX2_applyInFront 8 = .ok (.getfield 44, 3) := by decide +kernel
theorem dX2_applyInFront_11 : decode cX2_applyInFront 11 = .ok (.ifCond .le 177, 3) := by decide +kernel
theorem dX2_applyInFront_14 : decode cX2_applyInFront 14 = .ok (.aload_n 0, 1) := by decide +kernel
theorem dX2_applyInFront_15 : decode cX2_applyInFront 15 = .ok (.getfield 19, 3) := by decide +kernel
theorem dX2_applyInFront_18 : decode cX2_applyInFront 18 = .ok (.aload_n 0, 1) := by decide +kernel
theorem dX2_applyInFront_19 : decode cX2_applyInFront 19 = .ok (.getfield 47, 3) := by decide +kernel
theorem dX2_applyInFront_22 : decode cX2_applyInFront 22 = .ok (.iconst 1, 1) := by decide +kernel
theorem dX2_applyInFront_23 : decode cX2_applyInFront 23 = .ok (.isub, 1) := by decide +kernel
theorem dX2_applyInFront_24 : decode cX2_applyInFront 24 = .ok (.caload, 1) := by decide +kernel
theorem dX2_applyInFront_25 : decode cX2_applyInFront 25 = .ok (.invokestatic 38, 3) := by decide +kernel
theorem dX2_applyInFront_28 : decode cX2_applyInFront 28 = .ok (.ifCond .eq 160, 3) := by decide +kernel
theorem dX2_applyInFront_31 : decode cX2_applyInFront 31 = .ok (.aload_n 0, 1) := by decide +kernel
theorem dX2_applyInFront_32 : decode cX2_applyInFront 32 = .ok (.dup, 1) := by decide +kernel
theorem dX2_applyInFront_33 : decode cX2_applyInFront 33 = .ok (.getfield 47, 3) := by decide +kernel
theorem dX2_applyInFront_36 : decode cX2_applyInFront 36 = .ok (.iconst 1, 1) := by decide +kernel
theorem dX2_applyInFront_37 : decode cX2_applyInFront 37 = .ok (.isub, 1) := by decide +kernel
theorem dX2_applyInFront_38 : decode cX2_applyInFront 38 = .ok (.putfield 47, 3) := by decide +kernel
theorem dX2_applyInFront_41 : decode cX2_applyInFront 41 = .ok (.aload_n 0, 1) := by decide +kernel
theorem dX2_applyInFront_42 : decode cX2_applyInFront 42 = .ok (.getfield 15, 3) := by decide +kernel
theorem dX2_applyInFront_45 : decode cX2_applyInFront 45 = .ok (.aload_n 0, 1) := by decide +kernel
theorem dX2_applyInFront_46 : decode cX2_applyInFront 46 = .ok (.getfield 44, 3) := by decide +kernel
theorem dX2_applyInFront_49 : decode cX2_applyInFront 49 = .ok (.iconst 1, 1) := by decide +kernel
theorem dX2_applyInFront_50 : decode cX2_applyInFront 50 = .ok (.isub, 1) := by decide +kernel
theorem dX2_applyInFront_51 : decode cX2_applyInFront 51 = .ok (.iaload, 1) := by decide +kernel
theorem dX2_applyInFront_52 : decode cX2_applyInFront 52 = .ok (.istore_n 1, 1) := by decide +kernel
theorem dX2_applyInFront_53 : decode cX2_applyInFront 53 = .ok (.aload_n 0, 1) := by decide +kernel
theorem dX2_applyInFront_54 : decode cX2_applyInFront 54 = .ok (.getfield 19, 3) := by decide +kernel
theorem dX2_applyInFront_57 : decode cX2_applyInFront 57 = .ok (.aload_n 0, 1) := by decide +kernel
theorem dX2_applyInFront_58 : decode cX2_applyInFront 58 = .ok (.getfield 47, 3) := by decide +kernel
theorem dX2_applyInFront_61 : decode cX2_applyInFront 61 = .ok (.caload, 1) := by decide +kernel
theorem dX2_applyInFront_62 : decode cX2_applyInFront 62 = .ok (.lookupswitch 99 #[(33, 42), (71, 84), (78, 69), (88, 54)], 42) := by decide +kernel
theorem dX2_applyInFront_104 : decode cX2_applyInFront 104 = .ok (.aload_n 0, 1) := by decide +kernel
theorem dX2_applyInFront_105 : decode cX2_applyInFront 105 = .ok (.getfield 26, 3) := by decide +kernel
theorem dX2_applyInFront_108 : decode cX2_applyInFront 108 = .ok (.iload_n 1, 1) := by decide +kernel
theorem dX2_applyInFront_109 : decode cX2_applyInFront 109 = .ok (.invokevirtual 71, 3) := by decide +kernel
theorem dX2_applyInFront_112 : decode cX2_applyInFront 112 = .ok (.istore_n 2, 1) := by decide +kernel
theorem dX2_applyInFront_113 : decode cX2_applyInFront 113 = .ok (.goto 60, 3) := by decide +kernel
theorem dX2_applyInFront_116 : decode cX2_applyInFront 116 = .ok (.aload_n 0, 1) := by decide +kernel
theorem dX2_applyInFront_117 : decode cX2_applyInFront 117 = .ok (.getfield 26, 3) := by decide +kernel
theorem dX2_applyInFront_120 : decode cX2_applyInFront 120 = .ok (.bipush 16, 2) := by decide +kernel
theorem dX2_applyInFront_122 : decode cX2_applyInFront 122 = .ok (.iload_n 1, 1) := by decide +kernel
theorem dX2_applyInFront_123 : decode cX2_applyInFront 123 = .ok (.iload_n 1, 1) := by decide +kernel
theorem dX2_applyInFront_124 : decode cX2_applyInFront 124 = .ok (.invokevirtual 77, 3) := by decide +kernel
theorem dX2_applyInFront_127 : decode cX2_applyInFront 127 = .ok (.istore_n 2, 1) := by decide +kernel
theorem dX2_applyInFront_128 : decode cX2_applyInFront 128 = .ok (.goto 45, 3) := by decide +kernel
theorem dX2_applyInFront_131 : decode cX2_applyInFront 131 = .ok (.aload_n 0, 1) := by decide +kernel
theorem dX2_applyInFront_132 : decode cX2_applyInFront 132 = .ok (.getfield 26, 3) := by decide +kernel
theorem dX2_applyInFront_135 : decode cX2_applyInFront 135 = .ok (.bipush 17, 2) := by decide +kernel
theorem dX2_applyInFront_137 : decode cX2_applyInFront 137 = .ok (.iload_n 1, 1) := by decide +kernel
theorem dX2_applyInFront_138 : decode cX2_applyInFront 138 = .ok (.iload_n 1, 1) := by decide +kernel
theorem dX2_applyInFront_139 : decode cX2_applyInFront 139 = .ok (.invokevirtual 77, 3) := by decide +kernel
theorem dX2_applyInFront_142 : decode cX2_applyInFront 142 = .ok (.istore_n 2, 1) := by decide +kernel
theorem dX2_applyInFront_143 : decode cX2_applyInFront 143 = .ok (.goto 30, 3) := by decide +kernel
theorem dX2_applyInFront_146 : decode cX2_applyInFront 146 = .ok (.aload_n 0, 1) := by decide +kernel
theorem dX2_applyInFront_147 : decode cX2_applyInFront 147 = .ok (.getfield 26, 3) := by decide +kernel
theorem dX2_applyInFront_150 : decode cX2_applyInFront 150 = .ok (.bipush 19, 2) := by decide +kernel
theorem dX2_applyInFront_152 : decode cX2_applyInFront 152 = .ok (.iconst 0, 1) := by decide +kernel
theorem dX2_applyInFront_153 : decode cX2_applyInFront 153 = .ok (.iload_n 1, 1) := by decide +kernel
theorem dX2_applyInFront_154 : decode cX2_applyInFront 154 = .ok (.invokevirtual 77, 3) := by decide +kernel
theorem dX2_applyInFront_157 : decode cX2_applyInFront 157 = .ok (.istore_n 2, 1) := by decide +kernel
theorem dX2_applyInFront_158 : decode cX2_applyInFront 158 = .ok (.goto 15, 3) := by decide +kernel
theorem dX2_applyInFront_161 : decode cX2_applyInFront 161 = .ok (.aload_n 0, 1) := by decide +kernel
theorem dX2_applyInFront_162 : decode cX2_applyInFront 162 = .ok (.getfield 26, 3) := by decide +kernel
theorem dX2_applyInFront_165 : decode cX2_applyInFront 165 = .ok (.bipush 18, 2) := by decide +kernel
theorem dX2_applyInFront_167 : decode cX2_applyInFront 167 = .ok (.iconst 1, 1) := by decide +kernel
theorem dX2_applyInFront_168 : decode cX2_applyInFront 168 = .ok (.iload_n 1, 1) := by decide +kernel
theorem dX2_applyInFront_169 : decode cX2_applyInFront 169 = .ok (.invokevirtual 77, 3) := by decide +kernel
theorem dX2_applyInFront_172 : decode cX2_applyInFront 172 = .ok (.istore_n 2, 1) := by decide +kernel
theorem dX2_applyInFront_173 : decode cX2_applyInFront 173 = .ok (.aload_n 0, 1) := by decide +kernel
theorem dX2_applyInFront_174 : decode cX2_applyInFront 174 = .ok (.getfield 15, 3) := by decide +kernel
theorem dX2_applyInFront_177 : decode cX2_applyInFront 177 = .ok (.aload_n 0, 1) := by decide +kernel
theorem dX2_applyInFront_178 : decode cX2_applyInFront 178 = .ok (.getfield 44, 3) := by decide +kernel
theorem dX2_applyInFront_181 : decode cX2_applyInFront 181 = .ok (.iconst 1, 1) := by decide +kernel
theorem dX2_applyInFront_182 : decode cX2_applyInFront 182 = .ok (.isub, 1) := by decide +kernel
theorem dX2_applyInFront_183 : decode cX2_applyInFront 183 = .ok (.iload_n 2, 1) := by decide +kernel
theorem dX2_applyInFront_184 : decode cX2_applyInFront 184 = .ok (.iastore, 1) := by decide +kernel
theorem dX2_applyInFront_185 : decode cX2_applyInFront 185 = .ok (.goto (-185), 3) := by decide +kernel
theorem dX2_applyInFront_188 : decode cX2_applyInFront 188 = .ok (.return_, 1) := by decide +kernel
theorem dX2_combineDownTo_0 : decode cX2_combineDownTo 0 = .ok (.aload_n 0, 1) := by decide +kernel
theorem dX2_combineDownTo_1 : decode cX2_combineDownTo 1 = .ok (.getfield 47, 3) := by decide +kernel
theorem dX2_combineDownTo_4 : decode cX2_combineDownTo 4 = .ok (.ifCond .le 193, 3) := by decide +kernel
theorem dX2_combineDownTo_7 : decode cX2_combineDownTo 7 = .ok (.aload_n 0, 1) := by decide +kernel
theorem dX2_combineDownTo_8 : decode cX2_combineDownTo 8 = .ok (.getfield 44, 3) := by decide +kernel
theorem dX2_combineDownTo_11 : decode cX2_combineDownTo 11 = .ok (.iconst 1, 1) := by decide +kernel
theorem dX2_combineDownTo_12 : decode cX2_combineDownTo 12 = .ok (.if_icmp .le 185, 3) := by decide +kernel
theorem dX2_combineDownTo_15 : decode cX2_combineDownTo 15 = .ok (.aload_n 0, 1) := by decide +kernel
theorem dX2_combineDownTo_16 : decode cX2_combineDownTo 16 = .ok (.getfield 19, 3) := by decide +kernel
theorem dX2_combineDownTo_19 : decode cX2_combineDownTo 19 = .ok (.aload_n 0, 1) := by decide +kernel
theorem dX2_combineDownTo_20 : decode cX2_combineDownTo 20 = .ok (.getfield 47, 3) := by decide +kernel
theorem dX2_combineDownTo_23 : decode cX2_combineDownTo 23 = .ok (.iconst 1, 1) := by decide +kernel
theorem dX2_combineDownTo_24 : decode cX2_combineDownTo 24 = .ok (.isub, 1) := by decide +kernel
theorem dX2_combineDownTo_25 : decode cX2_combineDownTo 25 = .ok (.caload, 1) := by decide +kernel
theorem dX2_combineDownTo_26 : decode cX2_combineDownTo 26 = .ok (.invokestatic 81, 3) := by decide +kernel
theorem dX2_combineDownTo_29 : decode cX2_combineDownTo 29 = .ok (.iload_n 1, 1) := by decide +kernel
theorem dX2_combineDownTo_30 : decode cX2_combineDownTo 30 = .ok (.if_icmp .lt 167, 3) := by decide +kernel
theorem dX2_combineDownTo_33 : decode cX2_combineDownTo 33 = .ok (.aload_n 0, 1) := by decide +kernel
theorem dX2_combineDownTo_34 : decode cX2_combineDownTo 34 = .ok (.dup, 1) := by decide +kernel
theorem dX2_combineDownTo_35 : decode cX2_combineDownTo 35 = .ok (.getfield 47, 3) := by decide +kernel
theorem dX2_combineDownTo_38 : decode cX2_combineDownTo 38 = .ok (.iconst 1, 1) := by decide +kernel
theorem dX2_combineDownTo_39 : decode cX2_combineDownTo 39 = .ok (.isub, 1) := by decide +kernel
theorem dX2_combineDownTo_40 : decode cX2_combineDownTo 40 = .ok (.putfield 47, 3) := by decide +kernel
theorem dX2_combineDownTo_43 : decode cX2_combineDownTo 43 = .ok (.aload_n 0, 1) := by decide +kernel
theorem dX2_combineDownTo_44 : decode cX2_combineDownTo 44 = .ok (.dup, 1) := by decide +kernel
theorem dX2_combineDownTo_45 : decode cX2_combineDownTo 45 = .ok (.getfield 44, 3) := by decide +kernel
theorem dX2_combineDownTo_48 : decode cX2_combineDownTo 48 = .ok (.iconst 1, 1) := by decide +kernel
theorem dX2_combineDownTo_49 : decode cX2_combineDownTo 49 = .ok (.isub, 1) := by decide +kernel
theorem dX2_combineDownTo_50 : decode cX2_combineDownTo 50 = .ok (.putfield 44, 3) := by decide +kernel
theorem dX2_combineDownTo_53 : decode cX2_combineDownTo 53 = .ok (.aload_n 0, 1) := by decide +kernel
theorem dX2_combineDownTo_54 : decode cX2_combineDownTo 54 = .ok (.getfield 15, 3) := by decide +kernel
theorem dX2_combineDownTo_57 : decode cX2_combineDownTo 57 = .ok (.aload_n 0, 1) := by decide +kernel
theorem dX2_combineDownTo_58 : decode cX2_combineDownTo 58 = .ok (.getfield 44, 3) := by decide +kernel
theorem dX2_combineDownTo_61 : decode cX2_combineDownTo 61 = .ok (.iconst 1, 1) := by decide +kernel
theorem dX2_combineDownTo_62 : decode cX2_combineDownTo 62 = .ok (.isub, 1) := by decide +kernel
theorem dX2_combineDownTo_63 : decode cX2_combineDownTo 63 = .ok (.iaload, 1) := by decide +kernel
theorem dX2_combineDownTo_64 : decode cX2_combineDownTo 64 = .ok (.istore_n 2, 1) := by decide +kernel
theorem dX2_combineDownTo_65 : decode cX2_combineDownTo 65 = .ok (.aload_n 0, 1) := by decide +kernel
theorem dX2_combineDownTo_66 : decode cX2_combineDownTo 66 = .ok (.getfield 15, 3) := by decide +kernel
theorem dX2_combineDownTo_69 : decode cX2_combineDownTo 69 = .ok (.aload_n 0, 1) := by decide +kernel
theorem dX2_combineDownTo_70 : decode cX2_combineDownTo 70 = .ok (.getfield 44, 3) := by decide +kernel
theorem dX2_combineDownTo_73 : decode cX2_combineDownTo 73 = .ok (.iaload, 1) := by decide +kernel
theorem dX2_combineDownTo_74 : decode cX2_combineDownTo 74 = .ok (.istore_n 3, 1) := by decide +kernel
theorem dX2_combineDownTo_75 : decode cX2_combineDownTo 75 = .ok (.aload_n 0, 1) := by decide +kernel
theorem dX2_combineDownTo_76 : decode cX2_combineDownTo 76 = .ok (.getfield 19, 3) := by decide +kernel
theorem dX2_combineDownTo_79 : decode cX2_combineDownTo 79 = .ok (.aload_n 0, 1) := by decide +kernel
theorem dX2_combineDownTo_80 : decode cX2_combineDownTo 80 = .ok (.getfield 47, 3) := by decide +kernel
theorem dX2_combineDownTo_83 : decode cX2_combineDownTo 83 = .ok (.caload, 1) := by decide +kernel
theorem dX2_combineDownTo_84 : decode cX2_combineDownTo 84 = .ok (.lookupswitch 84 #[(38, 68), (82, 52), (85, 36)], 36) := by decide +kernel
theorem dX2_combineDownTo_120 : decode cX2_combineDownTo 120 = .ok (.aload_n 0, 1) := by decide +kernel
theorem dX2_combineDownTo_121 : decode cX2_combineDownTo 121 = .ok (.getfield 26, 3) := by decide +kernel
theorem dX2_combineDownTo_124 : decode cX2_combineDownTo 124 = .ok (.bipush 18, 2) := by decide +kernel
theorem dX2_combineDownTo_126 : decode cX2_combineDownTo 126 = .ok (.iload_n 2, 1) := by decide +kernel
theorem dX2_combineDownTo_127 : decode cX2_combineDownTo 127 = .ok (.iload_n 3, 1) := by decide +kernel
theorem dX2_combineDownTo_128 : decode cX2_combineDownTo 128 = .ok (.invokevirtual 77, 3) := by decide +kernel
theorem dX2_combineDownTo_131 : decode cX2_combineDownTo 131 = .ok (.istore 4, 2) := by decide +kernel
theorem dX2_combineDownTo_133 : decode cX2_combineDownTo 133 = .ok (.goto 48, 3) := by decide +kernel
theorem dX2_combineDownTo_136 : decode cX2_combineDownTo 136 = .ok (.aload_n 0, 1) := by decide +kernel
theorem dX2_combineDownTo_137 : decode cX2_combineDownTo 137 = .ok (.getfield 26, 3) := by decide +kernel
theorem dX2_combineDownTo_140 : decode cX2_combineDownTo 140 = .ok (.bipush 19, 2) := by decide +kernel
theorem dX2_combineDownTo_142 : decode cX2_combineDownTo 142 = .ok (.iload_n 2, 1) := by decide +kernel
theorem dX2_combineDownTo_143 : decode cX2_combineDownTo 143 = .ok (.iload_n 3, 1) := by decide +kernel
theorem dX2_combineDownTo_144 : decode cX2_combineDownTo 144 = .ok (.invokevirtual 77, 3) := by decide +kernel
theorem dX2_combineDownTo_147 : decode cX2_combineDownTo 147 = .ok (.istore 4, 2) := by decide +kernel
theorem dX2_combineDownTo_149 : decode cX2_combineDownTo 149 = .ok (.goto 32, 3) := by decide +kernel
theorem dX2_combineDownTo_152 : decode cX2_combineDownTo 152 = .ok (.aload_n 0, 1) := by decide +kernel
theorem dX2_combineDownTo_153 : decode cX2_combineDownTo 153 = .ok (.getfield 26, 3) := by decide +kernel
theorem dX2_combineDownTo_156 : decode cX2_combineDownTo 156 = .ok (.bipush 20, 2) := by decide +kernel
theorem dX2_combineDownTo_158 : decode cX2_combineDownTo 158 = .ok (.iload_n 2, 1) := by decide +kernel
theorem dX2_combineDownTo_159 : decode cX2_combineDownTo 159 = .ok (.iload_n 3, 1) := by decide +kernel
theorem dX2_combineDownTo_160 : decode cX2_combineDownTo 160 = .ok (.invokevirtual 84, 3) := by decide +kernel
theorem dX2_combineDownTo_163 : decode cX2_combineDownTo 163 = .ok (.istore 4, 2) := by decide +kernel
theorem dX2_combineDownTo_165 : decode cX2_combineDownTo 165 = .ok (.goto 16, 3) := by decide +kernel
theorem dX2_combineDownTo_168 : decode cX2_combineDownTo 168 = .ok (.aload_n 0, 1) := by decide +kernel
theorem dX2_combineDownTo_169 : decode cX2_combineDownTo 169 = .ok (.getfield 26, 3) := by decide +kernel
theorem dX2_combineDownTo_172 : decode cX2_combineDownTo 172 = .ok (.bipush 21, 2) := by decide +kernel
theorem dX2_combineDownTo_174 : decode cX2_combineDownTo 174 = .ok (.iload_n 2, 1) := by decide +kernel
theorem dX2_combineDownTo_175 : decode cX2_combineDownTo 175 = .ok (.iload_n 3, 1) := by decide +kernel
theorem dX2_combineDownTo_176 : decode cX2_combineDownTo 176 = .ok (.invokevirtual 84, 3) := by decide +kernel
theorem dX2_combineDownTo_179 : decode cX2_combineDownTo 179 = .ok (.istore 4, 2) := by decide +kernel
theorem dX2_combineDownTo_181 : decode cX2_combineDownTo 181 = .ok (.aload_n 0, 1) := by decide +kernel
theorem dX2_combineDownTo_182 : decode cX2_combineDownTo 182 = .ok (.getfield 15, 3) := by decide +kernel
theorem dX2_combineDownTo_185 : decode cX2_combineDownTo 185 = .ok (.aload_n 0, 1) := by decide +kernel
theorem dX2_combineDownTo_186 : decode cX2_combineDownTo 186 = .ok (.getfield 44, 3) := by decide +kernel
theorem dX2_combineDownTo_189 : decode cX2_combineDownTo 189 = .ok (.iconst 1, 1) := by decide +kernel
theorem dX2_combineDownTo_190 : decode cX2_combineDownTo 190 = .ok (.isub, 1) := by decide +kernel
theorem dX2_combineDownTo_191 : decode cX2_combineDownTo 191 = .ok (.iload 4, 2) := by decide +kernel
theorem dX2_combineDownTo_193 : decode cX2_combineDownTo 193 = .ok (.iastore, 1) := by decide +kernel
theorem dX2_combineDownTo_194 : decode cX2_combineDownTo 194 = .ok (.goto (-194), 3) := by decide +kernel
theorem dX2_combineDownTo_197 : decode cX2_combineDownTo 197 = .ok (.return_, 1) := by decide +kernel
theorem dX2_leastToCombine_0 : decode cX2_leastToCombine 0 = .ok (.iload_n 0, 1) := by decide +kernel
theorem dX2_leastToCombine_1 : decode cX2_leastToCombine 1 = .ok (.bipush 85, 2) := by decide +kernel
theorem dX2_leastToCombine_3 : decode cX2_leastToCombine 3 = .ok (.if_icmp .eq 9, 3) := by decide +kernel
theorem dX2_leastToCombine_6 : decode cX2_leastToCombine 6 = .ok (.iload_n 0, 1) := by decide +kernel
theorem dX2_leastToCombine_7 : decode cX2_leastToCombine 7 = .ok (.bipush 82, 2) := by decide +kernel
theorem dX2_leastToCombine_9 : decode cX2_leastToCombine 9 = .ok (.if_icmp .ne 12, 3) := by decide +kernel
theorem dX2_leastToCombine_12 : decode cX2_leastToCombine 12 = .ok (.iload_n 0, 1) := by decide +kernel
theorem dX2_leastToCombine_13 : decode cX2_leastToCombine 13 = .ok (.invokestatic 81, 3) := by decide +kernel
theorem dX2_leastToCombine_16 : decode cX2_leastToCombine 16 = .ok (.iconst 1, 1) := by decide +kernel
theorem dX2_leastToCombine_17 : decode cX2_leastToCombine 17 = .ok (.iadd, 1) := by decide +kernel
theorem dX2_leastToCombine_18 : decode cX2_leastToCombine 18 = .ok (.goto 7, 3) := by decide +kernel
theorem dX2_leastToCombine_21 : decode cX2_leastToCombine 21 = .ok (.iload_n 0, 1) := by decide +kernel
theorem dX2_leastToCombine_22 : decode cX2_leastToCombine 22 = .ok (.invokestatic 81, 3) := by decide +kernel
theorem dX2_leastToCombine_25 : decode cX2_leastToCombine 25 = .ok (.ireturn, 1) := by decide +kernel
theorem dX2_binding_0 : decode cX2_binding 0 = .ok (.iload_n 0, 1) := by decide +kernel
theorem dX2_binding_1 : decode cX2_binding 1 = .ok (.lookupswitch 51 #[(38, 45), (82, 49), (85, 47), (124, 43)], 43) := by decide +kernel
theorem dX2_binding_44 : decode cX2_binding 44 = .ok (.iconst 1, 1) := by decide +kernel
theorem dX2_binding_45 : decode cX2_binding 45 = .ok (.ireturn, 1) := by decide +kernel
theorem dX2_binding_46 : decode cX2_binding 46 = .ok (.iconst 2, 1) := by decide +kernel
theorem dX2_binding_47 : decode cX2_binding 47 = .ok (.ireturn, 1) := by decide +kernel
theorem dX2_binding_48 : decode cX2_binding 48 = .ok (.iconst 3, 1) := by decide +kernel
theorem dX2_binding_49 : decode cX2_binding 49 = .ok (.ireturn, 1) := by decide +kernel
theorem dX2_binding_50 : decode cX2_binding 50 = .ok (.iconst 3, 1) := by decide +kernel
theorem dX2_binding_51 : decode cX2_binding 51 = .ok (.ireturn, 1) := by decide +kernel
theorem dX2_binding_52 : decode cX2_binding 52 = .ok (.iconst 0, 1) := by decide +kernel
theorem dX2_binding_53 : decode cX2_binding 53 = .ok (.ireturn, 1) := by decide +kernel
theorem dX2_isBetween_0 : decode cX2_isBetween 0 = .ok (.iload_n 0, 1) := by decide +kernel
theorem dX2_isBetween_1 : decode cX2_isBetween 1 = .ok (.invokestatic 81, 3) := by decide +kernel
theorem dX2_isBetween_4 : decode cX2_isBetween 4 = .ok (.ifCond .le 7, 3) := by decide +kernel
theorem dX2_isBetween_7 : decode cX2_isBetween 7 = .ok (.iconst 1, 1) := by decide +kernel
theorem dX2_isBetween_8 : decode cX2_isBetween 8 = .ok (.goto 4, 3) := by decide +kernel
theorem dX2_isBetween_11 : decode cX2_isBetween 11 = .ok (.iconst 0, 1) := by decide +kernel
theorem dX2_isBetween_12 : decode cX2_isBetween 12 = .ok (.ireturn, 1) := by decide +kernel
theorem dX2_isInFront_0 : decode cX2_isInFront 0 = .ok (.iload_n 0, 1) := by decide +kernel
theorem dX2_isInFront_1 : decode cX2_isInFront 1 = .ok (.bipush 33, 2) := by decide +kernel
theorem dX2_isInFront_3 : decode cX2_isInFront 3 = .ok (.if_icmp .eq 27, 3) := by decide +kernel
theorem dX2_isInFront_6 : decode cX2_isInFront 6 = .ok (.iload_n 0, 1) := by decide +kernel
theorem dX2_isInFront_7 : decode cX2_isInFront 7 = .ok (.bipush 88, 2) := by decide +kernel
theorem dX2_isInFront_9 : decode cX2_isInFront 9 = .ok (.if_icmp .eq 21, 3) := by decide +kernel
theorem dX2_isInFront_12 : decode cX2_isInFront 12 = .ok (.iload_n 0, 1) := by decide +kernel
theorem dX2_isInFront_13 : decode cX2_isInFront 13 = .ok (.bipush 78, 2) := by decide +kernel
theorem dX2_isInFront_15 : decode cX2_isInFront 15 = .ok (.if_icmp .eq 15, 3) := by decide +kernel
theorem dX2_isInFront_18 : decode cX2_isInFront 18 = .ok (.iload_n 0, 1) := by decide +kernel
theorem dX2_isInFront_19 : decode cX2_isInFront 19 = .ok (.bipush 71, 2) := by decide +kernel
theorem dX2_isInFront_21 : decode cX2_isInFront 21 = .ok (.if_icmp .eq 9, 3) := by decide +kernel
theorem dX2_isInFront_24 : decode cX2_isInFront 24 = .ok (.iload_n 0, 1) := by decide +kernel
theorem dX2_isInFront_25 : decode cX2_isInFront 25 = .ok (.bipush 70, 2) := by decide +kernel
theorem dX2_isInFront_27 : decode cX2_isInFront 27 = .ok (.if_icmp .ne 7, 3) := by decide +kernel
theorem dX2_isInFront_30 : decode cX2_isInFront 30 = .ok (.iconst 1, 1) := by decide +kernel
theorem dX2_isInFront_31 : decode cX2_isInFront 31 = .ok (.goto 4, 3) := by decide +kernel
theorem dX2_isInFront_34 : decode cX2_isInFront 34 = .ok (.iconst 0, 1) := by decide +kernel
theorem dX2_isInFront_35 : decode cX2_isInFront 35 = .ok (.ireturn, 1) := by decide +kernel
theorem dX2_isValue_0 : decode cX2_isValue 0 = .ok (.iload_n 0, 1) := by decide +kernel
theorem dX2_isValue_1 : decode cX2_isValue 1 = .ok (.bipush 48, 2) := by decide +kernel
theorem dX2_isValue_3 : decode cX2_isValue 3 = .ok (.if_icmp .eq 21, 3) := by decide +kernel
theorem dX2_isValue_6 : decode cX2_isValue 6 = .ok (.iload_n 0, 1) := by decide +kernel
theorem dX2_isValue_7 : decode cX2_isValue 7 = .ok (.bipush 49, 2) := by decide +kernel
theorem dX2_isValue_9 : decode cX2_isValue 9 = .ok (.if_icmp .eq 15, 3) := by decide +kernel
theorem dX2_isValue_12 : decode cX2_isValue 12 = .ok (.iload_n 0, 1) := by decide +kernel
theorem dX2_isValue_13 : decode cX2_isValue 13 = .ok (.bipush 97, 2) := by decide +kernel
theorem dX2_isValue_15 : decode cX2_isValue 15 = .ok (.if_icmp .lt 13, 3) := by decide +kernel
theorem dX2_isValue_18 : decode cX2_isValue 18 = .ok (.iload_n 0, 1) := by decide +kernel
theorem dX2_isValue_19 : decode cX2_isValue 19 = .ok (.bipush 102, 2) := by decide +kernel
theorem dX2_isValue_21 : decode cX2_isValue 21 = .ok (.if_icmp .gt 7, 3) := by decide +kernel
theorem dX2_isValue_24 : decode cX2_isValue 24 = .ok (.iconst 1, 1) := by decide +kernel
theorem dX2_isValue_25 : decode cX2_isValue 25 = .ok (.goto 4, 3) := by decide +kernel
theorem dX2_isValue_28 : decode cX2_isValue 28 = .ok (.iconst 0, 1) := by decide +kernel
theorem dX2_isValue_29 : decode cX2_isValue 29 = .ok (.ireturn, 1) := by decide +kernel
theorem dX2_valueOf_0 : decode cX2_valueOf 0 = .ok (.iload_n 0, 1) := by decide +kernel
theorem dX2_valueOf_1 : decode cX2_valueOf 1 = .ok (.bipush 48, 2) := by decide +kernel
theorem dX2_valueOf_3 : decode cX2_valueOf 3 = .ok (.if_icmp .ne 7, 3) := by decide +kernel
theorem dX2_valueOf_6 : decode cX2_valueOf 6 = .ok (.iconst 0, 1) := by decide +kernel
theorem dX2_valueOf_7 : decode cX2_valueOf 7 = .ok (.goto 19, 3) := by decide +kernel
theorem dX2_valueOf_10 : decode cX2_valueOf 10 = .ok (.iload_n 0, 1) := by decide +kernel
theorem dX2_valueOf_11 : decode cX2_valueOf 11 = .ok (.bipush 49, 2) := by decide +kernel
theorem dX2_valueOf_13 : decode cX2_valueOf 13 = .ok (.if_icmp .ne 7, 3) := by decide +kernel
theorem dX2_valueOf_16 : decode cX2_valueOf 16 = .ok (.iconst 1, 1) := by decide +kernel
theorem dX2_valueOf_17 : decode cX2_valueOf 17 = .ok (.goto 9, 3) := by decide +kernel
theorem dX2_valueOf_20 : decode cX2_valueOf 20 = .ok (.iconst 4, 1) := by decide +kernel
theorem dX2_valueOf_21 : decode cX2_valueOf 21 = .ok (.iload_n 0, 1) := by decide +kernel
theorem dX2_valueOf_22 : decode cX2_valueOf 22 = .ok (.bipush 97, 2) := by decide +kernel
theorem dX2_valueOf_24 : decode cX2_valueOf 24 = .ok (.isub, 1) := by decide +kernel
theorem dX2_valueOf_25 : decode cX2_valueOf 25 = .ok (.iadd, 1) := by decide +kernel
theorem dX2_valueOf_26 : decode cX2_valueOf 26 = .ok (.ireturn, 1) := by decide +kernel
theorem dX3_init_0 : decode cX3_init 0 = .ok (.aload_n 0, 1) := by decide +kernel
theorem dX3_init_1 : decode cX3_init 1 = .ok (.invokespecial 3, 3) := by decide +kernel
theorem dX3_init_4 : decode cX3_init 4 = .ok (.aload_n 0, 1) := by decide +kernel
theorem dX3_init_5 : decode cX3_init 5 = .ok (.bipush 120, 2) := by decide +kernel
theorem dX3_init_7 : decode cX3_init 7 = .ok (.newarray .int, 2) := by decide +kernel
theorem dX3_init_9 : decode cX3_init 9 = .ok (.putfield 9, 3) := by decide +kernel
theorem dX3_init_12 : decode cX3_init 12 = .ok (.aload_n 0, 1) := by decide +kernel
theorem dX3_init_13 : decode cX3_init 13 = .ok (.sipush 360, 3) := by decide +kernel
theorem dX3_init_16 : decode cX3_init 16 = .ok (.newarray .char, 2) := by decide +kernel
theorem dX3_init_18 : decode cX3_init 18 = .ok (.putfield 15, 3) := by decide +kernel
theorem dX3_init_21 : decode cX3_init 21 = .ok (.aload_n 0, 1) := by decide +kernel
theorem dX3_init_22 : decode cX3_init 22 = .ok (.bipush 120, 2) := by decide +kernel
theorem dX3_init_24 : decode cX3_init 24 = .ok (.newarray .char, 2) := by decide +kernel
theorem dX3_init_26 : decode cX3_init 26 = .ok (.putfield 19, 3) := by decide +kernel
theorem dX3_init_29 : decode cX3_init 29 = .ok (.aload_n 0, 1) := by decide +kernel
theorem dX3_init_30 : decode cX3_init 30 = .ok (.bipush 120, 2) := by decide +kernel
theorem dX3_init_32 : decode cX3_init 32 = .ok (.newarray .int, 2) := by decide +kernel
theorem dX3_init_34 : decode cX3_init 34 = .ok (.putfield 22, 3) := by decide +kernel
theorem dX3_init_37 : decode cX3_init 37 = .ok (.aload_n 0, 1) := by decide +kernel
theorem dX3_init_38 : decode cX3_init 38 = .ok (.aload_n 1, 1) := by decide +kernel
theorem dX3_init_39 : decode cX3_init 39 = .ok (.putfield 25, 3) := by decide +kernel
theorem dX3_init_42 : decode cX3_init 42 = .ok (.return_, 1) := by decide +kernel
theorem dX3_load_0 : decode cX3_load 0 = .ok (.bipush 120, 2) := by decide +kernel
theorem dX3_load_2 : decode cX3_load 2 = .ok (.istore_n 3, 1) := by decide +kernel
theorem dX3_load_3 : decode cX3_load 3 = .ok (.aload_n 1, 1) := by decide +kernel
theorem dX3_load_4 : decode cX3_load 4 = .ok (.getfield 29, 3) := by decide +kernel
theorem dX3_load_7 : decode cX3_load 7 = .ok (.iload_n 2, 1) := by decide +kernel
theorem dX3_load_8 : decode cX3_load 8 = .ok (.iaload, 1) := by decide +kernel
theorem dX3_load_9 : decode cX3_load 9 = .ok (.iconst 1, 1) := by decide +kernel
theorem dX3_load_10 : decode cX3_load 10 = .ok (.isub, 1) := by decide +kernel
theorem dX3_load_11 : decode cX3_load 11 = .ok (.istore 4, 2) := by decide +kernel
theorem dX3_load_13 : decode cX3_load 13 = .ok (.iload 4, 2) := by decide +kernel
theorem dX3_load_15 : decode cX3_load 15 = .ok (.ifCond .lt 86, 3) := by decide +kernel
theorem dX3_load_18 : decode cX3_load 18 = .ok (.aload_n 1, 1) := by decide +kernel
theorem dX3_load_19 : decode cX3_load 19 = .ok (.getfield 34, 3) := by decide +kernel
theorem dX3_load_22 : decode cX3_load 22 = .ok (.iload_n 2, 1) := by decide +kernel
theorem dX3_load_23 : decode cX3_load 23 = .ok (.bipush 120, 2) := by decide +kernel
theorem dX3_load_25 : decode cX3_load 25 = .ok (.imul, 1) := by decide +kernel
theorem dX3_load_26 : decode cX3_load 26 = .ok (.iload 4, 2) := by decide +kernel
theorem dX3_load_28 : decode cX3_load 28 = .ok (.iadd, 1) := by decide +kernel
theorem dX3_load_29 : decode cX3_load 29 = .ok (.iaload, 1) := by decide +kernel
theorem dX3_load_30 : decode cX3_load 30 = .ok (.istore 5, 2) := by decide +kernel
theorem dX3_load_32 : decode cX3_load 32 = .ok (.iload 5, 2) := by decide +kernel
theorem dX3_load_34 : decode cX3_load 34 = .ok (.iconst 5, 1) := by decide +kernel
theorem dX3_load_35 : decode cX3_load 35 = .ok (.ishr, 1) := by decide +kernel
theorem dX3_load_36 : decode cX3_load 36 = .ok (.istore 6, 2) := by decide +kernel
theorem dX3_load_38 : decode cX3_load 38 = .ok (.iload 5, 2) := by decide +kernel
theorem dX3_load_40 : decode cX3_load 40 = .ok (.istore 7, 2) := by decide +kernel
theorem dX3_load_42 : decode cX3_load 42 = .ok (.iload 6, 2) := by decide +kernel
theorem dX3_load_44 : decode cX3_load 44 = .ok (.ifCond .le 24, 3) := by decide +kernel
theorem dX3_load_47 : decode cX3_load 47 = .ok (.aload_n 0, 1) := by decide +kernel
theorem dX3_load_48 : decode cX3_load 48 = .ok (.getfield 25, 3) := by decide +kernel
theorem dX3_load_51 : decode cX3_load 51 = .ok (.iload 5, 2) := by decide +kernel
theorem dX3_load_53 : decode cX3_load 53 = .ok (.bipush 31, 2) := by decide +kernel
theorem dX3_load_55 : decode cX3_load 55 = .ok (.iand, 1) := by decide +kernel
theorem dX3_load_56 : decode cX3_load 56 = .ok (.aload_n 0, 1) := by decide +kernel
theorem dX3_load_57 : decode cX3_load 57 = .ok (.getfield 9, 3) := by decide +kernel
theorem dX3_load_60 : decode cX3_load 60 = .ok (.iload_n 3, 1) := by decide +kernel
theorem dX3_load_61 : decode cX3_load 61 = .ok (.iload 6, 2) := by decide +kernel
theorem dX3_load_63 : decode cX3_load 63 = .ok (.invokevirtual 37, 3) := by decide +kernel
theorem dX3_load_66 : decode cX3_load 66 = .ok (.istore 7, 2) := by decide +kernel
theorem dX3_load_68 : decode cX3_load 68 = .ok (.iload_n 3, 1) := by decide +kernel
theorem dX3_load_69 : decode cX3_load 69 = .ok (.iload 6, 2) := by decide +kernel
theorem dX3_load_71 : decode cX3_load 71 = .ok (.iconst 1, 1) := by decide +kernel
theorem dX3_load_72 : decode cX3_load 72 = .ok (.isub, 1) := by decide +kernel
theorem dX3_load_73 : decode cX3_load 73 = .ok (.iadd, 1) := by decide +kernel
theorem dX3_load_74 : decode cX3_load 74 = .ok (.istore_n 3, 1) := by decide +kernel
theorem dX3_load_75 : decode cX3_load 75 = .ok (.iload_n 3, 1) := by decide +kernel
theorem dX3_load_76 : decode cX3_load 76 = .ok (.ifCond .lt 9, 3) := by decide +kernel
theorem dX3_load_79 : decode cX3_load 79 = .ok (.iload_n 3, 1) := by decide +kernel
theorem dX3_load_80 : decode cX3_load 80 = .ok (.bipush 120, 2) := by decide +kernel
theorem dX3_load_82 : decode cX3_load 82 = .ok (.if_icmp .lt 5, 3) := by decide +kernel
theorem dX3_load_85 : decode cX3_load 85 = .ok (.iconst 0, 1) := by decide +kernel
theorem dX3_load_86 : decode cX3_load 86 = .ok (.ireturn, 1) := by decide +kernel
theorem dX3_load_87 : decode cX3_load 87 = .ok (.aload_n 0, 1) := by decide +kernel
theorem dX3_load_88 : decode cX3_load 88 = .ok (.getfield 9, 3) := by decide +kernel
theorem dX3_load_91 : decode cX3_load 91 = .ok (.iload_n 3, 1) := by decide +kernel
theorem dX3_load_92 : decode cX3_load 92 = .ok (.iload 7, 2) := by decide +kernel
theorem dX3_load_94 : decode cX3_load 94 = .ok (.iastore, 1) := by decide +kernel
theorem dX3_load_95 : decode cX3_load 95 = .ok (.iinc 4 (-1), 3) := by decide +kernel
theorem dX3_load_98 : decode cX3_load 98 = .ok (.goto (-85), 3) := by decide +kernel
theorem dX3_load_101 : decode cX3_load 101 = .ok (.iload_n 3, 1) := by decide +kernel
theorem dX3_load_102 : decode cX3_load 102 = .ok (.bipush 120, 2) := by decide +kernel
theorem dX3_load_104 : decode cX3_load 104 = .ok (.if_icmp .ge 12, 3) := by decide +kernel
theorem dX3_load_107 : decode cX3_load 107 = .ok (.aload_n 0, 1) := by decide +kernel
theorem dX3_load_108 : decode cX3_load 108 = .ok (.getfield 9, 3) := by decide +kernel
theorem dX3_load_111 : decode cX3_load 111 = .ok (.iload_n 3, 1) := by decide +kernel
theorem dX3_load_112 : decode cX3_load 112 = .ok (.iaload, 1) := by decide +kernel
theorem dX3_load_113 : decode cX3_load 113 = .ok (.goto 4, 3) := by decide +kernel
theorem dX3_load_116 : decode cX3_load 116 = .ok (.iconst 0, 1) := by decide +kernel
theorem dX3_load_117 : decode cX3_load 117 = .ok (.ireturn, 1) := by decide +kernel
theorem dX3_save_0 : decode cX3_save 0 = .ok (.aload_n 0, 1) := by decide +kernel
theorem dX3_save_1 : decode cX3_save 1 = .ok (.getfield 25, 3) := by decide +kernel
theorem dX3_save_4 : decode cX3_save 4 = .ok (.getfield 43, 3) := by decide +kernel
theorem dX3_save_7 : decode cX3_save 7 = .ok (.iload_n 1, 1) := by decide +kernel
theorem dX3_save_8 : decode cX3_save 8 = .ok (.iaload, 1) := by decide +kernel
theorem dX3_save_9 : decode cX3_save 9 = .ok (.istore 4, 2) := by decide +kernel
theorem dX3_save_11 : decode cX3_save 11 = .ok (.iconst 1, 1) := by decide +kernel
theorem dX3_save_12 : decode cX3_save 12 = .ok (.istore 5, 2) := by decide +kernel
theorem dX3_save_14 : decode cX3_save 14 = .ok (.aload_n 0, 1) := by decide +kernel
theorem dX3_save_15 : decode cX3_save 15 = .ok (.getfield 9, 3) := by decide +kernel
theorem dX3_save_18 : decode cX3_save 18 = .ok (.iconst 0, 1) := by decide +kernel
theorem dX3_save_19 : decode cX3_save 19 = .ok (.iload_n 1, 1) := by decide +kernel
theorem dX3_save_20 : decode cX3_save 20 = .ok (.iastore, 1) := by decide +kernel
theorem dX3_save_21 : decode cX3_save 21 = .ok (.iconst 0, 1) := by decide +kernel
theorem dX3_save_22 : decode cX3_save 22 = .ok (.istore 6, 2) := by decide +kernel
theorem dX3_save_24 : decode cX3_save 24 = .ok (.iload 6, 2) := by decide +kernel
theorem dX3_save_26 : decode cX3_save 26 = .ok (.iload 4, 2) := by decide +kernel
theorem dX3_save_28 : decode cX3_save 28 = .ok (.if_icmp .ge 117, 3) := by decide +kernel
theorem dX3_save_31 : decode cX3_save 31 = .ok (.iload 6, 2) := by decide +kernel
theorem dX3_save_33 : decode cX3_save 33 = .ok (.bipush 120, 2) := by decide +kernel
theorem dX3_save_35 : decode cX3_save 35 = .ok (.if_icmp .ge 110, 3) := by decide +kernel
theorem dX3_save_38 : decode cX3_save 38 = .ok (.iload 5, 2) := by decide +kernel
theorem dX3_save_40 : decode cX3_save 40 = .ok (.ifCond .le 105, 3) := by decide +kernel
theorem dX3_save_43 : decode cX3_save 43 = .ok (.iinc 5 (-1), 3) := by decide +kernel
theorem dX3_save_46 : decode cX3_save 46 = .ok (.aload_n 0, 1) := by decide +kernel
theorem dX3_save_47 : decode cX3_save 47 = .ok (.getfield 9, 3) := by decide +kernel
theorem dX3_save_50 : decode cX3_save 50 = .ok (.iload 5, 2) := by decide +kernel
theorem dX3_save_52 : decode cX3_save 52 = .ok (.iaload, 1) := by decide +kernel
theorem dX3_save_53 : decode cX3_save 53 = .ok (.istore 7, 2) := by decide +kernel
theorem dX3_save_55 : decode cX3_save 55 = .ok (.aload_n 0, 1) := by decide +kernel
theorem dX3_save_56 : decode cX3_save 56 = .ok (.getfield 25, 3) := by decide +kernel
theorem dX3_save_59 : decode cX3_save 59 = .ok (.getfield 46, 3) := by decide +kernel
theorem dX3_save_62 : decode cX3_save 62 = .ok (.iload 7, 2) := by decide +kernel
theorem dX3_save_64 : decode cX3_save 64 = .ok (.iaload, 1) := by decide +kernel
theorem dX3_save_65 : decode cX3_save 65 = .ok (.istore 8, 2) := by decide +kernel
theorem dX3_save_67 : decode cX3_save 67 = .ok (.aload_n 2, 1) := by decide +kernel
theorem dX3_save_68 : decode cX3_save 68 = .ok (.getfield 34, 3) := by decide +kernel
theorem dX3_save_71 : decode cX3_save 71 = .ok (.iload_n 3, 1) := by decide +kernel
theorem dX3_save_72 : decode cX3_save 72 = .ok (.bipush 120, 2) := by decide +kernel
theorem dX3_save_74 : decode cX3_save 74 = .ok (.imul, 1) := by decide +kernel
theorem dX3_save_75 : decode cX3_save 75 = .ok (.iload 6, 2) := by decide +kernel
theorem dX3_save_77 : decode cX3_save 77 = .ok (.iadd, 1) := by decide +kernel
theorem dX3_save_78 : decode cX3_save 78 = .ok (.aload_n 0, 1) := by decide +kernel
theorem dX3_save_79 : decode cX3_save 79 = .ok (.getfield 25, 3) := by decide +kernel
theorem dX3_save_82 : decode cX3_save 82 = .ok (.getfield 49, 3) := by decide +kernel
theorem dX3_save_85 : decode cX3_save 85 = .ok (.iload 7, 2) := by decide +kernel
theorem dX3_save_87 : decode cX3_save 87 = .ok (.iaload, 1) := by decide +kernel
theorem dX3_save_88 : decode cX3_save 88 = .ok (.iload 8, 2) := by decide +kernel
theorem dX3_save_90 : decode cX3_save 90 = .ok (.iconst 5, 1) := by decide +kernel
theorem dX3_save_91 : decode cX3_save 91 = .ok (.ishl, 1) := by decide +kernel
theorem dX3_save_92 : decode cX3_save 92 = .ok (.ior, 1) := by decide +kernel
theorem dX3_save_93 : decode cX3_save 93 = .ok (.iastore, 1) := by decide +kernel
theorem dX3_save_94 : decode cX3_save 94 = .ok (.iload 8, 2) := by decide +kernel
theorem dX3_save_96 : decode cX3_save 96 = .ok (.iconst 1, 1) := by decide +kernel
theorem dX3_save_97 : decode cX3_save 97 = .ok (.isub, 1) := by decide +kernel
theorem dX3_save_98 : decode cX3_save 98 = .ok (.istore 9, 2) := by decide +kernel
theorem dX3_save_100 : decode cX3_save 100 = .ok (.iload 9, 2) := by decide +kernel
theorem dX3_save_102 : decode cX3_save 102 = .ok (.ifCond .lt 37, 3) := by decide +kernel
theorem dX3_save_105 : decode cX3_save 105 = .ok (.iload 5, 2) := by decide +kernel
theorem dX3_save_107 : decode cX3_save 107 = .ok (.bipush 120, 2) := by decide +kernel
theorem dX3_save_109 : decode cX3_save 109 = .ok (.if_icmp .ge 30, 3) := by decide +kernel
theorem dX3_save_112 : decode cX3_save 112 = .ok (.aload_n 0, 1) := by decide +kernel
theorem dX3_save_113 : decode cX3_save 113 = .ok (.getfield 9, 3) := by decide +kernel
theorem dX3_save_116 : decode cX3_save 116 = .ok (.iload 5, 2) := by decide +kernel
theorem dX3_save_118 : decode cX3_save 118 = .ok (.aload_n 0, 1) := by decide +kernel
theorem dX3_save_119 : decode cX3_save 119 = .ok (.getfield 25, 3) := by decide +kernel
theorem dX3_save_122 : decode cX3_save 122 = .ok (.iload 7, 2) := by decide +kernel
theorem dX3_save_124 : decode cX3_save 124 = .ok (.iload 9, 2) := by decide +kernel
theorem dX3_save_126 : decode cX3_save 126 = .ok (.invokevirtual 52, 3) := by decide +kernel
theorem dX3_save_129 : decode cX3_save 129 = .ok (.iastore, 1) := by decide +kernel
theorem dX3_save_130 : decode cX3_save 130 = .ok (.iinc 5 1, 3) := by decide +kernel
theorem dX3_save_133 : decode cX3_save 133 = .ok (.iinc 9 (-1), 3) := by decide +kernel
theorem dX3_save_136 : decode cX3_save 136 = .ok (.goto (-36), 3) := by decide +kernel
theorem dX3_save_139 : decode cX3_save 139 = .ok (.iinc 6 1, 3) := by decide +kernel
theorem dX3_save_142 : decode cX3_save 142 = .ok (.goto (-118), 3) := by decide +kernel
theorem dX3_save_145 : decode cX3_save 145 = .ok (.aload_n 2, 1) := by decide +kernel
theorem dX3_save_146 : decode cX3_save 146 = .ok (.getfield 29, 3) := by decide +kernel
theorem dX3_save_149 : decode cX3_save 149 = .ok (.iload_n 3, 1) := by decide +kernel
theorem dX3_save_150 : decode cX3_save 150 = .ok (.iload 4, 2) := by decide +kernel
theorem dX3_save_152 : decode cX3_save 152 = .ok (.iastore, 1) := by decide +kernel
theorem dX3_save_153 : decode cX3_save 153 = .ok (.return_, 1) := by decide +kernel
theorem dX3_spell_0 : decode cX3_spell 0 = .ok (.aload_n 0, 1) := by decide +kernel
theorem dX3_spell_1 : decode cX3_spell 1 = .ok (.iconst 0, 1) := by decide +kernel
theorem dX3_spell_2 : decode cX3_spell 2 = .ok (.putfield 56, 3) := by decide +kernel
theorem dX3_spell_5 : decode cX3_spell 5 = .ok (.aload_n 0, 1) := by decide +kernel
theorem dX3_spell_6 : decode cX3_spell 6 = .ok (.iconst 0, 1) := by decide +kernel
theorem dX3_spell_7 : decode cX3_spell 7 = .ok (.putfield 60, 3) := by decide +kernel
theorem dX3_spell_10 : decode cX3_spell 10 = .ok (.iconst 0, 1) := by decide +kernel
theorem dX3_spell_11 : decode cX3_spell 11 = .ok (.istore_n 3, 1) := by decide +kernel
theorem dX3_spell_12 : decode cX3_spell 12 = .ok (.iload_n 3, 1) := by decide +kernel
theorem dX3_spell_13 : decode cX3_spell 13 = .ok (.aload_n 1, 1) := by decide +kernel
theorem dX3_spell_14 : decode cX3_spell 14 = .ok (.getfield 29, 3) := by decide +kernel
theorem dX3_spell_17 : decode cX3_spell 17 = .ok (.iload_n 2, 1) := by decide +kernel
theorem dX3_spell_18 : decode cX3_spell 18 = .ok (.iaload, 1) := by decide +kernel
theorem dX3_spell_19 : decode cX3_spell 19 = .ok (.if_icmp .ge 131, 3) := by decide +kernel
theorem dX3_spell_22 : decode cX3_spell 22 = .ok (.aload_n 1, 1) := by decide +kernel
theorem dX3_spell_23 : decode cX3_spell 23 = .ok (.getfield 34, 3) := by decide +kernel
theorem dX3_spell_26 : decode cX3_spell 26 = .ok (.iload_n 2, 1) := by decide +kernel
theorem dX3_spell_27 : decode cX3_spell 27 = .ok (.bipush 120, 2) := by decide +kernel
theorem dX3_spell_29 : decode cX3_spell 29 = .ok (.imul, 1) := by decide +kernel
theorem dX3_spell_30 : decode cX3_spell 30 = .ok (.iload_n 3, 1) := by decide +kernel
theorem dX3_spell_31 : decode cX3_spell 31 = .ok (.iadd, 1) := by decide +kernel
theorem dX3_spell_32 : decode cX3_spell 32 = .ok (.iaload, 1) := by decide +kernel
theorem dX3_spell_33 : decode cX3_spell 33 = .ok (.istore 4, 2) := by decide +kernel
theorem dX3_spell_35 : decode cX3_spell 35 = .ok (.iload 4, 2) := by decide +kernel
theorem dX3_spell_37 : decode cX3_spell 37 = .ok (.iconst 5, 1) := by decide +kernel
theorem dX3_spell_38 : decode cX3_spell 38 = .ok (.ishr, 1) := by decide +kernel
theorem dX3_spell_39 : decode cX3_spell 39 = .ok (.istore 5, 2) := by decide +kernel
theorem dX3_spell_41 : decode cX3_spell 41 = .ok (.iload 4, 2) := by decide +kernel
theorem dX3_spell_43 : decode cX3_spell 43 = .ok (.bipush 31, 2) := by decide +kernel
theorem dX3_spell_45 : decode cX3_spell 45 = .ok (.iand, 1) := by decide +kernel
theorem dX3_spell_46 : decode cX3_spell 46 = .ok (.istore 6, 2) := by decide +kernel
theorem dX3_spell_48 : decode cX3_spell 48 = .ok (.iload 5, 2) := by decide +kernel
theorem dX3_spell_50 : decode cX3_spell 50 = .ok (.ifCond .ne 16, 3) := by decide +kernel
theorem dX3_spell_53 : decode cX3_spell 53 = .ok (.aload_n 0, 1) := by decide +kernel
theorem dX3_spell_54 : decode cX3_spell 54 = .ok (.iload 6, 2) := by decide +kernel
theorem dX3_spell_56 : decode cX3_spell 56 = .ok (.invokevirtual 63, 3) := by decide +kernel
theorem dX3_spell_59 : decode cX3_spell 59 = .ok (.aload_n 0, 1) := by decide +kernel
theorem dX3_spell_60 : decode cX3_spell 60 = .ok (.invokevirtual 67, 3) := by decide +kernel
theorem dX3_spell_63 : decode cX3_spell 63 = .ok (.goto 81, 3) := by decide +kernel
theorem dX3_spell_66 : decode cX3_spell 66 = .ok (.iload 5, 2) := by decide +kernel
theorem dX3_spell_68 : decode cX3_spell 68 = .ok (.iconst 1, 1) := by decide +kernel
theorem dX3_spell_69 : decode cX3_spell 69 = .ok (.if_icmp .ne 24, 3) := by decide +kernel
theorem dX3_spell_72 : decode cX3_spell 72 = .ok (.aload_n 0, 1) := by decide +kernel
theorem dX3_spell_73 : decode cX3_spell 73 = .ok (.iload 6, 2) := by decide +kernel
theorem dX3_spell_75 : decode cX3_spell 75 = .ok (.bipush 16, 2) := by decide +kernel
theorem dX3_spell_77 : decode cX3_spell 77 = .ok (.if_icmp .ne 8, 3) := by decide +kernel
theorem dX3_spell_80 : decode cX3_spell 80 = .ok (.bipush 88, 2) := by decide +kernel
theorem dX3_spell_82 : decode cX3_spell 82 = .ok (.goto 5, 3) := by decide +kernel
theorem dX3_spell_85 : decode cX3_spell 85 = .ok (.bipush 78, 2) := by decide +kernel
theorem dX3_spell_87 : decode cX3_spell 87 = .ok (.invokevirtual 70, 3) := by decide +kernel
theorem dX3_spell_90 : decode cX3_spell 90 = .ok (.goto 54, 3) := by decide +kernel
theorem dX3_spell_93 : decode cX3_spell 93 = .ok (.aload_n 0, 1) := by decide +kernel
theorem dX3_spell_94 : decode cX3_spell 94 = .ok (.getfield 60, 3) := by decide +kernel
theorem dX3_spell_97 : decode cX3_spell 97 = .ok (.bipush 120, 2) := by decide +kernel
theorem dX3_spell_99 : decode cX3_spell 99 = .ok (.if_icmp .ge 45, 3) := by decide +kernel
theorem dX3_spell_102 : decode cX3_spell 102 = .ok (.aload_n 0, 1) := by decide +kernel
theorem dX3_spell_103 : decode cX3_spell 103 = .ok (.bipush 40, 2) := by decide +kernel
theorem dX3_spell_105 : decode cX3_spell 105 = .ok (.invokevirtual 70, 3) := by decide +kernel
theorem dX3_spell_108 : decode cX3_spell 108 = .ok (.aload_n 0, 1) := by decide +kernel
theorem dX3_spell_109 : decode cX3_spell 109 = .ok (.getfield 19, 3) := by decide +kernel
theorem dX3_spell_112 : decode cX3_spell 112 = .ok (.aload_n 0, 1) := by decide +kernel
theorem dX3_spell_113 : decode cX3_spell 113 = .ok (.getfield 60, 3) := by decide +kernel
theorem dX3_spell_116 : decode cX3_spell 116 = .ok (.getstatic 74, 3) := by decide +kernel
theorem dX3_spell_119 : decode cX3_spell 119 = .ok (.iload 6, 2) := by decide +kernel
theorem dX3_spell_121 : decode cX3_spell 121 = .ok (.caload, 1) := by decide +kernel
theorem dX3_spell_122 : decode cX3_spell 122 = .ok (.castore, 1) := by decide +kernel
theorem dX3_spell_123 : decode cX3_spell 123 = .ok (.aload_n 0, 1) := by decide +kernel
theorem dX3_spell_124 : decode cX3_spell 124 = .ok (.getfield 22, 3) := by decide +kernel
theorem dX3_spell_127 : decode cX3_spell 127 = .ok (.aload_n 0, 1) := by decide +kernel
theorem dX3_spell_128 : decode cX3_spell 128 = .ok (.getfield 60, 3) := by decide +kernel
theorem dX3_spell_131 : decode cX3_spell 131 = .ok (.iload 5, 2) := by decide +kernel
theorem dX3_spell_133 : decode cX3_spell 133 = .ok (.iastore, 1) := by decide +kernel
theorem dX3_spell_134 : decode cX3_spell 134 = .ok (.aload_n 0, 1) := by decide +kernel
theorem dX3_spell_135 : decode cX3_spell 135 = .ok (.dup, 1) := by decide +kernel
theorem dX3_spell_136 : decode cX3_spell 136 = .ok (.getfield 60, 3) := by decide +kernel
theorem dX3_spell_139 : decode cX3_spell 139 = .ok (.iconst 1, 1) := by decide +kernel
theorem dX3_spell_140 : decode cX3_spell 140 = .ok (.iadd, 1) := by decide +kernel
theorem dX3_spell_141 : decode cX3_spell 141 = .ok (.putfield 60, 3) := by decide +kernel
theorem dX3_spell_144 : decode cX3_spell 144 = .ok (.iinc 3 1, 3) := by decide +kernel
theorem dX3_spell_147 : decode cX3_spell 147 = .ok (.goto (-135), 3) := by decide +kernel
theorem dX3_spell_150 : decode cX3_spell 150 = .ok (.aload_n 0, 1) := by decide +kernel
theorem dX3_spell_151 : decode cX3_spell 151 = .ok (.getfield 56, 3) := by decide +kernel
theorem dX3_spell_154 : decode cX3_spell 154 = .ok (.ireturn, 1) := by decide +kernel
theorem dX3_spellLeaf_0 : decode cX3_spellLeaf 0 = .ok (.iload_n 1, 1) := by decide +kernel
theorem dX3_spellLeaf_1 : decode cX3_spellLeaf 1 = .ok (.bipush 10, 2) := by decide +kernel
theorem dX3_spellLeaf_3 : decode cX3_spellLeaf 3 = .ok (.if_icmp .lt 9, 3) := by decide +kernel
theorem dX3_spellLeaf_6 : decode cX3_spellLeaf 6 = .ok (.aload_n 0, 1) := by decide +kernel
theorem dX3_spellLeaf_7 : decode cX3_spellLeaf 7 = .ok (.bipush 45, 2) := by decide +kernel
theorem dX3_spellLeaf_9 : decode cX3_spellLeaf 9 = .ok (.invokevirtual 70, 3) := by decide +kernel
theorem dX3_spellLeaf_12 : decode cX3_spellLeaf 12 = .ok (.aload_n 0, 1) := by decide +kernel
theorem dX3_spellLeaf_13 : decode cX3_spellLeaf 13 = .ok (.getstatic 77, 3) := by decide +kernel
theorem dX3_spellLeaf_16 : decode cX3_spellLeaf 16 = .ok (.iload_n 1, 1) := by decide +kernel
theorem dX3_spellLeaf_17 : decode cX3_spellLeaf 17 = .ok (.caload, 1) := by decide +kernel
theorem dX3_spellLeaf_18 : decode cX3_spellLeaf 18 = .ok (.invokevirtual 70, 3) := by decide +kernel
theorem dX3_spellLeaf_21 : decode cX3_spellLeaf 21 = .ok (.return_, 1) := by decide +kernel
theorem dX3_spellBehindForm_0 : decode cX3_spellBehindForm 0 = .ok (.aload_n 0, 1) := by decide +kernel
theorem dX3_spellBehindForm_1 : decode cX3_spellBehindForm 1 = .ok (.getfield 60, 3) := by decide +kernel
theorem dX3_spellBehindForm_4 : decode cX3_spellBehindForm 4 = .ok (.ifCond .le 59, 3) := by decide +kernel
theorem dX3_spellBehindForm_7 : decode cX3_spellBehindForm 7 = .ok (.aload_n 0, 1) := by decide +kernel
theorem dX3_spellBehindForm_8 : decode cX3_spellBehindForm 8 = .ok (.getfield 60, 3) := by decide +kernel
theorem dX3_spellBehindForm_11 : decode cX3_spellBehindForm 11 = .ok (.iconst 1, 1) := by decide +kernel
theorem dX3_spellBehindForm_12 : decode cX3_spellBehindForm 12 = .ok (.isub, 1) := by decide +kernel
theorem dX3_spellBehindForm_13 : decode cX3_spellBehindForm 13 = .ok (.istore_n 1, 1) := by decide +kernel
theorem dX3_spellBehindForm_14 : decode cX3_spellBehindForm 14 = .ok (.aload_n 0, 1) := by decide +kernel
theorem dX3_spellBehindForm_15 : decode cX3_spellBehindForm 15 = .ok (.getfield 22, 3) := by decide +kernel
theorem dX3_spellBehindForm_18 : decode cX3_spellBehindForm 18 = .ok (.iload_n 1, 1) := by decide +kernel
theorem dX3_spellBehindForm_19 : decode cX3_spellBehindForm 19 = .ok (.dup2, 1) := by decide +kernel
theorem dX3_spellBehindForm_20 : decode cX3_spellBehindForm 20 = .ok (.iaload, 1) := by decide +kernel
theorem dX3_spellBehindForm_21 : decode cX3_spellBehindForm 21 = .ok (.iconst 1, 1) := by decide +kernel
theorem dX3_spellBehindForm_22 : decode cX3_spellBehindForm 22 = .ok (.isub, 1) := by decide +kernel
theorem dX3_spellBehindForm_23 : decode cX3_spellBehindForm 23 = .ok (.iastore, 1) := by decide +kernel
theorem dX3_spellBehindForm_24 : decode cX3_spellBehindForm 24 = .ok (.aload_n 0, 1) := by decide +kernel
theorem dX3_spellBehindForm_25 : decode cX3_spellBehindForm 25 = .ok (.getfield 22, 3) := by decide +kernel
theorem dX3_spellBehindForm_28 : decode cX3_spellBehindForm 28 = .ok (.iload_n 1, 1) := by decide +kernel
theorem dX3_spellBehindForm_29 : decode cX3_spellBehindForm 29 = .ok (.iaload, 1) := by decide +kernel
theorem dX3_spellBehindForm_30 : decode cX3_spellBehindForm 30 = .ok (.ifCond .le 14, 3) := by decide +kernel
theorem dX3_spellBehindForm_33 : decode cX3_spellBehindForm 33 = .ok (.aload_n 0, 1) := by decide +kernel
theorem dX3_spellBehindForm_34 : decode cX3_spellBehindForm 34 = .ok (.aload_n 0, 1) := by decide +kernel
theorem dX3_spellBehindForm_35 : decode cX3_spellBehindForm 35 = .ok (.getfield 19, 3) := by decide +kernel
theorem dX3_spellBehindForm_38 : decode cX3_spellBehindForm 38 = .ok (.iload_n 1, 1) := by decide +kernel
theorem dX3_spellBehindForm_39 : decode cX3_spellBehindForm 39 = .ok (.caload, 1) := by decide +kernel
theorem dX3_spellBehindForm_40 : decode cX3_spellBehindForm 40 = .ok (.invokevirtual 70, 3) := by decide +kernel
theorem dX3_spellBehindForm_43 : decode cX3_spellBehindForm 43 = .ok (.return_, 1) := by decide +kernel
theorem dX3_spellBehindForm_44 : decode cX3_spellBehindForm 44 = .ok (.aload_n 0, 1) := by decide +kernel
theorem dX3_spellBehindForm_45 : decode cX3_spellBehindForm 45 = .ok (.bipush 41, 2) := by decide +kernel
theorem dX3_spellBehindForm_47 : decode cX3_spellBehindForm 47 = .ok (.invokevirtual 70, 3) := by decide +kernel
theorem dX3_spellBehindForm_50 : decode cX3_spellBehindForm 50 = .ok (.aload_n 0, 1) := by decide +kernel
theorem dX3_spellBehindForm_51 : decode cX3_spellBehindForm 51 = .ok (.dup, 1) := by decide +kernel
theorem dX3_spellBehindForm_52 : decode cX3_spellBehindForm 52 = .ok (.getfield 60, 3) := by decide +kernel
theorem dX3_spellBehindForm_55 : decode cX3_spellBehindForm 55 = .ok (.iconst 1, 1) := by decide +kernel
theorem dX3_spellBehindForm_56 : decode cX3_spellBehindForm 56 = .ok (.isub, 1) := by decide +kernel
theorem dX3_spellBehindForm_57 : decode cX3_spellBehindForm 57 = .ok (.putfield 60, 3) := by decide +kernel
theorem dX3_spellBehindForm_60 : decode cX3_spellBehindForm 60 = .ok (.goto (-60), 3) := by decide +kernel
theorem dX3_spellBehindForm_63 : decode cX3_spellBehindForm 63 = .ok (.return_, 1) := by decide +kernel
theorem dX3_write_0 : decode cX3_write 0 = .ok (.aload_n 0, 1) := by decide +kernel
theorem dX3_write_1 : decode cX3_write 1 = .ok (.getfield 56, 3) := by decide +kernel
theorem dX3_write_4 : decode cX3_write 4 = .ok (.sipush 360, 3) := by decide +kernel
theorem dX3_write_7 : decode cX3_write 7 = .ok (.if_icmp .ge 23, 3) := by decide +kernel
theorem dX3_write_10 : decode cX3_write 10 = .ok (.aload_n 0, 1) := by decide +kernel
theorem dX3_write_11 : decode cX3_write 11 = .ok (.getfield 15, 3) := by decide +kernel
theorem dX3_write_14 : decode cX3_write 14 = .ok (.aload_n 0, 1) := by decide +kernel
theorem dX3_write_15 : decode cX3_write 15 = .ok (.getfield 56, 3) := by decide +kernel
theorem dX3_write_18 : decode cX3_write 18 = .ok (.iload_n 1, 1) := by decide +kernel
theorem dX3_write_19 : decode cX3_write 19 = .ok (.castore, 1) := by decide +kernel
theorem dX3_write_20 : decode cX3_write 20 = .ok (.aload_n 0, 1) := by decide +kernel
theorem dX3_write_21 : decode cX3_write 21 = .ok (.dup, 1) := by decide +kernel
theorem dX3_write_22 : decode cX3_write 22 = .ok (.getfield 56, 3) := by decide +kernel
theorem dX3_write_25 : decode cX3_write 25 = .ok (.iconst 1, 1) := by decide +kernel
theorem dX3_write_26 : decode cX3_write 26 = .ok (.iadd, 1) := by decide +kernel
theorem dX3_write_27 : decode cX3_write 27 = .ok (.putfield 56, 3) := by decide +kernel
theorem dX3_write_30 : decode cX3_write 30 = .ok (.return_, 1) := by decide +kernel
theorem dX4_init_0 : decode cX4_init 0 = .ok (.aload_n 0, 1) := by decide +kernel
theorem dX4_init_1 : decode cX4_init 1 = .ok (.invokespecial 3, 3) := by decide +kernel
theorem dX4_init_4 : decode cX4_init 4 = .ok (.aload_n 0, 1) := by decide +kernel
theorem dX4_init_5 : decode cX4_init 5 = .ok (.bipush 40, 2) := by decide +kernel
theorem dX4_init_7 : decode cX4_init 7 = .ok (.newarray .int, 2) := by decide +kernel
theorem dX4_init_9 : decode cX4_init 9 = .ok (.putfield 9, 3) := by decide +kernel
theorem dX4_init_12 : decode cX4_init 12 = .ok (.aload_n 0, 1) := by decide +kernel
theorem dX4_init_13 : decode cX4_init 13 = .ok (.bipush 8, 2) := by decide +kernel
theorem dX4_init_15 : decode cX4_init 15 = .ok (.anewarray 15, 3) := by decide +kernel
theorem dX4_init_18 : decode cX4_init 18 = .ok (.putfield 17, 3) := by decide +kernel
theorem dX4_init_21 : decode cX4_init 21 = .ok (.iconst 0, 1) := by decide +kernel
theorem dX4_init_22 : decode cX4_init 22 = .ok (.istore_n 1, 1) := by decide +kernel
theorem dX4_init_23 : decode cX4_init 23 = .ok (.iload_n 1, 1) := by decide +kernel
theorem dX4_init_24 : decode cX4_init 24 = .ok (.bipush 8, 2) := by decide +kernel
theorem dX4_init_26 : decode cX4_init 26 = .ok (.if_icmp .ge 22, 3) := by decide +kernel
theorem dX4_init_29 : decode cX4_init 29 = .ok (.aload_n 0, 1) := by decide +kernel
theorem dX4_init_30 : decode cX4_init 30 = .ok (.getfield 17, 3) := by decide +kernel
theorem dX4_init_33 : decode cX4_init 33 = .ok (.iload_n 1, 1) := by decide +kernel
theorem dX4_init_34 : decode cX4_init 34 = .ok (.new 15, 3) := by decide +kernel
theorem dX4_init_37 : decode cX4_init 37 = .ok (.dup, 1) := by decide +kernel
theorem dX4_init_38 : decode cX4_init 38 = .ok (.invokespecial 21, 3) := by decide +kernel
theorem dX4_init_41 : decode cX4_init 41 = .ok (.aastore, 1) := by decide +kernel
theorem dX4_init_42 : decode cX4_init 42 = .ok (.iinc 1 1, 3) := by decide +kernel
theorem dX4_init_45 : decode cX4_init 45 = .ok (.goto (-22), 3) := by decide +kernel
theorem dX4_init_48 : decode cX4_init 48 = .ok (.return_, 1) := by decide +kernel
theorem dX4_copyFrom_0 : decode cX4_copyFrom 0 = .ok (.aload_n 0, 1) := by decide +kernel
theorem dX4_copyFrom_1 : decode cX4_copyFrom 1 = .ok (.aload_n 1, 1) := by decide +kernel
theorem dX4_copyFrom_2 : decode cX4_copyFrom 2 = .ok (.getfield 22, 3) := by decide +kernel
theorem dX4_copyFrom_5 : decode cX4_copyFrom 5 = .ok (.putfield 22, 3) := by decide +kernel
theorem dX4_copyFrom_8 : decode cX4_copyFrom 8 = .ok (.aload_n 0, 1) := by decide +kernel
theorem dX4_copyFrom_9 : decode cX4_copyFrom 9 = .ok (.aload_n 1, 1) := by decide +kernel
theorem dX4_copyFrom_10 : decode cX4_copyFrom 10 = .ok (.getfield 26, 3) := by decide +kernel
theorem dX4_copyFrom_13 : decode cX4_copyFrom 13 = .ok (.putfield 26, 3) := by decide +kernel
theorem dX4_copyFrom_16 : decode cX4_copyFrom 16 = .ok (.aload_n 0, 1) := by decide +kernel
theorem dX4_copyFrom_17 : decode cX4_copyFrom 17 = .ok (.aload_n 1, 1) := by decide +kernel
theorem dX4_copyFrom_18 : decode cX4_copyFrom 18 = .ok (.getfield 30, 3) := by decide +kernel
theorem dX4_copyFrom_21 : decode cX4_copyFrom 21 = .ok (.putfield 30, 3) := by decide +kernel
theorem dX4_copyFrom_24 : decode cX4_copyFrom 24 = .ok (.aload_n 1, 1) := by decide +kernel
theorem dX4_copyFrom_25 : decode cX4_copyFrom 25 = .ok (.getfield 9, 3) := by decide +kernel
theorem dX4_copyFrom_28 : decode cX4_copyFrom 28 = .ok (.iconst 0, 1) := by decide +kernel
theorem dX4_copyFrom_29 : decode cX4_copyFrom 29 = .ok (.aload_n 0, 1) := by decide +kernel
theorem dX4_copyFrom_30 : decode cX4_copyFrom 30 = .ok (.getfield 9, 3) := by decide +kernel
theorem dX4_copyFrom_33 : decode cX4_copyFrom 33 = .ok (.iconst 0, 1) := by decide +kernel
theorem dX4_copyFrom_34 : decode cX4_copyFrom 34 = .ok (.aload_n 0, 1) := by decide +kernel
theorem dX4_copyFrom_35 : decode cX4_copyFrom 35 = .ok (.getfield 26, 3) := by decide +kernel
theorem dX4_copyFrom_38 : decode cX4_copyFrom 38 = .ok (.invokestatic 33, 3) := by decide +kernel
theorem dX4_copyFrom_41 : decode cX4_copyFrom 41 = .ok (.iconst 0, 1) := by decide +kernel
theorem dX4_copyFrom_42 : decode cX4_copyFrom 42 = .ok (.istore_n 2, 1) := by decide +kernel
theorem dX4_copyFrom_43 : decode cX4_copyFrom 43 = .ok (.iload_n 2, 1) := by decide +kernel
theorem dX4_copyFrom_44 : decode cX4_copyFrom 44 = .ok (.aload_n 0, 1) := by decide +kernel
theorem dX4_copyFrom_45 : decode cX4_copyFrom 45 = .ok (.getfield 30, 3) := by decide +kernel
theorem dX4_copyFrom_48 : decode cX4_copyFrom 48 = .ok (.if_icmp .ge 24, 3) := by decide +kernel
theorem dX4_copyFrom_51 : decode cX4_copyFrom 51 = .ok (.aload_n 0, 1) := by decide +kernel
theorem dX4_copyFrom_52 : decode cX4_copyFrom 52 = .ok (.getfield 17, 3) := by decide +kernel
theorem dX4_copyFrom_55 : decode cX4_copyFrom 55 = .ok (.iload_n 2, 1) := by decide +kernel
theorem dX4_copyFrom_56 : decode cX4_copyFrom 56 = .ok (.aaload, 1) := by decide +kernel
theorem dX4_copyFrom_57 : decode cX4_copyFrom 57 = .ok (.aload_n 1, 1) := by decide +kernel
theorem dX4_copyFrom_58 : decode cX4_copyFrom 58 = .ok (.getfield 17, 3) := by decide +kernel
theorem dX4_copyFrom_61 : decode cX4_copyFrom 61 = .ok (.iload_n 2, 1) := by decide +kernel
theorem dX4_copyFrom_62 : decode cX4_copyFrom 62 = .ok (.aaload, 1) := by decide +kernel
theorem dX4_copyFrom_63 : decode cX4_copyFrom 63 = .ok (.invokevirtual 39, 3) := by decide +kernel
theorem dX4_copyFrom_66 : decode cX4_copyFrom 66 = .ok (.iinc 2 1, 3) := by decide +kernel
theorem dX4_copyFrom_69 : decode cX4_copyFrom 69 = .ok (.goto (-26), 3) := by decide +kernel
theorem dX4_copyFrom_72 : decode cX4_copyFrom 72 = .ok (.return_, 1) := by decide +kernel
theorem dX4_find_0 : decode cX4_find 0 = .ok (.iload_n 1, 1) := by decide +kernel
theorem dX4_find_1 : decode cX4_find 1 = .ok (.ifCond .lt 23, 3) := by decide +kernel
theorem dX4_find_4 : decode cX4_find 4 = .ok (.iload_n 1, 1) := by decide +kernel
theorem dX4_find_5 : decode cX4_find 5 = .ok (.aload_n 0, 1) := by decide +kernel
theorem dX4_find_6 : decode cX4_find 6 = .ok (.getfield 30, 3) := by decide +kernel
theorem dX4_find_9 : decode cX4_find 9 = .ok (.if_icmp .ge 15, 3) := by decide +kernel
theorem dX4_find_12 : decode cX4_find 12 = .ok (.aload_n 0, 1) := by decide +kernel
theorem dX4_find_13 : decode cX4_find 13 = .ok (.getfield 17, 3) := by decide +kernel
theorem dX4_find_16 : decode cX4_find 16 = .ok (.iload_n 1, 1) := by decide +kernel
theorem dX4_find_17 : decode cX4_find 17 = .ok (.aaload, 1) := by decide +kernel
theorem dX4_find_18 : decode cX4_find 18 = .ok (.getfield 43, 3) := by decide +kernel
theorem dX4_find_21 : decode cX4_find 21 = .ok (.ifCond .ne 5, 3) := by decide +kernel
theorem dX4_find_24 : decode cX4_find 24 = .ok (.aconst_null, 1) := by decide +kernel
theorem dX4_find_25 : decode cX4_find 25 = .ok (.areturn, 1) := by decide +kernel
theorem dX4_find_26 : decode cX4_find 26 = .ok (.aload_n 0, 1) := by decide +kernel
theorem dX4_find_27 : decode cX4_find 27 = .ok (.getfield 17, 3) := by decide +kernel
theorem dX4_find_30 : decode cX4_find 30 = .ok (.iload_n 1, 1) := by decide +kernel
theorem dX4_find_31 : decode cX4_find 31 = .ok (.aaload, 1) := by decide +kernel
theorem dX4_find_32 : decode cX4_find 32 = .ok (.areturn, 1) := by decide +kernel
theorem dX4_isOpen_0 : decode cX4_isOpen 0 = .ok (.aload_n 0, 1) := by decide +kernel
theorem dX4_isOpen_1 : decode cX4_isOpen 1 = .ok (.getfield 17, 3) := by decide +kernel
theorem dX4_isOpen_4 : decode cX4_isOpen 4 = .ok (.iload_n 1, 1) := by decide +kernel
theorem dX4_isOpen_5 : decode cX4_isOpen 5 = .ok (.aaload, 1) := by decide +kernel
theorem dX4_isOpen_6 : decode cX4_isOpen 6 = .ok (.getfield 43, 3) := by decide +kernel
theorem dX4_isOpen_9 : decode cX4_isOpen 9 = .ok (.ifCond .eq 20, 3) := by decide +kernel
theorem dX4_isOpen_12 : decode cX4_isOpen 12 = .ok (.aload_n 0, 1) := by decide +kernel
theorem dX4_isOpen_13 : decode cX4_isOpen 13 = .ok (.getfield 17, 3) := by decide +kernel
theorem dX4_isOpen_16 : decode cX4_isOpen 16 = .ok (.iload_n 1, 1) := by decide +kernel
theorem dX4_isOpen_17 : decode cX4_isOpen 17 = .ok (.aaload, 1) := by decide +kernel
theorem dX4_isOpen_18 : decode cX4_isOpen 18 = .ok (.getfield 46, 3) := by decide +kernel
theorem dX4_isOpen_21 : decode cX4_isOpen 21 = .ok (.iconst 2, 1) := by decide +kernel
theorem dX4_isOpen_22 : decode cX4_isOpen 22 = .ok (.if_icmp .ne 7, 3) := by decide +kernel
theorem dX4_isOpen_25 : decode cX4_isOpen 25 = .ok (.iconst 1, 1) := by decide +kernel
theorem dX4_isOpen_26 : decode cX4_isOpen 26 = .ok (.goto 4, 3) := by decide +kernel
theorem dX4_isOpen_29 : decode cX4_isOpen 29 = .ok (.iconst 0, 1) := by decide +kernel
theorem dX4_isOpen_30 : decode cX4_isOpen 30 = .ok (.ireturn, 1) := by decide +kernel
theorem dX4_rankOfOpen_0 : decode cX4_rankOfOpen 0 = .ok (.aload_n 0, 1) := by decide +kernel
theorem dX4_rankOfOpen_1 : decode cX4_rankOfOpen 1 = .ok (.getfield 17, 3) := by decide +kernel
theorem dX4_rankOfOpen_4 : decode cX4_rankOfOpen 4 = .ok (.iload_n 1, 1) := by decide +kernel
theorem dX4_rankOfOpen_5 : decode cX4_rankOfOpen 5 = .ok (.aaload, 1) := by decide +kernel
theorem dX4_rankOfOpen_6 : decode cX4_rankOfOpen 6 = .ok (.invokevirtual 49, 3) := by decide +kernel
theorem dX4_rankOfOpen_9 : decode cX4_rankOfOpen 9 = .ok (.istore_n 2, 1) := by decide +kernel
theorem dX4_rankOfOpen_10 : decode cX4_rankOfOpen 10 = .ok (.iconst 0, 1) := by decide +kernel
theorem dX4_rankOfOpen_11 : decode cX4_rankOfOpen 11 = .ok (.istore_n 3, 1) := by decide +kernel
theorem dX4_rankOfOpen_12 : decode cX4_rankOfOpen 12 = .ok (.iconst 0, 1) := by decide +kernel
theorem dX4_rankOfOpen_13 : decode cX4_rankOfOpen 13 = .ok (.istore 4, 2) := by decide +kernel
theorem dX4_rankOfOpen_15 : decode cX4_rankOfOpen 15 = .ok (.iload 4, 2) := by decide +kernel
theorem dX4_rankOfOpen_17 : decode cX4_rankOfOpen 17 = .ok (.aload_n 0, 1) := by decide +kernel
theorem dX4_rankOfOpen_18 : decode cX4_rankOfOpen 18 = .ok (.getfield 30, 3) := by decide +kernel
theorem dX4_rankOfOpen_21 : decode cX4_rankOfOpen 21 = .ok (.if_icmp .ge 51, 3) := by decide +kernel
theorem dX4_rankOfOpen_24 : decode cX4_rankOfOpen 24 = .ok (.aload_n 0, 1) := by decide +kernel
theorem dX4_rankOfOpen_25 : decode cX4_rankOfOpen 25 = .ok (.getfield 17, 3) := by decide +kernel
theorem dX4_rankOfOpen_28 : decode cX4_rankOfOpen 28 = .ok (.iload 4, 2) := by decide +kernel
theorem dX4_rankOfOpen_30 : decode cX4_rankOfOpen 30 = .ok (.aaload, 1) := by decide +kernel
theorem dX4_rankOfOpen_31 : decode cX4_rankOfOpen 31 = .ok (.invokevirtual 49, 3) := by decide +kernel
theorem dX4_rankOfOpen_34 : decode cX4_rankOfOpen 34 = .ok (.istore 5, 2) := by decide +kernel
theorem dX4_rankOfOpen_36 : decode cX4_rankOfOpen 36 = .ok (.aload_n 0, 1) := by decide +kernel
theorem dX4_rankOfOpen_37 : decode cX4_rankOfOpen 37 = .ok (.iload 4, 2) := by decide +kernel
theorem dX4_rankOfOpen_39 : decode cX4_rankOfOpen 39 = .ok (.invokevirtual 53, 3) := by decide +kernel
theorem dX4_rankOfOpen_42 : decode cX4_rankOfOpen 42 = .ok (.ifCond .eq 24, 3) := by decide +kernel
theorem dX4_rankOfOpen_45 : decode cX4_rankOfOpen 45 = .ok (.iload 5, 2) := by decide +kernel
theorem dX4_rankOfOpen_47 : decode cX4_rankOfOpen 47 = .ok (.iload_n 2, 1) := by decide +kernel
theorem dX4_rankOfOpen_48 : decode cX4_rankOfOpen 48 = .ok (.if_icmp .gt 15, 3) := by decide +kernel
theorem dX4_rankOfOpen_51 : decode cX4_rankOfOpen 51 = .ok (.iload 5, 2) := by decide +kernel
theorem dX4_rankOfOpen_53 : decode cX4_rankOfOpen 53 = .ok (.iload_n 2, 1) := by decide +kernel
theorem dX4_rankOfOpen_54 : decode cX4_rankOfOpen 54 = .ok (.if_icmp .ne 12, 3) := by decide +kernel
theorem dX4_rankOfOpen_57 : decode cX4_rankOfOpen 57 = .ok (.iload 4, 2) := by decide +kernel
theorem dX4_rankOfOpen_59 : decode cX4_rankOfOpen 59 = .ok (.iload_n 1, 1) := by decide +kernel
theorem dX4_rankOfOpen_60 : decode cX4_rankOfOpen 60 = .ok (.if_icmp .ge 6, 3) := by decide +kernel
theorem dX4_rankOfOpen_63 : decode cX4_rankOfOpen 63 = .ok (.iinc 3 1, 3) := by decide +kernel
theorem dX4_rankOfOpen_66 : decode cX4_rankOfOpen 66 = .ok (.iinc 4 1, 3) := by decide +kernel
theorem dX4_rankOfOpen_69 : decode cX4_rankOfOpen 69 = .ok (.goto (-54), 3) := by decide +kernel
theorem dX4_rankOfOpen_72 : decode cX4_rankOfOpen 72 = .ok (.iload_n 3, 1) := by decide +kernel
theorem dX4_rankOfOpen_73 : decode cX4_rankOfOpen 73 = .ok (.ireturn, 1) := by decide +kernel
theorem dX4_howManyThere_0 : decode cX4_howManyThere 0 = .ok (.aload_n 0, 1) := by decide +kernel
theorem dX4_howManyThere_1 : decode cX4_howManyThere 1 = .ok (.iconst 0, 1) := by decide +kernel
theorem dX4_howManyThere_2 : decode cX4_howManyThere 2 = .ok (.invokevirtual 57, 3) := by decide +kernel
theorem dX4_howManyThere_5 : decode cX4_howManyThere 5 = .ok (.aload_n 0, 1) := by decide +kernel
theorem dX4_howManyThere_6 : decode cX4_howManyThere 6 = .ok (.iconst 1, 1) := by decide +kernel
theorem dX4_howManyThere_7 : decode cX4_howManyThere 7 = .ok (.invokevirtual 57, 3) := by decide +kernel
theorem dX4_howManyThere_10 : decode cX4_howManyThere 10 = .ok (.iadd, 1) := by decide +kernel
theorem dX4_howManyThere_11 : decode cX4_howManyThere 11 = .ok (.aload_n 0, 1) := by decide +kernel
theorem dX4_howManyThere_12 : decode cX4_howManyThere 12 = .ok (.iconst 2, 1) := by decide +kernel
theorem dX4_howManyThere_13 : decode cX4_howManyThere 13 = .ok (.invokevirtual 57, 3) := by decide +kernel
theorem dX4_howManyThere_16 : decode cX4_howManyThere 16 = .ok (.iadd, 1) := by decide +kernel
theorem dX4_howManyThere_17 : decode cX4_howManyThere 17 = .ok (.ireturn, 1) := by decide +kernel
theorem dX4_howMany_0 : decode cX4_howMany 0 = .ok (.iconst 0, 1) := by decide +kernel
theorem dX4_howMany_1 : decode cX4_howMany 1 = .ok (.istore_n 2, 1) := by decide +kernel
theorem dX4_howMany_2 : decode cX4_howMany 2 = .ok (.iconst 0, 1) := by decide +kernel
theorem dX4_howMany_3 : decode cX4_howMany 3 = .ok (.istore_n 3, 1) := by decide +kernel
theorem dX4_howMany_4 : decode cX4_howMany 4 = .ok (.iload_n 3, 1) := by decide +kernel
theorem dX4_howMany_5 : decode cX4_howMany 5 = .ok (.aload_n 0, 1) := by decide +kernel
theorem dX4_howMany_6 : decode cX4_howMany 6 = .ok (.getfield 30, 3) := by decide +kernel
theorem dX4_howMany_9 : decode cX4_howMany 9 = .ok (.if_icmp .ge 37, 3) := by decide +kernel
theorem dX4_howMany_12 : decode cX4_howMany 12 = .ok (.aload_n 0, 1) := by decide +kernel
theorem dX4_howMany_13 : decode cX4_howMany 13 = .ok (.getfield 17, 3) := by decide +kernel
theorem dX4_howMany_16 : decode cX4_howMany 16 = .ok (.iload_n 3, 1) := by decide +kernel
theorem dX4_howMany_17 : decode cX4_howMany 17 = .ok (.aaload, 1) := by decide +kernel
theorem dX4_howMany_18 : decode cX4_howMany 18 = .ok (.getfield 43, 3) := by decide +kernel
theorem dX4_howMany_21 : decode cX4_howMany 21 = .ok (.ifCond .eq 19, 3) := by decide +kernel
theorem dX4_howMany_24 : decode cX4_howMany 24 = .ok (.aload_n 0, 1) := by decide +kernel
theorem dX4_howMany_25 : decode cX4_howMany 25 = .ok (.getfield 17, 3) := by decide +kernel
theorem dX4_howMany_28 : decode cX4_howMany 28 = .ok (.iload_n 3, 1) := by decide +kernel
theorem dX4_howMany_29 : decode cX4_howMany 29 = .ok (.aaload, 1) := by decide +kernel
theorem dX4_howMany_30 : decode cX4_howMany 30 = .ok (.getfield 46, 3) := by decide +kernel
theorem dX4_howMany_33 : decode cX4_howMany 33 = .ok (.iload_n 1, 1) := by decide +kernel
theorem dX4_howMany_34 : decode cX4_howMany 34 = .ok (.if_icmp .ne 6, 3) := by decide +kernel
theorem dX4_howMany_37 : decode cX4_howMany 37 = .ok (.iinc 2 1, 3) := by decide +kernel
theorem dX4_howMany_40 : decode cX4_howMany 40 = .ok (.iinc 3 1, 3) := by decide +kernel
theorem dX4_howMany_43 : decode cX4_howMany 43 = .ok (.goto (-39), 3) := by decide +kernel
theorem dX4_howMany_46 : decode cX4_howMany 46 = .ok (.iload_n 2, 1) := by decide +kernel
theorem dX4_howMany_47 : decode cX4_howMany 47 = .ok (.ireturn, 1) := by decide +kernel
theorem dX5_init_0 : decode cX5_init 0 = .ok (.aload_n 0, 1) := by decide +kernel
theorem dX5_init_1 : decode cX5_init 1 = .ok (.invokespecial 3, 3) := by decide +kernel
theorem dX5_init_4 : decode cX5_init 4 = .ok (.aload_n 0, 1) := by decide +kernel
theorem dX5_init_5 : decode cX5_init 5 = .ok (.bipush 8, 2) := by decide +kernel
theorem dX5_init_7 : decode cX5_init 7 = .ok (.newarray .int, 2) := by decide +kernel
theorem dX5_init_9 : decode cX5_init 9 = .ok (.putfield 9, 3) := by decide +kernel
theorem dX5_init_12 : decode cX5_init 12 = .ok (.aload_n 0, 1) := by decide +kernel
theorem dX5_init_13 : decode cX5_init 13 = .ok (.sipush 960, 3) := by decide +kernel
theorem dX5_init_16 : decode cX5_init 16 = .ok (.newarray .int, 2) := by decide +kernel
theorem dX5_init_18 : decode cX5_init 18 = .ok (.putfield 15, 3) := by decide +kernel
theorem dX5_init_21 : decode cX5_init 21 = .ok (.return_, 1) := by decide +kernel
theorem dX5_come_0 : decode cX5_come 0 = .ok (.aload_n 0, 1) := by decide +kernel
theorem dX5_come_1 : decode cX5_come 1 = .ok (.iconst 1, 1) := by decide +kernel
theorem dX5_come_2 : decode cX5_come 2 = .ok (.putfield 18, 3) := by decide +kernel
theorem dX5_come_5 : decode cX5_come 5 = .ok (.aload_n 0, 1) := by decide +kernel
theorem dX5_come_6 : decode cX5_come 6 = .ok (.iload_n 1, 1) := by decide +kernel
theorem dX5_come_7 : decode cX5_come 7 = .ok (.putfield 22, 3) := by decide +kernel
theorem dX5_come_10 : decode cX5_come 10 = .ok (.aload_n 0, 1) := by decide +kernel
theorem dX5_come_11 : decode cX5_come 11 = .ok (.aload_n 0, 1) := by decide +kernel
theorem dX5_come_12 : decode cX5_come 12 = .ok (.invokevirtual 26, 3) := by decide +kernel
theorem dX5_come_15 : decode cX5_come 15 = .ok (.putfield 30, 3) := by decide +kernel
theorem dX5_come_18 : decode cX5_come 18 = .ok (.aload_n 0, 1) := by decide +kernel
theorem dX5_come_19 : decode cX5_come 19 = .ok (.bipush (-5), 2) := by decide +kernel
theorem dX5_come_21 : decode cX5_come 21 = .ok (.putfield 33, 3) := by decide +kernel
theorem dX5_come_24 : decode cX5_come 24 = .ok (.aload_n 0, 1) := by decide +kernel
theorem dX5_come_25 : decode cX5_come 25 = .ok (.iconst 0, 1) := by decide +kernel
theorem dX5_come_26 : decode cX5_come 26 = .ok (.putfield 36, 3) := by decide +kernel
theorem dX5_come_29 : decode cX5_come 29 = .ok (.aload_n 0, 1) := by decide +kernel
theorem dX5_come_30 : decode cX5_come 30 = .ok (.iload_n 2, 1) := by decide +kernel
theorem dX5_come_31 : decode cX5_come 31 = .ok (.putfield 39, 3) := by decide +kernel
theorem dX5_come_34 : decode cX5_come 34 = .ok (.return_, 1) := by decide +kernel
theorem dX5_judge_0 : decode cX5_judge 0 = .ok (.aload_n 0, 1) := by decide +kernel
theorem dX5_judge_1 : decode cX5_judge 1 = .ok (.aload_n 0, 1) := by decide +kernel
theorem dX5_judge_2 : decode cX5_judge 2 = .ok (.invokevirtual 26, 3) := by decide +kernel
theorem dX5_judge_5 : decode cX5_judge 5 = .ok (.putfield 30, 3) := by decide +kernel
theorem dX5_judge_8 : decode cX5_judge 8 = .ok (.aload_n 0, 1) := by decide +kernel
theorem dX5_judge_9 : decode cX5_judge 9 = .ok (.getfield 30, 3) := by decide +kernel
theorem dX5_judge_12 : decode cX5_judge 12 = .ok (.iconst 2, 1) := by decide +kernel
theorem dX5_judge_13 : decode cX5_judge 13 = .ok (.if_icmp .ne 5, 3) := by decide +kernel
theorem dX5_judge_16 : decode cX5_judge 16 = .ok (.iconst 0, 1) := by decide +kernel
theorem dX5_judge_17 : decode cX5_judge 17 = .ok (.ireturn, 1) := by decide +kernel
theorem dX5_judge_18 : decode cX5_judge 18 = .ok (.aload_n 0, 1) := by decide +kernel
theorem dX5_judge_19 : decode cX5_judge 19 = .ok (.iload_n 1, 1) := by decide +kernel
theorem dX5_judge_20 : decode cX5_judge 20 = .ok (.putfield 33, 3) := by decide +kernel
theorem dX5_judge_23 : decode cX5_judge 23 = .ok (.iconst 1, 1) := by decide +kernel
theorem dX5_judge_24 : decode cX5_judge 24 = .ok (.ireturn, 1) := by decide +kernel
theorem dX5_copyFrom_0 : decode cX5_copyFrom 0 = .ok (.aload_n 0, 1) := by decide +kernel
theorem dX5_copyFrom_1 : decode cX5_copyFrom 1 = .ok (.aload_n 1, 1) := by decide +kernel
theorem dX5_copyFrom_2 : decode cX5_copyFrom 2 = .ok (.getfield 18, 3) := by decide +kernel
theorem dX5_copyFrom_5 : decode cX5_copyFrom 5 = .ok (.putfield 18, 3) := by decide +kernel
theorem dX5_copyFrom_8 : decode cX5_copyFrom 8 = .ok (.aload_n 0, 1) := by decide +kernel
theorem dX5_copyFrom_9 : decode cX5_copyFrom 9 = .ok (.aload_n 1, 1) := by decide +kernel
theorem dX5_copyFrom_10 : decode cX5_copyFrom 10 = .ok (.getfield 30, 3) := by decide +kernel
theorem dX5_copyFrom_13 : decode cX5_copyFrom 13 = .ok (.putfield 30, 3) := by decide +kernel
theorem dX5_copyFrom_16 : decode cX5_copyFrom 16 = .ok (.aload_n 0, 1) := by decide +kernel
theorem dX5_copyFrom_17 : decode cX5_copyFrom 17 = .ok (.aload_n 1, 1) := by decide +kernel
theorem dX5_copyFrom_18 : decode cX5_copyFrom 18 = .ok (.getfield 22, 3) := by decide +kernel
theorem dX5_copyFrom_21 : decode cX5_copyFrom 21 = .ok (.putfield 22, 3) := by decide +kernel
theorem dX5_copyFrom_24 : decode cX5_copyFrom 24 = .ok (.aload_n 0, 1) := by decide +kernel
theorem dX5_copyFrom_25 : decode cX5_copyFrom 25 = .ok (.aload_n 1, 1) := by decide +kernel
theorem dX5_copyFrom_26 : decode cX5_copyFrom 26 = .ok (.getfield 33, 3) := by decide +kernel
theorem dX5_copyFrom_29 : decode cX5_copyFrom 29 = .ok (.putfield 33, 3) := by decide +kernel
theorem dX5_copyFrom_32 : decode cX5_copyFrom 32 = .ok (.aload_n 0, 1) := by decide +kernel
theorem dX5_copyFrom_33 : decode cX5_copyFrom 33 = .ok (.aload_n 1, 1) := by decide +kernel
theorem dX5_copyFrom_34 : decode cX5_copyFrom 34 = .ok (.getfield 36, 3) := by decide +kernel
theorem dX5_copyFrom_37 : decode cX5_copyFrom 37 = .ok (.putfield 36, 3) := by decide +kernel
theorem dX5_copyFrom_40 : decode cX5_copyFrom 40 = .ok (.aload_n 0, 1) := by decide +kernel
theorem dX5_copyFrom_41 : decode cX5_copyFrom 41 = .ok (.aload_n 1, 1) := by decide +kernel
theorem dX5_copyFrom_42 : decode cX5_copyFrom 42 = .ok (.getfield 39, 3) := by decide +kernel
theorem dX5_copyFrom_45 : decode cX5_copyFrom 45 = .ok (.putfield 39, 3) := by decide +kernel
theorem dX5_copyFrom_48 : decode cX5_copyFrom 48 = .ok (.iconst 0, 1) := by decide +kernel
theorem dX5_copyFrom_49 : decode cX5_copyFrom 49 = .ok (.istore_n 2, 1) := by decide +kernel
theorem dX5_copyFrom_50 : decode cX5_copyFrom 50 = .ok (.iload_n 2, 1) := by decide +kernel
theorem dX5_copyFrom_51 : decode cX5_copyFrom 51 = .ok (.aload_n 0, 1) := by decide +kernel
theorem dX5_copyFrom_52 : decode cX5_copyFrom 52 = .ok (.getfield 22, 3) := by decide +kernel
theorem dX5_copyFrom_55 : decode cX5_copyFrom 55 = .ok (.if_icmp .ge 46, 3) := by decide +kernel
theorem dX5_copyFrom_58 : decode cX5_copyFrom 58 = .ok (.aload_n 0, 1) := by decide +kernel
theorem dX5_copyFrom_59 : decode cX5_copyFrom 59 = .ok (.getfield 9, 3) := by decide +kernel
theorem dX5_copyFrom_62 : decode cX5_copyFrom 62 = .ok (.iload_n 2, 1) := by decide +kernel
theorem dX5_copyFrom_63 : decode cX5_copyFrom 63 = .ok (.aload_n 1, 1) := by decide +kernel
theorem dX5_copyFrom_64 : decode cX5_copyFrom 64 = .ok (.getfield 9, 3) := by decide +kernel
theorem dX5_copyFrom_67 : decode cX5_copyFrom 67 = .ok (.iload_n 2, 1) := by decide +kernel
theorem dX5_copyFrom_68 : decode cX5_copyFrom 68 = .ok (.iaload, 1) := by decide +kernel
theorem dX5_copyFrom_69 : decode cX5_copyFrom 69 = .ok (.iastore, 1) := by decide +kernel
theorem dX5_copyFrom_70 : decode cX5_copyFrom 70 = .ok (.aload_n 1, 1) := by decide +kernel
theorem dX5_copyFrom_71 : decode cX5_copyFrom 71 = .ok (.getfield 15, 3) := by decide +kernel
theorem dX5_copyFrom_74 : decode cX5_copyFrom 74 = .ok (.iload_n 2, 1) := by decide +kernel
theorem dX5_copyFrom_75 : decode cX5_copyFrom 75 = .ok (.bipush 120, 2) := by decide +kernel
theorem dX5_copyFrom_77 : decode cX5_copyFrom 77 = .ok (.imul, 1) := by decide +kernel
theorem dX5_copyFrom_78 : decode cX5_copyFrom 78 = .ok (.aload_n 0, 1) := by decide +kernel
theorem dX5_copyFrom_79 : decode cX5_copyFrom 79 = .ok (.getfield 15, 3) := by decide +kernel
theorem dX5_copyFrom_82 : decode cX5_copyFrom 82 = .ok (.iload_n 2, 1) := by decide +kernel
theorem dX5_copyFrom_83 : decode cX5_copyFrom 83 = .ok (.bipush 120, 2) := by decide +kernel
theorem dX5_copyFrom_85 : decode cX5_copyFrom 85 = .ok (.imul, 1) := by decide +kernel
theorem dX5_copyFrom_86 : decode cX5_copyFrom 86 = .ok (.aload_n 0, 1) := by decide +kernel
theorem dX5_copyFrom_87 : decode cX5_copyFrom 87 = .ok (.getfield 9, 3) := by decide +kernel
theorem dX5_copyFrom_90 : decode cX5_copyFrom 90 = .ok (.iload_n 2, 1) := by decide +kernel
theorem dX5_copyFrom_91 : decode cX5_copyFrom 91 = .ok (.iaload, 1) := by decide +kernel
theorem dX5_copyFrom_92 : decode cX5_copyFrom 92 = .ok (.invokestatic 42, 3) := by decide +kernel
theorem dX5_copyFrom_95 : decode cX5_copyFrom 95 = .ok (.iinc 2 1, 3) := by decide +kernel
theorem dX5_copyFrom_98 : decode cX5_copyFrom 98 = .ok (.goto (-48), 3) := by decide +kernel
theorem dX5_copyFrom_101 : decode cX5_copyFrom 101 = .ok (.return_, 1) := by decide +kernel
theorem dX5_partsThatAre_0 : decode cX5_partsThatAre 0 = .ok (.iconst 0, 1) := by decide +kernel
theorem dX5_partsThatAre_1 : decode cX5_partsThatAre 1 = .ok (.istore_n 2, 1) := by decide +kernel
theorem dX5_partsThatAre_2 : decode cX5_partsThatAre 2 = .ok (.iconst 0, 1) := by decide +kernel
theorem dX5_partsThatAre_3 : decode cX5_partsThatAre 3 = .ok (.istore_n 3, 1) := by decide +kernel
theorem dX5_partsThatAre_4 : decode cX5_partsThatAre 4 = .ok (.iload_n 3, 1) := by decide +kernel
theorem dX5_partsThatAre_5 : decode cX5_partsThatAre 5 = .ok (.aload_n 0, 1) := by decide +kernel
theorem dX5_partsThatAre_6 : decode cX5_partsThatAre 6 = .ok (.getfield 22, 3) := by decide +kernel
theorem dX5_partsThatAre_9 : decode cX5_partsThatAre 9 = .ok (.if_icmp .ge 28, 3) := by decide +kernel
theorem dX5_partsThatAre_12 : decode cX5_partsThatAre 12 = .ok (.aload_n 0, 1) := by decide +kernel
theorem dX5_partsThatAre_13 : decode cX5_partsThatAre 13 = .ok (.getfield 15, 3) := by decide +kernel
theorem dX5_partsThatAre_16 : decode cX5_partsThatAre 16 = .ok (.iload_n 3, 1) := by decide +kernel
theorem dX5_partsThatAre_17 : decode cX5_partsThatAre 17 = .ok (.bipush 120, 2) := by decide +kernel
theorem dX5_partsThatAre_19 : decode cX5_partsThatAre 19 = .ok (.imul, 1) := by decide +kernel
theorem dX5_partsThatAre_20 : decode cX5_partsThatAre 20 = .ok (.iaload, 1) := by decide +kernel
theorem dX5_partsThatAre_21 : decode cX5_partsThatAre 21 = .ok (.iload_n 1, 1) := by decide +kernel
theorem dX5_partsThatAre_22 : decode cX5_partsThatAre 22 = .ok (.if_icmp .ne 9, 3) := by decide +kernel
theorem dX5_partsThatAre_25 : decode cX5_partsThatAre 25 = .ok (.iload_n 2, 1) := by decide +kernel
theorem dX5_partsThatAre_26 : decode cX5_partsThatAre 26 = .ok (.iconst 1, 1) := by decide +kernel
theorem dX5_partsThatAre_27 : decode cX5_partsThatAre 27 = .ok (.iload_n 3, 1) := by decide +kernel
theorem dX5_partsThatAre_28 : decode cX5_partsThatAre 28 = .ok (.ishl, 1) := by decide +kernel
theorem dX5_partsThatAre_29 : decode cX5_partsThatAre 29 = .ok (.ior, 1) := by decide +kernel
theorem dX5_partsThatAre_30 : decode cX5_partsThatAre 30 = .ok (.istore_n 2, 1) := by decide +kernel
theorem dX5_partsThatAre_31 : decode cX5_partsThatAre 31 = .ok (.iinc 3 1, 3) := by decide +kernel
theorem dX5_partsThatAre_34 : decode cX5_partsThatAre 34 = .ok (.goto (-30), 3) := by decide +kernel
theorem dX5_partsThatAre_37 : decode cX5_partsThatAre 37 = .ok (.iload_n 2, 1) := by decide +kernel
theorem dX5_partsThatAre_38 : decode cX5_partsThatAre 38 = .ok (.ireturn, 1) := by decide +kernel
theorem dX5_verdictOfParts_0 : decode cX5_verdictOfParts 0 = .ok (.aload_n 0, 1) := by decide +kernel
theorem dX5_verdictOfParts_1 : decode cX5_verdictOfParts 1 = .ok (.iconst 0, 1) := by decide +kernel
theorem dX5_verdictOfParts_2 : decode cX5_verdictOfParts 2 = .ok (.invokevirtual 48, 3) := by decide +kernel
theorem dX5_verdictOfParts_5 : decode cX5_verdictOfParts 5 = .ok (.ifCond .eq 5, 3) := by decide +kernel
theorem dX5_verdictOfParts_8 : decode cX5_verdictOfParts 8 = .ok (.iconst 0, 1) := by decide +kernel
theorem dX5_verdictOfParts_9 : decode cX5_verdictOfParts 9 = .ok (.ireturn, 1) := by decide +kernel
theorem dX5_verdictOfParts_10 : decode cX5_verdictOfParts 10 = .ok (.aload_n 0, 1) := by decide +kernel
theorem dX5_verdictOfParts_11 : decode cX5_verdictOfParts 11 = .ok (.iconst 1, 1) := by decide +kernel
theorem dX5_verdictOfParts_12 : decode cX5_verdictOfParts 12 = .ok (.invokevirtual 48, 3) := by decide +kernel
theorem dX5_verdictOfParts_15 : decode cX5_verdictOfParts 15 = .ok (.iconst 1, 1) := by decide +kernel
theorem dX5_verdictOfParts_16 : decode cX5_verdictOfParts 16 = .ok (.aload_n 0, 1) := by decide +kernel
theorem dX5_verdictOfParts_17 : decode cX5_verdictOfParts 17 = .ok (.getfield 22, 3) := by decide +kernel
theorem dX5_verdictOfParts_20 : decode cX5_verdictOfParts 20 = .ok (.ishl, 1) := by decide +kernel
theorem dX5_verdictOfParts_21 : decode cX5_verdictOfParts 21 = .ok (.iconst 1, 1) := by decide +kernel
theorem dX5_verdictOfParts_22 : decode cX5_verdictOfParts 22 = .ok (.isub, 1) := by decide +kernel
theorem dX5_verdictOfParts_23 : decode cX5_verdictOfParts 23 = .ok (.if_icmp .ne 7, 3) := by decide +kernel
theorem dX5_verdictOfParts_26 : decode cX5_verdictOfParts 26 = .ok (.iconst 1, 1) := by decide +kernel
theorem dX5_verdictOfParts_27 : decode cX5_verdictOfParts 27 = .ok (.goto 4, 3) := by decide +kernel
theorem dX5_verdictOfParts_30 : decode cX5_verdictOfParts 30 = .ok (.iconst 2, 1) := by decide +kernel
theorem dX5_verdictOfParts_31 : decode cX5_verdictOfParts 31 = .ok (.ireturn, 1) := by decide +kernel
theorem dX5_sizeOfParts_0 : decode cX5_sizeOfParts 0 = .ok (.iconst 0, 1) := by decide +kernel
theorem dX5_sizeOfParts_1 : decode cX5_sizeOfParts 1 = .ok (.istore_n 1, 1) := by decide +kernel
theorem dX5_sizeOfParts_2 : decode cX5_sizeOfParts 2 = .ok (.iconst 0, 1) := by decide +kernel
theorem dX5_sizeOfParts_3 : decode cX5_sizeOfParts 3 = .ok (.istore_n 2, 1) := by decide +kernel
theorem dX5_sizeOfParts_4 : decode cX5_sizeOfParts 4 = .ok (.iload_n 2, 1) := by decide +kernel
theorem dX5_sizeOfParts_5 : decode cX5_sizeOfParts 5 = .ok (.aload_n 0, 1) := by decide +kernel
theorem dX5_sizeOfParts_6 : decode cX5_sizeOfParts 6 = .ok (.getfield 22, 3) := by decide +kernel
theorem dX5_sizeOfParts_9 : decode cX5_sizeOfParts 9 = .ok (.if_icmp .ge 18, 3) := by decide +kernel
theorem dX5_sizeOfParts_12 : decode cX5_sizeOfParts 12 = .ok (.iload_n 1, 1) := by decide +kernel
theorem dX5_sizeOfParts_13 : decode cX5_sizeOfParts 13 = .ok (.aload_n 0, 1) := by decide +kernel
theorem dX5_sizeOfParts_14 : decode cX5_sizeOfParts 14 = .ok (.getfield 9, 3) := by decide +kernel
theorem dX5_sizeOfParts_17 : decode cX5_sizeOfParts 17 = .ok (.iload_n 2, 1) := by decide +kernel
theorem dX5_sizeOfParts_18 : decode cX5_sizeOfParts 18 = .ok (.iaload, 1) := by decide +kernel
theorem dX5_sizeOfParts_19 : decode cX5_sizeOfParts 19 = .ok (.iadd, 1) := by decide +kernel
theorem dX5_sizeOfParts_20 : decode cX5_sizeOfParts 20 = .ok (.istore_n 1, 1) := by decide +kernel
theorem dX5_sizeOfParts_21 : decode cX5_sizeOfParts 21 = .ok (.iinc 2 1, 3) := by decide +kernel
theorem dX5_sizeOfParts_24 : decode cX5_sizeOfParts 24 = .ok (.goto (-20), 3) := by decide +kernel
theorem dX5_sizeOfParts_27 : decode cX5_sizeOfParts 27 = .ok (.iload_n 1, 1) := by decide +kernel
theorem dX5_sizeOfParts_28 : decode cX5_sizeOfParts 28 = .ok (.ireturn, 1) := by decide +kernel
theorem dX6_init_0 : decode cX6_init 0 = .ok (.aload_n 0, 1) := by decide +kernel
theorem dX6_init_1 : decode cX6_init 1 = .ok (.invokespecial 3, 3) := by decide +kernel
theorem dX6_init_4 : decode cX6_init 4 = .ok (.aload_n 0, 1) := by decide +kernel
theorem dX6_init_5 : decode cX6_init 5 = .ok (.new 9, 3) := by decide +kernel
theorem dX6_init_8 : decode cX6_init 8 = .ok (.dup, 1) := by decide +kernel
theorem dX6_init_9 : decode cX6_init 9 = .ok (.invokespecial 11, 3) := by decide +kernel
theorem dX6_init_12 : decode cX6_init 12 = .ok (.putfield 12, 3) := by decide +kernel
theorem dX6_init_15 : decode cX6_init 15 = .ok (.aload_n 0, 1) := by decide +kernel
theorem dX6_init_16 : decode cX6_init 16 = .ok (.new 16, 3) := by decide +kernel
theorem dX6_init_19 : decode cX6_init 19 = .ok (.dup, 1) := by decide +kernel
theorem dX6_init_20 : decode cX6_init 20 = .ok (.aload_n 0, 1) := by decide +kernel
theorem dX6_init_21 : decode cX6_init 21 = .ok (.getfield 12, 3) := by decide +kernel
theorem dX6_init_24 : decode cX6_init 24 = .ok (.invokespecial 18, 3) := by decide +kernel
theorem dX6_init_27 : decode cX6_init 27 = .ok (.putfield 21, 3) := by decide +kernel
theorem dX6_init_30 : decode cX6_init 30 = .ok (.aload_n 0, 1) := by decide +kernel
theorem dX6_init_31 : decode cX6_init 31 = .ok (.new 25, 3) := by decide +kernel
theorem dX6_init_34 : decode cX6_init 34 = .ok (.dup, 1) := by decide +kernel
theorem dX6_init_35 : decode cX6_init 35 = .ok (.aload_n 0, 1) := by decide +kernel
theorem dX6_init_36 : decode cX6_init 36 = .ok (.getfield 12, 3) := by decide +kernel
theorem dX6_init_39 : decode cX6_init 39 = .ok (.invokespecial 27, 3) := by decide +kernel
theorem dX6_init_42 : decode cX6_init 42 = .ok (.putfield 28, 3) := by decide +kernel
theorem dX6_init_45 : decode cX6_init 45 = .ok (.aload_n 0, 1) := by decide +kernel
theorem dX6_init_46 : decode cX6_init 46 = .ok (.new 32, 3) := by decide +kernel
theorem dX6_init_49 : decode cX6_init 49 = .ok (.dup, 1) := by decide +kernel
theorem dX6_init_50 : decode cX6_init 50 = .ok (.aload_n 0, 1) := by decide +kernel
theorem dX6_init_51 : decode cX6_init 51 = .ok (.getfield 12, 3) := by decide +kernel
theorem dX6_init_54 : decode cX6_init 54 = .ok (.aload_n 0, 1) := by decide +kernel
theorem dX6_init_55 : decode cX6_init 55 = .ok (.getfield 21, 3) := by decide +kernel
theorem dX6_init_58 : decode cX6_init 58 = .ok (.invokespecial 34, 3) := by decide +kernel
theorem dX6_init_61 : decode cX6_init 61 = .ok (.putfield 37, 3) := by decide +kernel
theorem dX6_init_64 : decode cX6_init 64 = .ok (.aload_n 0, 1) := by decide +kernel
theorem dX6_init_65 : decode cX6_init 65 = .ok (.bipush 64, 2) := by decide +kernel
theorem dX6_init_67 : decode cX6_init 67 = .ok (.newarray .int, 2) := by decide +kernel
theorem dX6_init_69 : decode cX6_init 69 = .ok (.putfield 41, 3) := by decide +kernel
theorem dX6_init_72 : decode cX6_init 72 = .ok (.aload_n 0, 1) := by decide +kernel
theorem dX6_init_73 : decode cX6_init 73 = .ok (.bipush 64, 2) := by decide +kernel
theorem dX6_init_75 : decode cX6_init 75 = .ok (.newarray .int, 2) := by decide +kernel
theorem dX6_init_77 : decode cX6_init 77 = .ok (.putfield 45, 3) := by decide +kernel
theorem dX6_init_80 : decode cX6_init 80 = .ok (.aload_n 0, 1) := by decide +kernel
theorem dX6_init_81 : decode cX6_init 81 = .ok (.iconst 4, 1) := by decide +kernel
theorem dX6_init_82 : decode cX6_init 82 = .ok (.anewarray 48, 3) := by decide +kernel
theorem dX6_init_85 : decode cX6_init 85 = .ok (.putfield 50, 3) := by decide +kernel
theorem dX6_init_88 : decode cX6_init 88 = .ok (.aload_n 0, 1) := by decide +kernel
theorem dX6_init_89 : decode cX6_init 89 = .ok (.new 48, 3) := by decide +kernel
theorem dX6_init_92 : decode cX6_init 92 = .ok (.dup, 1) := by decide +kernel
theorem dX6_init_93 : decode cX6_init 93 = .ok (.invokespecial 54, 3) := by decide +kernel
theorem dX6_init_96 : decode cX6_init 96 = .ok (.putfield 55, 3) := by decide +kernel
theorem dX6_init_99 : decode cX6_init 99 = .ok (.aload_n 0, 1) := by decide +kernel
theorem dX6_init_100 : decode cX6_init 100 = .ok (.new 48, 3) := by decide +kernel
theorem dX6_init_103 : decode cX6_init 103 = .ok (.dup, 1) := by decide +kernel
theorem dX6_init_104 : decode cX6_init 104 = .ok (.invokespecial 54, 3) := by decide +kernel
theorem dX6_init_107 : decode cX6_init 107 = .ok (.putfield 59, 3) := by decide +kernel
theorem dX6_init_110 : decode cX6_init 110 = .ok (.aload_n 0, 1) := by decide +kernel
theorem dX6_init_111 : decode cX6_init 111 = .ok (.new 48, 3) := by decide +kernel
theorem dX6_init_114 : decode cX6_init 114 = .ok (.dup, 1) := by decide +kernel
theorem dX6_init_115 : decode cX6_init 115 = .ok (.invokespecial 54, 3) := by decide +kernel
theorem dX6_init_118 : decode cX6_init 118 = .ok (.putfield 62, 3) := by decide +kernel
theorem dX6_init_121 : decode cX6_init 121 = .ok (.iconst 0, 1) := by decide +kernel
theorem dX6_init_122 : decode cX6_init 122 = .ok (.istore_n 1, 1) := by decide +kernel
theorem dX6_init_123 : decode cX6_init 123 = .ok (.iload_n 1, 1) := by decide +kernel
theorem dX6_init_124 : decode cX6_init 124 = .ok (.iconst 4, 1) := by decide +kernel
theorem dX6_init_125 : decode cX6_init 125 = .ok (.if_icmp .ge 22, 3) := by decide +kernel
theorem dX6_init_128 : decode cX6_init 128 = .ok (.aload_n 0, 1) := by decide +kernel
theorem dX6_init_129 : decode cX6_init 129 = .ok (.getfield 50, 3) := by decide +kernel
theorem dX6_init_132 : decode cX6_init 132 = .ok (.iload_n 1, 1) := by decide +kernel
theorem dX6_init_133 : decode cX6_init 133 = .ok (.new 48, 3) := by decide +kernel
theorem dX6_init_136 : decode cX6_init 136 = .ok (.dup, 1) := by decide +kernel
theorem dX6_init_137 : decode cX6_init 137 = .ok (.invokespecial 54, 3) := by decide +kernel
theorem dX6_init_140 : decode cX6_init 140 = .ok (.aastore, 1) := by decide +kernel
theorem dX6_init_141 : decode cX6_init 141 = .ok (.iinc 1 1, 3) := by decide +kernel
theorem dX6_init_144 : decode cX6_init 144 = .ok (.goto (-21), 3) := by decide +kernel
theorem dX6_init_147 : decode cX6_init 147 = .ok (.return_, 1) := by decide +kernel
theorem dX6_event_0 : decode cX6_event 0 = .ok (.iload_n 1, 1) := by decide +kernel
theorem dX6_event_1 : decode cX6_event 1 = .ok (.ifCond .lt 9, 3) := by decide +kernel
theorem dX6_event_4 : decode cX6_event 4 = .ok (.iload_n 1, 1) := by decide +kernel
theorem dX6_event_5 : decode cX6_event 5 = .ok (.bipush 64, 2) := by decide +kernel
theorem dX6_event_7 : decode cX6_event 7 = .ok (.if_icmp .lt 6, 3) := by decide +kernel
theorem dX6_event_10 : decode cX6_event 10 = .ok (.bipush (-2), 2) := by decide +kernel
theorem dX6_event_12 : decode cX6_event 12 = .ok (.ireturn, 1) := by decide +kernel
theorem dX6_event_13 : decode cX6_event 13 = .ok (.aload_n 0, 1) := by decide +kernel
theorem dX6_event_14 : decode cX6_event 14 = .ok (.getfield 59, 3) := by decide +kernel
theorem dX6_event_17 : decode cX6_event 17 = .ok (.getfield 65, 3) := by decide +kernel
theorem dX6_event_20 : decode cX6_event 20 = .ok (.ifCond .eq 6, 3) := by decide +kernel
theorem dX6_event_23 : decode cX6_event 23 = .ok (.bipush (-4), 2) := by decide +kernel
theorem dX6_event_25 : decode cX6_event 25 = .ok (.ireturn, 1) := by decide +kernel
theorem dX6_event_26 : decode cX6_event 26 = .ok (.aload_n 0, 1) := by decide +kernel
theorem dX6_event_27 : decode cX6_event 27 = .ok (.getfield 59, 3) := by decide +kernel
theorem dX6_event_30 : decode cX6_event 30 = .ok (.getfield 69, 3) := by decide +kernel
theorem dX6_event_33 : decode cX6_event 33 = .ok (.bipush 40, 2) := by decide +kernel
theorem dX6_event_35 : decode cX6_event 35 = .ok (.if_icmp .lt 6, 3) := by decide +kernel
theorem dX6_event_38 : decode cX6_event 38 = .ok (.bipush (-3), 2) := by decide +kernel
theorem dX6_event_40 : decode cX6_event 40 = .ok (.ireturn, 1) := by decide +kernel
theorem dX6_event_41 : decode cX6_event 41 = .ok (.aload_n 0, 1) := by decide +kernel
theorem dX6_event_42 : decode cX6_event 42 = .ok (.getfield 62, 3) := by decide +kernel
theorem dX6_event_45 : decode cX6_event 45 = .ok (.astore_n 2, 1) := by decide +kernel
theorem dX6_event_46 : decode cX6_event 46 = .ok (.aload_n 2, 1) := by decide +kernel
theorem dX6_event_47 : decode cX6_event 47 = .ok (.aload_n 0, 1) := by decide +kernel
theorem dX6_event_48 : decode cX6_event 48 = .ok (.getfield 59, 3) := by decide +kernel
theorem dX6_event_51 : decode cX6_event 51 = .ok (.invokevirtual 73, 3) := by decide +kernel
theorem dX6_event_54 : decode cX6_event 54 = .ok (.iconst 0, 1) := by decide +kernel
theorem dX6_event_55 : decode cX6_event 55 = .ok (.istore_n 3, 1) := by decide +kernel
theorem dX6_event_56 : decode cX6_event 56 = .ok (.iconst 0, 1) := by decide +kernel
theorem dX6_event_57 : decode cX6_event 57 = .ok (.istore 4, 2) := by decide +kernel
theorem dX6_event_59 : decode cX6_event 59 = .ok (.iload 4, 2) := by decide +kernel
theorem dX6_event_61 : decode cX6_event 61 = .ok (.aload_n 0, 1) := by decide +kernel
theorem dX6_event_62 : decode cX6_event 62 = .ok (.getfield 59, 3) := by decide +kernel
theorem dX6_event_65 : decode cX6_event 65 = .ok (.getfield 77, 3) := by decide +kernel
theorem dX6_event_68 : decode cX6_event 68 = .ok (.if_icmp .ge 104, 3) := by decide +kernel
theorem dX6_event_71 : decode cX6_event 71 = .ok (.aload_n 0, 1) := by decide +kernel
theorem dX6_event_72 : decode cX6_event 72 = .ok (.getfield 59, 3) := by decide +kernel
theorem dX6_event_75 : decode cX6_event 75 = .ok (.getfield 80, 3) := by decide +kernel
theorem dX6_event_78 : decode cX6_event 78 = .ok (.iload 4, 2) := by decide +kernel
theorem dX6_event_80 : decode cX6_event 80 = .ok (.aaload, 1) := by decide +kernel
theorem dX6_event_81 : decode cX6_event 81 = .ok (.astore 5, 2) := by decide +kernel
theorem dX6_event_83 : decode cX6_event 83 = .ok (.aload_n 2, 1) := by decide +kernel
theorem dX6_event_84 : decode cX6_event 84 = .ok (.getfield 80, 3) := by decide +kernel
theorem dX6_event_87 : decode cX6_event 87 = .ok (.iload 4, 2) := by decide +kernel
theorem dX6_event_89 : decode cX6_event 89 = .ok (.aaload, 1) := by decide +kernel
theorem dX6_event_90 : decode cX6_event 90 = .ok (.astore 6, 2) := by decide +kernel
theorem dX6_event_92 : decode cX6_event 92 = .ok (.aload 5, 2) := by decide +kernel
theorem dX6_event_94 : decode cX6_event 94 = .ok (.getfield 84, 3) := by decide +kernel
theorem dX6_event_97 : decode cX6_event 97 = .ok (.ifCond .eq 69, 3) := by decide +kernel
theorem dX6_event_100 : decode cX6_event 100 = .ok (.aload_n 0, 1) := by decide +kernel
theorem dX6_event_101 : decode cX6_event 101 = .ok (.aload 5, 2) := by decide +kernel
theorem dX6_event_103 : decode cX6_event 103 = .ok (.aload 6, 2) := by decide +kernel
theorem dX6_event_105 : decode cX6_event 105 = .ok (.iload_n 1, 1) := by decide +kernel
theorem dX6_event_106 : decode cX6_event 106 = .ok (.invokevirtual 89, 3) := by decide +kernel
theorem dX6_event_109 : decode cX6_event 109 = .ok (.ifCond .ne 6, 3) := by decide +kernel
theorem dX6_event_112 : decode cX6_event 112 = .ok (.bipush (-3), 2) := by decide +kernel
theorem dX6_event_114 : decode cX6_event 114 = .ok (.ireturn, 1) := by decide +kernel
theorem dX6_event_115 : decode cX6_event 115 = .ok (.aload 5, 2) := by decide +kernel
theorem dX6_event_117 : decode cX6_event 117 = .ok (.getfield 93, 3) := by decide +kernel
theorem dX6_event_120 : decode cX6_event 120 = .ok (.iconst 2, 1) := by decide +kernel
theorem dX6_event_121 : decode cX6_event 121 = .ok (.if_icmp .ne 45, 3) := by decide +kernel
theorem dX6_event_124 : decode cX6_event 124 = .ok (.aload 6, 2) := by decide +kernel
theorem dX6_event_126 : decode cX6_event 126 = .ok (.aload_n 0, 1) := by decide +kernel
theorem dX6_event_127 : decode cX6_event 127 = .ok (.getfield 59, 3) := by decide +kernel
theorem dX6_event_130 : decode cX6_event 130 = .ok (.getfield 69, 3) := by decide +kernel
theorem dX6_event_133 : decode cX6_event 133 = .ok (.invokevirtual 96, 3) := by decide +kernel
theorem dX6_event_136 : decode cX6_event 136 = .ok (.ifCond .eq 30, 3) := by decide +kernel
theorem dX6_event_139 : decode cX6_event 139 = .ok (.aload 6, 2) := by decide +kernel
theorem dX6_event_141 : decode cX6_event 141 = .ok (.aload 6, 2) := by decide +kernel
theorem dX6_event_143 : decode cX6_event 143 = .ok (.getfield 93, 3) := by decide +kernel
theorem dX6_event_146 : decode cX6_event 146 = .ok (.ifCond .ne 13, 3) := by decide +kernel
theorem dX6_event_149 : decode cX6_event 149 = .ok (.aload_n 0, 1) := by decide +kernel
theorem dX6_event_150 : decode cX6_event 150 = .ok (.aload 5, 2) := by decide +kernel
theorem dX6_event_152 : decode cX6_event 152 = .ok (.iload_n 1, 1) := by decide +kernel
theorem dX6_event_153 : decode cX6_event 153 = .ok (.invokevirtual 100, 3) := by decide +kernel
theorem dX6_event_156 : decode cX6_event 156 = .ok (.goto 4, 3) := by decide +kernel
theorem dX6_event_159 : decode cX6_event 159 = .ok (.iconst 0, 1) := by decide +kernel
theorem dX6_event_160 : decode cX6_event 160 = .ok (.putfield 104, 3) := by decide +kernel
theorem dX6_event_163 : decode cX6_event 163 = .ok (.iinc 3 1, 3) := by decide +kernel
theorem dX6_event_166 : decode cX6_event 166 = .ok (.iinc 4 1, 3) := by decide +kernel
theorem dX6_event_169 : decode cX6_event 169 = .ok (.goto (-110), 3) := by decide +kernel
theorem dX6_event_172 : decode cX6_event 172 = .ok (.aload_n 2, 1) := by decide +kernel
theorem dX6_event_173 : decode cX6_event 173 = .ok (.getfield 107, 3) := by decide +kernel
theorem dX6_event_176 : decode cX6_event 176 = .ok (.aload_n 2, 1) := by decide +kernel
theorem dX6_event_177 : decode cX6_event 177 = .ok (.getfield 69, 3) := by decide +kernel
theorem dX6_event_180 : decode cX6_event 180 = .ok (.iload_n 1, 1) := by decide +kernel
theorem dX6_event_181 : decode cX6_event 181 = .ok (.iastore, 1) := by decide +kernel
theorem dX6_event_182 : decode cX6_event 182 = .ok (.aload_n 2, 1) := by decide +kernel
theorem dX6_event_183 : decode cX6_event 183 = .ok (.dup, 1) := by decide +kernel
theorem dX6_event_184 : decode cX6_event 184 = .ok (.getfield 69, 3) := by decide +kernel
theorem dX6_event_187 : decode cX6_event 187 = .ok (.iconst 1, 1) := by decide +kernel
theorem dX6_event_188 : decode cX6_event 188 = .ok (.iadd, 1) := by decide +kernel
theorem dX6_event_189 : decode cX6_event 189 = .ok (.putfield 69, 3) := by decide +kernel
theorem dX6_event_192 : decode cX6_event 192 = .ok (.aload_n 0, 1) := by decide +kernel
theorem dX6_event_193 : decode cX6_event 193 = .ok (.invokevirtual 110, 3) := by decide +kernel
theorem dX6_event_196 : decode cX6_event 196 = .ok (.iload_n 3, 1) := by decide +kernel
theorem dX6_event_197 : decode cX6_event 197 = .ok (.ireturn, 1) := by decide +kernel
theorem dX6_end_0 : decode cX6_end 0 = .ok (.aload_n 0, 1) := by decide +kernel
theorem dX6_end_1 : decode cX6_end 1 = .ok (.getfield 59, 3) := by decide +kernel
theorem dX6_end_4 : decode cX6_end 4 = .ok (.getfield 65, 3) := by decide +kernel
theorem dX6_end_7 : decode cX6_end 7 = .ok (.ifCond .eq 6, 3) := by decide +kernel
theorem dX6_end_10 : decode cX6_end 10 = .ok (.bipush (-4), 2) := by decide +kernel
theorem dX6_end_12 : decode cX6_end 12 = .ok (.ireturn, 1) := by decide +kernel
theorem dX6_end_13 : decode cX6_end 13 = .ok (.aload_n 0, 1) := by decide +kernel
theorem dX6_end_14 : decode cX6_end 14 = .ok (.getfield 62, 3) := by decide +kernel
theorem dX6_end_17 : decode cX6_end 17 = .ok (.astore_n 1, 1) := by decide +kernel
theorem dX6_end_18 : decode cX6_end 18 = .ok (.aload_n 1, 1) := by decide +kernel
theorem dX6_end_19 : decode cX6_end 19 = .ok (.aload_n 0, 1) := by decide +kernel
theorem dX6_end_20 : decode cX6_end 20 = .ok (.getfield 59, 3) := by decide +kernel
theorem dX6_end_23 : decode cX6_end 23 = .ok (.invokevirtual 73, 3) := by decide +kernel
theorem dX6_end_26 : decode cX6_end 26 = .ok (.aload_n 1, 1) := by decide +kernel
theorem dX6_end_27 : decode cX6_end 27 = .ok (.iconst 1, 1) := by decide +kernel
theorem dX6_end_28 : decode cX6_end 28 = .ok (.putfield 65, 3) := by decide +kernel
theorem dX6_end_31 : decode cX6_end 31 = .ok (.iconst 0, 1) := by decide +kernel
theorem dX6_end_32 : decode cX6_end 32 = .ok (.istore_n 2, 1) := by decide +kernel
theorem dX6_end_33 : decode cX6_end 33 = .ok (.iconst 0, 1) := by decide +kernel
theorem dX6_end_34 : decode cX6_end 34 = .ok (.istore_n 3, 1) := by decide +kernel
theorem dX6_end_35 : decode cX6_end 35 = .ok (.iload_n 3, 1) := by decide +kernel
theorem dX6_end_36 : decode cX6_end 36 = .ok (.aload_n 1, 1) := by decide +kernel
theorem dX6_end_37 : decode cX6_end 37 = .ok (.getfield 77, 3) := by decide +kernel
theorem dX6_end_40 : decode cX6_end 40 = .ok (.if_icmp .ge 58, 3) := by decide +kernel
theorem dX6_end_43 : decode cX6_end 43 = .ok (.aload_n 1, 1) := by decide +kernel
theorem dX6_end_44 : decode cX6_end 44 = .ok (.getfield 80, 3) := by decide +kernel
theorem dX6_end_47 : decode cX6_end 47 = .ok (.iload_n 3, 1) := by decide +kernel
theorem dX6_end_48 : decode cX6_end 48 = .ok (.aaload, 1) := by decide +kernel
theorem dX6_end_49 : decode cX6_end 49 = .ok (.astore 4, 2) := by decide +kernel
theorem dX6_end_51 : decode cX6_end 51 = .ok (.aload 4, 2) := by decide +kernel
theorem dX6_end_53 : decode cX6_end 53 = .ok (.getfield 84, 3) := by decide +kernel
theorem dX6_end_56 : decode cX6_end 56 = .ok (.ifCond .eq 36, 3) := by decide +kernel
theorem dX6_end_59 : decode cX6_end 59 = .ok (.aload 4, 2) := by decide +kernel
theorem dX6_end_61 : decode cX6_end 61 = .ok (.getfield 93, 3) := by decide +kernel
theorem dX6_end_64 : decode cX6_end 64 = .ok (.iconst 2, 1) := by decide +kernel
theorem dX6_end_65 : decode cX6_end 65 = .ok (.if_icmp .ne 27, 3) := by decide +kernel
theorem dX6_end_68 : decode cX6_end 68 = .ok (.aload_n 0, 1) := by decide +kernel
theorem dX6_end_69 : decode cX6_end 69 = .ok (.aload 4, 2) := by decide +kernel
theorem dX6_end_71 : decode cX6_end 71 = .ok (.invokevirtual 113, 3) := by decide +kernel
theorem dX6_end_74 : decode cX6_end 74 = .ok (.aload 4, 2) := by decide +kernel
theorem dX6_end_76 : decode cX6_end 76 = .ok (.aload 4, 2) := by decide +kernel
theorem dX6_end_78 : decode cX6_end 78 = .ok (.invokevirtual 117, 3) := by decide +kernel
theorem dX6_end_81 : decode cX6_end 81 = .ok (.putfield 93, 3) := by decide +kernel
theorem dX6_end_84 : decode cX6_end 84 = .ok (.iload_n 2, 1) := by decide +kernel
theorem dX6_end_85 : decode cX6_end 85 = .ok (.aload 4, 2) := by decide +kernel
theorem dX6_end_87 : decode cX6_end 87 = .ok (.getfield 93, 3) := by decide +kernel
theorem dX6_end_90 : decode cX6_end 90 = .ok (.iadd, 1) := by decide +kernel
theorem dX6_end_91 : decode cX6_end 91 = .ok (.istore_n 2, 1) := by decide +kernel
theorem dX6_end_92 : decode cX6_end 92 = .ok (.iinc 3 1, 3) := by decide +kernel
theorem dX6_end_95 : decode cX6_end 95 = .ok (.goto (-60), 3) := by decide +kernel
theorem dX6_end_98 : decode cX6_end 98 = .ok (.aload_n 0, 1) := by decide +kernel
theorem dX6_end_99 : decode cX6_end 99 = .ok (.invokevirtual 110, 3) := by decide +kernel
theorem dX6_end_102 : decode cX6_end 102 = .ok (.iload_n 2, 1) := by decide +kernel
theorem dX6_end_103 : decode cX6_end 103 = .ok (.ireturn, 1) := by decide +kernel
theorem dX6_addWish_0 : decode cX6_addWish 0 = .ok (.aload_n 0, 1) := by decide +kernel
theorem dX6_addWish_1 : decode cX6_addWish 1 = .ok (.getfield 37, 3) := by decide +kernel
theorem dX6_addWish_4 : decode cX6_addWish 4 = .ok (.invokevirtual 121, 3) := by decide +kernel
theorem dX6_addWish_7 : decode cX6_addWish 7 = .ok (.istore_n 1, 1) := by decide +kernel
theorem dX6_addWish_8 : decode cX6_addWish 8 = .ok (.iload_n 1, 1) := by decide +kernel
theorem dX6_addWish_9 : decode cX6_addWish 9 = .ok (.ifCond .lt 8, 3) := by decide +kernel
theorem dX6_addWish_12 : decode cX6_addWish 12 = .ok (.bipush (-100), 2) := by decide +kernel
theorem dX6_addWish_14 : decode cX6_addWish 14 = .ok (.iload_n 1, 1) := by decide +kernel
theorem dX6_addWish_15 : decode cX6_addWish 15 = .ok (.isub, 1) := by decide +kernel
theorem dX6_addWish_16 : decode cX6_addWish 16 = .ok (.ireturn, 1) := by decide +kernel
theorem dX6_addWish_17 : decode cX6_addWish 17 = .ok (.aload_n 0, 1) := by decide +kernel
theorem dX6_addWish_18 : decode cX6_addWish 18 = .ok (.getfield 59, 3) := by decide +kernel
theorem dX6_addWish_21 : decode cX6_addWish 21 = .ok (.getfield 65, 3) := by decide +kernel
theorem dX6_addWish_24 : decode cX6_addWish 24 = .ok (.ifCond .eq 6, 3) := by decide +kernel
theorem dX6_addWish_27 : decode cX6_addWish 27 = .ok (.bipush (-4), 2) := by decide +kernel
theorem dX6_addWish_29 : decode cX6_addWish 29 = .ok (.ireturn, 1) := by decide +kernel
theorem dX6_addWish_30 : decode cX6_addWish 30 = .ok (.aload_n 0, 1) := by decide +kernel
theorem dX6_addWish_31 : decode cX6_addWish 31 = .ok (.getfield 12, 3) := by decide +kernel
theorem dX6_addWish_34 : decode cX6_addWish 34 = .ok (.bipush 16, 2) := by decide +kernel
theorem dX6_addWish_36 : decode cX6_addWish 36 = .ok (.invokevirtual 124, 3) := by decide +kernel
theorem dX6_addWish_39 : decode cX6_addWish 39 = .ok (.aload_n 0, 1) := by decide +kernel
theorem dX6_addWish_40 : decode cX6_addWish 40 = .ok (.aload_n 0, 1) := by decide +kernel
theorem dX6_addWish_41 : decode cX6_addWish 41 = .ok (.getfield 37, 3) := by decide +kernel
theorem dX6_addWish_44 : decode cX6_addWish 44 = .ok (.invokevirtual 128, 3) := by decide +kernel
theorem dX6_addWish_47 : decode cX6_addWish 47 = .ok (.invokevirtual 131, 3) := by decide +kernel
theorem dX6_addWish_50 : decode cX6_addWish 50 = .ok (.ireturn, 1) := by decide +kernel
theorem dX6_join_0 : decode cX6_join 0 = .ok (.aload_n 0, 1) := by decide +kernel
theorem dX6_join_1 : decode cX6_join 1 = .ok (.getfield 59, 3) := by decide +kernel
theorem dX6_join_4 : decode cX6_join 4 = .ok (.iload_n 1, 1) := by decide +kernel
theorem dX6_join_5 : decode cX6_join 5 = .ok (.invokevirtual 135, 3) := by decide +kernel
theorem dX6_join_8 : decode cX6_join 8 = .ok (.astore 4, 2) := by decide +kernel
theorem dX6_join_10 : decode cX6_join 10 = .ok (.aload_n 0, 1) := by decide +kernel
theorem dX6_join_11 : decode cX6_join 11 = .ok (.getfield 59, 3) := by decide +kernel
theorem dX6_join_14 : decode cX6_join 14 = .ok (.iload_n 2, 1) := by decide +kernel
theorem dX6_join_15 : decode cX6_join 15 = .ok (.invokevirtual 135, 3) := by decide +kernel
theorem dX6_join_18 : decode cX6_join 18 = .ok (.astore 5, 2) := by decide +kernel
theorem dX6_join_20 : decode cX6_join 20 = .ok (.aload 4, 2) := by decide +kernel
theorem dX6_join_22 : decode cX6_join 22 = .ok (.ifnull 8, 3) := by decide +kernel
theorem dX6_join_25 : decode cX6_join 25 = .ok (.aload 5, 2) := by decide +kernel
theorem dX6_join_27 : decode cX6_join 27 = .ok (.ifnonnull 5, 3) := by decide +kernel
theorem dX6_join_30 : decode cX6_join 30 = .ok (.iconst (-1), 1) := by decide +kernel
theorem dX6_join_31 : decode cX6_join 31 = .ok (.ireturn, 1) := by decide +kernel
theorem dX6_join_32 : decode cX6_join 32 = .ok (.aload_n 0, 1) := by decide +kernel
theorem dX6_join_33 : decode cX6_join 33 = .ok (.getfield 59, 3) := by decide +kernel
theorem dX6_join_36 : decode cX6_join 36 = .ok (.getfield 65, 3) := by decide +kernel
theorem dX6_join_39 : decode cX6_join 39 = .ok (.ifCond .eq 6, 3) := by decide +kernel
theorem dX6_join_42 : decode cX6_join 42 = .ok (.bipush (-4), 2) := by decide +kernel
theorem dX6_join_44 : decode cX6_join 44 = .ok (.ireturn, 1) := by decide +kernel
theorem dX6_join_45 : decode cX6_join 45 = .ok (.aload_n 0, 1) := by decide +kernel
theorem dX6_join_46 : decode cX6_join 46 = .ok (.getfield 12, 3) := by decide +kernel
theorem dX6_join_49 : decode cX6_join 49 = .ok (.bipush 16, 2) := by decide +kernel
theorem dX6_join_51 : decode cX6_join 51 = .ok (.invokevirtual 124, 3) := by decide +kernel
theorem dX6_join_54 : decode cX6_join 54 = .ok (.aload_n 0, 1) := by decide +kernel
theorem dX6_join_55 : decode cX6_join 55 = .ok (.aload 4, 2) := by decide +kernel
theorem dX6_join_57 : decode cX6_join 57 = .ok (.invokevirtual 139, 3) := by decide +kernel
theorem dX6_join_60 : decode cX6_join 60 = .ok (.istore 6, 2) := by decide +kernel
theorem dX6_join_62 : decode cX6_join 62 = .ok (.aload_n 0, 1) := by decide +kernel
theorem dX6_join_63 : decode cX6_join 63 = .ok (.aload 5, 2) := by decide +kernel
theorem dX6_join_65 : decode cX6_join 65 = .ok (.invokevirtual 139, 3) := by decide +kernel
theorem dX6_join_68 : decode cX6_join 68 = .ok (.istore 7, 2) := by decide +kernel
theorem dX6_join_70 : decode cX6_join 70 = .ok (.aload_n 0, 1) := by decide +kernel
theorem dX6_join_71 : decode cX6_join 71 = .ok (.aload_n 0, 1) := by decide +kernel
theorem dX6_join_72 : decode cX6_join 72 = .ok (.getfield 21, 3) := by decide +kernel
theorem dX6_join_75 : decode cX6_join 75 = .ok (.iload_n 3, 1) := by decide +kernel
theorem dX6_join_76 : decode cX6_join 76 = .ok (.ifCond .eq 8, 3) := by decide +kernel
theorem dX6_join_79 : decode cX6_join 79 = .ok (.bipush 21, 2) := by decide +kernel
theorem dX6_join_81 : decode cX6_join 81 = .ok (.goto 5, 3) := by decide +kernel
theorem dX6_join_84 : decode cX6_join 84 = .ok (.bipush 20, 2) := by decide +kernel
theorem dX6_join_86 : decode cX6_join 86 = .ok (.iload 6, 2) := by decide +kernel
theorem dX6_join_88 : decode cX6_join 88 = .ok (.iload 7, 2) := by decide +kernel
theorem dX6_join_90 : decode cX6_join 90 = .ok (.invokevirtual 143, 3) := by decide +kernel
theorem dX6_join_93 : decode cX6_join 93 = .ok (.invokevirtual 131, 3) := by decide +kernel
theorem dX6_join_96 : decode cX6_join 96 = .ok (.ireturn, 1) := by decide +kernel
theorem dX6_removeWish_0 : decode cX6_removeWish 0 = .ok (.aload_n 0, 1) := by decide +kernel
theorem dX6_removeWish_1 : decode cX6_removeWish 1 = .ok (.getfield 59, 3) := by decide +kernel
theorem dX6_removeWish_4 : decode cX6_removeWish 4 = .ok (.iload_n 1, 1) := by decide +kernel
theorem dX6_removeWish_5 : decode cX6_removeWish 5 = .ok (.invokevirtual 135, 3) := by decide +kernel
theorem dX6_removeWish_8 : decode cX6_removeWish 8 = .ok (.ifnonnull 5, 3) := by decide +kernel
theorem dX6_removeWish_11 : decode cX6_removeWish 11 = .ok (.iconst (-1), 1) := by decide +kernel
theorem dX6_removeWish_12 : decode cX6_removeWish 12 = .ok (.ireturn, 1) := by decide +kernel
theorem dX6_removeWish_13 : decode cX6_removeWish 13 = .ok (.aload_n 0, 1) := by decide +kernel
theorem dX6_removeWish_14 : decode cX6_removeWish 14 = .ok (.getfield 62, 3) := by decide +kernel
theorem dX6_removeWish_17 : decode cX6_removeWish 17 = .ok (.astore_n 2, 1) := by decide +kernel
theorem dX6_removeWish_18 : decode cX6_removeWish 18 = .ok (.aload_n 2, 1) := by decide +kernel
theorem dX6_removeWish_19 : decode cX6_removeWish 19 = .ok (.aload_n 0, 1) := by decide +kernel
theorem dX6_removeWish_20 : decode cX6_removeWish 20 = .ok (.getfield 59, 3) := by decide +kernel
theorem dX6_removeWish_23 : decode cX6_removeWish 23 = .ok (.invokevirtual 73, 3) := by decide +kernel
theorem dX6_removeWish_26 : decode cX6_removeWish 26 = .ok (.aload_n 2, 1) := by decide +kernel
theorem dX6_removeWish_27 : decode cX6_removeWish 27 = .ok (.getfield 80, 3) := by decide +kernel
theorem dX6_removeWish_30 : decode cX6_removeWish 30 = .ok (.iload_n 1, 1) := by decide +kernel
theorem dX6_removeWish_31 : decode cX6_removeWish 31 = .ok (.aaload, 1) := by decide +kernel
theorem dX6_removeWish_32 : decode cX6_removeWish 32 = .ok (.iconst 0, 1) := by decide +kernel
theorem dX6_removeWish_33 : decode cX6_removeWish 33 = .ok (.putfield 84, 3) := by decide +kernel
theorem dX6_removeWish_36 : decode cX6_removeWish 36 = .ok (.aload_n 0, 1) := by decide +kernel
theorem dX6_removeWish_37 : decode cX6_removeWish 37 = .ok (.invokevirtual 110, 3) := by decide +kernel
theorem dX6_removeWish_40 : decode cX6_removeWish 40 = .ok (.aload_n 0, 1) := by decide +kernel
theorem dX6_removeWish_41 : decode cX6_removeWish 41 = .ok (.getfield 59, 3) := by decide +kernel
theorem dX6_removeWish_44 : decode cX6_removeWish 44 = .ok (.invokevirtual 147, 3) := by decide +kernel
theorem dX6_removeWish_47 : decode cX6_removeWish 47 = .ok (.ireturn, 1) := by decide +kernel
theorem dX6_type_0 : decode cX6_type 0 = .ok (.aload_n 0, 1) := by decide +kernel
theorem dX6_type_1 : decode cX6_type 1 = .ok (.getfield 37, 3) := by decide +kernel
theorem dX6_type_4 : decode cX6_type 4 = .ok (.iload_n 1, 1) := by decide +kernel
theorem dX6_type_5 : decode cX6_type 5 = .ok (.invokevirtual 150, 3) := by decide +kernel
theorem dX6_type_8 : decode cX6_type 8 = .ok (.ifCond .eq 13, 3) := by decide +kernel
theorem dX6_type_11 : decode cX6_type 11 = .ok (.aload_n 0, 1) := by decide +kernel
theorem dX6_type_12 : decode cX6_type 12 = .ok (.getfield 37, 3) := by decide +kernel
theorem dX6_type_15 : decode cX6_type 15 = .ok (.getfield 154, 3) := by decide +kernel
theorem dX6_type_18 : decode cX6_type 18 = .ok (.goto 5, 3) := by decide +kernel
theorem dX6_type_21 : decode cX6_type 21 = .ok (.bipush (-3), 2) := by decide +kernel
theorem dX6_type_23 : decode cX6_type 23 = .ok (.ireturn, 1) := by decide +kernel
theorem dX6_clearText_0 : decode cX6_clearText 0 = .ok (.aload_n 0, 1) := by decide +kernel
theorem dX6_clearText_1 : decode cX6_clearText 1 = .ok (.getfield 37, 3) := by decide +kernel
theorem dX6_clearText_4 : decode cX6_clearText 4 = .ok (.getfield 154, 3) := by decide +kernel
theorem dX6_clearText_7 : decode cX6_clearText 7 = .ok (.istore_n 1, 1) := by decide +kernel
theorem dX6_clearText_8 : decode cX6_clearText 8 = .ok (.aload_n 0, 1) := by decide +kernel
theorem dX6_clearText_9 : decode cX6_clearText 9 = .ok (.getfield 37, 3) := by decide +kernel
theorem dX6_clearText_12 : decode cX6_clearText 12 = .ok (.iconst 0, 1) := by decide +kernel
theorem dX6_clearText_13 : decode cX6_clearText 13 = .ok (.putfield 154, 3) := by decide +kernel
theorem dX6_clearText_16 : decode cX6_clearText 16 = .ok (.iload_n 1, 1) := by decide +kernel
theorem dX6_clearText_17 : decode cX6_clearText 17 = .ok (.ireturn, 1) := by decide +kernel
theorem dX6_undo_0 : decode cX6_undo 0 = .ok (.aload_n 0, 1) := by decide +kernel
theorem dX6_undo_1 : decode cX6_undo 1 = .ok (.getfield 157, 3) := by decide +kernel
theorem dX6_undo_4 : decode cX6_undo 4 = .ok (.ifCond .ne 6, 3) := by decide +kernel
theorem dX6_undo_7 : decode cX6_undo 7 = .ok (.bipush (-5), 2) := by decide +kernel
theorem dX6_undo_9 : decode cX6_undo 9 = .ok (.ireturn, 1) := by decide +kernel
theorem dX6_undo_10 : decode cX6_undo 10 = .ok (.aload_n 0, 1) := by decide +kernel
theorem dX6_undo_11 : decode cX6_undo 11 = .ok (.dup, 1) := by decide +kernel
theorem dX6_undo_12 : decode cX6_undo 12 = .ok (.getfield 157, 3) := by decide +kernel
theorem dX6_undo_15 : decode cX6_undo 15 = .ok (.iconst 1, 1) := by decide +kernel
theorem dX6_undo_16 : decode cX6_undo 16 = .ok (.isub, 1) := by decide +kernel
theorem dX6_undo_17 : decode cX6_undo 17 = .ok (.putfield 157, 3) := by decide +kernel
theorem dX6_undo_20 : decode cX6_undo 20 = .ok (.aload_n 0, 1) := by decide +kernel
theorem dX6_undo_21 : decode cX6_undo 21 = .ok (.getfield 50, 3) := by decide +kernel
theorem dX6_undo_24 : decode cX6_undo 24 = .ok (.aload_n 0, 1) := by decide +kernel
theorem dX6_undo_25 : decode cX6_undo 25 = .ok (.getfield 157, 3) := by decide +kernel
theorem dX6_undo_28 : decode cX6_undo 28 = .ok (.aaload, 1) := by decide +kernel
theorem dX6_undo_29 : decode cX6_undo 29 = .ok (.astore_n 1, 1) := by decide +kernel
theorem dX6_undo_30 : decode cX6_undo 30 = .ok (.aload_n 0, 1) := by decide +kernel
theorem dX6_undo_31 : decode cX6_undo 31 = .ok (.getfield 50, 3) := by decide +kernel
theorem dX6_undo_34 : decode cX6_undo 34 = .ok (.aload_n 0, 1) := by decide +kernel
theorem dX6_undo_35 : decode cX6_undo 35 = .ok (.getfield 157, 3) := by decide +kernel
theorem dX6_undo_38 : decode cX6_undo 38 = .ok (.aload_n 0, 1) := by decide +kernel
theorem dX6_undo_39 : decode cX6_undo 39 = .ok (.getfield 59, 3) := by decide +kernel
theorem dX6_undo_42 : decode cX6_undo 42 = .ok (.aastore, 1) := by decide +kernel
theorem dX6_undo_43 : decode cX6_undo 43 = .ok (.aload_n 0, 1) := by decide +kernel
theorem dX6_undo_44 : decode cX6_undo 44 = .ok (.aload_n 1, 1) := by decide +kernel
theorem dX6_undo_45 : decode cX6_undo 45 = .ok (.putfield 59, 3) := by decide +kernel
theorem dX6_undo_48 : decode cX6_undo 48 = .ok (.aload_n 0, 1) := by decide +kernel
theorem dX6_undo_49 : decode cX6_undo 49 = .ok (.getfield 157, 3) := by decide +kernel
theorem dX6_undo_52 : decode cX6_undo 52 = .ok (.ireturn, 1) := by decide +kernel
theorem dX6_keep_0 : decode cX6_keep 0 = .ok (.aload_n 0, 1) := by decide +kernel
theorem dX6_keep_1 : decode cX6_keep 1 = .ok (.getfield 55, 3) := by decide +kernel
theorem dX6_keep_4 : decode cX6_keep 4 = .ok (.aload_n 0, 1) := by decide +kernel
theorem dX6_keep_5 : decode cX6_keep 5 = .ok (.getfield 59, 3) := by decide +kernel
theorem dX6_keep_8 : decode cX6_keep 8 = .ok (.invokevirtual 73, 3) := by decide +kernel
theorem dX6_keep_11 : decode cX6_keep 11 = .ok (.aload_n 0, 1) := by decide +kernel
theorem dX6_keep_12 : decode cX6_keep 12 = .ok (.iconst 1, 1) := by decide +kernel
theorem dX6_keep_13 : decode cX6_keep 13 = .ok (.putfield 160, 3) := by decide +kernel
theorem dX6_keep_16 : decode cX6_keep 16 = .ok (.aload_n 0, 1) := by decide +kernel
theorem dX6_keep_17 : decode cX6_keep 17 = .ok (.getfield 59, 3) := by decide +kernel
theorem dX6_keep_20 : decode cX6_keep 20 = .ok (.getfield 69, 3) := by decide +kernel
theorem dX6_keep_23 : decode cX6_keep 23 = .ok (.ireturn, 1) := by decide +kernel
theorem dX6_restore_0 : decode cX6_restore 0 = .ok (.aload_n 0, 1) := by decide +kernel
theorem dX6_restore_1 : decode cX6_restore 1 = .ok (.getfield 160, 3) := by decide +kernel
theorem dX6_restore_4 : decode cX6_restore 4 = .ok (.ifCond .ne 6, 3) := by decide +kernel
theorem dX6_restore_7 : decode cX6_restore 7 = .ok (.bipush (-5), 2) := by decide +kernel
theorem dX6_restore_9 : decode cX6_restore 9 = .ok (.ireturn, 1) := by decide +kernel
theorem dX6_restore_10 : decode cX6_restore 10 = .ok (.aload_n 0, 1) := by decide +kernel
theorem dX6_restore_11 : decode cX6_restore 11 = .ok (.getfield 62, 3) := by decide +kernel
theorem dX6_restore_14 : decode cX6_restore 14 = .ok (.aload_n 0, 1) := by decide +kernel
theorem dX6_restore_15 : decode cX6_restore 15 = .ok (.getfield 55, 3) := by decide +kernel
theorem dX6_restore_18 : decode cX6_restore 18 = .ok (.invokevirtual 73, 3) := by decide +kernel
theorem dX6_restore_21 : decode cX6_restore 21 = .ok (.aload_n 0, 1) := by decide +kernel
theorem dX6_restore_22 : decode cX6_restore 22 = .ok (.invokevirtual 110, 3) := by decide +kernel
theorem dX6_restore_25 : decode cX6_restore 25 = .ok (.aload_n 0, 1) := by decide +kernel
theorem dX6_restore_26 : decode cX6_restore 26 = .ok (.getfield 59, 3) := by decide +kernel
theorem dX6_restore_29 : decode cX6_restore 29 = .ok (.getfield 69, 3) := by decide +kernel
theorem dX6_restore_32 : decode cX6_restore 32 = .ok (.ireturn, 1) := by decide +kernel
theorem dX6_wish_0 : decode cX6_wish 0 = .ok (.aload_n 0, 1) := by decide +kernel
theorem dX6_wish_1 : decode cX6_wish 1 = .ok (.getfield 59, 3) := by decide +kernel
theorem dX6_wish_4 : decode cX6_wish 4 = .ok (.iload_n 1, 1) := by decide +kernel
theorem dX6_wish_5 : decode cX6_wish 5 = .ok (.invokevirtual 135, 3) := by decide +kernel
theorem dX6_wish_8 : decode cX6_wish 8 = .ok (.astore_n 3, 1) := by decide +kernel
theorem dX6_wish_9 : decode cX6_wish 9 = .ok (.aload_n 3, 1) := by decide +kernel
theorem dX6_wish_10 : decode cX6_wish 10 = .ok (.ifnonnull 5, 3) := by decide +kernel
theorem dX6_wish_13 : decode cX6_wish 13 = .ok (.iconst (-1), 1) := by decide +kernel
theorem dX6_wish_14 : decode cX6_wish 14 = .ok (.ireturn, 1) := by decide +kernel
theorem dX6_wish_15 : decode cX6_wish 15 = .ok (.iload_n 2, 1) := by decide +kernel
theorem dX6_wish_16 : decode cX6_wish 16 = .ok (.tableswitch 100 0 8 #[52, 57, 62, 68, 74, 79, 84, 90, 95], 52) := by decide +kernel
theorem dX6_wish_68 : decode cX6_wish 68 = .ok (.aload_n 3, 1) := by decide +kernel
theorem dX6_wish_69 : decode cX6_wish 69 = .ok (.getfield 93, 3) := by decide +kernel
theorem dX6_wish_72 : decode cX6_wish 72 = .ok (.ireturn, 1) := by decide +kernel
theorem dX6_wish_73 : decode cX6_wish 73 = .ok (.aload_n 3, 1) := by decide +kernel
theorem dX6_wish_74 : decode cX6_wish 74 = .ok (.getfield 163, 3) := by decide +kernel
theorem dX6_wish_77 : decode cX6_wish 77 = .ok (.ireturn, 1) := by decide +kernel
theorem dX6_wish_78 : decode cX6_wish 78 = .ok (.aload_n 3, 1) := by decide +kernel
theorem dX6_wish_79 : decode cX6_wish 79 = .ok (.iconst 0, 1) := by decide +kernel
theorem dX6_wish_80 : decode cX6_wish 80 = .ok (.invokevirtual 166, 3) := by decide +kernel
theorem dX6_wish_83 : decode cX6_wish 83 = .ok (.ireturn, 1) := by decide +kernel
theorem dX6_wish_84 : decode cX6_wish 84 = .ok (.aload_n 3, 1) := by decide +kernel
theorem dX6_wish_85 : decode cX6_wish 85 = .ok (.iconst 1, 1) := by decide +kernel
theorem dX6_wish_86 : decode cX6_wish 86 = .ok (.invokevirtual 166, 3) := by decide +kernel
theorem dX6_wish_89 : decode cX6_wish 89 = .ok (.ireturn, 1) := by decide +kernel
theorem dX6_wish_90 : decode cX6_wish 90 = .ok (.aload_n 3, 1) := by decide +kernel
theorem dX6_wish_91 : decode cX6_wish 91 = .ok (.getfield 169, 3) := by decide +kernel
theorem dX6_wish_94 : decode cX6_wish 94 = .ok (.ireturn, 1) := by decide +kernel
theorem dX6_wish_95 : decode cX6_wish 95 = .ok (.aload_n 3, 1) := by decide +kernel
theorem dX6_wish_96 : decode cX6_wish 96 = .ok (.getfield 104, 3) := by decide +kernel
theorem dX6_wish_99 : decode cX6_wish 99 = .ok (.ireturn, 1) := by decide +kernel
theorem dX6_wish_100 : decode cX6_wish 100 = .ok (.aload_n 0, 1) := by decide +kernel
theorem dX6_wish_101 : decode cX6_wish 101 = .ok (.aload_n 3, 1) := by decide +kernel
theorem dX6_wish_102 : decode cX6_wish 102 = .ok (.invokevirtual 172, 3) := by decide +kernel
theorem dX6_wish_105 : decode cX6_wish 105 = .ok (.ireturn, 1) := by decide +kernel
theorem dX6_wish_106 : decode cX6_wish 106 = .ok (.aload_n 3, 1) := by decide +kernel
theorem dX6_wish_107 : decode cX6_wish 107 = .ok (.invokevirtual 175, 3) := by decide +kernel
theorem dX6_wish_110 : decode cX6_wish 110 = .ok (.ireturn, 1) := by decide +kernel
theorem dX6_wish_111 : decode cX6_wish 111 = .ok (.aload_n 3, 1) := by decide +kernel
theorem dX6_wish_112 : decode cX6_wish 112 = .ok (.getfield 178, 3) := by decide +kernel
theorem dX6_wish_115 : decode cX6_wish 115 = .ok (.ireturn, 1) := by decide +kernel
theorem dX6_wish_116 : decode cX6_wish 116 = .ok (.bipush (-2), 2) := by decide +kernel
theorem dX6_wish_118 : decode cX6_wish 118 = .ok (.ireturn, 1) := by decide +kernel
theorem dX6_letter_0 : decode cX6_letter 0 = .ok (.aload_n 0, 1) := by decide +kernel
theorem dX6_letter_1 : decode cX6_letter 1 = .ok (.getfield 59, 3) := by decide +kernel
theorem dX6_letter_4 : decode cX6_letter 4 = .ok (.iload_n 1, 1) := by decide +kernel
theorem dX6_letter_5 : decode cX6_letter 5 = .ok (.invokevirtual 135, 3) := by decide +kernel
theorem dX6_letter_8 : decode cX6_letter 8 = .ok (.astore 4, 2) := by decide +kernel
theorem dX6_letter_10 : decode cX6_letter 10 = .ok (.aload 4, 2) := by decide +kernel
theorem dX6_letter_12 : decode cX6_letter 12 = .ok (.ifnull 16, 3) := by decide +kernel
theorem dX6_letter_15 : decode cX6_letter 15 = .ok (.iload_n 2, 1) := by decide +kernel
theorem dX6_letter_16 : decode cX6_letter 16 = .ok (.ifCond .lt 12, 3) := by decide +kernel
theorem dX6_letter_19 : decode cX6_letter 19 = .ok (.iload_n 2, 1) := by decide +kernel
theorem dX6_letter_20 : decode cX6_letter 20 = .ok (.aload 4, 2) := by decide +kernel
theorem dX6_letter_22 : decode cX6_letter 22 = .ok (.getfield 163, 3) := by decide +kernel
theorem dX6_letter_25 : decode cX6_letter 25 = .ok (.if_icmp .lt 5, 3) := by decide +kernel
theorem dX6_letter_28 : decode cX6_letter 28 = .ok (.iconst (-1), 1) := by decide +kernel
theorem dX6_letter_29 : decode cX6_letter 29 = .ok (.ireturn, 1) := by decide +kernel
theorem dX6_letter_30 : decode cX6_letter 30 = .ok (.iload_n 3, 1) := by decide +kernel
theorem dX6_letter_31 : decode cX6_letter 31 = .ok (.ifCond .ge 6, 3) := by decide +kernel
theorem dX6_letter_34 : decode cX6_letter 34 = .ok (.bipush (-2), 2) := by decide +kernel
theorem dX6_letter_36 : decode cX6_letter 36 = .ok (.ireturn, 1) := by decide +kernel
theorem dX6_letter_37 : decode cX6_letter 37 = .ok (.aload_n 0, 1) := by decide +kernel
theorem dX6_letter_38 : decode cX6_letter 38 = .ok (.getfield 28, 3) := by decide +kernel
theorem dX6_letter_41 : decode cX6_letter 41 = .ok (.aload 4, 2) := by decide +kernel
theorem dX6_letter_43 : decode cX6_letter 43 = .ok (.iload_n 2, 1) := by decide +kernel
theorem dX6_letter_44 : decode cX6_letter 44 = .ok (.invokevirtual 181, 3) := by decide +kernel
theorem dX6_letter_47 : decode cX6_letter 47 = .ok (.istore 5, 2) := by decide +kernel
theorem dX6_letter_49 : decode cX6_letter 49 = .ok (.iload_n 3, 1) := by decide +kernel
theorem dX6_letter_50 : decode cX6_letter 50 = .ok (.iload 5, 2) := by decide +kernel
theorem dX6_letter_52 : decode cX6_letter 52 = .ok (.if_icmp .ge 15, 3) := by decide +kernel
theorem dX6_letter_55 : decode cX6_letter 55 = .ok (.aload_n 0, 1) := by decide +kernel
theorem dX6_letter_56 : decode cX6_letter 56 = .ok (.getfield 28, 3) := by decide +kernel
theorem dX6_letter_59 : decode cX6_letter 59 = .ok (.getfield 184, 3) := by decide +kernel
theorem dX6_letter_62 : decode cX6_letter 62 = .ok (.iload_n 3, 1) := by decide +kernel
theorem dX6_letter_63 : decode cX6_letter 63 = .ok (.caload, 1) := by decide +kernel
theorem dX6_letter_64 : decode cX6_letter 64 = .ok (.goto 5, 3) := by decide +kernel
theorem dX6_letter_67 : decode cX6_letter 67 = .ok (.bipush (-5), 2) := by decide +kernel
theorem dX6_letter_69 : decode cX6_letter 69 = .ok (.ireturn, 1) := by decide +kernel
theorem dX6_part_0 : decode cX6_part 0 = .ok (.aload_n 0, 1) := by decide +kernel
theorem dX6_part_1 : decode cX6_part 1 = .ok (.getfield 59, 3) := by decide +kernel
theorem dX6_part_4 : decode cX6_part 4 = .ok (.iload_n 1, 1) := by decide +kernel
theorem dX6_part_5 : decode cX6_part 5 = .ok (.invokevirtual 135, 3) := by decide +kernel
theorem dX6_part_8 : decode cX6_part 8 = .ok (.astore 4, 2) := by decide +kernel
theorem dX6_part_10 : decode cX6_part 10 = .ok (.aload 4, 2) := by decide +kernel
theorem dX6_part_12 : decode cX6_part 12 = .ok (.ifnull 16, 3) := by decide +kernel
theorem dX6_part_15 : decode cX6_part 15 = .ok (.iload_n 2, 1) := by decide +kernel
theorem dX6_part_16 : decode cX6_part 16 = .ok (.ifCond .lt 12, 3) := by decide +kernel
theorem dX6_part_19 : decode cX6_part 19 = .ok (.iload_n 2, 1) := by decide +kernel
theorem dX6_part_20 : decode cX6_part 20 = .ok (.aload 4, 2) := by decide +kernel
theorem dX6_part_22 : decode cX6_part 22 = .ok (.getfield 163, 3) := by decide +kernel
theorem dX6_part_25 : decode cX6_part 25 = .ok (.if_icmp .lt 5, 3) := by decide +kernel
theorem dX6_part_28 : decode cX6_part 28 = .ok (.iconst (-1), 1) := by decide +kernel
theorem dX6_part_29 : decode cX6_part 29 = .ok (.ireturn, 1) := by decide +kernel
theorem dX6_part_30 : decode cX6_part 30 = .ok (.iload_n 3, 1) := by decide +kernel
theorem dX6_part_31 : decode cX6_part 31 = .ok (.tableswitch 88 0 3 #[29, 37, 48, 64], 29) := by decide +kernel
theorem dX6_part_60 : decode cX6_part 60 = .ok (.aload 4, 2) := by decide +kernel
theorem dX6_part_62 : decode cX6_part 62 = .ok (.getfield 188, 3) := by decide +kernel
theorem dX6_part_65 : decode cX6_part 65 = .ok (.iload_n 2, 1) := by decide +kernel
theorem dX6_part_66 : decode cX6_part 66 = .ok (.iaload, 1) := by decide +kernel
theorem dX6_part_67 : decode cX6_part 67 = .ok (.ireturn, 1) := by decide +kernel
theorem dX6_part_68 : decode cX6_part 68 = .ok (.aload_n 0, 1) := by decide +kernel
theorem dX6_part_69 : decode cX6_part 69 = .ok (.getfield 28, 3) := by decide +kernel
theorem dX6_part_72 : decode cX6_part 72 = .ok (.aload 4, 2) := by decide +kernel
theorem dX6_part_74 : decode cX6_part 74 = .ok (.iload_n 2, 1) := by decide +kernel
theorem dX6_part_75 : decode cX6_part 75 = .ok (.invokevirtual 181, 3) := by decide +kernel
theorem dX6_part_78 : decode cX6_part 78 = .ok (.ireturn, 1) := by decide +kernel
theorem dX6_part_79 : decode cX6_part 79 = .ok (.aload_n 0, 1) := by decide +kernel
theorem dX6_part_80 : decode cX6_part 80 = .ok (.getfield 12, 3) := by decide +kernel
theorem dX6_part_83 : decode cX6_part 83 = .ok (.getfield 191, 3) := by decide +kernel
theorem dX6_part_86 : decode cX6_part 86 = .ok (.aload_n 0, 1) := by decide +kernel
theorem dX6_part_87 : decode cX6_part 87 = .ok (.aload 4, 2) := by decide +kernel
theorem dX6_part_89 : decode cX6_part 89 = .ok (.iload_n 2, 1) := by decide +kernel
theorem dX6_part_90 : decode cX6_part 90 = .ok (.invokevirtual 194, 3) := by decide +kernel
theorem dX6_part_93 : decode cX6_part 93 = .ok (.iaload, 1) := by decide +kernel
theorem dX6_part_94 : decode cX6_part 94 = .ok (.ireturn, 1) := by decide +kernel
theorem dX6_part_95 : decode cX6_part 95 = .ok (.aload_n 0, 1) := by decide +kernel
theorem dX6_part_96 : decode cX6_part 96 = .ok (.getfield 12, 3) := by decide +kernel
theorem dX6_part_99 : decode cX6_part 99 = .ok (.getfield 197, 3) := by decide +kernel
theorem dX6_part_102 : decode cX6_part 102 = .ok (.aload_n 0, 1) := by decide +kernel
theorem dX6_part_103 : decode cX6_part 103 = .ok (.aload 4, 2) := by decide +kernel
theorem dX6_part_105 : decode cX6_part 105 = .ok (.iload_n 2, 1) := by decide +kernel
theorem dX6_part_106 : decode cX6_part 106 = .ok (.invokevirtual 194, 3) := by decide +kernel
theorem dX6_part_109 : decode cX6_part 109 = .ok (.baload, 1) := by decide +kernel
theorem dX6_part_110 : decode cX6_part 110 = .ok (.ifCond .eq 7, 3) := by decide +kernel
theorem dX6_part_113 : decode cX6_part 113 = .ok (.iconst 1, 1) := by decide +kernel
theorem dX6_part_114 : decode cX6_part 114 = .ok (.goto 4, 3) := by decide +kernel
theorem dX6_part_117 : decode cX6_part 117 = .ok (.iconst 0, 1) := by decide +kernel
theorem dX6_part_118 : decode cX6_part 118 = .ok (.ireturn, 1) := by decide +kernel
theorem dX6_part_119 : decode cX6_part 119 = .ok (.bipush (-2), 2) := by decide +kernel
theorem dX6_part_121 : decode cX6_part 121 = .ok (.ireturn, 1) := by decide +kernel
theorem dX6_would_0 : decode cX6_would 0 = .ok (.aload_n 0, 1) := by decide +kernel
theorem dX6_would_1 : decode cX6_would 1 = .ok (.getfield 59, 3) := by decide +kernel
theorem dX6_would_4 : decode cX6_would 4 = .ok (.iload_n 1, 1) := by decide +kernel
theorem dX6_would_5 : decode cX6_would 5 = .ok (.invokevirtual 135, 3) := by decide +kernel
theorem dX6_would_8 : decode cX6_would 8 = .ok (.astore_n 3, 1) := by decide +kernel
theorem dX6_would_9 : decode cX6_would 9 = .ok (.aload_n 3, 1) := by decide +kernel
theorem dX6_would_10 : decode cX6_would 10 = .ok (.ifnonnull 5, 3) := by decide +kernel
theorem dX6_would_13 : decode cX6_would 13 = .ok (.iconst (-1), 1) := by decide +kernel
theorem dX6_would_14 : decode cX6_would 14 = .ok (.ireturn, 1) := by decide +kernel
theorem dX6_would_15 : decode cX6_would 15 = .ok (.iload_n 2, 1) := by decide +kernel
theorem dX6_would_16 : decode cX6_would 16 = .ok (.ifCond .lt 9, 3) := by decide +kernel
theorem dX6_would_19 : decode cX6_would 19 = .ok (.iload_n 2, 1) := by decide +kernel
theorem dX6_would_20 : decode cX6_would 20 = .ok (.bipush 64, 2) := by decide +kernel
theorem dX6_would_22 : decode cX6_would 22 = .ok (.if_icmp .lt 6, 3) := by decide +kernel
theorem dX6_would_25 : decode cX6_would 25 = .ok (.bipush (-2), 2) := by decide +kernel
theorem dX6_would_27 : decode cX6_would 27 = .ok (.ireturn, 1) := by decide +kernel
theorem dX6_would_28 : decode cX6_would 28 = .ok (.aload_n 0, 1) := by decide +kernel
theorem dX6_would_29 : decode cX6_would 29 = .ok (.getfield 59, 3) := by decide +kernel
theorem dX6_would_32 : decode cX6_would 32 = .ok (.getfield 65, 3) := by decide +kernel
theorem dX6_would_35 : decode cX6_would 35 = .ok (.ifCond .eq 6, 3) := by decide +kernel
theorem dX6_would_38 : decode cX6_would 38 = .ok (.bipush (-4), 2) := by decide +kernel
theorem dX6_would_40 : decode cX6_would 40 = .ok (.ireturn, 1) := by decide +kernel
theorem dX6_would_41 : decode cX6_would 41 = .ok (.aload_n 0, 1) := by decide +kernel
theorem dX6_would_42 : decode cX6_would 42 = .ok (.aload_n 3, 1) := by decide +kernel
theorem dX6_would_43 : decode cX6_would 43 = .ok (.iload_n 2, 1) := by decide +kernel
theorem dX6_would_44 : decode cX6_would 44 = .ok (.invokevirtual 201, 3) := by decide +kernel
theorem dX6_would_47 : decode cX6_would 47 = .ok (.ireturn, 1) := by decide +kernel
theorem dX6_bears_0 : decode cX6_bears 0 = .ok (.aload_n 0, 1) := by decide +kernel
theorem dX6_bears_1 : decode cX6_bears 1 = .ok (.getfield 59, 3) := by decide +kernel
theorem dX6_bears_4 : decode cX6_bears 4 = .ok (.iload_n 1, 1) := by decide +kernel
theorem dX6_bears_5 : decode cX6_bears 5 = .ok (.invokevirtual 135, 3) := by decide +kernel
theorem dX6_bears_8 : decode cX6_bears 8 = .ok (.astore_n 3, 1) := by decide +kernel
theorem dX6_bears_9 : decode cX6_bears 9 = .ok (.aload_n 3, 1) := by decide +kernel
theorem dX6_bears_10 : decode cX6_bears 10 = .ok (.ifnonnull 5, 3) := by decide +kernel
theorem dX6_bears_13 : decode cX6_bears 13 = .ok (.iconst (-1), 1) := by decide +kernel
theorem dX6_bears_14 : decode cX6_bears 14 = .ok (.ireturn, 1) := by decide +kernel
theorem dX6_bears_15 : decode cX6_bears 15 = .ok (.iload_n 2, 1) := by decide +kernel
theorem dX6_bears_16 : decode cX6_bears 16 = .ok (.ifCond .lt 8, 3) := by decide +kernel
theorem dX6_bears_19 : decode cX6_bears 19 = .ok (.iload_n 2, 1) := by decide +kernel
theorem dX6_bears_20 : decode cX6_bears 20 = .ok (.iconst 3, 1) := by decide +kernel
theorem dX6_bears_21 : decode cX6_bears 21 = .ok (.if_icmp .le 6, 3) := by decide +kernel
theorem dX6_bears_24 : decode cX6_bears 24 = .ok (.bipush (-2), 2) := by decide +kernel
theorem dX6_bears_26 : decode cX6_bears 26 = .ok (.ireturn, 1) := by decide +kernel
theorem dX6_bears_27 : decode cX6_bears 27 = .ok (.aload_n 0, 1) := by decide +kernel
theorem dX6_bears_28 : decode cX6_bears 28 = .ok (.getfield 59, 3) := by decide +kernel
theorem dX6_bears_31 : decode cX6_bears 31 = .ok (.getfield 65, 3) := by decide +kernel
theorem dX6_bears_34 : decode cX6_bears 34 = .ok (.ifCond .eq 6, 3) := by decide +kernel
theorem dX6_bears_37 : decode cX6_bears 37 = .ok (.bipush (-4), 2) := by decide +kernel
theorem dX6_bears_39 : decode cX6_bears 39 = .ok (.ireturn, 1) := by decide +kernel
theorem dX6_bears_40 : decode cX6_bears 40 = .ok (.aload_n 0, 1) := by decide +kernel
theorem dX6_bears_41 : decode cX6_bears 41 = .ok (.aload_n 3, 1) := by decide +kernel
theorem dX6_bears_42 : decode cX6_bears 42 = .ok (.invokevirtual 204, 3) := by decide +kernel
theorem dX6_bears_45 : decode cX6_bears 45 = .ok (.iconst 0, 1) := by decide +kernel
theorem dX6_bears_46 : decode cX6_bears 46 = .ok (.istore 4, 2) := by decide +kernel
theorem dX6_bears_48 : decode cX6_bears 48 = .ok (.iconst 0, 1) := by decide +kernel
theorem dX6_bears_49 : decode cX6_bears 49 = .ok (.istore 5, 2) := by decide +kernel
theorem dX6_bears_51 : decode cX6_bears 51 = .ok (.iload 5, 2) := by decide +kernel
theorem dX6_bears_53 : decode cX6_bears 53 = .ok (.bipush 64, 2) := by decide +kernel
theorem dX6_bears_55 : decode cX6_bears 55 = .ok (.if_icmp .ge 76, 3) := by decide +kernel
theorem dX6_bears_58 : decode cX6_bears 58 = .ok (.iload_n 2, 1) := by decide +kernel
theorem dX6_bears_59 : decode cX6_bears 59 = .ok (.iconst 2, 1) := by decide +kernel
theorem dX6_bears_60 : decode cX6_bears 60 = .ok (.if_icmp .ge 21, 3) := by decide +kernel
theorem dX6_bears_63 : decode cX6_bears 63 = .ok (.aload_n 0, 1) := by decide +kernel
theorem dX6_bears_64 : decode cX6_bears 64 = .ok (.getfield 41, 3) := by decide +kernel
theorem dX6_bears_67 : decode cX6_bears 67 = .ok (.iload 5, 2) := by decide +kernel
theorem dX6_bears_69 : decode cX6_bears 69 = .ok (.iaload, 1) := by decide +kernel
theorem dX6_bears_70 : decode cX6_bears 70 = .ok (.ifCond .eq 7, 3) := by decide +kernel
theorem dX6_bears_73 : decode cX6_bears 73 = .ok (.iconst 1, 1) := by decide +kernel
theorem dX6_bears_74 : decode cX6_bears 74 = .ok (.goto 23, 3) := by decide +kernel
theorem dX6_bears_77 : decode cX6_bears 77 = .ok (.iconst 0, 1) := by decide +kernel
theorem dX6_bears_78 : decode cX6_bears 78 = .ok (.goto 19, 3) := by decide +kernel
theorem dX6_bears_81 : decode cX6_bears 81 = .ok (.aload_n 0, 1) := by decide +kernel
theorem dX6_bears_82 : decode cX6_bears 82 = .ok (.getfield 41, 3) := by decide +kernel
theorem dX6_bears_85 : decode cX6_bears 85 = .ok (.iload 5, 2) := by decide +kernel
theorem dX6_bears_87 : decode cX6_bears 87 = .ok (.iaload, 1) := by decide +kernel
theorem dX6_bears_88 : decode cX6_bears 88 = .ok (.iconst 1, 1) := by decide +kernel
theorem dX6_bears_89 : decode cX6_bears 89 = .ok (.if_icmp .ne 7, 3) := by decide +kernel
theorem dX6_bears_92 : decode cX6_bears 92 = .ok (.iconst 1, 1) := by decide +kernel
theorem dX6_bears_93 : decode cX6_bears 93 = .ok (.goto 4, 3) := by decide +kernel
theorem dX6_bears_96 : decode cX6_bears 96 = .ok (.iconst 0, 1) := by decide +kernel
theorem dX6_bears_97 : decode cX6_bears 97 = .ok (.istore 6, 2) := by decide +kernel
theorem dX6_bears_99 : decode cX6_bears 99 = .ok (.iload 6, 2) := by decide +kernel
theorem dX6_bears_101 : decode cX6_bears 101 = .ok (.ifCond .eq 16, 3) := by decide +kernel
theorem dX6_bears_104 : decode cX6_bears 104 = .ok (.iload_n 2, 1) := by decide +kernel
theorem dX6_bears_105 : decode cX6_bears 105 = .ok (.iconst 1, 1) := by decide +kernel
theorem dX6_bears_106 : decode cX6_bears 106 = .ok (.if_icmp .eq 8, 3) := by decide +kernel
theorem dX6_bears_109 : decode cX6_bears 109 = .ok (.iload_n 2, 1) := by decide +kernel
theorem dX6_bears_110 : decode cX6_bears 110 = .ok (.iconst 3, 1) := by decide +kernel
theorem dX6_bears_111 : decode cX6_bears 111 = .ok (.if_icmp .ne 6, 3) := by decide +kernel
theorem dX6_bears_114 : decode cX6_bears 114 = .ok (.iload 5, 2) := by decide +kernel
theorem dX6_bears_116 : decode cX6_bears 116 = .ok (.ireturn, 1) := by decide +kernel
theorem dX6_bears_117 : decode cX6_bears 117 = .ok (.iload 6, 2) := by decide +kernel
theorem dX6_bears_119 : decode cX6_bears 119 = .ok (.ifCond .eq 6, 3) := by decide +kernel
theorem dX6_bears_122 : decode cX6_bears 122 = .ok (.iinc 4 1, 3) := by decide +kernel
theorem dX6_bears_125 : decode cX6_bears 125 = .ok (.iinc 5 1, 3) := by decide +kernel
theorem dX6_bears_128 : decode cX6_bears 128 = .ok (.goto (-77), 3) := by decide +kernel
theorem dX6_bears_131 : decode cX6_bears 131 = .ok (.iload_n 2, 1) := by decide +kernel
theorem dX6_bears_132 : decode cX6_bears 132 = .ok (.iconst 1, 1) := by decide +kernel
theorem dX6_bears_133 : decode cX6_bears 133 = .ok (.if_icmp .eq 8, 3) := by decide +kernel
theorem dX6_bears_136 : decode cX6_bears 136 = .ok (.iload_n 2, 1) := by decide +kernel
theorem dX6_bears_137 : decode cX6_bears 137 = .ok (.iconst 3, 1) := by decide +kernel
theorem dX6_bears_138 : decode cX6_bears 138 = .ok (.if_icmp .ne 8, 3) := by decide +kernel
theorem dX6_bears_141 : decode cX6_bears 141 = .ok (.bipush (-5), 2) := by decide +kernel
theorem dX6_bears_143 : decode cX6_bears 143 = .ok (.goto 5, 3) := by decide +kernel
theorem dX6_bears_146 : decode cX6_bears 146 = .ok (.iload 4, 2) := by decide +kernel
theorem dX6_bears_148 : decode cX6_bears 148 = .ok (.ireturn, 1) := by decide +kernel
theorem dX6_open_0 : decode cX6_open 0 = .ok (.iload_n 1, 1) := by decide +kernel
theorem dX6_open_1 : decode cX6_open 1 = .ok (.ifCond .ge 6, 3) := by decide +kernel
theorem dX6_open_4 : decode cX6_open 4 = .ok (.bipush (-2), 2) := by decide +kernel
theorem dX6_open_6 : decode cX6_open 6 = .ok (.ireturn, 1) := by decide +kernel
theorem dX6_open_7 : decode cX6_open 7 = .ok (.iconst 0, 1) := by decide +kernel
theorem dX6_open_8 : decode cX6_open 8 = .ok (.istore_n 2, 1) := by decide +kernel
theorem dX6_open_9 : decode cX6_open 9 = .ok (.iload_n 2, 1) := by decide +kernel
theorem dX6_open_10 : decode cX6_open 10 = .ok (.aload_n 0, 1) := by decide +kernel
theorem dX6_open_11 : decode cX6_open 11 = .ok (.getfield 59, 3) := by decide +kernel
theorem dX6_open_14 : decode cX6_open 14 = .ok (.getfield 77, 3) := by decide +kernel
theorem dX6_open_17 : decode cX6_open 17 = .ok (.if_icmp .ge 34, 3) := by decide +kernel
theorem dX6_open_20 : decode cX6_open 20 = .ok (.aload_n 0, 1) := by decide +kernel
theorem dX6_open_21 : decode cX6_open 21 = .ok (.getfield 59, 3) := by decide +kernel
theorem dX6_open_24 : decode cX6_open 24 = .ok (.iload_n 2, 1) := by decide +kernel
theorem dX6_open_25 : decode cX6_open 25 = .ok (.invokevirtual 207, 3) := by decide +kernel
theorem dX6_open_28 : decode cX6_open 28 = .ok (.ifCond .eq 17, 3) := by decide +kernel
theorem dX6_open_31 : decode cX6_open 31 = .ok (.aload_n 0, 1) := by decide +kernel
theorem dX6_open_32 : decode cX6_open 32 = .ok (.getfield 59, 3) := by decide +kernel
theorem dX6_open_35 : decode cX6_open 35 = .ok (.iload_n 2, 1) := by decide +kernel
theorem dX6_open_36 : decode cX6_open 36 = .ok (.invokevirtual 210, 3) := by decide +kernel
theorem dX6_open_39 : decode cX6_open 39 = .ok (.iload_n 1, 1) := by decide +kernel
theorem dX6_open_40 : decode cX6_open 40 = .ok (.if_icmp .ne 5, 3) := by decide +kernel
theorem dX6_open_43 : decode cX6_open 43 = .ok (.iload_n 2, 1) := by decide +kernel
theorem dX6_open_44 : decode cX6_open 44 = .ok (.ireturn, 1) := by decide +kernel
theorem dX6_open_45 : decode cX6_open 45 = .ok (.iinc 2 1, 3) := by decide +kernel
theorem dX6_open_48 : decode cX6_open 48 = .ok (.goto (-39), 3) := by decide +kernel
theorem dX6_open_51 : decode cX6_open 51 = .ok (.bipush (-5), 2) := by decide +kernel
theorem dX6_open_53 : decode cX6_open 53 = .ok (.ireturn, 1) := by decide +kernel
theorem dX6_at_0 : decode cX6_at 0 = .ok (.iload_n 1, 1) := by decide +kernel
theorem dX6_at_1 : decode cX6_at 1 = .ok (.ifCond .ge 6, 3) := by decide +kernel
theorem dX6_at_4 : decode cX6_at 4 = .ok (.bipush (-2), 2) := by decide +kernel
theorem dX6_at_6 : decode cX6_at 6 = .ok (.ireturn, 1) := by decide +kernel
theorem dX6_at_7 : decode cX6_at 7 = .ok (.iload_n 1, 1) := by decide +kernel
theorem dX6_at_8 : decode cX6_at 8 = .ok (.aload_n 0, 1) := by decide +kernel
theorem dX6_at_9 : decode cX6_at 9 = .ok (.getfield 59, 3) := by decide +kernel
theorem dX6_at_12 : decode cX6_at 12 = .ok (.getfield 69, 3) := by decide +kernel
theorem dX6_at_15 : decode cX6_at 15 = .ok (.if_icmp .ge 15, 3) := by decide +kernel
theorem dX6_at_18 : decode cX6_at 18 = .ok (.aload_n 0, 1) := by decide +kernel
theorem dX6_at_19 : decode cX6_at 19 = .ok (.getfield 59, 3) := by decide +kernel
theorem dX6_at_22 : decode cX6_at 22 = .ok (.getfield 107, 3) := by decide +kernel
theorem dX6_at_25 : decode cX6_at 25 = .ok (.iload_n 1, 1) := by decide +kernel
theorem dX6_at_26 : decode cX6_at 26 = .ok (.iaload, 1) := by decide +kernel
theorem dX6_at_27 : decode cX6_at 27 = .ok (.goto 5, 3) := by decide +kernel
theorem dX6_at_30 : decode cX6_at 30 = .ok (.bipush (-5), 2) := by decide +kernel
theorem dX6_at_32 : decode cX6_at 32 = .ok (.ireturn, 1) := by decide +kernel
theorem dX6_count_0 : decode cX6_count 0 = .ok (.iload_n 1, 1) := by decide +kernel
theorem dX6_count_1 : decode cX6_count 1 = .ok (.tableswitch 131 0 8 #[51, 59, 75, 83, 91, 100, 109, 118, 123], 51) := by decide +kernel
theorem dX6_count_52 : decode cX6_count 52 = .ok (.aload_n 0, 1) := by decide +kernel
theorem dX6_count_53 : decode cX6_count 53 = .ok (.getfield 59, 3) := by decide +kernel
theorem dX6_count_56 : decode cX6_count 56 = .ok (.getfield 69, 3) := by decide +kernel
theorem dX6_count_59 : decode cX6_count 59 = .ok (.ireturn, 1) := by decide +kernel
theorem dX6_count_60 : decode cX6_count 60 = .ok (.aload_n 0, 1) := by decide +kernel
theorem dX6_count_61 : decode cX6_count 61 = .ok (.getfield 59, 3) := by decide +kernel
theorem dX6_count_64 : decode cX6_count 64 = .ok (.getfield 65, 3) := by decide +kernel
theorem dX6_count_67 : decode cX6_count 67 = .ok (.ifCond .eq 7, 3) := by decide +kernel
theorem dX6_count_70 : decode cX6_count 70 = .ok (.iconst 1, 1) := by decide +kernel
theorem dX6_count_71 : decode cX6_count 71 = .ok (.goto 4, 3) := by decide +kernel
theorem dX6_count_74 : decode cX6_count 74 = .ok (.iconst 0, 1) := by decide +kernel
theorem dX6_count_75 : decode cX6_count 75 = .ok (.ireturn, 1) := by decide +kernel
theorem dX6_count_76 : decode cX6_count 76 = .ok (.aload_n 0, 1) := by decide +kernel
theorem dX6_count_77 : decode cX6_count 77 = .ok (.getfield 59, 3) := by decide +kernel
theorem dX6_count_80 : decode cX6_count 80 = .ok (.invokevirtual 147, 3) := by decide +kernel
theorem dX6_count_83 : decode cX6_count 83 = .ok (.ireturn, 1) := by decide +kernel
theorem dX6_count_84 : decode cX6_count 84 = .ok (.aload_n 0, 1) := by decide +kernel
theorem dX6_count_85 : decode cX6_count 85 = .ok (.getfield 59, 3) := by decide +kernel
theorem dX6_count_88 : decode cX6_count 88 = .ok (.getfield 77, 3) := by decide +kernel
theorem dX6_count_91 : decode cX6_count 91 = .ok (.ireturn, 1) := by decide +kernel
theorem dX6_count_92 : decode cX6_count 92 = .ok (.aload_n 0, 1) := by decide +kernel
theorem dX6_count_93 : decode cX6_count 93 = .ok (.getfield 59, 3) := by decide +kernel
theorem dX6_count_96 : decode cX6_count 96 = .ok (.iconst 2, 1) := by decide +kernel
theorem dX6_count_97 : decode cX6_count 97 = .ok (.invokevirtual 213, 3) := by decide +kernel
theorem dX6_count_100 : decode cX6_count 100 = .ok (.ireturn, 1) := by decide +kernel
theorem dX6_count_101 : decode cX6_count 101 = .ok (.aload_n 0, 1) := by decide +kernel
theorem dX6_count_102 : decode cX6_count 102 = .ok (.getfield 59, 3) := by decide +kernel
theorem dX6_count_105 : decode cX6_count 105 = .ok (.iconst 0, 1) := by decide +kernel
theorem dX6_count_106 : decode cX6_count 106 = .ok (.invokevirtual 213, 3) := by decide +kernel
theorem dX6_count_109 : decode cX6_count 109 = .ok (.ireturn, 1) := by decide +kernel
theorem dX6_count_110 : decode cX6_count 110 = .ok (.aload_n 0, 1) := by decide +kernel
theorem dX6_count_111 : decode cX6_count 111 = .ok (.getfield 59, 3) := by decide +kernel
theorem dX6_count_114 : decode cX6_count 114 = .ok (.iconst 1, 1) := by decide +kernel
theorem dX6_count_115 : decode cX6_count 115 = .ok (.invokevirtual 213, 3) := by decide +kernel
theorem dX6_count_118 : decode cX6_count 118 = .ok (.ireturn, 1) := by decide +kernel
theorem dX6_count_119 : decode cX6_count 119 = .ok (.aload_n 0, 1) := by decide +kernel
theorem dX6_count_120 : decode cX6_count 120 = .ok (.getfield 157, 3) := by decide +kernel
theorem dX6_count_123 : decode cX6_count 123 = .ok (.ireturn, 1) := by decide +kernel
theorem dX6_count_124 : decode cX6_count 124 = .ok (.aload_n 0, 1) := by decide +kernel
theorem dX6_count_125 : decode cX6_count 125 = .ok (.getfield 37, 3) := by decide +kernel
theorem dX6_count_128 : decode cX6_count 128 = .ok (.getfield 154, 3) := by decide +kernel
theorem dX6_count_131 : decode cX6_count 131 = .ok (.ireturn, 1) := by decide +kernel
theorem dX6_count_132 : decode cX6_count 132 = .ok (.bipush (-2), 2) := by decide +kernel
theorem dX6_count_134 : decode cX6_count 134 = .ok (.ireturn, 1) := by decide +kernel
theorem dX6_recordAndGoOn_0 : decode cX6_recordAndGoOn 0 = .ok (.aload_n 0, 1) := by decide +kernel
theorem dX6_recordAndGoOn_1 : decode cX6_recordAndGoOn 1 = .ok (.getfield 157, 3) := by decide +kernel
theorem dX6_recordAndGoOn_4 : decode cX6_recordAndGoOn 4 = .ok (.iconst 4, 1) := by decide +kernel
theorem dX6_recordAndGoOn_5 : decode cX6_recordAndGoOn 5 = .ok (.if_icmp .ge 39, 3) := by decide +kernel
theorem dX6_recordAndGoOn_8 : decode cX6_recordAndGoOn 8 = .ok (.aload_n 0, 1) := by decide +kernel
theorem dX6_recordAndGoOn_9 : decode cX6_recordAndGoOn 9 = .ok (.getfield 50, 3) := by decide +kernel
theorem dX6_recordAndGoOn_12 : decode cX6_recordAndGoOn 12 = .ok (.aload_n 0, 1) := by decide +kernel
theorem dX6_recordAndGoOn_13 : decode cX6_recordAndGoOn 13 = .ok (.getfield 157, 3) := by decide +kernel
theorem dX6_recordAndGoOn_16 : decode cX6_recordAndGoOn 16 = .ok (.aaload, 1) := by decide +kernel
theorem dX6_recordAndGoOn_17 : decode cX6_recordAndGoOn 17 = .ok (.astore_n 1, 1) := by decide +kernel
theorem dX6_recordAndGoOn_18 : decode cX6_recordAndGoOn 18 = .ok (.aload_n 0, 1) := by decide +kernel
theorem dX6_recordAndGoOn_19 : decode cX6_recordAndGoOn 19 = .ok (.getfield 50, 3) := by decide +kernel
theorem dX6_recordAndGoOn_22 : decode cX6_recordAndGoOn 22 = .ok (.aload_n 0, 1) := by decide +kernel
theorem dX6_recordAndGoOn_23 : decode cX6_recordAndGoOn 23 = .ok (.getfield 157, 3) := by decide +kernel
theorem dX6_recordAndGoOn_26 : decode cX6_recordAndGoOn 26 = .ok (.aload_n 0, 1) := by decide +kernel
theorem dX6_recordAndGoOn_27 : decode cX6_recordAndGoOn 27 = .ok (.getfield 59, 3) := by decide +kernel
theorem dX6_recordAndGoOn_30 : decode cX6_recordAndGoOn 30 = .ok (.aastore, 1) := by decide +kernel
theorem dX6_recordAndGoOn_31 : decode cX6_recordAndGoOn 31 = .ok (.aload_n 0, 1) := by decide +kernel
theorem dX6_recordAndGoOn_32 : decode cX6_recordAndGoOn 32 = .ok (.dup, 1) := by decide +kernel
theorem dX6_recordAndGoOn_33 : decode cX6_recordAndGoOn 33 = .ok (.getfield 157, 3) := by decide +kernel
theorem dX6_recordAndGoOn_36 : decode cX6_recordAndGoOn 36 = .ok (.iconst 1, 1) := by decide +kernel
theorem dX6_recordAndGoOn_37 : decode cX6_recordAndGoOn 37 = .ok (.iadd, 1) := by decide +kernel
theorem dX6_recordAndGoOn_38 : decode cX6_recordAndGoOn 38 = .ok (.putfield 157, 3) := by decide +kernel
theorem dX6_recordAndGoOn_41 : decode cX6_recordAndGoOn 41 = .ok (.goto 47, 3) := by decide +kernel
theorem dX6_recordAndGoOn_44 : decode cX6_recordAndGoOn 44 = .ok (.aload_n 0, 1) := by decide +kernel
theorem dX6_recordAndGoOn_45 : decode cX6_recordAndGoOn 45 = .ok (.getfield 50, 3) := by decide +kernel
theorem dX6_recordAndGoOn_48 : decode cX6_recordAndGoOn 48 = .ok (.iconst 0, 1) := by decide +kernel
theorem dX6_recordAndGoOn_49 : decode cX6_recordAndGoOn 49 = .ok (.aaload, 1) := by decide +kernel
theorem dX6_recordAndGoOn_50 : decode cX6_recordAndGoOn 50 = .ok (.astore_n 1, 1) := by decide +kernel
theorem dX6_recordAndGoOn_51 : decode cX6_recordAndGoOn 51 = .ok (.iconst 1, 1) := by decide +kernel
theorem dX6_recordAndGoOn_52 : decode cX6_recordAndGoOn 52 = .ok (.istore_n 2, 1) := by decide +kernel
theorem dX6_recordAndGoOn_53 : decode cX6_recordAndGoOn 53 = .ok (.iload_n 2, 1) := by decide +kernel
theorem dX6_recordAndGoOn_54 : decode cX6_recordAndGoOn 54 = .ok (.iconst 4, 1) := by decide +kernel
theorem dX6_recordAndGoOn_55 : decode cX6_recordAndGoOn 55 = .ok (.if_icmp .ge 23, 3) := by decide +kernel
theorem dX6_recordAndGoOn_58 : decode cX6_recordAndGoOn 58 = .ok (.aload_n 0, 1) := by decide +kernel
theorem dX6_recordAndGoOn_59 : decode cX6_recordAndGoOn 59 = .ok (.getfield 50, 3) := by decide +kernel
theorem dX6_recordAndGoOn_62 : decode cX6_recordAndGoOn 62 = .ok (.iload_n 2, 1) := by decide +kernel
theorem dX6_recordAndGoOn_63 : decode cX6_recordAndGoOn 63 = .ok (.iconst 1, 1) := by decide +kernel
theorem dX6_recordAndGoOn_64 : decode cX6_recordAndGoOn 64 = .ok (.isub, 1) := by decide +kernel
theorem dX6_recordAndGoOn_65 : decode cX6_recordAndGoOn 65 = .ok (.aload_n 0, 1) := by decide +kernel
theorem dX6_recordAndGoOn_66 : decode cX6_recordAndGoOn 66 = .ok (.getfield 50, 3) := by decide +kernel
theorem dX6_recordAndGoOn_69 : decode cX6_recordAndGoOn 69 = .ok (.iload_n 2, 1) := by decide +kernel
theorem dX6_recordAndGoOn_70 : decode cX6_recordAndGoOn 70 = .ok (.aaload, 1) := by decide +kernel
theorem dX6_recordAndGoOn_71 : decode cX6_recordAndGoOn 71 = .ok (.aastore, 1) := by decide +kernel
theorem dX6_recordAndGoOn_72 : decode cX6_recordAndGoOn 72 = .ok (.iinc 2 1, 3) := by decide +kernel
theorem dX6_recordAndGoOn_75 : decode cX6_recordAndGoOn 75 = .ok (.goto (-22), 3) := by decide +kernel
theorem dX6_recordAndGoOn_78 : decode cX6_recordAndGoOn 78 = .ok (.aload_n 0, 1) := by decide +kernel
theorem dX6_recordAndGoOn_79 : decode cX6_recordAndGoOn 79 = .ok (.getfield 50, 3) := by decide +kernel
theorem dX6_recordAndGoOn_82 : decode cX6_recordAndGoOn 82 = .ok (.iconst 3, 1) := by decide +kernel
theorem dX6_recordAndGoOn_83 : decode cX6_recordAndGoOn 83 = .ok (.aload_n 0, 1) := by decide +kernel
theorem dX6_recordAndGoOn_84 : decode cX6_recordAndGoOn 84 = .ok (.getfield 59, 3) := by decide +kernel
theorem dX6_recordAndGoOn_87 : decode cX6_recordAndGoOn 87 = .ok (.aastore, 1) := by decide +kernel
theorem dX6_recordAndGoOn_88 : decode cX6_recordAndGoOn 88 = .ok (.aload_n 0, 1) := by decide +kernel
theorem dX6_recordAndGoOn_89 : decode cX6_recordAndGoOn 89 = .ok (.aload_n 0, 1) := by decide +kernel
theorem dX6_recordAndGoOn_90 : decode cX6_recordAndGoOn 90 = .ok (.getfield 62, 3) := by decide +kernel
theorem dX6_recordAndGoOn_93 : decode cX6_recordAndGoOn 93 = .ok (.putfield 59, 3) := by decide +kernel
theorem dX6_recordAndGoOn_96 : decode cX6_recordAndGoOn 96 = .ok (.aload_n 0, 1) := by decide +kernel
theorem dX6_recordAndGoOn_97 : decode cX6_recordAndGoOn 97 = .ok (.aload_n 1, 1) := by decide +kernel
theorem dX6_recordAndGoOn_98 : decode cX6_recordAndGoOn 98 = .ok (.putfield 62, 3) := by decide +kernel
theorem dX6_recordAndGoOn_101 : decode cX6_recordAndGoOn 101 = .ok (.return_, 1) := by decide +kernel
theorem dX6_rewriteParts_0 : decode cX6_rewriteParts 0 = .ok (.iconst 0, 1) := by decide +kernel
theorem dX6_rewriteParts_1 : decode cX6_rewriteParts 1 = .ok (.istore 4, 2) := by decide +kernel
theorem dX6_rewriteParts_3 : decode cX6_rewriteParts 3 = .ok (.iload 4, 2) := by decide +kernel
theorem dX6_rewriteParts_5 : decode cX6_rewriteParts 5 = .ok (.aload_n 1, 1) := by decide +kernel
theorem dX6_rewriteParts_6 : decode cX6_rewriteParts 6 = .ok (.getfield 163, 3) := by decide +kernel
theorem dX6_rewriteParts_9 : decode cX6_rewriteParts 9 = .ok (.if_icmp .ge 55, 3) := by decide +kernel
theorem dX6_rewriteParts_12 : decode cX6_rewriteParts 12 = .ok (.aload_n 0, 1) := by decide +kernel
theorem dX6_rewriteParts_13 : decode cX6_rewriteParts 13 = .ok (.getfield 21, 3) := by decide +kernel
theorem dX6_rewriteParts_16 : decode cX6_rewriteParts 16 = .ok (.aload_n 0, 1) := by decide +kernel
theorem dX6_rewriteParts_17 : decode cX6_rewriteParts 17 = .ok (.aload_n 1, 1) := by decide +kernel
theorem dX6_rewriteParts_18 : decode cX6_rewriteParts 18 = .ok (.iload 4, 2) := by decide +kernel
theorem dX6_rewriteParts_20 : decode cX6_rewriteParts 20 = .ok (.invokevirtual 194, 3) := by decide +kernel
theorem dX6_rewriteParts_23 : decode cX6_rewriteParts 23 = .ok (.iload_n 3, 1) := by decide +kernel
theorem dX6_rewriteParts_24 : decode cX6_rewriteParts 24 = .ok (.invokevirtual 216, 3) := by decide +kernel
theorem dX6_rewriteParts_27 : decode cX6_rewriteParts 27 = .ok (.istore 5, 2) := by decide +kernel
theorem dX6_rewriteParts_29 : decode cX6_rewriteParts 29 = .ok (.aload_n 0, 1) := by decide +kernel
theorem dX6_rewriteParts_30 : decode cX6_rewriteParts 30 = .ok (.getfield 12, 3) := by decide +kernel
theorem dX6_rewriteParts_33 : decode cX6_rewriteParts 33 = .ok (.getfield 220, 3) := by decide +kernel
theorem dX6_rewriteParts_36 : decode cX6_rewriteParts 36 = .ok (.iload 5, 2) := by decide +kernel
theorem dX6_rewriteParts_38 : decode cX6_rewriteParts 38 = .ok (.iaload, 1) := by decide +kernel
theorem dX6_rewriteParts_39 : decode cX6_rewriteParts 39 = .ok (.bipush 120, 2) := by decide +kernel
theorem dX6_rewriteParts_41 : decode cX6_rewriteParts 41 = .ok (.if_icmp .le 5, 3) := by decide +kernel
theorem dX6_rewriteParts_44 : decode cX6_rewriteParts 44 = .ok (.iconst 0, 1) := by decide +kernel
theorem dX6_rewriteParts_45 : decode cX6_rewriteParts 45 = .ok (.ireturn, 1) := by decide +kernel
theorem dX6_rewriteParts_46 : decode cX6_rewriteParts 46 = .ok (.aload_n 0, 1) := by decide +kernel
theorem dX6_rewriteParts_47 : decode cX6_rewriteParts 47 = .ok (.getfield 28, 3) := by decide +kernel
theorem dX6_rewriteParts_50 : decode cX6_rewriteParts 50 = .ok (.iload 5, 2) := by decide +kernel
theorem dX6_rewriteParts_52 : decode cX6_rewriteParts 52 = .ok (.aload_n 2, 1) := by decide +kernel
theorem dX6_rewriteParts_53 : decode cX6_rewriteParts 53 = .ok (.iload 4, 2) := by decide +kernel
theorem dX6_rewriteParts_55 : decode cX6_rewriteParts 55 = .ok (.invokevirtual 223, 3) := by decide +kernel
theorem dX6_rewriteParts_58 : decode cX6_rewriteParts 58 = .ok (.iinc 4 1, 3) := by decide +kernel
theorem dX6_rewriteParts_61 : decode cX6_rewriteParts 61 = .ok (.goto (-58), 3) := by decide +kernel
theorem dX6_rewriteParts_64 : decode cX6_rewriteParts 64 = .ok (.iconst 1, 1) := by decide +kernel
theorem dX6_rewriteParts_65 : decode cX6_rewriteParts 65 = .ok (.ireturn, 1) := by decide +kernel
theorem dX6_signsToBlame_0 : decode cX6_signsToBlame 0 = .ok (.iconst 0, 1) := by decide +kernel
theorem dX6_signsToBlame_1 : decode cX6_signsToBlame 1 = .ok (.istore_n 3, 1) := by decide +kernel
theorem dX6_signsToBlame_2 : decode cX6_signsToBlame 2 = .ok (.iconst 0, 1) := by decide +kernel
theorem dX6_signsToBlame_3 : decode cX6_signsToBlame 3 = .ok (.istore 4, 2) := by decide +kernel
theorem dX6_signsToBlame_5 : decode cX6_signsToBlame 5 = .ok (.iload 4, 2) := by decide +kernel
theorem dX6_signsToBlame_7 : decode cX6_signsToBlame 7 = .ok (.bipush 6, 2) := by decide +kernel
theorem dX6_signsToBlame_9 : decode cX6_signsToBlame 9 = .ok (.if_icmp .ge 30, 3) := by decide +kernel
theorem dX6_signsToBlame_12 : decode cX6_signsToBlame 12 = .ok (.aload_n 0, 1) := by decide +kernel
theorem dX6_signsToBlame_13 : decode cX6_signsToBlame 13 = .ok (.aload_n 1, 1) := by decide +kernel
theorem dX6_signsToBlame_14 : decode cX6_signsToBlame 14 = .ok (.iload_n 2, 1) := by decide +kernel
theorem dX6_signsToBlame_15 : decode cX6_signsToBlame 15 = .ok (.iconst 1, 1) := by decide +kernel
theorem dX6_signsToBlame_16 : decode cX6_signsToBlame 16 = .ok (.iload 4, 2) := by decide +kernel
theorem dX6_signsToBlame_18 : decode cX6_signsToBlame 18 = .ok (.ishl, 1) := by decide +kernel
theorem dX6_signsToBlame_19 : decode cX6_signsToBlame 19 = .ok (.ixor, 1) := by decide +kernel
theorem dX6_signsToBlame_20 : decode cX6_signsToBlame 20 = .ok (.invokevirtual 201, 3) := by decide +kernel
theorem dX6_signsToBlame_23 : decode cX6_signsToBlame 23 = .ok (.ifCond .eq 10, 3) := by decide +kernel
theorem dX6_signsToBlame_26 : decode cX6_signsToBlame 26 = .ok (.iload_n 3, 1) := by decide +kernel
theorem dX6_signsToBlame_27 : decode cX6_signsToBlame 27 = .ok (.iconst 1, 1) := by decide +kernel
theorem dX6_signsToBlame_28 : decode cX6_signsToBlame 28 = .ok (.iload 4, 2) := by decide +kernel
theorem dX6_signsToBlame_30 : decode cX6_signsToBlame 30 = .ok (.ishl, 1) := by decide +kernel
theorem dX6_signsToBlame_31 : decode cX6_signsToBlame 31 = .ok (.ior, 1) := by decide +kernel
theorem dX6_signsToBlame_32 : decode cX6_signsToBlame 32 = .ok (.istore_n 3, 1) := by decide +kernel
theorem dX6_signsToBlame_33 : decode cX6_signsToBlame 33 = .ok (.iinc 4 1, 3) := by decide +kernel
theorem dX6_signsToBlame_36 : decode cX6_signsToBlame 36 = .ok (.goto (-31), 3) := by decide +kernel
theorem dX6_signsToBlame_39 : decode cX6_signsToBlame 39 = .ok (.iload_n 3, 1) := by decide +kernel
theorem dX6_signsToBlame_40 : decode cX6_signsToBlame 40 = .ok (.ireturn, 1) := by decide +kernel
theorem dX6_endParts_0 : decode cX6_endParts 0 = .ok (.iconst 0, 1) := by decide +kernel
theorem dX6_endParts_1 : decode cX6_endParts 1 = .ok (.istore_n 2, 1) := by decide +kernel
theorem dX6_endParts_2 : decode cX6_endParts 2 = .ok (.iload_n 2, 1) := by decide +kernel
theorem dX6_endParts_3 : decode cX6_endParts 3 = .ok (.aload_n 1, 1) := by decide +kernel
theorem dX6_endParts_4 : decode cX6_endParts 4 = .ok (.getfield 163, 3) := by decide +kernel
theorem dX6_endParts_7 : decode cX6_endParts 7 = .ok (.if_icmp .ge 42, 3) := by decide +kernel
theorem dX6_endParts_10 : decode cX6_endParts 10 = .ok (.aload_n 0, 1) := by decide +kernel
theorem dX6_endParts_11 : decode cX6_endParts 11 = .ok (.getfield 12, 3) := by decide +kernel
theorem dX6_endParts_14 : decode cX6_endParts 14 = .ok (.getfield 197, 3) := by decide +kernel
theorem dX6_endParts_17 : decode cX6_endParts 17 = .ok (.aload_n 0, 1) := by decide +kernel
theorem dX6_endParts_18 : decode cX6_endParts 18 = .ok (.aload_n 1, 1) := by decide +kernel
theorem dX6_endParts_19 : decode cX6_endParts 19 = .ok (.iload_n 2, 1) := by decide +kernel
theorem dX6_endParts_20 : decode cX6_endParts 20 = .ok (.invokevirtual 194, 3) := by decide +kernel
theorem dX6_endParts_23 : decode cX6_endParts 23 = .ok (.baload, 1) := by decide +kernel
theorem dX6_endParts_24 : decode cX6_endParts 24 = .ok (.istore_n 3, 1) := by decide +kernel
theorem dX6_endParts_25 : decode cX6_endParts 25 = .ok (.aload_n 0, 1) := by decide +kernel
theorem dX6_endParts_26 : decode cX6_endParts 26 = .ok (.getfield 28, 3) := by decide +kernel
theorem dX6_endParts_29 : decode cX6_endParts 29 = .ok (.iload_n 3, 1) := by decide +kernel
theorem dX6_endParts_30 : decode cX6_endParts 30 = .ok (.ifCond .eq 7, 3) := by decide +kernel
theorem dX6_endParts_33 : decode cX6_endParts 33 = .ok (.iconst 1, 1) := by decide +kernel
theorem dX6_endParts_34 : decode cX6_endParts 34 = .ok (.goto 4, 3) := by decide +kernel
theorem dX6_endParts_37 : decode cX6_endParts 37 = .ok (.iconst 0, 1) := by decide +kernel
theorem dX6_endParts_38 : decode cX6_endParts 38 = .ok (.aload_n 1, 1) := by decide +kernel
theorem dX6_endParts_39 : decode cX6_endParts 39 = .ok (.iload_n 2, 1) := by decide +kernel
theorem dX6_endParts_40 : decode cX6_endParts 40 = .ok (.invokevirtual 223, 3) := by decide +kernel
theorem dX6_endParts_43 : decode cX6_endParts 43 = .ok (.iinc 2 1, 3) := by decide +kernel
theorem dX6_endParts_46 : decode cX6_endParts 46 = .ok (.goto (-44), 3) := by decide +kernel
theorem dX6_endParts_49 : decode cX6_endParts 49 = .ok (.return_, 1) := by decide +kernel
theorem dX6_bring_0 : decode cX6_bring 0 = .ok (.aload_n 0, 1) := by decide +kernel
theorem dX6_bring_1 : decode cX6_bring 1 = .ok (.getfield 12, 3) := by decide +kernel
theorem dX6_bring_4 : decode cX6_bring 4 = .ok (.getfield 227, 3) := by decide +kernel
theorem dX6_bring_7 : decode cX6_bring 7 = .ok (.iload_n 1, 1) := by decide +kernel
theorem dX6_bring_8 : decode cX6_bring 8 = .ok (.iaload, 1) := by decide +kernel
theorem dX6_bring_9 : decode cX6_bring 9 = .ok (.bipush 20, 2) := by decide +kernel
theorem dX6_bring_11 : decode cX6_bring 11 = .ok (.if_icmp .ne 7, 3) := by decide +kernel
theorem dX6_bring_14 : decode cX6_bring 14 = .ok (.iconst 1, 1) := by decide +kernel
theorem dX6_bring_15 : decode cX6_bring 15 = .ok (.goto 4, 3) := by decide +kernel
theorem dX6_bring_18 : decode cX6_bring 18 = .ok (.iconst 0, 1) := by decide +kernel
theorem dX6_bring_19 : decode cX6_bring 19 = .ok (.istore_n 2, 1) := by decide +kernel
theorem dX6_bring_20 : decode cX6_bring 20 = .ok (.iload_n 2, 1) := by decide +kernel
theorem dX6_bring_21 : decode cX6_bring 21 = .ok (.ifCond .eq 15, 3) := by decide +kernel
theorem dX6_bring_24 : decode cX6_bring 24 = .ok (.aload_n 0, 1) := by decide +kernel
theorem dX6_bring_25 : decode cX6_bring 25 = .ok (.getfield 12, 3) := by decide +kernel
theorem dX6_bring_28 : decode cX6_bring 28 = .ok (.getfield 230, 3) := by decide +kernel
theorem dX6_bring_31 : decode cX6_bring 31 = .ok (.iload_n 1, 1) := by decide +kernel
theorem dX6_bring_32 : decode cX6_bring 32 = .ok (.iaload, 1) := by decide +kernel
theorem dX6_bring_33 : decode cX6_bring 33 = .ok (.goto 4, 3) := by decide +kernel
theorem dX6_bring_36 : decode cX6_bring 36 = .ok (.iconst 1, 1) := by decide +kernel
theorem dX6_bring_37 : decode cX6_bring 37 = .ok (.istore_n 3, 1) := by decide +kernel
theorem dX6_bring_38 : decode cX6_bring 38 = .ok (.aload_n 0, 1) := by decide +kernel
theorem dX6_bring_39 : decode cX6_bring 39 = .ok (.getfield 59, 3) := by decide +kernel
theorem dX6_bring_42 : decode cX6_bring 42 = .ok (.getfield 77, 3) := by decide +kernel
theorem dX6_bring_45 : decode cX6_bring 45 = .ok (.istore 4, 2) := by decide +kernel
theorem dX6_bring_47 : decode cX6_bring 47 = .ok (.iload 4, 2) := by decide +kernel
theorem dX6_bring_49 : decode cX6_bring 49 = .ok (.bipush 8, 2) := by decide +kernel
theorem dX6_bring_51 : decode cX6_bring 51 = .ok (.if_icmp .ge 9, 3) := by decide +kernel
theorem dX6_bring_54 : decode cX6_bring 54 = .ok (.iload_n 3, 1) := by decide +kernel
theorem dX6_bring_55 : decode cX6_bring 55 = .ok (.bipush 8, 2) := by decide +kernel
theorem dX6_bring_57 : decode cX6_bring 57 = .ok (.if_icmp .le 6, 3) := by decide +kernel
theorem dX6_bring_60 : decode cX6_bring 60 = .ok (.bipush (-3), 2) := by decide +kernel
theorem dX6_bring_62 : decode cX6_bring 62 = .ok (.ireturn, 1) := by decide +kernel
theorem dX6_bring_63 : decode cX6_bring 63 = .ok (.aload_n 0, 1) := by decide +kernel
theorem dX6_bring_64 : decode cX6_bring 64 = .ok (.getfield 62, 3) := by decide +kernel
theorem dX6_bring_67 : decode cX6_bring 67 = .ok (.aload_n 0, 1) := by decide +kernel
theorem dX6_bring_68 : decode cX6_bring 68 = .ok (.getfield 59, 3) := by decide +kernel
theorem dX6_bring_71 : decode cX6_bring 71 = .ok (.invokevirtual 73, 3) := by decide +kernel
theorem dX6_bring_74 : decode cX6_bring 74 = .ok (.aload_n 0, 1) := by decide +kernel
theorem dX6_bring_75 : decode cX6_bring 75 = .ok (.getfield 62, 3) := by decide +kernel
theorem dX6_bring_78 : decode cX6_bring 78 = .ok (.getfield 80, 3) := by decide +kernel
theorem dX6_bring_81 : decode cX6_bring 81 = .ok (.iload 4, 2) := by decide +kernel
theorem dX6_bring_83 : decode cX6_bring 83 = .ok (.aaload, 1) := by decide +kernel
theorem dX6_bring_84 : decode cX6_bring 84 = .ok (.astore 5, 2) := by decide +kernel
theorem dX6_bring_86 : decode cX6_bring 86 = .ok (.iconst 0, 1) := by decide +kernel
theorem dX6_bring_87 : decode cX6_bring 87 = .ok (.istore 6, 2) := by decide +kernel
theorem dX6_bring_89 : decode cX6_bring 89 = .ok (.iload 6, 2) := by decide +kernel
theorem dX6_bring_91 : decode cX6_bring 91 = .ok (.iload_n 3, 1) := by decide +kernel
theorem dX6_bring_92 : decode cX6_bring 92 = .ok (.if_icmp .ge 60, 3) := by decide +kernel
theorem dX6_bring_95 : decode cX6_bring 95 = .ok (.iload_n 2, 1) := by decide +kernel
theorem dX6_bring_96 : decode cX6_bring 96 = .ok (.ifCond .eq 16, 3) := by decide +kernel
theorem dX6_bring_99 : decode cX6_bring 99 = .ok (.aload_n 0, 1) := by decide +kernel
theorem dX6_bring_100 : decode cX6_bring 100 = .ok (.getfield 12, 3) := by decide +kernel
theorem dX6_bring_103 : decode cX6_bring 103 = .ok (.iload_n 1, 1) := by decide +kernel
theorem dX6_bring_104 : decode cX6_bring 104 = .ok (.iload 6, 2) := by decide +kernel
theorem dX6_bring_106 : decode cX6_bring 106 = .ok (.invokevirtual 233, 3) := by decide +kernel
theorem dX6_bring_109 : decode cX6_bring 109 = .ok (.goto 4, 3) := by decide +kernel
theorem dX6_bring_112 : decode cX6_bring 112 = .ok (.iload_n 1, 1) := by decide +kernel
theorem dX6_bring_113 : decode cX6_bring 113 = .ok (.istore 7, 2) := by decide +kernel
theorem dX6_bring_115 : decode cX6_bring 115 = .ok (.aload_n 0, 1) := by decide +kernel
theorem dX6_bring_116 : decode cX6_bring 116 = .ok (.getfield 12, 3) := by decide +kernel
theorem dX6_bring_119 : decode cX6_bring 119 = .ok (.getfield 220, 3) := by decide +kernel
theorem dX6_bring_122 : decode cX6_bring 122 = .ok (.iload 7, 2) := by decide +kernel
theorem dX6_bring_124 : decode cX6_bring 124 = .ok (.iaload, 1) := by decide +kernel
theorem dX6_bring_125 : decode cX6_bring 125 = .ok (.bipush 120, 2) := by decide +kernel
theorem dX6_bring_127 : decode cX6_bring 127 = .ok (.if_icmp .le 6, 3) := by decide +kernel
theorem dX6_bring_130 : decode cX6_bring 130 = .ok (.bipush (-3), 2) := by decide +kernel
theorem dX6_bring_132 : decode cX6_bring 132 = .ok (.ireturn, 1) := by decide +kernel
theorem dX6_bring_133 : decode cX6_bring 133 = .ok (.aload_n 0, 1) := by decide +kernel
theorem dX6_bring_134 : decode cX6_bring 134 = .ok (.getfield 28, 3) := by decide +kernel
theorem dX6_bring_137 : decode cX6_bring 137 = .ok (.iload 7, 2) := by decide +kernel
theorem dX6_bring_139 : decode cX6_bring 139 = .ok (.aload 5, 2) := by decide +kernel
theorem dX6_bring_141 : decode cX6_bring 141 = .ok (.iload 6, 2) := by decide +kernel
theorem dX6_bring_143 : decode cX6_bring 143 = .ok (.invokevirtual 223, 3) := by decide +kernel
theorem dX6_bring_146 : decode cX6_bring 146 = .ok (.iinc 6 1, 3) := by decide +kernel
theorem dX6_bring_149 : decode cX6_bring 149 = .ok (.goto (-60), 3) := by decide +kernel
theorem dX6_bring_152 : decode cX6_bring 152 = .ok (.aload 5, 2) := by decide +kernel
theorem dX6_bring_154 : decode cX6_bring 154 = .ok (.iload_n 3, 1) := by decide +kernel
theorem dX6_bring_155 : decode cX6_bring 155 = .ok (.aload_n 0, 1) := by decide +kernel
theorem dX6_bring_156 : decode cX6_bring 156 = .ok (.getfield 59, 3) := by decide +kernel
theorem dX6_bring_159 : decode cX6_bring 159 = .ok (.getfield 69, 3) := by decide +kernel
theorem dX6_bring_162 : decode cX6_bring 162 = .ok (.invokevirtual 236, 3) := by decide +kernel
theorem dX6_bring_165 : decode cX6_bring 165 = .ok (.aload_n 0, 1) := by decide +kernel
theorem dX6_bring_166 : decode cX6_bring 166 = .ok (.getfield 62, 3) := by decide +kernel
theorem dX6_bring_169 : decode cX6_bring 169 = .ok (.dup, 1) := by decide +kernel
theorem dX6_bring_170 : decode cX6_bring 170 = .ok (.getfield 77, 3) := by decide +kernel
theorem dX6_bring_173 : decode cX6_bring 173 = .ok (.iconst 1, 1) := by decide +kernel
theorem dX6_bring_174 : decode cX6_bring 174 = .ok (.iadd, 1) := by decide +kernel
theorem dX6_bring_175 : decode cX6_bring 175 = .ok (.putfield 77, 3) := by decide +kernel
theorem dX6_bring_178 : decode cX6_bring 178 = .ok (.aload_n 0, 1) := by decide +kernel
theorem dX6_bring_179 : decode cX6_bring 179 = .ok (.invokevirtual 110, 3) := by decide +kernel
theorem dX6_bring_182 : decode cX6_bring 182 = .ok (.iload 4, 2) := by decide +kernel
theorem dX6_bring_184 : decode cX6_bring 184 = .ok (.ireturn, 1) := by decide +kernel
theorem dX6_loadAlone_0 : decode cX6_loadAlone 0 = .ok (.aload_n 0, 1) := by decide +kernel
theorem dX6_loadAlone_1 : decode cX6_loadAlone 1 = .ok (.getfield 12, 3) := by decide +kernel
theorem dX6_loadAlone_4 : decode cX6_loadAlone 4 = .ok (.bipush 16, 2) := by decide +kernel
theorem dX6_loadAlone_6 : decode cX6_loadAlone 6 = .ok (.invokevirtual 124, 3) := by decide +kernel
theorem dX6_loadAlone_9 : decode cX6_loadAlone 9 = .ok (.aload_n 0, 1) := by decide +kernel
theorem dX6_loadAlone_10 : decode cX6_loadAlone 10 = .ok (.getfield 28, 3) := by decide +kernel
theorem dX6_loadAlone_13 : decode cX6_loadAlone 13 = .ok (.aload_n 1, 1) := by decide +kernel
theorem dX6_loadAlone_14 : decode cX6_loadAlone 14 = .ok (.iload_n 2, 1) := by decide +kernel
theorem dX6_loadAlone_15 : decode cX6_loadAlone 15 = .ok (.invokevirtual 240, 3) := by decide +kernel
theorem dX6_loadAlone_18 : decode cX6_loadAlone 18 = .ok (.ireturn, 1) := by decide +kernel
theorem dX6_allOfParts_0 : decode cX6_allOfParts 0 = .ok (.aload_n 0, 1) := by decide +kernel
theorem dX6_allOfParts_1 : decode cX6_allOfParts 1 = .ok (.getfield 21, 3) := by decide +kernel
theorem dX6_allOfParts_4 : decode cX6_allOfParts 4 = .ok (.bipush 20, 2) := by decide +kernel
theorem dX6_allOfParts_6 : decode cX6_allOfParts 6 = .ok (.invokevirtual 243, 3) := by decide +kernel
theorem dX6_allOfParts_9 : decode cX6_allOfParts 9 = .ok (.iconst 0, 1) := by decide +kernel
theorem dX6_allOfParts_10 : decode cX6_allOfParts 10 = .ok (.istore_n 2, 1) := by decide +kernel
theorem dX6_allOfParts_11 : decode cX6_allOfParts 11 = .ok (.iload_n 2, 1) := by decide +kernel
theorem dX6_allOfParts_12 : decode cX6_allOfParts 12 = .ok (.aload_n 1, 1) := by decide +kernel
theorem dX6_allOfParts_13 : decode cX6_allOfParts 13 = .ok (.getfield 163, 3) := by decide +kernel
theorem dX6_allOfParts_16 : decode cX6_allOfParts 16 = .ok (.if_icmp .ge 25, 3) := by decide +kernel
theorem dX6_allOfParts_19 : decode cX6_allOfParts 19 = .ok (.aload_n 0, 1) := by decide +kernel
theorem dX6_allOfParts_20 : decode cX6_allOfParts 20 = .ok (.getfield 21, 3) := by decide +kernel
theorem dX6_allOfParts_23 : decode cX6_allOfParts 23 = .ok (.aload_n 0, 1) := by decide +kernel
theorem dX6_allOfParts_24 : decode cX6_allOfParts 24 = .ok (.getfield 28, 3) := by decide +kernel
theorem dX6_allOfParts_27 : decode cX6_allOfParts 27 = .ok (.aload_n 1, 1) := by decide +kernel
theorem dX6_allOfParts_28 : decode cX6_allOfParts 28 = .ok (.iload_n 2, 1) := by decide +kernel
theorem dX6_allOfParts_29 : decode cX6_allOfParts 29 = .ok (.invokevirtual 240, 3) := by decide +kernel
theorem dX6_allOfParts_32 : decode cX6_allOfParts 32 = .ok (.invokevirtual 246, 3) := by decide +kernel
theorem dX6_allOfParts_35 : decode cX6_allOfParts 35 = .ok (.iinc 2 1, 3) := by decide +kernel
theorem dX6_allOfParts_38 : decode cX6_allOfParts 38 = .ok (.goto (-27), 3) := by decide +kernel
theorem dX6_allOfParts_41 : decode cX6_allOfParts 41 = .ok (.aload_n 0, 1) := by decide +kernel
theorem dX6_allOfParts_42 : decode cX6_allOfParts 42 = .ok (.getfield 21, 3) := by decide +kernel
theorem dX6_allOfParts_45 : decode cX6_allOfParts 45 = .ok (.invokevirtual 249, 3) := by decide +kernel
theorem dX6_allOfParts_48 : decode cX6_allOfParts 48 = .ok (.ireturn, 1) := by decide +kernel
theorem dX6_verdictIfEnded_0 : decode cX6_verdictIfEnded 0 = .ok (.aload_n 1, 1) := by decide +kernel
theorem dX6_verdictIfEnded_1 : decode cX6_verdictIfEnded 1 = .ok (.getfield 93, 3) := by decide +kernel
theorem dX6_verdictIfEnded_4 : decode cX6_verdictIfEnded 4 = .ok (.iconst 2, 1) := by decide +kernel
theorem dX6_verdictIfEnded_5 : decode cX6_verdictIfEnded 5 = .ok (.if_icmp .eq 8, 3) := by decide +kernel
theorem dX6_verdictIfEnded_8 : decode cX6_verdictIfEnded 8 = .ok (.aload_n 1, 1) := by decide +kernel
theorem dX6_verdictIfEnded_9 : decode cX6_verdictIfEnded 9 = .ok (.getfield 93, 3) := by decide +kernel
theorem dX6_verdictIfEnded_12 : decode cX6_verdictIfEnded 12 = .ok (.ireturn, 1) := by decide +kernel
theorem dX6_verdictIfEnded_13 : decode cX6_verdictIfEnded 13 = .ok (.iconst 0, 1) := by decide +kernel
theorem dX6_verdictIfEnded_14 : decode cX6_verdictIfEnded 14 = .ok (.istore_n 2, 1) := by decide +kernel
theorem dX6_verdictIfEnded_15 : decode cX6_verdictIfEnded 15 = .ok (.iload_n 2, 1) := by decide +kernel
theorem dX6_verdictIfEnded_16 : decode cX6_verdictIfEnded 16 = .ok (.aload_n 1, 1) := by decide +kernel
theorem dX6_verdictIfEnded_17 : decode cX6_verdictIfEnded 17 = .ok (.getfield 163, 3) := by decide +kernel
theorem dX6_verdictIfEnded_20 : decode cX6_verdictIfEnded 20 = .ok (.if_icmp .ge 28, 3) := by decide +kernel
theorem dX6_verdictIfEnded_23 : decode cX6_verdictIfEnded 23 = .ok (.aload_n 0, 1) := by decide +kernel
theorem dX6_verdictIfEnded_24 : decode cX6_verdictIfEnded 24 = .ok (.getfield 12, 3) := by decide +kernel
theorem dX6_verdictIfEnded_27 : decode cX6_verdictIfEnded 27 = .ok (.getfield 197, 3) := by decide +kernel
theorem dX6_verdictIfEnded_30 : decode cX6_verdictIfEnded 30 = .ok (.aload_n 0, 1) := by decide +kernel
theorem dX6_verdictIfEnded_31 : decode cX6_verdictIfEnded 31 = .ok (.aload_n 1, 1) := by decide +kernel
theorem dX6_verdictIfEnded_32 : decode cX6_verdictIfEnded 32 = .ok (.iload_n 2, 1) := by decide +kernel
theorem dX6_verdictIfEnded_33 : decode cX6_verdictIfEnded 33 = .ok (.invokevirtual 194, 3) := by decide +kernel
theorem dX6_verdictIfEnded_36 : decode cX6_verdictIfEnded 36 = .ok (.baload, 1) := by decide +kernel
theorem dX6_verdictIfEnded_37 : decode cX6_verdictIfEnded 37 = .ok (.ifCond .ne 5, 3) := by decide +kernel
theorem dX6_verdictIfEnded_40 : decode cX6_verdictIfEnded 40 = .ok (.iconst 0, 1) := by decide +kernel
theorem dX6_verdictIfEnded_41 : decode cX6_verdictIfEnded 41 = .ok (.ireturn, 1) := by decide +kernel
theorem dX6_verdictIfEnded_42 : decode cX6_verdictIfEnded 42 = .ok (.iinc 2 1, 3) := by decide +kernel
theorem dX6_verdictIfEnded_45 : decode cX6_verdictIfEnded 45 = .ok (.goto (-30), 3) := by decide +kernel
theorem dX6_verdictIfEnded_48 : decode cX6_verdictIfEnded 48 = .ok (.iconst 1, 1) := by decide +kernel
theorem dX6_verdictIfEnded_49 : decode cX6_verdictIfEnded 49 = .ok (.ireturn, 1) := by decide +kernel
theorem dX6_verdictBehind_0 : decode cX6_verdictBehind 0 = .ok (.aload_n 1, 1) := by decide +kernel
theorem dX6_verdictBehind_1 : decode cX6_verdictBehind 1 = .ok (.getfield 93, 3) := by decide +kernel
theorem dX6_verdictBehind_4 : decode cX6_verdictBehind 4 = .ok (.iconst 2, 1) := by decide +kernel
theorem dX6_verdictBehind_5 : decode cX6_verdictBehind 5 = .ok (.if_icmp .eq 8, 3) := by decide +kernel
theorem dX6_verdictBehind_8 : decode cX6_verdictBehind 8 = .ok (.aload_n 1, 1) := by decide +kernel
theorem dX6_verdictBehind_9 : decode cX6_verdictBehind 9 = .ok (.getfield 93, 3) := by decide +kernel
theorem dX6_verdictBehind_12 : decode cX6_verdictBehind 12 = .ok (.ireturn, 1) := by decide +kernel
theorem dX6_verdictBehind_13 : decode cX6_verdictBehind 13 = .ok (.iconst 1, 1) := by decide +kernel
theorem dX6_verdictBehind_14 : decode cX6_verdictBehind 14 = .ok (.istore_n 3, 1) := by decide +kernel
theorem dX6_verdictBehind_15 : decode cX6_verdictBehind 15 = .ok (.iconst 0, 1) := by decide +kernel
theorem dX6_verdictBehind_16 : decode cX6_verdictBehind 16 = .ok (.istore 4, 2) := by decide +kernel
theorem dX6_verdictBehind_18 : decode cX6_verdictBehind 18 = .ok (.iload 4, 2) := by decide +kernel
theorem dX6_verdictBehind_20 : decode cX6_verdictBehind 20 = .ok (.aload_n 1, 1) := by decide +kernel
theorem dX6_verdictBehind_21 : decode cX6_verdictBehind 21 = .ok (.getfield 163, 3) := by decide +kernel
theorem dX6_verdictBehind_24 : decode cX6_verdictBehind 24 = .ok (.if_icmp .ge 40, 3) := by decide +kernel
theorem dX6_verdictBehind_27 : decode cX6_verdictBehind 27 = .ok (.iload_n 3, 1) := by decide +kernel
theorem dX6_verdictBehind_28 : decode cX6_verdictBehind 28 = .ok (.ifCond .eq 36, 3) := by decide +kernel
theorem dX6_verdictBehind_31 : decode cX6_verdictBehind 31 = .ok (.aload_n 0, 1) := by decide +kernel
theorem dX6_verdictBehind_32 : decode cX6_verdictBehind 32 = .ok (.getfield 21, 3) := by decide +kernel
theorem dX6_verdictBehind_35 : decode cX6_verdictBehind 35 = .ok (.aload_n 0, 1) := by decide +kernel
theorem dX6_verdictBehind_36 : decode cX6_verdictBehind 36 = .ok (.aload_n 1, 1) := by decide +kernel
theorem dX6_verdictBehind_37 : decode cX6_verdictBehind 37 = .ok (.iload 4, 2) := by decide +kernel
theorem dX6_verdictBehind_39 : decode cX6_verdictBehind 39 = .ok (.invokevirtual 194, 3) := by decide +kernel
theorem dX6_verdictBehind_42 : decode cX6_verdictBehind 42 = .ok (.iload_n 2, 1) := by decide +kernel
theorem dX6_verdictBehind_43 : decode cX6_verdictBehind 43 = .ok (.invokevirtual 216, 3) := by decide +kernel
theorem dX6_verdictBehind_46 : decode cX6_verdictBehind 46 = .ok (.istore 5, 2) := by decide +kernel
theorem dX6_verdictBehind_48 : decode cX6_verdictBehind 48 = .ok (.iload_n 3, 1) := by decide +kernel
theorem dX6_verdictBehind_49 : decode cX6_verdictBehind 49 = .ok (.iload 5, 2) := by decide +kernel
theorem dX6_verdictBehind_51 : decode cX6_verdictBehind 51 = .ok (.invokestatic 252, 3) := by decide +kernel
theorem dX6_verdictBehind_54 : decode cX6_verdictBehind 54 = .ok (.invokestatic 255, 3) := by decide +kernel
theorem dX6_verdictBehind_57 : decode cX6_verdictBehind 57 = .ok (.istore_n 3, 1) := by decide +kernel
theorem dX6_verdictBehind_58 : decode cX6_verdictBehind 58 = .ok (.iinc 4 1, 3) := by decide +kernel
theorem dX6_verdictBehind_61 : decode cX6_verdictBehind 61 = .ok (.goto (-43), 3) := by decide +kernel
theorem dX6_verdictBehind_64 : decode cX6_verdictBehind 64 = .ok (.iload_n 3, 1) := by decide +kernel
theorem dX6_verdictBehind_65 : decode cX6_verdictBehind 65 = .ok (.ireturn, 1) := by decide +kernel
theorem dX6_findOutcomes_0 : decode cX6_findOutcomes 0 = .ok (.iconst 0, 1) := by decide +kernel
theorem dX6_findOutcomes_1 : decode cX6_findOutcomes 1 = .ok (.istore_n 2, 1) := by decide +kernel
theorem dX6_findOutcomes_2 : decode cX6_findOutcomes 2 = .ok (.iload_n 2, 1) := by decide +kernel
theorem dX6_findOutcomes_3 : decode cX6_findOutcomes 3 = .ok (.bipush 64, 2) := by decide +kernel
theorem dX6_findOutcomes_5 : decode cX6_findOutcomes 5 = .ok (.if_icmp .ge 31, 3) := by decide +kernel
theorem dX6_findOutcomes_8 : decode cX6_findOutcomes 8 = .ok (.aload_n 0, 1) := by decide +kernel
theorem dX6_findOutcomes_9 : decode cX6_findOutcomes 9 = .ok (.getfield 41, 3) := by decide +kernel
theorem dX6_findOutcomes_12 : decode cX6_findOutcomes 12 = .ok (.iload_n 2, 1) := by decide +kernel
theorem dX6_findOutcomes_13 : decode cX6_findOutcomes 13 = .ok (.aload_n 1, 1) := by decide +kernel
theorem dX6_findOutcomes_14 : decode cX6_findOutcomes 14 = .ok (.getfield 93, 3) := by decide +kernel
theorem dX6_findOutcomes_17 : decode cX6_findOutcomes 17 = .ok (.iconst 2, 1) := by decide +kernel
theorem dX6_findOutcomes_18 : decode cX6_findOutcomes 18 = .ok (.if_icmp .ne 7, 3) := by decide +kernel
theorem dX6_findOutcomes_21 : decode cX6_findOutcomes 21 = .ok (.iconst 1, 1) := by decide +kernel
theorem dX6_findOutcomes_22 : decode cX6_findOutcomes 22 = .ok (.goto 7, 3) := by decide +kernel
theorem dX6_findOutcomes_25 : decode cX6_findOutcomes 25 = .ok (.aload_n 1, 1) := by decide +kernel
theorem dX6_findOutcomes_26 : decode cX6_findOutcomes 26 = .ok (.getfield 93, 3) := by decide +kernel
theorem dX6_findOutcomes_29 : decode cX6_findOutcomes 29 = .ok (.iastore, 1) := by decide +kernel
theorem dX6_findOutcomes_30 : decode cX6_findOutcomes 30 = .ok (.iinc 2 1, 3) := by decide +kernel
theorem dX6_findOutcomes_33 : decode cX6_findOutcomes 33 = .ok (.goto (-31), 3) := by decide +kernel
theorem dX6_findOutcomes_36 : decode cX6_findOutcomes 36 = .ok (.aload_n 1, 1) := by decide +kernel
theorem dX6_findOutcomes_37 : decode cX6_findOutcomes 37 = .ok (.getfield 93, 3) := by decide +kernel
theorem dX6_findOutcomes_40 : decode cX6_findOutcomes 40 = .ok (.iconst 2, 1) := by decide +kernel
theorem dX6_findOutcomes_41 : decode cX6_findOutcomes 41 = .ok (.if_icmp .ne 25, 3) := by decide +kernel
theorem dX6_findOutcomes_44 : decode cX6_findOutcomes 44 = .ok (.iconst 0, 1) := by decide +kernel
theorem dX6_findOutcomes_45 : decode cX6_findOutcomes 45 = .ok (.istore_n 2, 1) := by decide +kernel
theorem dX6_findOutcomes_46 : decode cX6_findOutcomes 46 = .ok (.iload_n 2, 1) := by decide +kernel
theorem dX6_findOutcomes_47 : decode cX6_findOutcomes 47 = .ok (.aload_n 1, 1) := by decide +kernel
theorem dX6_findOutcomes_48 : decode cX6_findOutcomes 48 = .ok (.getfield 163, 3) := by decide +kernel
theorem dX6_findOutcomes_51 : decode cX6_findOutcomes 51 = .ok (.if_icmp .ge 15, 3) := by decide +kernel
theorem dX6_findOutcomes_54 : decode cX6_findOutcomes 54 = .ok (.aload_n 0, 1) := by decide +kernel
theorem dX6_findOutcomes_55 : decode cX6_findOutcomes 55 = .ok (.aload_n 1, 1) := by decide +kernel
theorem dX6_findOutcomes_56 : decode cX6_findOutcomes 56 = .ok (.iload_n 2, 1) := by decide +kernel
theorem dX6_findOutcomes_57 : decode cX6_findOutcomes 57 = .ok (.invokevirtual 258, 3) := by decide +kernel
theorem dX6_findOutcomes_60 : decode cX6_findOutcomes 60 = .ok (.iinc 2 1, 3) := by decide +kernel
theorem dX6_findOutcomes_63 : decode cX6_findOutcomes 63 = .ok (.goto (-17), 3) := by decide +kernel
theorem dX6_findOutcomes_66 : decode cX6_findOutcomes 66 = .ok (.return_, 1) := by decide +kernel
theorem dX6_addOutcomesOfPart_0 : decode cX6_addOutcomesOfPart 0 = .ok (.aload_n 0, 1) := by decide +kernel
theorem dX6_addOutcomesOfPart_1 : decode cX6_addOutcomesOfPart 1 = .ok (.aload_n 1, 1) := by decide +kernel
theorem dX6_addOutcomesOfPart_2 : decode cX6_addOutcomesOfPart 2 = .ok (.iload_n 2, 1) := by decide +kernel
theorem dX6_addOutcomesOfPart_3 : decode cX6_addOutcomesOfPart 3 = .ok (.invokevirtual 194, 3) := by decide +kernel
theorem dX6_addOutcomesOfPart_6 : decode cX6_addOutcomesOfPart 6 = .ok (.istore_n 3, 1) := by decide +kernel
theorem dX6_addOutcomesOfPart_7 : decode cX6_addOutcomesOfPart 7 = .ok (.aload_n 0, 1) := by decide +kernel
theorem dX6_addOutcomesOfPart_8 : decode cX6_addOutcomesOfPart 8 = .ok (.getfield 12, 3) := by decide +kernel
theorem dX6_addOutcomesOfPart_11 : decode cX6_addOutcomesOfPart 11 = .ok (.getfield 191, 3) := by decide +kernel
theorem dX6_addOutcomesOfPart_14 : decode cX6_addOutcomesOfPart 14 = .ok (.iload_n 3, 1) := by decide +kernel
theorem dX6_addOutcomesOfPart_15 : decode cX6_addOutcomesOfPart 15 = .ok (.iaload, 1) := by decide +kernel
theorem dX6_addOutcomesOfPart_16 : decode cX6_addOutcomesOfPart 16 = .ok (.istore 4, 2) := by decide +kernel
theorem dX6_addOutcomesOfPart_18 : decode cX6_addOutcomesOfPart 18 = .ok (.aload_n 0, 1) := by decide +kernel
theorem dX6_addOutcomesOfPart_19 : decode cX6_addOutcomesOfPart 19 = .ok (.getfield 12, 3) := by decide +kernel
theorem dX6_addOutcomesOfPart_22 : decode cX6_addOutcomesOfPart 22 = .ok (.getfield 262, 3) := by decide +kernel
theorem dX6_addOutcomesOfPart_25 : decode cX6_addOutcomesOfPart 25 = .ok (.istore 5, 2) := by decide +kernel
theorem dX6_addOutcomesOfPart_27 : decode cX6_addOutcomesOfPart 27 = .ok (.iconst 0, 1) := by decide +kernel
theorem dX6_addOutcomesOfPart_28 : decode cX6_addOutcomesOfPart 28 = .ok (.istore 6, 2) := by decide +kernel
theorem dX6_addOutcomesOfPart_30 : decode cX6_addOutcomesOfPart 30 = .ok (.iload 6, 2) := by decide +kernel
theorem dX6_addOutcomesOfPart_32 : decode cX6_addOutcomesOfPart 32 = .ok (.bipush 64, 2) := by decide +kernel
theorem dX6_addOutcomesOfPart_34 : decode cX6_addOutcomesOfPart 34 = .ok (.if_icmp .ge 75, 3) := by decide +kernel
theorem dX6_addOutcomesOfPart_37 : decode cX6_addOutcomesOfPart 37 = .ok (.iload 6, 2) := by decide +kernel
theorem dX6_addOutcomesOfPart_39 : decode cX6_addOutcomesOfPart 39 = .ok (.iload 4, 2) := by decide +kernel
theorem dX6_addOutcomesOfPart_41 : decode cX6_addOutcomesOfPart 41 = .ok (.iand, 1) := by decide +kernel
theorem dX6_addOutcomesOfPart_42 : decode cX6_addOutcomesOfPart 42 = .ok (.iload 6, 2) := by decide +kernel
theorem dX6_addOutcomesOfPart_44 : decode cX6_addOutcomesOfPart 44 = .ok (.if_icmp .ne 32, 3) := by decide +kernel
theorem dX6_addOutcomesOfPart_47 : decode cX6_addOutcomesOfPart 47 = .ok (.aload_n 0, 1) := by decide +kernel
theorem dX6_addOutcomesOfPart_48 : decode cX6_addOutcomesOfPart 48 = .ok (.getfield 45, 3) := by decide +kernel
theorem dX6_addOutcomesOfPart_51 : decode cX6_addOutcomesOfPart 51 = .ok (.iload 6, 2) := by decide +kernel
theorem dX6_addOutcomesOfPart_53 : decode cX6_addOutcomesOfPart 53 = .ok (.aload_n 0, 1) := by decide +kernel
theorem dX6_addOutcomesOfPart_54 : decode cX6_addOutcomesOfPart 54 = .ok (.getfield 21, 3) := by decide +kernel
theorem dX6_addOutcomesOfPart_57 : decode cX6_addOutcomesOfPart 57 = .ok (.iload_n 3, 1) := by decide +kernel
theorem dX6_addOutcomesOfPart_58 : decode cX6_addOutcomesOfPart 58 = .ok (.iload 6, 2) := by decide +kernel
theorem dX6_addOutcomesOfPart_60 : decode cX6_addOutcomesOfPart 60 = .ok (.invokevirtual 216, 3) := by decide +kernel
theorem dX6_addOutcomesOfPart_63 : decode cX6_addOutcomesOfPart 63 = .ok (.invokestatic 252, 3) := by decide +kernel
theorem dX6_addOutcomesOfPart_66 : decode cX6_addOutcomesOfPart 66 = .ok (.iastore, 1) := by decide +kernel
theorem dX6_addOutcomesOfPart_67 : decode cX6_addOutcomesOfPart 67 = .ok (.aload_n 0, 1) := by decide +kernel
theorem dX6_addOutcomesOfPart_68 : decode cX6_addOutcomesOfPart 68 = .ok (.getfield 12, 3) := by decide +kernel
theorem dX6_addOutcomesOfPart_71 : decode cX6_addOutcomesOfPart 71 = .ok (.iload 5, 2) := by decide +kernel
theorem dX6_addOutcomesOfPart_73 : decode cX6_addOutcomesOfPart 73 = .ok (.invokevirtual 124, 3) := by decide +kernel
theorem dX6_addOutcomesOfPart_76 : decode cX6_addOutcomesOfPart 76 = .ok (.aload_n 0, 1) := by decide +kernel
theorem dX6_addOutcomesOfPart_77 : decode cX6_addOutcomesOfPart 77 = .ok (.getfield 41, 3) := by decide +kernel
theorem dX6_addOutcomesOfPart_80 : decode cX6_addOutcomesOfPart 80 = .ok (.iload 6, 2) := by decide +kernel
theorem dX6_addOutcomesOfPart_82 : decode cX6_addOutcomesOfPart 82 = .ok (.aload_n 0, 1) := by decide +kernel
theorem dX6_addOutcomesOfPart_83 : decode cX6_addOutcomesOfPart 83 = .ok (.getfield 41, 3) := by decide +kernel
theorem dX6_addOutcomesOfPart_86 : decode cX6_addOutcomesOfPart 86 = .ok (.iload 6, 2) := by decide +kernel
theorem dX6_addOutcomesOfPart_88 : decode cX6_addOutcomesOfPart 88 = .ok (.iaload, 1) := by decide +kernel
theorem dX6_addOutcomesOfPart_89 : decode cX6_addOutcomesOfPart 89 = .ok (.aload_n 0, 1) := by decide +kernel
theorem dX6_addOutcomesOfPart_90 : decode cX6_addOutcomesOfPart 90 = .ok (.getfield 45, 3) := by decide +kernel
theorem dX6_addOutcomesOfPart_93 : decode cX6_addOutcomesOfPart 93 = .ok (.iload 6, 2) := by decide +kernel
theorem dX6_addOutcomesOfPart_95 : decode cX6_addOutcomesOfPart 95 = .ok (.iload 4, 2) := by decide +kernel
theorem dX6_addOutcomesOfPart_97 : decode cX6_addOutcomesOfPart 97 = .ok (.iand, 1) := by decide +kernel
theorem dX6_addOutcomesOfPart_98 : decode cX6_addOutcomesOfPart 98 = .ok (.iaload, 1) := by decide +kernel
theorem dX6_addOutcomesOfPart_99 : decode cX6_addOutcomesOfPart 99 = .ok (.invokestatic 255, 3) := by decide +kernel
theorem dX6_addOutcomesOfPart_102 : decode cX6_addOutcomesOfPart 102 = .ok (.iastore, 1) := by decide +kernel
theorem dX6_addOutcomesOfPart_103 : decode cX6_addOutcomesOfPart 103 = .ok (.iinc 6 1, 3) := by decide +kernel
theorem dX6_addOutcomesOfPart_106 : decode cX6_addOutcomesOfPart 106 = .ok (.goto (-76), 3) := by decide +kernel
theorem dX6_addOutcomesOfPart_109 : decode cX6_addOutcomesOfPart 109 = .ok (.return_, 1) := by decide +kernel
theorem dX6_verdictOfForm_0 : decode cX6_verdictOfForm 0 = .ok (.iload_n 0, 1) := by decide +kernel
theorem dX6_verdictOfForm_1 : decode cX6_verdictOfForm 1 = .ok (.ifCond .ne 7, 3) := by decide +kernel
theorem dX6_verdictOfForm_4 : decode cX6_verdictOfForm 4 = .ok (.iconst 0, 1) := by decide +kernel
theorem dX6_verdictOfForm_5 : decode cX6_verdictOfForm 5 = .ok (.goto 13, 3) := by decide +kernel
theorem dX6_verdictOfForm_8 : decode cX6_verdictOfForm 8 = .ok (.iload_n 0, 1) := by decide +kernel
theorem dX6_verdictOfForm_9 : decode cX6_verdictOfForm 9 = .ok (.iconst 1, 1) := by decide +kernel
theorem dX6_verdictOfForm_10 : decode cX6_verdictOfForm 10 = .ok (.if_icmp .ne 7, 3) := by decide +kernel
theorem dX6_verdictOfForm_13 : decode cX6_verdictOfForm 13 = .ok (.iconst 1, 1) := by decide +kernel
theorem dX6_verdictOfForm_14 : decode cX6_verdictOfForm 14 = .ok (.goto 4, 3) := by decide +kernel
theorem dX6_verdictOfForm_17 : decode cX6_verdictOfForm 17 = .ok (.iconst 2, 1) := by decide +kernel
theorem dX6_verdictOfForm_18 : decode cX6_verdictOfForm 18 = .ok (.ireturn, 1) := by decide +kernel
theorem dX6_worse_0 : decode cX6_worse 0 = .ok (.iload_n 0, 1) := by decide +kernel
theorem dX6_worse_1 : decode cX6_worse 1 = .ok (.ifCond .eq 7, 3) := by decide +kernel
theorem dX6_worse_4 : decode cX6_worse 4 = .ok (.iload_n 1, 1) := by decide +kernel
theorem dX6_worse_5 : decode cX6_worse 5 = .ok (.ifCond .ne 5, 3) := by decide +kernel
theorem dX6_worse_8 : decode cX6_worse 8 = .ok (.iconst 0, 1) := by decide +kernel
theorem dX6_worse_9 : decode cX6_worse 9 = .ok (.ireturn, 1) := by decide +kernel
theorem dX6_worse_10 : decode cX6_worse 10 = .ok (.iload_n 0, 1) := by decide +kernel
theorem dX6_worse_11 : decode cX6_worse 11 = .ok (.iconst 2, 1) := by decide +kernel
theorem dX6_worse_12 : decode cX6_worse 12 = .ok (.if_icmp .eq 8, 3) := by decide +kernel
theorem dX6_worse_15 : decode cX6_worse 15 = .ok (.iload_n 1, 1) := by decide +kernel
theorem dX6_worse_16 : decode cX6_worse 16 = .ok (.iconst 2, 1) := by decide +kernel
theorem dX6_worse_17 : decode cX6_worse 17 = .ok (.if_icmp .ne 7, 3) := by decide +kernel
theorem dX6_worse_20 : decode cX6_worse 20 = .ok (.iconst 2, 1) := by decide +kernel
theorem dX6_worse_21 : decode cX6_worse 21 = .ok (.goto 4, 3) := by decide +kernel
theorem dX6_worse_24 : decode cX6_worse 24 = .ok (.iconst 1, 1) := by decide +kernel
theorem dX6_worse_25 : decode cX6_worse 25 = .ok (.ireturn, 1) := by decide +kernel
theorem dX7_init_0 : decode cX7_init 0 = .ok (.aload_n 0, 1) := by decide +kernel
theorem dX7_init_1 : decode cX7_init 1 = .ok (.invokespecial 1, 3) := by decide +kernel
theorem dX7_init_4 : decode cX7_init 4 = .ok (.aload_n 0, 1) := by decide +kernel
theorem dX7_init_5 : decode cX7_init 5 = .ok (.sipush 31088, 3) := by decide +kernel
theorem dX7_init_8 : decode cX7_init 8 = .ok (.newarray .int, 2) := by decide +kernel
theorem dX7_init_10 : decode cX7_init 10 = .ok (.putfield 7, 3) := by decide +kernel
theorem dX7_init_13 : decode cX7_init 13 = .ok (.aload_n 0, 1) := by decide +kernel
theorem dX7_init_14 : decode cX7_init 14 = .ok (.ldc 13, 2) := by decide +kernel
theorem dX7_init_16 : decode cX7_init 16 = .ok (.newarray .int, 2) := by decide +kernel
theorem dX7_init_18 : decode cX7_init 18 = .ok (.putfield 14, 3) := by decide +kernel
theorem dX7_init_21 : decode cX7_init 21 = .ok (.aload_n 0, 1) := by decide +kernel
theorem dX7_init_22 : decode cX7_init 22 = .ok (.sipush 31088, 3) := by decide +kernel
theorem dX7_init_25 : decode cX7_init 25 = .ok (.newarray .int, 2) := by decide +kernel
theorem dX7_init_27 : decode cX7_init 27 = .ok (.putfield 17, 3) := by decide +kernel
theorem dX7_init_30 : decode cX7_init 30 = .ok (.aload_n 0, 1) := by decide +kernel
theorem dX7_init_31 : decode cX7_init 31 = .ok (.sipush 8000, 3) := by decide +kernel
theorem dX7_init_34 : decode cX7_init 34 = .ok (.newarray .int, 2) := by decide +kernel
theorem dX7_init_36 : decode cX7_init 36 = .ok (.putfield 20, 3) := by decide +kernel
theorem dX7_init_39 : decode cX7_init 39 = .ok (.aload_n 0, 1) := by decide +kernel
theorem dX7_init_40 : decode cX7_init 40 = .ok (.sipush 8000, 3) := by decide +kernel
theorem dX7_init_43 : decode cX7_init 43 = .ok (.newarray .int, 2) := by decide +kernel
theorem dX7_init_45 : decode cX7_init 45 = .ok (.putfield 23, 3) := by decide +kernel
theorem dX7_init_48 : decode cX7_init 48 = .ok (.aload_n 0, 1) := by decide +kernel
theorem dX7_init_49 : decode cX7_init 49 = .ok (.sipush 8000, 3) := by decide +kernel
theorem dX7_init_52 : decode cX7_init 52 = .ok (.newarray .int, 2) := by decide +kernel
theorem dX7_init_54 : decode cX7_init 54 = .ok (.putfield 26, 3) := by decide +kernel
theorem dX7_init_57 : decode cX7_init 57 = .ok (.aload_n 0, 1) := by decide +kernel
theorem dX7_init_58 : decode cX7_init 58 = .ok (.sipush 8000, 3) := by decide +kernel
theorem dX7_init_61 : decode cX7_init 61 = .ok (.newarray .int, 2) := by decide +kernel
theorem dX7_init_63 : decode cX7_init 63 = .ok (.putfield 29, 3) := by decide +kernel
theorem dX7_init_66 : decode cX7_init 66 = .ok (.aload_n 0, 1) := by decide +kernel
theorem dX7_init_67 : decode cX7_init 67 = .ok (.sipush 8000, 3) := by decide +kernel
theorem dX7_init_70 : decode cX7_init 70 = .ok (.newarray .int, 2) := by decide +kernel
theorem dX7_init_72 : decode cX7_init 72 = .ok (.putfield 32, 3) := by decide +kernel
theorem dX7_init_75 : decode cX7_init 75 = .ok (.aload_n 0, 1) := by decide +kernel
theorem dX7_init_76 : decode cX7_init 76 = .ok (.sipush 8000, 3) := by decide +kernel
theorem dX7_init_79 : decode cX7_init 79 = .ok (.newarray .int, 2) := by decide +kernel
theorem dX7_init_81 : decode cX7_init 81 = .ok (.putfield 35, 3) := by decide +kernel
theorem dX7_init_84 : decode cX7_init 84 = .ok (.aload_n 0, 1) := by decide +kernel
theorem dX7_init_85 : decode cX7_init 85 = .ok (.sipush 8000, 3) := by decide +kernel
theorem dX7_init_88 : decode cX7_init 88 = .ok (.newarray .boolean, 2) := by decide +kernel
theorem dX7_init_90 : decode cX7_init 90 = .ok (.putfield 38, 3) := by decide +kernel
theorem dX7_init_93 : decode cX7_init 93 = .ok (.aload_n 0, 1) := by decide +kernel
theorem dX7_init_94 : decode cX7_init 94 = .ok (.ldc 42, 2) := by decide +kernel
theorem dX7_init_96 : decode cX7_init 96 = .ok (.newarray .int, 2) := by decide +kernel
theorem dX7_init_98 : decode cX7_init 98 = .ok (.putfield 43, 3) := by decide +kernel
theorem dX7_init_101 : decode cX7_init 101 = .ok (.aload_n 0, 1) := by decide +kernel
theorem dX7_init_102 : decode cX7_init 102 = .ok (.sipush 4000, 3) := by decide +kernel
theorem dX7_init_105 : decode cX7_init 105 = .ok (.newarray .int, 2) := by decide +kernel
theorem dX7_init_107 : decode cX7_init 107 = .ok (.putfield 46, 3) := by decide +kernel
theorem dX7_init_110 : decode cX7_init 110 = .ok (.aload_n 0, 1) := by decide +kernel
theorem dX7_init_111 : decode cX7_init 111 = .ok (.bipush 64, 2) := by decide +kernel
theorem dX7_init_113 : decode cX7_init 113 = .ok (.newarray .int, 2) := by decide +kernel
theorem dX7_init_115 : decode cX7_init 115 = .ok (.putfield 49, 3) := by decide +kernel
theorem dX7_init_118 : decode cX7_init 118 = .ok (.aload_n 0, 1) := by decide +kernel
theorem dX7_init_119 : decode cX7_init 119 = .ok (.bipush 80, 2) := by decide +kernel
theorem dX7_init_121 : decode cX7_init 121 = .ok (.newarray .char, 2) := by decide +kernel
theorem dX7_init_123 : decode cX7_init 123 = .ok (.putfield 52, 3) := by decide +kernel
theorem dX7_init_126 : decode cX7_init 126 = .ok (.aload_n 0, 1) := by decide +kernel
theorem dX7_init_127 : decode cX7_init 127 = .ok (.bipush 16, 2) := by decide +kernel
theorem dX7_init_129 : decode cX7_init 129 = .ok (.newarray .int, 2) := by decide +kernel
theorem dX7_init_131 : decode cX7_init 131 = .ok (.putfield 56, 3) := by decide +kernel
theorem dX7_init_134 : decode cX7_init 134 = .ok (.aload_n 0, 1) := by decide +kernel
theorem dX7_init_135 : decode cX7_init 135 = .ok (.bipush 60, 2) := by decide +kernel
theorem dX7_init_137 : decode cX7_init 137 = .ok (.newarray .char, 2) := by decide +kernel
theorem dX7_init_139 : decode cX7_init 139 = .ok (.putfield 59, 3) := by decide +kernel
theorem dX7_init_142 : decode cX7_init 142 = .ok (.aload_n 0, 1) := by decide +kernel
theorem dX7_init_143 : decode cX7_init 143 = .ok (.invokevirtual 62, 3) := by decide +kernel
theorem dX7_init_146 : decode cX7_init 146 = .ok (.return_, 1) := by decide +kernel
theorem dX7_in_0 : decode cX7_in 0 = .ok (.iload_n 0, 1) := by decide +kernel
theorem dX7_in_1 : decode cX7_in 1 = .ok (.iload_n 1, 1) := by decide +kernel
theorem dX7_in_2 : decode cX7_in 2 = .ok (.if_icmp .lt 12, 3) := by decide +kernel
theorem dX7_in_5 : decode cX7_in 5 = .ok (.iload_n 0, 1) := by decide +kernel
theorem dX7_in_6 : decode cX7_in 6 = .ok (.iload_n 2, 1) := by decide +kernel
theorem dX7_in_7 : decode cX7_in 7 = .ok (.if_icmp .gt 7, 3) := by decide +kernel
theorem dX7_in_10 : decode cX7_in 10 = .ok (.iconst 1, 1) := by decide +kernel
theorem dX7_in_11 : decode cX7_in 11 = .ok (.goto 4, 3) := by decide +kernel
theorem dX7_in_14 : decode cX7_in 14 = .ok (.iconst 0, 1) := by decide +kernel
theorem dX7_in_15 : decode cX7_in 15 = .ok (.ireturn, 1) := by decide +kernel
theorem dX7_record_0 : decode cX7_record 0 = .ok (.aload_n 0, 1) := by decide +kernel
theorem dX7_record_1 : decode cX7_record 1 = .ok (.getfield 65, 3) := by decide +kernel
theorem dX7_record_4 : decode cX7_record 4 = .ok (.iconst 4, 1) := by decide +kernel
theorem dX7_record_5 : decode cX7_record 5 = .ok (.if_icmp .ne 43, 3) := by decide +kernel
theorem dX7_record_8 : decode cX7_record 8 = .ok (.iconst 0, 1) := by decide +kernel
theorem dX7_record_9 : decode cX7_record 9 = .ok (.istore_n 1, 1) := by decide +kernel
theorem dX7_record_10 : decode cX7_record 10 = .ok (.iload_n 1, 1) := by decide +kernel
theorem dX7_record_11 : decode cX7_record 11 = .ok (.ldc 69, 2) := by decide +kernel
theorem dX7_record_13 : decode cX7_record 13 = .ok (.if_icmp .ge 25, 3) := by decide +kernel
theorem dX7_record_16 : decode cX7_record 16 = .ok (.aload_n 0, 1) := by decide +kernel
theorem dX7_record_17 : decode cX7_record 17 = .ok (.getfield 14, 3) := by decide +kernel
theorem dX7_record_20 : decode cX7_record 20 = .ok (.iload_n 1, 1) := by decide +kernel
theorem dX7_record_21 : decode cX7_record 21 = .ok (.aload_n 0, 1) := by decide +kernel
theorem dX7_record_22 : decode cX7_record 22 = .ok (.getfield 14, 3) := by decide +kernel
theorem dX7_record_25 : decode cX7_record 25 = .ok (.sipush 31088, 3) := by decide +kernel
theorem dX7_record_28 : decode cX7_record 28 = .ok (.iload_n 1, 1) := by decide +kernel
theorem dX7_record_29 : decode cX7_record 29 = .ok (.iadd, 1) := by decide +kernel
theorem dX7_record_30 : decode cX7_record 30 = .ok (.iaload, 1) := by decide +kernel
theorem dX7_record_31 : decode cX7_record 31 = .ok (.iastore, 1) := by decide +kernel
theorem dX7_record_32 : decode cX7_record 32 = .ok (.iinc 1 1, 3) := by decide +kernel
theorem dX7_record_35 : decode cX7_record 35 = .ok (.goto (-25), 3) := by decide +kernel
theorem dX7_record_38 : decode cX7_record 38 = .ok (.aload_n 0, 1) := by decide +kernel
theorem dX7_record_39 : decode cX7_record 39 = .ok (.dup, 1) := by decide +kernel
theorem dX7_record_40 : decode cX7_record 40 = .ok (.getfield 65, 3) := by decide +kernel
theorem dX7_record_43 : decode cX7_record 43 = .ok (.iconst 1, 1) := by decide +kernel
theorem dX7_record_44 : decode cX7_record 44 = .ok (.isub, 1) := by decide +kernel
theorem dX7_record_45 : decode cX7_record 45 = .ok (.putfield 65, 3) := by decide +kernel
theorem dX7_record_48 : decode cX7_record 48 = .ok (.iconst 0, 1) := by decide +kernel
theorem dX7_record_49 : decode cX7_record 49 = .ok (.istore_n 1, 1) := by decide +kernel
theorem dX7_record_50 : decode cX7_record 50 = .ok (.iload_n 1, 1) := by decide +kernel
theorem dX7_record_51 : decode cX7_record 51 = .ok (.sipush 31088, 3) := by decide +kernel
theorem dX7_record_54 : decode cX7_record 54 = .ok (.if_icmp .ge 30, 3) := by decide +kernel
theorem dX7_record_57 : decode cX7_record 57 = .ok (.aload_n 0, 1) := by decide +kernel
theorem dX7_record_58 : decode cX7_record 58 = .ok (.getfield 14, 3) := by decide +kernel
theorem dX7_record_61 : decode cX7_record 61 = .ok (.sipush 31088, 3) := by decide +kernel
theorem dX7_record_64 : decode cX7_record 64 = .ok (.aload_n 0, 1) := by decide +kernel
theorem dX7_record_65 : decode cX7_record 65 = .ok (.getfield 65, 3) := by decide +kernel
theorem dX7_record_68 : decode cX7_record 68 = .ok (.imul, 1) := by decide +kernel
theorem dX7_record_69 : decode cX7_record 69 = .ok (.iload_n 1, 1) := by decide +kernel
theorem dX7_record_70 : decode cX7_record 70 = .ok (.iadd, 1) := by decide +kernel
theorem dX7_record_71 : decode cX7_record 71 = .ok (.aload_n 0, 1) := by decide +kernel
theorem dX7_record_72 : decode cX7_record 72 = .ok (.getfield 7, 3) := by decide +kernel
theorem dX7_record_75 : decode cX7_record 75 = .ok (.iload_n 1, 1) := by decide +kernel
theorem dX7_record_76 : decode cX7_record 76 = .ok (.iaload, 1) := by decide +kernel
theorem dX7_record_77 : decode cX7_record 77 = .ok (.iastore, 1) := by decide +kernel
theorem dX7_record_78 : decode cX7_record 78 = .ok (.iinc 1 1, 3) := by decide +kernel
theorem dX7_record_81 : decode cX7_record 81 = .ok (.goto (-31), 3) := by decide +kernel
theorem dX7_record_84 : decode cX7_record 84 = .ok (.aload_n 0, 1) := by decide +kernel
theorem dX7_record_85 : decode cX7_record 85 = .ok (.dup, 1) := by decide +kernel
theorem dX7_record_86 : decode cX7_record 86 = .ok (.getfield 65, 3) := by decide +kernel
theorem dX7_record_89 : decode cX7_record 89 = .ok (.iconst 1, 1) := by decide +kernel
theorem dX7_record_90 : decode cX7_record 90 = .ok (.iadd, 1) := by decide +kernel
theorem dX7_record_91 : decode cX7_record 91 = .ok (.putfield 65, 3) := by decide +kernel
theorem dX7_record_94 : decode cX7_record 94 = .ok (.return_, 1) := by decide +kernel
theorem dX7_w_0 : decode cX7_w 0 = .ok (.bipush 48, 2) := by decide +kernel
theorem dX7_w_2 : decode cX7_w 2 = .ok (.bipush 8, 2) := by decide +kernel
theorem dX7_w_4 : decode cX7_w 4 = .ok (.iload_n 0, 1) := by decide +kernel
theorem dX7_w_5 : decode cX7_w 5 = .ok (.imul, 1) := by decide +kernel
theorem dX7_w_6 : decode cX7_w 6 = .ok (.iadd, 1) := by decide +kernel
theorem dX7_w_7 : decode cX7_w 7 = .ok (.ireturn, 1) := by decide +kernel
theorem dX7_cell_0 : decode cX7_cell 0 = .ok (.bipush 112, 2) := by decide +kernel
theorem dX7_cell_2 : decode cX7_cell 2 = .ok (.sipush 484, 3) := by decide +kernel
theorem dX7_cell_5 : decode cX7_cell 5 = .ok (.bipush 8, 2) := by decide +kernel
theorem dX7_cell_7 : decode cX7_cell 7 = .ok (.iload_n 0, 1) := by decide +kernel
theorem dX7_cell_8 : decode cX7_cell 8 = .ok (.imul, 1) := by decide +kernel
theorem dX7_cell_9 : decode cX7_cell 9 = .ok (.iload_n 1, 1) := by decide +kernel
theorem dX7_cell_10 : decode cX7_cell 10 = .ok (.iadd, 1) := by decide +kernel
theorem dX7_cell_11 : decode cX7_cell 11 = .ok (.imul, 1) := by decide +kernel
theorem dX7_cell_12 : decode cX7_cell 12 = .ok (.iadd, 1) := by decide +kernel
theorem dX7_cell_13 : decode cX7_cell 13 = .ok (.iload_n 2, 1) := by decide +kernel
theorem dX7_cell_14 : decode cX7_cell 14 = .ok (.iadd, 1) := by decide +kernel
theorem dX7_cell_15 : decode cX7_cell 15 = .ok (.ireturn, 1) := by decide +kernel
theorem dX7_isThere_0 : decode cX7_isThere 0 = .ok (.iload_n 1, 1) := by decide +kernel
theorem dX7_isThere_1 : decode cX7_isThere 1 = .ok (.iconst 0, 1) := by decide +kernel
theorem dX7_isThere_2 : decode cX7_isThere 2 = .ok (.aload_n 0, 1) := by decide +kernel
theorem dX7_isThere_3 : decode cX7_isThere 3 = .ok (.getfield 7, 3) := by decide +kernel
theorem dX7_isThere_6 : decode cX7_isThere 6 = .ok (.iconst 2, 1) := by decide +kernel
theorem dX7_isThere_7 : decode cX7_isThere 7 = .ok (.iaload, 1) := by decide +kernel
theorem dX7_isThere_8 : decode cX7_isThere 8 = .ok (.iconst 1, 1) := by decide +kernel
theorem dX7_isThere_9 : decode cX7_isThere 9 = .ok (.isub, 1) := by decide +kernel
theorem dX7_isThere_10 : decode cX7_isThere 10 = .ok (.invokestatic 70, 3) := by decide +kernel
theorem dX7_isThere_13 : decode cX7_isThere 13 = .ok (.ifCond .eq 22, 3) := by decide +kernel
theorem dX7_isThere_16 : decode cX7_isThere 16 = .ok (.aload_n 0, 1) := by decide +kernel
theorem dX7_isThere_17 : decode cX7_isThere 17 = .ok (.getfield 7, 3) := by decide +kernel
theorem dX7_isThere_20 : decode cX7_isThere 20 = .ok (.iload_n 1, 1) := by decide +kernel
theorem dX7_isThere_21 : decode cX7_isThere 21 = .ok (.invokestatic 74, 3) := by decide +kernel
theorem dX7_isThere_24 : decode cX7_isThere 24 = .ok (.iconst 0, 1) := by decide +kernel
theorem dX7_isThere_25 : decode cX7_isThere 25 = .ok (.iadd, 1) := by decide +kernel
theorem dX7_isThere_26 : decode cX7_isThere 26 = .ok (.iaload, 1) := by decide +kernel
theorem dX7_isThere_27 : decode cX7_isThere 27 = .ok (.iconst 1, 1) := by decide +kernel
theorem dX7_isThere_28 : decode cX7_isThere 28 = .ok (.if_icmp .ne 7, 3) := by decide +kernel
theorem dX7_isThere_31 : decode cX7_isThere 31 = .ok (.iconst 1, 1) := by decide +kernel
theorem dX7_isThere_32 : decode cX7_isThere 32 = .ok (.goto 4, 3) := by decide +kernel
theorem dX7_isThere_35 : decode cX7_isThere 35 = .ok (.iconst 0, 1) := by decide +kernel
theorem dX7_isThere_36 : decode cX7_isThere 36 = .ok (.ireturn, 1) := by decide +kernel
theorem dX7_verdict_0 : decode cX7_verdict 0 = .ok (.aload_n 0, 1) := by decide +kernel
theorem dX7_verdict_1 : decode cX7_verdict 1 = .ok (.getfield 7, 3) := by decide +kernel
theorem dX7_verdict_4 : decode cX7_verdict 4 = .ok (.iload_n 1, 1) := by decide +kernel
theorem dX7_verdict_5 : decode cX7_verdict 5 = .ok (.invokestatic 74, 3) := by decide +kernel
theorem dX7_verdict_8 : decode cX7_verdict 8 = .ok (.iconst 1, 1) := by decide +kernel
theorem dX7_verdict_9 : decode cX7_verdict 9 = .ok (.iadd, 1) := by decide +kernel
theorem dX7_verdict_10 : decode cX7_verdict 10 = .ok (.iaload, 1) := by decide +kernel
theorem dX7_verdict_11 : decode cX7_verdict 11 = .ok (.ireturn, 1) := by decide +kernel
theorem dX7_empty_0 : decode cX7_empty 0 = .ok (.aload_n 0, 1) := by decide +kernel
theorem dX7_empty_1 : decode cX7_empty 1 = .ok (.bipush 16, 2) := by decide +kernel
theorem dX7_empty_3 : decode cX7_empty 3 = .ok (.putfield 78, 3) := by decide +kernel
theorem dX7_empty_6 : decode cX7_empty 6 = .ok (.aload_n 0, 1) := by decide +kernel
theorem dX7_empty_7 : decode cX7_empty 7 = .ok (.iconst 0, 1) := by decide +kernel
theorem dX7_empty_8 : decode cX7_empty 8 = .ok (.putfield 81, 3) := by decide +kernel
theorem dX7_empty_11 : decode cX7_empty 11 = .ok (.iconst 0, 1) := by decide +kernel
theorem dX7_empty_12 : decode cX7_empty 12 = .ok (.istore_n 1, 1) := by decide +kernel
theorem dX7_empty_13 : decode cX7_empty 13 = .ok (.iload_n 1, 1) := by decide +kernel
theorem dX7_empty_14 : decode cX7_empty 14 = .ok (.bipush 16, 2) := by decide +kernel
theorem dX7_empty_16 : decode cX7_empty 16 = .ok (.if_icmp .ge 40, 3) := by decide +kernel
theorem dX7_empty_19 : decode cX7_empty 19 = .ok (.aload_n 0, 1) := by decide +kernel
theorem dX7_empty_20 : decode cX7_empty 20 = .ok (.getfield 20, 3) := by decide +kernel
theorem dX7_empty_23 : decode cX7_empty 23 = .ok (.iload_n 1, 1) := by decide +kernel
theorem dX7_empty_24 : decode cX7_empty 24 = .ok (.iconst 0, 1) := by decide +kernel
theorem dX7_empty_25 : decode cX7_empty 25 = .ok (.iastore, 1) := by decide +kernel
theorem dX7_empty_26 : decode cX7_empty 26 = .ok (.aload_n 0, 1) := by decide +kernel
theorem dX7_empty_27 : decode cX7_empty 27 = .ok (.getfield 29, 3) := by decide +kernel
theorem dX7_empty_30 : decode cX7_empty 30 = .ok (.iload_n 1, 1) := by decide +kernel
theorem dX7_empty_31 : decode cX7_empty 31 = .ok (.iconst 1, 1) := by decide +kernel
theorem dX7_empty_32 : decode cX7_empty 32 = .ok (.iastore, 1) := by decide +kernel
theorem dX7_empty_33 : decode cX7_empty 33 = .ok (.aload_n 0, 1) := by decide +kernel
theorem dX7_empty_34 : decode cX7_empty 34 = .ok (.getfield 32, 3) := by decide +kernel
theorem dX7_empty_37 : decode cX7_empty 37 = .ok (.iload_n 1, 1) := by decide +kernel
theorem dX7_empty_38 : decode cX7_empty 38 = .ok (.iload_n 1, 1) := by decide +kernel
theorem dX7_empty_39 : decode cX7_empty 39 = .ok (.bipush 10, 2) := by decide +kernel
theorem dX7_empty_41 : decode cX7_empty 41 = .ok (.if_icmp .lt 7, 3) := by decide +kernel
theorem dX7_empty_44 : decode cX7_empty 44 = .ok (.iconst 2, 1) := by decide +kernel
theorem dX7_empty_45 : decode cX7_empty 45 = .ok (.goto 4, 3) := by decide +kernel
theorem dX7_empty_48 : decode cX7_empty 48 = .ok (.iconst 1, 1) := by decide +kernel
theorem dX7_empty_49 : decode cX7_empty 49 = .ok (.iastore, 1) := by decide +kernel
theorem dX7_empty_50 : decode cX7_empty 50 = .ok (.iinc 1 1, 3) := by decide +kernel
theorem dX7_empty_53 : decode cX7_empty 53 = .ok (.goto (-40), 3) := by decide +kernel
theorem dX7_empty_56 : decode cX7_empty 56 = .ok (.return_, 1) := by decide +kernel
theorem dX7_childMany_0 : decode cX7_childMany 0 = .ok (.iload_n 1, 1) := by decide +kernel
theorem dX7_childMany_1 : decode cX7_childMany 1 = .ok (.bipush 16, 2) := by decide +kernel
theorem dX7_childMany_3 : decode cX7_childMany 3 = .ok (.if_icmp .ge 7, 3) := by decide +kernel
theorem dX7_childMany_6 : decode cX7_childMany 6 = .ok (.iconst 0, 1) := by decide +kernel
theorem dX7_childMany_7 : decode cX7_childMany 7 = .ok (.goto 37, 3) := by decide +kernel
theorem dX7_childMany_10 : decode cX7_childMany 10 = .ok (.aload_n 0, 1) := by decide +kernel
theorem dX7_childMany_11 : decode cX7_childMany 11 = .ok (.getfield 20, 3) := by decide +kernel
theorem dX7_childMany_14 : decode cX7_childMany 14 = .ok (.iload_n 1, 1) := by decide +kernel
theorem dX7_childMany_15 : decode cX7_childMany 15 = .ok (.iaload, 1) := by decide +kernel
theorem dX7_childMany_16 : decode cX7_childMany 16 = .ok (.iconst 3, 1) := by decide +kernel
theorem dX7_childMany_17 : decode cX7_childMany 17 = .ok (.if_icmp .ge 7, 3) := by decide +kernel
theorem dX7_childMany_20 : decode cX7_childMany 20 = .ok (.iconst 1, 1) := by decide +kernel
theorem dX7_childMany_21 : decode cX7_childMany 21 = .ok (.goto 23, 3) := by decide +kernel
theorem dX7_childMany_24 : decode cX7_childMany 24 = .ok (.aload_n 0, 1) := by decide +kernel
theorem dX7_childMany_25 : decode cX7_childMany 25 = .ok (.getfield 20, 3) := by decide +kernel
theorem dX7_childMany_28 : decode cX7_childMany 28 = .ok (.iload_n 1, 1) := by decide +kernel
theorem dX7_childMany_29 : decode cX7_childMany 29 = .ok (.iaload, 1) := by decide +kernel
theorem dX7_childMany_30 : decode cX7_childMany 30 = .ok (.iconst 5, 1) := by decide +kernel
theorem dX7_childMany_31 : decode cX7_childMany 31 = .ok (.if_icmp .ge 7, 3) := by decide +kernel
theorem dX7_childMany_34 : decode cX7_childMany 34 = .ok (.iconst 2, 1) := by decide +kernel
theorem dX7_childMany_35 : decode cX7_childMany 35 = .ok (.goto 9, 3) := by decide +kernel
theorem dX7_childMany_38 : decode cX7_childMany 38 = .ok (.aload_n 0, 1) := by decide +kernel
theorem dX7_childMany_39 : decode cX7_childMany 39 = .ok (.getfield 26, 3) := by decide +kernel
theorem dX7_childMany_42 : decode cX7_childMany 42 = .ok (.iload_n 1, 1) := by decide +kernel
theorem dX7_childMany_43 : decode cX7_childMany 43 = .ok (.iaload, 1) := by decide +kernel
theorem dX7_childMany_44 : decode cX7_childMany 44 = .ok (.ireturn, 1) := by decide +kernel
theorem dX7_child_0 : decode cX7_child 0 = .ok (.aload_n 0, 1) := by decide +kernel
theorem dX7_child_1 : decode cX7_child 1 = .ok (.getfield 20, 3) := by decide +kernel
theorem dX7_child_4 : decode cX7_child 4 = .ok (.iload_n 1, 1) := by decide +kernel
theorem dX7_child_5 : decode cX7_child 5 = .ok (.iaload, 1) := by decide +kernel
theorem dX7_child_6 : decode cX7_child 6 = .ok (.iconst 5, 1) := by decide +kernel
theorem dX7_child_7 : decode cX7_child 7 = .ok (.if_icmp .lt 19, 3) := by decide +kernel
theorem dX7_child_10 : decode cX7_child 10 = .ok (.aload_n 0, 1) := by decide +kernel
theorem dX7_child_11 : decode cX7_child 11 = .ok (.getfield 43, 3) := by decide +kernel
theorem dX7_child_14 : decode cX7_child 14 = .ok (.aload_n 0, 1) := by decide +kernel
theorem dX7_child_15 : decode cX7_child 15 = .ok (.getfield 23, 3) := by decide +kernel
theorem dX7_child_18 : decode cX7_child 18 = .ok (.iload_n 1, 1) := by decide +kernel
theorem dX7_child_19 : decode cX7_child 19 = .ok (.iaload, 1) := by decide +kernel
theorem dX7_child_20 : decode cX7_child 20 = .ok (.iload_n 2, 1) := by decide +kernel
theorem dX7_child_21 : decode cX7_child 21 = .ok (.iadd, 1) := by decide +kernel
theorem dX7_child_22 : decode cX7_child 22 = .ok (.iaload, 1) := by decide +kernel
theorem dX7_child_23 : decode cX7_child 23 = .ok (.goto 22, 3) := by decide +kernel
theorem dX7_child_26 : decode cX7_child 26 = .ok (.iload_n 2, 1) := by decide +kernel
theorem dX7_child_27 : decode cX7_child 27 = .ok (.ifCond .ne 12, 3) := by decide +kernel
theorem dX7_child_30 : decode cX7_child 30 = .ok (.aload_n 0, 1) := by decide +kernel
theorem dX7_child_31 : decode cX7_child 31 = .ok (.getfield 23, 3) := by decide +kernel
theorem dX7_child_34 : decode cX7_child 34 = .ok (.iload_n 1, 1) := by decide +kernel
theorem dX7_child_35 : decode cX7_child 35 = .ok (.iaload, 1) := by decide +kernel
theorem dX7_child_36 : decode cX7_child 36 = .ok (.goto 9, 3) := by decide +kernel
theorem dX7_child_39 : decode cX7_child 39 = .ok (.aload_n 0, 1) := by decide +kernel
theorem dX7_child_40 : decode cX7_child 40 = .ok (.getfield 26, 3) := by decide +kernel
theorem dX7_child_43 : decode cX7_child 43 = .ok (.iload_n 1, 1) := by decide +kernel
theorem dX7_child_44 : decode cX7_child 44 = .ok (.iaload, 1) := by decide +kernel
theorem dX7_child_45 : decode cX7_child 45 = .ok (.ireturn, 1) := by decide +kernel
theorem dX7_make_0 : decode cX7_make 0 = .ok (.bipush 16, 2) := by decide +kernel
theorem dX7_make_2 : decode cX7_make 2 = .ok (.istore 4, 2) := by decide +kernel
theorem dX7_make_4 : decode cX7_make 4 = .ok (.iload 4, 2) := by decide +kernel
theorem dX7_make_6 : decode cX7_make 6 = .ok (.aload_n 0, 1) := by decide +kernel
theorem dX7_make_7 : decode cX7_make 7 = .ok (.getfield 78, 3) := by decide +kernel
theorem dX7_make_10 : decode cX7_make 10 = .ok (.if_icmp .ge 45, 3) := by decide +kernel
theorem dX7_make_13 : decode cX7_make 13 = .ok (.aload_n 0, 1) := by decide +kernel
theorem dX7_make_14 : decode cX7_make 14 = .ok (.getfield 20, 3) := by decide +kernel
theorem dX7_make_17 : decode cX7_make 17 = .ok (.iload 4, 2) := by decide +kernel
theorem dX7_make_19 : decode cX7_make 19 = .ok (.iaload, 1) := by decide +kernel
theorem dX7_make_20 : decode cX7_make 20 = .ok (.iload_n 1, 1) := by decide +kernel
theorem dX7_make_21 : decode cX7_make 21 = .ok (.if_icmp .ne 28, 3) := by decide +kernel
theorem dX7_make_24 : decode cX7_make 24 = .ok (.aload_n 0, 1) := by decide +kernel
theorem dX7_make_25 : decode cX7_make 25 = .ok (.getfield 23, 3) := by decide +kernel
theorem dX7_make_28 : decode cX7_make 28 = .ok (.iload 4, 2) := by decide +kernel
theorem dX7_make_30 : decode cX7_make 30 = .ok (.iaload, 1) := by decide +kernel
theorem dX7_make_31 : decode cX7_make 31 = .ok (.iload_n 2, 1) := by decide +kernel
theorem dX7_make_32 : decode cX7_make 32 = .ok (.if_icmp .ne 17, 3) := by decide +kernel
theorem dX7_make_35 : decode cX7_make 35 = .ok (.aload_n 0, 1) := by decide +kernel
theorem dX7_make_36 : decode cX7_make 36 = .ok (.getfield 26, 3) := by decide +kernel
theorem dX7_make_39 : decode cX7_make 39 = .ok (.iload 4, 2) := by decide +kernel
theorem dX7_make_41 : decode cX7_make 41 = .ok (.iaload, 1) := by decide +kernel
theorem dX7_make_42 : decode cX7_make 42 = .ok (.iload_n 3, 1) := by decide +kernel
theorem dX7_make_43 : decode cX7_make 43 = .ok (.if_icmp .ne 6, 3) := by decide +kernel
theorem dX7_make_46 : decode cX7_make 46 = .ok (.iload 4, 2) := by decide +kernel
theorem dX7_make_48 : decode cX7_make 48 = .ok (.ireturn, 1) := by decide +kernel
theorem dX7_make_49 : decode cX7_make 49 = .ok (.iinc 4 1, 3) := by decide +kernel
theorem dX7_make_52 : decode cX7_make 52 = .ok (.goto (-48), 3) := by decide +kernel
theorem dX7_make_55 : decode cX7_make 55 = .ok (.aload_n 0, 1) := by decide +kernel
theorem dX7_make_56 : decode cX7_make 56 = .ok (.getfield 20, 3) := by decide +kernel
theorem dX7_make_59 : decode cX7_make 59 = .ok (.aload_n 0, 1) := by decide +kernel
theorem dX7_make_60 : decode cX7_make 60 = .ok (.getfield 78, 3) := by decide +kernel
theorem dX7_make_63 : decode cX7_make 63 = .ok (.iload_n 1, 1) := by decide +kernel
theorem dX7_make_64 : decode cX7_make 64 = .ok (.iastore, 1) := by decide +kernel
theorem dX7_make_65 : decode cX7_make 65 = .ok (.aload_n 0, 1) := by decide +kernel
theorem dX7_make_66 : decode cX7_make 66 = .ok (.getfield 23, 3) := by decide +kernel
theorem dX7_make_69 : decode cX7_make 69 = .ok (.aload_n 0, 1) := by decide +kernel
theorem dX7_make_70 : decode cX7_make 70 = .ok (.getfield 78, 3) := by decide +kernel
theorem dX7_make_73 : decode cX7_make 73 = .ok (.iload_n 2, 1) := by decide +kernel
theorem dX7_make_74 : decode cX7_make 74 = .ok (.iastore, 1) := by decide +kernel
theorem dX7_make_75 : decode cX7_make 75 = .ok (.aload_n 0, 1) := by decide +kernel
theorem dX7_make_76 : decode cX7_make 76 = .ok (.getfield 26, 3) := by decide +kernel
theorem dX7_make_79 : decode cX7_make 79 = .ok (.aload_n 0, 1) := by decide +kernel
theorem dX7_make_80 : decode cX7_make 80 = .ok (.getfield 78, 3) := by decide +kernel
theorem dX7_make_83 : decode cX7_make 83 = .ok (.iload_n 3, 1) := by decide +kernel
theorem dX7_make_84 : decode cX7_make 84 = .ok (.iastore, 1) := by decide +kernel
theorem dX7_make_85 : decode cX7_make 85 = .ok (.aload_n 0, 1) := by decide +kernel
theorem dX7_make_86 : decode cX7_make 86 = .ok (.getfield 29, 3) := by decide +kernel
theorem dX7_make_89 : decode cX7_make 89 = .ok (.aload_n 0, 1) := by decide +kernel
theorem dX7_make_90 : decode cX7_make 90 = .ok (.getfield 78, 3) := by decide +kernel
theorem dX7_make_93 : decode cX7_make 93 = .ok (.iconst 1, 1) := by decide +kernel
theorem dX7_make_94 : decode cX7_make 94 = .ok (.aload_n 0, 1) := by decide +kernel
theorem dX7_make_95 : decode cX7_make 95 = .ok (.getfield 29, 3) := by decide +kernel
theorem dX7_make_98 : decode cX7_make 98 = .ok (.iload_n 2, 1) := by decide +kernel
theorem dX7_make_99 : decode cX7_make 99 = .ok (.iaload, 1) := by decide +kernel
theorem dX7_make_100 : decode cX7_make 100 = .ok (.iadd, 1) := by decide +kernel
theorem dX7_make_101 : decode cX7_make 101 = .ok (.iload_n 1, 1) := by decide +kernel
theorem dX7_make_102 : decode cX7_make 102 = .ok (.iconst 3, 1) := by decide +kernel
theorem dX7_make_103 : decode cX7_make 103 = .ok (.if_icmp .ge 7, 3) := by decide +kernel
theorem dX7_make_106 : decode cX7_make 106 = .ok (.iconst 0, 1) := by decide +kernel
theorem dX7_make_107 : decode cX7_make 107 = .ok (.goto 9, 3) := by decide +kernel
theorem dX7_make_110 : decode cX7_make 110 = .ok (.aload_n 0, 1) := by decide +kernel
theorem dX7_make_111 : decode cX7_make 111 = .ok (.getfield 29, 3) := by decide +kernel
theorem dX7_make_114 : decode cX7_make 114 = .ok (.iload_n 3, 1) := by decide +kernel
theorem dX7_make_115 : decode cX7_make 115 = .ok (.iaload, 1) := by decide +kernel
theorem dX7_make_116 : decode cX7_make 116 = .ok (.iadd, 1) := by decide +kernel
theorem dX7_make_117 : decode cX7_make 117 = .ok (.iastore, 1) := by decide +kernel
theorem dX7_make_118 : decode cX7_make 118 = .ok (.aload_n 0, 1) := by decide +kernel
theorem dX7_make_119 : decode cX7_make 119 = .ok (.getfield 32, 3) := by decide +kernel
theorem dX7_make_122 : decode cX7_make 122 = .ok (.aload_n 0, 1) := by decide +kernel
theorem dX7_make_123 : decode cX7_make 123 = .ok (.getfield 78, 3) := by decide +kernel
theorem dX7_make_126 : decode cX7_make 126 = .ok (.iload_n 1, 1) := by decide +kernel
theorem dX7_make_127 : decode cX7_make 127 = .ok (.iconst 3, 1) := by decide +kernel
theorem dX7_make_128 : decode cX7_make 128 = .ok (.if_icmp .ge 14, 3) := by decide +kernel
theorem dX7_make_131 : decode cX7_make 131 = .ok (.iconst 1, 1) := by decide +kernel
theorem dX7_make_132 : decode cX7_make 132 = .ok (.aload_n 0, 1) := by decide +kernel
theorem dX7_make_133 : decode cX7_make 133 = .ok (.getfield 32, 3) := by decide +kernel
theorem dX7_make_136 : decode cX7_make 136 = .ok (.iload_n 2, 1) := by decide +kernel
theorem dX7_make_137 : decode cX7_make 137 = .ok (.iaload, 1) := by decide +kernel
theorem dX7_make_138 : decode cX7_make 138 = .ok (.iadd, 1) := by decide +kernel
theorem dX7_make_139 : decode cX7_make 139 = .ok (.goto 18, 3) := by decide +kernel
theorem dX7_make_142 : decode cX7_make 142 = .ok (.iconst 3, 1) := by decide +kernel
theorem dX7_make_143 : decode cX7_make 143 = .ok (.aload_n 0, 1) := by decide +kernel
theorem dX7_make_144 : decode cX7_make 144 = .ok (.getfield 32, 3) := by decide +kernel
theorem dX7_make_147 : decode cX7_make 147 = .ok (.iload_n 2, 1) := by decide +kernel
theorem dX7_make_148 : decode cX7_make 148 = .ok (.iaload, 1) := by decide +kernel
theorem dX7_make_149 : decode cX7_make 149 = .ok (.iadd, 1) := by decide +kernel
theorem dX7_make_150 : decode cX7_make 150 = .ok (.aload_n 0, 1) := by decide +kernel
theorem dX7_make_151 : decode cX7_make 151 = .ok (.getfield 32, 3) := by decide +kernel
theorem dX7_make_154 : decode cX7_make 154 = .ok (.iload_n 3, 1) := by decide +kernel
theorem dX7_make_155 : decode cX7_make 155 = .ok (.iaload, 1) := by decide +kernel
theorem dX7_make_156 : decode cX7_make 156 = .ok (.iadd, 1) := by decide +kernel
theorem dX7_make_157 : decode cX7_make 157 = .ok (.iastore, 1) := by decide +kernel
theorem dX7_make_158 : decode cX7_make 158 = .ok (.aload_n 0, 1) := by decide +kernel
theorem dX7_make_159 : decode cX7_make 159 = .ok (.dup, 1) := by decide +kernel
theorem dX7_make_160 : decode cX7_make 160 = .ok (.getfield 78, 3) := by decide +kernel
theorem dX7_make_163 : decode cX7_make 163 = .ok (.iconst 1, 1) := by decide +kernel
theorem dX7_make_164 : decode cX7_make 164 = .ok (.iadd, 1) := by decide +kernel
theorem dX7_make_165 : decode cX7_make 165 = .ok (.putfield 78, 3) := by decide +kernel
theorem dX7_make_168 : decode cX7_make 168 = .ok (.aload_n 0, 1) := by decide +kernel
theorem dX7_make_169 : decode cX7_make 169 = .ok (.getfield 78, 3) := by decide +kernel
theorem dX7_make_172 : decode cX7_make 172 = .ok (.iconst 1, 1) := by decide +kernel
theorem dX7_make_173 : decode cX7_make 173 = .ok (.isub, 1) := by decide +kernel
theorem dX7_make_174 : decode cX7_make 174 = .ok (.ireturn, 1) := by decide +kernel
theorem dX7_isList_0 : decode cX7_isList 0 = .ok (.aload_n 0, 1) := by decide +kernel
theorem dX7_isList_1 : decode cX7_isList 1 = .ok (.getfield 20, 3) := by decide +kernel
theorem dX7_isList_4 : decode cX7_isList 4 = .ok (.iload_n 1, 1) := by decide +kernel
theorem dX7_isList_5 : decode cX7_isList 5 = .ok (.iaload, 1) := by decide +kernel
theorem dX7_isList_6 : decode cX7_isList 6 = .ok (.iload_n 2, 1) := by decide +kernel
theorem dX7_isList_7 : decode cX7_isList 7 = .ok (.if_icmp .ne 20, 3) := by decide +kernel
theorem dX7_isList_10 : decode cX7_isList 10 = .ok (.aload_n 0, 1) := by decide +kernel
theorem dX7_isList_11 : decode cX7_isList 11 = .ok (.getfield 26, 3) := by decide +kernel
theorem dX7_isList_14 : decode cX7_isList 14 = .ok (.iload_n 1, 1) := by decide +kernel
theorem dX7_isList_15 : decode cX7_isList 15 = .ok (.iaload, 1) := by decide +kernel
theorem dX7_isList_16 : decode cX7_isList 16 = .ok (.aload_n 0, 1) := by decide +kernel
theorem dX7_isList_17 : decode cX7_isList 17 = .ok (.getfield 84, 3) := by decide +kernel
theorem dX7_isList_20 : decode cX7_isList 20 = .ok (.if_icmp .ne 7, 3) := by decide +kernel
theorem dX7_isList_23 : decode cX7_isList 23 = .ok (.iconst 1, 1) := by decide +kernel
theorem dX7_isList_24 : decode cX7_isList 24 = .ok (.goto 4, 3) := by decide +kernel
theorem dX7_isList_27 : decode cX7_isList 27 = .ok (.iconst 0, 1) := by decide +kernel
theorem dX7_isList_28 : decode cX7_isList 28 = .ok (.istore_n 3, 1) := by decide +kernel
theorem dX7_isList_29 : decode cX7_isList 29 = .ok (.iconst 0, 1) := by decide +kernel
theorem dX7_isList_30 : decode cX7_isList 30 = .ok (.istore 4, 2) := by decide +kernel
theorem dX7_isList_32 : decode cX7_isList 32 = .ok (.iload 4, 2) := by decide +kernel
theorem dX7_isList_34 : decode cX7_isList 34 = .ok (.aload_n 0, 1) := by decide +kernel
theorem dX7_isList_35 : decode cX7_isList 35 = .ok (.getfield 84, 3) := by decide +kernel
theorem dX7_isList_38 : decode cX7_isList 38 = .ok (.if_icmp .ge 43, 3) := by decide +kernel
theorem dX7_isList_41 : decode cX7_isList 41 = .ok (.iload_n 3, 1) := by decide +kernel
theorem dX7_isList_42 : decode cX7_isList 42 = .ok (.ifCond .eq 39, 3) := by decide +kernel
theorem dX7_isList_45 : decode cX7_isList 45 = .ok (.aload_n 0, 1) := by decide +kernel
theorem dX7_isList_46 : decode cX7_isList 46 = .ok (.getfield 43, 3) := by decide +kernel
theorem dX7_isList_49 : decode cX7_isList 49 = .ok (.aload_n 0, 1) := by decide +kernel
theorem dX7_isList_50 : decode cX7_isList 50 = .ok (.getfield 23, 3) := by decide +kernel
theorem dX7_isList_53 : decode cX7_isList 53 = .ok (.iload_n 1, 1) := by decide +kernel
theorem dX7_isList_54 : decode cX7_isList 54 = .ok (.iaload, 1) := by decide +kernel
theorem dX7_isList_55 : decode cX7_isList 55 = .ok (.iload 4, 2) := by decide +kernel
theorem dX7_isList_57 : decode cX7_isList 57 = .ok (.iadd, 1) := by decide +kernel
theorem dX7_isList_58 : decode cX7_isList 58 = .ok (.iaload, 1) := by decide +kernel
theorem dX7_isList_59 : decode cX7_isList 59 = .ok (.aload_n 0, 1) := by decide +kernel
theorem dX7_isList_60 : decode cX7_isList 60 = .ok (.getfield 46, 3) := by decide +kernel
theorem dX7_isList_63 : decode cX7_isList 63 = .ok (.iload 4, 2) := by decide +kernel
theorem dX7_isList_65 : decode cX7_isList 65 = .ok (.iaload, 1) := by decide +kernel
theorem dX7_isList_66 : decode cX7_isList 66 = .ok (.if_icmp .ne 7, 3) := by decide +kernel
theorem dX7_isList_69 : decode cX7_isList 69 = .ok (.iconst 1, 1) := by decide +kernel
theorem dX7_isList_70 : decode cX7_isList 70 = .ok (.goto 4, 3) := by decide +kernel
theorem dX7_isList_73 : decode cX7_isList 73 = .ok (.iconst 0, 1) := by decide +kernel
theorem dX7_isList_74 : decode cX7_isList 74 = .ok (.istore_n 3, 1) := by decide +kernel
theorem dX7_isList_75 : decode cX7_isList 75 = .ok (.iinc 4 1, 3) := by decide +kernel
theorem dX7_isList_78 : decode cX7_isList 78 = .ok (.goto (-46), 3) := by decide +kernel
theorem dX7_isList_81 : decode cX7_isList 81 = .ok (.iload_n 3, 1) := by decide +kernel
theorem dX7_isList_82 : decode cX7_isList 82 = .ok (.ireturn, 1) := by decide +kernel
theorem dX7_makeList_0 : decode cX7_makeList 0 = .ok (.bipush 16, 2) := by decide +kernel
theorem dX7_makeList_2 : decode cX7_makeList 2 = .ok (.istore_n 2, 1) := by decide +kernel
theorem dX7_makeList_3 : decode cX7_makeList 3 = .ok (.iload_n 2, 1) := by decide +kernel
theorem dX7_makeList_4 : decode cX7_makeList 4 = .ok (.aload_n 0, 1) := by decide +kernel
theorem dX7_makeList_5 : decode cX7_makeList 5 = .ok (.getfield 78, 3) := by decide +kernel
theorem dX7_makeList_8 : decode cX7_makeList 8 = .ok (.if_icmp .ge 20, 3) := by decide +kernel
theorem dX7_makeList_11 : decode cX7_makeList 11 = .ok (.aload_n 0, 1) := by decide +kernel
theorem dX7_makeList_12 : decode cX7_makeList 12 = .ok (.iload_n 2, 1) := by decide +kernel
theorem dX7_makeList_13 : decode cX7_makeList 13 = .ok (.iload_n 1, 1) := by decide +kernel
theorem dX7_makeList_14 : decode cX7_makeList 14 = .ok (.invokevirtual 87, 3) := by decide +kernel
theorem dX7_makeList_17 : decode cX7_makeList 17 = .ok (.ifCond .eq 5, 3) := by decide +kernel
theorem dX7_makeList_20 : decode cX7_makeList 20 = .ok (.iload_n 2, 1) := by decide +kernel
theorem dX7_makeList_21 : decode cX7_makeList 21 = .ok (.ireturn, 1) := by decide +kernel
theorem dX7_makeList_22 : decode cX7_makeList 22 = .ok (.iinc 2 1, 3) := by decide +kernel
theorem dX7_makeList_25 : decode cX7_makeList 25 = .ok (.goto (-22), 3) := by decide +kernel
theorem dX7_makeList_28 : decode cX7_makeList 28 = .ok (.aload_n 0, 1) := by decide +kernel
theorem dX7_makeList_29 : decode cX7_makeList 29 = .ok (.getfield 20, 3) := by decide +kernel
theorem dX7_makeList_32 : decode cX7_makeList 32 = .ok (.aload_n 0, 1) := by decide +kernel
theorem dX7_makeList_33 : decode cX7_makeList 33 = .ok (.getfield 78, 3) := by decide +kernel
theorem dX7_makeList_36 : decode cX7_makeList 36 = .ok (.iload_n 1, 1) := by decide +kernel
theorem dX7_makeList_37 : decode cX7_makeList 37 = .ok (.iastore, 1) := by decide +kernel
theorem dX7_makeList_38 : decode cX7_makeList 38 = .ok (.aload_n 0, 1) := by decide +kernel
theorem dX7_makeList_39 : decode cX7_makeList 39 = .ok (.getfield 23, 3) := by decide +kernel
theorem dX7_makeList_42 : decode cX7_makeList 42 = .ok (.aload_n 0, 1) := by decide +kernel
theorem dX7_makeList_43 : decode cX7_makeList 43 = .ok (.getfield 78, 3) := by decide +kernel
theorem dX7_makeList_46 : decode cX7_makeList 46 = .ok (.aload_n 0, 1) := by decide +kernel
theorem dX7_makeList_47 : decode cX7_makeList 47 = .ok (.getfield 81, 3) := by decide +kernel
theorem dX7_makeList_50 : decode cX7_makeList 50 = .ok (.iastore, 1) := by decide +kernel
theorem dX7_makeList_51 : decode cX7_makeList 51 = .ok (.aload_n 0, 1) := by decide +kernel
theorem dX7_makeList_52 : decode cX7_makeList 52 = .ok (.getfield 26, 3) := by decide +kernel
theorem dX7_makeList_55 : decode cX7_makeList 55 = .ok (.aload_n 0, 1) := by decide +kernel
theorem dX7_makeList_56 : decode cX7_makeList 56 = .ok (.getfield 78, 3) := by decide +kernel
theorem dX7_makeList_59 : decode cX7_makeList 59 = .ok (.aload_n 0, 1) := by decide +kernel
theorem dX7_makeList_60 : decode cX7_makeList 60 = .ok (.getfield 84, 3) := by decide +kernel
theorem dX7_makeList_63 : decode cX7_makeList 63 = .ok (.iastore, 1) := by decide +kernel
theorem dX7_makeList_64 : decode cX7_makeList 64 = .ok (.aload_n 0, 1) := by decide +kernel
theorem dX7_makeList_65 : decode cX7_makeList 65 = .ok (.getfield 29, 3) := by decide +kernel
theorem dX7_makeList_68 : decode cX7_makeList 68 = .ok (.aload_n 0, 1) := by decide +kernel
theorem dX7_makeList_69 : decode cX7_makeList 69 = .ok (.getfield 78, 3) := by decide +kernel
theorem dX7_makeList_72 : decode cX7_makeList 72 = .ok (.iconst 1, 1) := by decide +kernel
theorem dX7_makeList_73 : decode cX7_makeList 73 = .ok (.iastore, 1) := by decide +kernel
theorem dX7_makeList_74 : decode cX7_makeList 74 = .ok (.aload_n 0, 1) := by decide +kernel
theorem dX7_makeList_75 : decode cX7_makeList 75 = .ok (.getfield 32, 3) := by decide +kernel
theorem dX7_makeList_78 : decode cX7_makeList 78 = .ok (.aload_n 0, 1) := by decide +kernel
theorem dX7_makeList_79 : decode cX7_makeList 79 = .ok (.getfield 78, 3) := by decide +kernel
theorem dX7_makeList_82 : decode cX7_makeList 82 = .ok (.iconst 1, 1) := by decide +kernel
theorem dX7_makeList_83 : decode cX7_makeList 83 = .ok (.aload_n 0, 1) := by decide +kernel
theorem dX7_makeList_84 : decode cX7_makeList 84 = .ok (.getfield 84, 3) := by decide +kernel
theorem dX7_makeList_87 : decode cX7_makeList 87 = .ok (.iadd, 1) := by decide +kernel
theorem dX7_makeList_88 : decode cX7_makeList 88 = .ok (.iastore, 1) := by decide +kernel
theorem dX7_makeList_89 : decode cX7_makeList 89 = .ok (.iconst 0, 1) := by decide +kernel
theorem dX7_makeList_90 : decode cX7_makeList 90 = .ok (.istore_n 2, 1) := by decide +kernel
theorem dX7_makeList_91 : decode cX7_makeList 91 = .ok (.iload_n 2, 1) := by decide +kernel
theorem dX7_makeList_92 : decode cX7_makeList 92 = .ok (.aload_n 0, 1) := by decide +kernel
theorem dX7_makeList_93 : decode cX7_makeList 93 = .ok (.getfield 84, 3) := by decide +kernel
theorem dX7_makeList_96 : decode cX7_makeList 96 = .ok (.if_icmp .ge 80, 3) := by decide +kernel
theorem dX7_makeList_99 : decode cX7_makeList 99 = .ok (.aload_n 0, 1) := by decide +kernel
theorem dX7_makeList_100 : decode cX7_makeList 100 = .ok (.getfield 43, 3) := by decide +kernel
theorem dX7_makeList_103 : decode cX7_makeList 103 = .ok (.aload_n 0, 1) := by decide +kernel
theorem dX7_makeList_104 : decode cX7_makeList 104 = .ok (.getfield 81, 3) := by decide +kernel
theorem dX7_makeList_107 : decode cX7_makeList 107 = .ok (.aload_n 0, 1) := by decide +kernel
theorem dX7_makeList_108 : decode cX7_makeList 108 = .ok (.getfield 46, 3) := by decide +kernel
theorem dX7_makeList_111 : decode cX7_makeList 111 = .ok (.iload_n 2, 1) := by decide +kernel
theorem dX7_makeList_112 : decode cX7_makeList 112 = .ok (.iaload, 1) := by decide +kernel
theorem dX7_makeList_113 : decode cX7_makeList 113 = .ok (.iastore, 1) := by decide +kernel
theorem dX7_makeList_114 : decode cX7_makeList 114 = .ok (.aload_n 0, 1) := by decide +kernel
theorem dX7_makeList_115 : decode cX7_makeList 115 = .ok (.dup, 1) := by decide +kernel
theorem dX7_makeList_116 : decode cX7_makeList 116 = .ok (.getfield 81, 3) := by decide +kernel
theorem dX7_makeList_119 : decode cX7_makeList 119 = .ok (.iconst 1, 1) := by decide +kernel
theorem dX7_makeList_120 : decode cX7_makeList 120 = .ok (.iadd, 1) := by decide +kernel
theorem dX7_makeList_121 : decode cX7_makeList 121 = .ok (.putfield 81, 3) := by decide +kernel
theorem dX7_makeList_124 : decode cX7_makeList 124 = .ok (.aload_n 0, 1) := by decide +kernel
theorem dX7_makeList_125 : decode cX7_makeList 125 = .ok (.getfield 29, 3) := by decide +kernel
theorem dX7_makeList_128 : decode cX7_makeList 128 = .ok (.aload_n 0, 1) := by decide +kernel
theorem dX7_makeList_129 : decode cX7_makeList 129 = .ok (.getfield 78, 3) := by decide +kernel
theorem dX7_makeList_132 : decode cX7_makeList 132 = .ok (.dup2, 1) := by decide +kernel
theorem dX7_makeList_133 : decode cX7_makeList 133 = .ok (.iaload, 1) := by decide +kernel
theorem dX7_makeList_134 : decode cX7_makeList 134 = .ok (.aload_n 0, 1) := by decide +kernel
theorem dX7_makeList_135 : decode cX7_makeList 135 = .ok (.getfield 29, 3) := by decide +kernel
theorem dX7_makeList_138 : decode cX7_makeList 138 = .ok (.aload_n 0, 1) := by decide +kernel
theorem dX7_makeList_139 : decode cX7_makeList 139 = .ok (.getfield 46, 3) := by decide +kernel
theorem dX7_makeList_142 : decode cX7_makeList 142 = .ok (.iload_n 2, 1) := by decide +kernel
theorem dX7_makeList_143 : decode cX7_makeList 143 = .ok (.iaload, 1) := by decide +kernel
theorem dX7_makeList_144 : decode cX7_makeList 144 = .ok (.iaload, 1) := by decide +kernel
theorem dX7_makeList_145 : decode cX7_makeList 145 = .ok (.iadd, 1) := by decide +kernel
theorem dX7_makeList_146 : decode cX7_makeList 146 = .ok (.iastore, 1) := by decide +kernel
theorem dX7_makeList_147 : decode cX7_makeList 147 = .ok (.aload_n 0, 1) := by decide +kernel
theorem dX7_makeList_148 : decode cX7_makeList 148 = .ok (.getfield 32, 3) := by decide +kernel
theorem dX7_makeList_151 : decode cX7_makeList 151 = .ok (.aload_n 0, 1) := by decide +kernel
theorem dX7_makeList_152 : decode cX7_makeList 152 = .ok (.getfield 78, 3) := by decide +kernel
theorem dX7_makeList_155 : decode cX7_makeList 155 = .ok (.dup2, 1) := by decide +kernel
theorem dX7_makeList_156 : decode cX7_makeList 156 = .ok (.iaload, 1) := by decide +kernel
theorem dX7_makeList_157 : decode cX7_makeList 157 = .ok (.aload_n 0, 1) := by decide +kernel
theorem dX7_makeList_158 : decode cX7_makeList 158 = .ok (.getfield 32, 3) := by decide +kernel
theorem dX7_makeList_161 : decode cX7_makeList 161 = .ok (.aload_n 0, 1) := by decide +kernel
theorem dX7_makeList_162 : decode cX7_makeList 162 = .ok (.getfield 46, 3) := by decide +kernel
theorem dX7_makeList_165 : decode cX7_makeList 165 = .ok (.iload_n 2, 1) := by decide +kernel
theorem dX7_makeList_166 : decode cX7_makeList 166 = .ok (.iaload, 1) := by decide +kernel
theorem dX7_makeList_167 : decode cX7_makeList 167 = .ok (.iaload, 1) := by decide +kernel
theorem dX7_makeList_168 : decode cX7_makeList 168 = .ok (.iadd, 1) := by decide +kernel
theorem dX7_makeList_169 : decode cX7_makeList 169 = .ok (.iastore, 1) := by decide +kernel
theorem dX7_makeList_170 : decode cX7_makeList 170 = .ok (.iinc 2 1, 3) := by decide +kernel
theorem dX7_makeList_173 : decode cX7_makeList 173 = .ok (.goto (-82), 3) := by decide +kernel
theorem dX7_makeList_176 : decode cX7_makeList 176 = .ok (.aload_n 0, 1) := by decide +kernel
theorem dX7_makeList_177 : decode cX7_makeList 177 = .ok (.dup, 1) := by decide +kernel
theorem dX7_makeList_178 : decode cX7_makeList 178 = .ok (.getfield 78, 3) := by decide +kernel
theorem dX7_makeList_181 : decode cX7_makeList 181 = .ok (.iconst 1, 1) := by decide +kernel
theorem dX7_makeList_182 : decode cX7_makeList 182 = .ok (.iadd, 1) := by decide +kernel
theorem dX7_makeList_183 : decode cX7_makeList 183 = .ok (.putfield 78, 3) := by decide +kernel
theorem dX7_makeList_186 : decode cX7_makeList 186 = .ok (.aload_n 0, 1) := by decide +kernel
theorem dX7_makeList_187 : decode cX7_makeList 187 = .ok (.getfield 78, 3) := by decide +kernel
theorem dX7_makeList_190 : decode cX7_makeList 190 = .ok (.iconst 1, 1) := by decide +kernel
theorem dX7_makeList_191 : decode cX7_makeList 191 = .ok (.isub, 1) := by decide +kernel
theorem dX7_makeList_192 : decode cX7_makeList 192 = .ok (.ireturn, 1) := by decide +kernel
theorem dX7_begins_0 : decode cX7_begins 0 = .ok (.iload_n 1, 1) := by decide +kernel
theorem dX7_begins_1 : decode cX7_begins 1 = .ok (.bipush 16, 2) := by decide +kernel
theorem dX7_begins_3 : decode cX7_begins 3 = .ok (.if_icmp .lt 36, 3) := by decide +kernel
theorem dX7_begins_6 : decode cX7_begins 6 = .ok (.aload_n 0, 1) := by decide +kernel
theorem dX7_begins_7 : decode cX7_begins 7 = .ok (.getfield 20, 3) := by decide +kernel
theorem dX7_begins_10 : decode cX7_begins 10 = .ok (.iload_n 1, 1) := by decide +kernel
theorem dX7_begins_11 : decode cX7_begins 11 = .ok (.iaload, 1) := by decide +kernel
theorem dX7_begins_12 : decode cX7_begins 12 = .ok (.iconst 1, 1) := by decide +kernel
theorem dX7_begins_13 : decode cX7_begins 13 = .ok (.if_icmp .ne 8, 3) := by decide +kernel
theorem dX7_begins_16 : decode cX7_begins 16 = .ok (.bipush 88, 2) := by decide +kernel
theorem dX7_begins_18 : decode cX7_begins 18 = .ok (.goto 20, 3) := by decide +kernel
theorem dX7_begins_21 : decode cX7_begins 21 = .ok (.aload_n 0, 1) := by decide +kernel
theorem dX7_begins_22 : decode cX7_begins 22 = .ok (.getfield 20, 3) := by decide +kernel
theorem dX7_begins_25 : decode cX7_begins 25 = .ok (.iload_n 1, 1) := by decide +kernel
theorem dX7_begins_26 : decode cX7_begins 26 = .ok (.iaload, 1) := by decide +kernel
theorem dX7_begins_27 : decode cX7_begins 27 = .ok (.iconst 2, 1) := by decide +kernel
theorem dX7_begins_28 : decode cX7_begins 28 = .ok (.if_icmp .ne 8, 3) := by decide +kernel
theorem dX7_begins_31 : decode cX7_begins 31 = .ok (.bipush 78, 2) := by decide +kernel
theorem dX7_begins_33 : decode cX7_begins 33 = .ok (.goto 5, 3) := by decide +kernel
theorem dX7_begins_36 : decode cX7_begins 36 = .ok (.bipush 40, 2) := by decide +kernel
theorem dX7_begins_38 : decode cX7_begins 38 = .ok (.ireturn, 1) := by decide +kernel
theorem dX7_begins_39 : decode cX7_begins 39 = .ok (.iload_n 1, 1) := by decide +kernel
theorem dX7_begins_40 : decode cX7_begins 40 = .ok (.iconst 2, 1) := by decide +kernel
theorem dX7_begins_41 : decode cX7_begins 41 = .ok (.if_icmp .ge 10, 3) := by decide +kernel
theorem dX7_begins_44 : decode cX7_begins 44 = .ok (.bipush 48, 2) := by decide +kernel
theorem dX7_begins_46 : decode cX7_begins 46 = .ok (.iload_n 1, 1) := by decide +kernel
theorem dX7_begins_47 : decode cX7_begins 47 = .ok (.iadd, 1) := by decide +kernel
theorem dX7_begins_48 : decode cX7_begins 48 = .ok (.goto 40, 3) := by decide +kernel
theorem dX7_begins_51 : decode cX7_begins 51 = .ok (.iload_n 1, 1) := by decide +kernel
theorem dX7_begins_52 : decode cX7_begins 52 = .ok (.iconst 2, 1) := by decide +kernel
theorem dX7_begins_53 : decode cX7_begins 53 = .ok (.if_icmp .ne 8, 3) := by decide +kernel
theorem dX7_begins_56 : decode cX7_begins 56 = .ok (.bipush 62, 2) := by decide +kernel
theorem dX7_begins_58 : decode cX7_begins 58 = .ok (.goto 30, 3) := by decide +kernel
theorem dX7_begins_61 : decode cX7_begins 61 = .ok (.iload_n 1, 1) := by decide +kernel
theorem dX7_begins_62 : decode cX7_begins 62 = .ok (.iconst 3, 1) := by decide +kernel
theorem dX7_begins_63 : decode cX7_begins 63 = .ok (.if_icmp .ne 8, 3) := by decide +kernel
theorem dX7_begins_66 : decode cX7_begins 66 = .ok (.bipush 46, 2) := by decide +kernel
theorem dX7_begins_68 : decode cX7_begins 68 = .ok (.goto 20, 3) := by decide +kernel
theorem dX7_begins_71 : decode cX7_begins 71 = .ok (.iload_n 1, 1) := by decide +kernel
theorem dX7_begins_72 : decode cX7_begins 72 = .ok (.bipush 10, 2) := by decide +kernel
theorem dX7_begins_74 : decode cX7_begins 74 = .ok (.if_icmp .ge 12, 3) := by decide +kernel
theorem dX7_begins_77 : decode cX7_begins 77 = .ok (.bipush 97, 2) := by decide +kernel
theorem dX7_begins_79 : decode cX7_begins 79 = .ok (.iload_n 1, 1) := by decide +kernel
theorem dX7_begins_80 : decode cX7_begins 80 = .ok (.iadd, 1) := by decide +kernel
theorem dX7_begins_81 : decode cX7_begins 81 = .ok (.iconst 4, 1) := by decide +kernel
theorem dX7_begins_82 : decode cX7_begins 82 = .ok (.isub, 1) := by decide +kernel
theorem dX7_begins_83 : decode cX7_begins 83 = .ok (.goto 5, 3) := by decide +kernel
theorem dX7_begins_86 : decode cX7_begins 86 = .ok (.bipush 45, 2) := by decide +kernel
theorem dX7_begins_88 : decode cX7_begins 88 = .ok (.ireturn, 1) := by decide +kernel
theorem dX7_behind_0 : decode cX7_behind 0 = .ok (.iload_n 2, 1) := by decide +kernel
theorem dX7_behind_1 : decode cX7_behind 1 = .ok (.aload_n 0, 1) := by decide +kernel
theorem dX7_behind_2 : decode cX7_behind 2 = .ok (.iload_n 1, 1) := by decide +kernel
theorem dX7_behind_3 : decode cX7_behind 3 = .ok (.invokevirtual 91, 3) := by decide +kernel
theorem dX7_behind_6 : decode cX7_behind 6 = .ok (.iconst 1, 1) := by decide +kernel
theorem dX7_behind_7 : decode cX7_behind 7 = .ok (.isub, 1) := by decide +kernel
theorem dX7_behind_8 : decode cX7_behind 8 = .ok (.if_icmp .ne 6, 3) := by decide +kernel
theorem dX7_behind_11 : decode cX7_behind 11 = .ok (.bipush 41, 2) := by decide +kernel
theorem dX7_behind_13 : decode cX7_behind 13 = .ok (.ireturn, 1) := by decide +kernel
theorem dX7_behind_14 : decode cX7_behind 14 = .ok (.aload_n 0, 1) := by decide +kernel
theorem dX7_behind_15 : decode cX7_behind 15 = .ok (.getfield 20, 3) := by decide +kernel
theorem dX7_behind_18 : decode cX7_behind 18 = .ok (.iload_n 1, 1) := by decide +kernel
theorem dX7_behind_19 : decode cX7_behind 19 = .ok (.iaload, 1) := by decide +kernel
theorem dX7_behind_20 : decode cX7_behind 20 = .ok (.iconst 3, 1) := by decide +kernel
theorem dX7_behind_21 : decode cX7_behind 21 = .ok (.if_icmp .ne 8, 3) := by decide +kernel
theorem dX7_behind_24 : decode cX7_behind 24 = .ok (.bipush 85, 2) := by decide +kernel
theorem dX7_behind_26 : decode cX7_behind 26 = .ok (.goto 35, 3) := by decide +kernel
theorem dX7_behind_29 : decode cX7_behind 29 = .ok (.aload_n 0, 1) := by decide +kernel
theorem dX7_behind_30 : decode cX7_behind 30 = .ok (.getfield 20, 3) := by decide +kernel
theorem dX7_behind_33 : decode cX7_behind 33 = .ok (.iload_n 1, 1) := by decide +kernel
theorem dX7_behind_34 : decode cX7_behind 34 = .ok (.iaload, 1) := by decide +kernel
theorem dX7_behind_35 : decode cX7_behind 35 = .ok (.iconst 4, 1) := by decide +kernel
theorem dX7_behind_36 : decode cX7_behind 36 = .ok (.if_icmp .ne 8, 3) := by decide +kernel
theorem dX7_behind_39 : decode cX7_behind 39 = .ok (.bipush 82, 2) := by decide +kernel
theorem dX7_behind_41 : decode cX7_behind 41 = .ok (.goto 20, 3) := by decide +kernel
theorem dX7_behind_44 : decode cX7_behind 44 = .ok (.aload_n 0, 1) := by decide +kernel
theorem dX7_behind_45 : decode cX7_behind 45 = .ok (.getfield 20, 3) := by decide +kernel
theorem dX7_behind_48 : decode cX7_behind 48 = .ok (.iload_n 1, 1) := by decide +kernel
theorem dX7_behind_49 : decode cX7_behind 49 = .ok (.iaload, 1) := by decide +kernel
theorem dX7_behind_50 : decode cX7_behind 50 = .ok (.iconst 5, 1) := by decide +kernel
theorem dX7_behind_51 : decode cX7_behind 51 = .ok (.if_icmp .ne 8, 3) := by decide +kernel
theorem dX7_behind_54 : decode cX7_behind 54 = .ok (.bipush 38, 2) := by decide +kernel
theorem dX7_behind_56 : decode cX7_behind 56 = .ok (.goto 5, 3) := by decide +kernel
theorem dX7_behind_59 : decode cX7_behind 59 = .ok (.bipush 124, 2) := by decide +kernel
theorem dX7_behind_61 : decode cX7_behind 61 = .ok (.ireturn, 1) := by decide +kernel
theorem dX7_isAhead_0 : decode cX7_isAhead 0 = .ok (.iload_n 1, 1) := by decide +kernel
theorem dX7_isAhead_1 : decode cX7_isAhead 1 = .ok (.istore_n 3, 1) := by decide +kernel
theorem dX7_isAhead_2 : decode cX7_isAhead 2 = .ok (.iload_n 2, 1) := by decide +kernel
theorem dX7_isAhead_3 : decode cX7_isAhead 3 = .ok (.istore 4, 2) := by decide +kernel
theorem dX7_isAhead_5 : decode cX7_isAhead 5 = .ok (.aload_n 0, 1) := by decide +kernel
theorem dX7_isAhead_6 : decode cX7_isAhead 6 = .ok (.iload_n 3, 1) := by decide +kernel
theorem dX7_isAhead_7 : decode cX7_isAhead 7 = .ok (.invokevirtual 94, 3) := by decide +kernel
theorem dX7_isAhead_10 : decode cX7_isAhead 10 = .ok (.aload_n 0, 1) := by decide +kernel
theorem dX7_isAhead_11 : decode cX7_isAhead 11 = .ok (.iload 4, 2) := by decide +kernel
theorem dX7_isAhead_13 : decode cX7_isAhead 13 = .ok (.invokevirtual 94, 3) := by decide +kernel
theorem dX7_isAhead_16 : decode cX7_isAhead 16 = .ok (.if_icmp .ne 131, 3) := by decide +kernel
theorem dX7_isAhead_19 : decode cX7_isAhead 19 = .ok (.iload_n 3, 1) := by decide +kernel
theorem dX7_isAhead_20 : decode cX7_isAhead 20 = .ok (.bipush 16, 2) := by decide +kernel
theorem dX7_isAhead_22 : decode cX7_isAhead 22 = .ok (.if_icmp .lt 125, 3) := by decide +kernel
theorem dX7_isAhead_25 : decode cX7_isAhead 25 = .ok (.iconst 0, 1) := by decide +kernel
theorem dX7_isAhead_26 : decode cX7_isAhead 26 = .ok (.istore 5, 2) := by decide +kernel
theorem dX7_isAhead_28 : decode cX7_isAhead 28 = .ok (.aload_n 0, 1) := by decide +kernel
theorem dX7_isAhead_29 : decode cX7_isAhead 29 = .ok (.iload_n 3, 1) := by decide +kernel
theorem dX7_isAhead_30 : decode cX7_isAhead 30 = .ok (.iload 5, 2) := by decide +kernel
theorem dX7_isAhead_32 : decode cX7_isAhead 32 = .ok (.invokevirtual 97, 3) := by decide +kernel
theorem dX7_isAhead_35 : decode cX7_isAhead 35 = .ok (.aload_n 0, 1) := by decide +kernel
theorem dX7_isAhead_36 : decode cX7_isAhead 36 = .ok (.iload 4, 2) := by decide +kernel
theorem dX7_isAhead_38 : decode cX7_isAhead 38 = .ok (.iload 5, 2) := by decide +kernel
theorem dX7_isAhead_40 : decode cX7_isAhead 40 = .ok (.invokevirtual 97, 3) := by decide +kernel
theorem dX7_isAhead_43 : decode cX7_isAhead 43 = .ok (.if_icmp .ne 37, 3) := by decide +kernel
theorem dX7_isAhead_46 : decode cX7_isAhead 46 = .ok (.aload_n 0, 1) := by decide +kernel
theorem dX7_isAhead_47 : decode cX7_isAhead 47 = .ok (.iload_n 3, 1) := by decide +kernel
theorem dX7_isAhead_48 : decode cX7_isAhead 48 = .ok (.invokevirtual 94, 3) := by decide +kernel
theorem dX7_isAhead_51 : decode cX7_isAhead 51 = .ok (.bipush 40, 2) := by decide +kernel
theorem dX7_isAhead_53 : decode cX7_isAhead 53 = .ok (.if_icmp .ne 27, 3) := by decide +kernel
theorem dX7_isAhead_56 : decode cX7_isAhead 56 = .ok (.aload_n 0, 1) := by decide +kernel
theorem dX7_isAhead_57 : decode cX7_isAhead 57 = .ok (.iload_n 3, 1) := by decide +kernel
theorem dX7_isAhead_58 : decode cX7_isAhead 58 = .ok (.iload 5, 2) := by decide +kernel
theorem dX7_isAhead_60 : decode cX7_isAhead 60 = .ok (.invokevirtual 101, 3) := by decide +kernel
theorem dX7_isAhead_63 : decode cX7_isAhead 63 = .ok (.aload_n 0, 1) := by decide +kernel
theorem dX7_isAhead_64 : decode cX7_isAhead 64 = .ok (.iload 4, 2) := by decide +kernel
theorem dX7_isAhead_66 : decode cX7_isAhead 66 = .ok (.iload 5, 2) := by decide +kernel
theorem dX7_isAhead_68 : decode cX7_isAhead 68 = .ok (.invokevirtual 101, 3) := by decide +kernel
theorem dX7_isAhead_71 : decode cX7_isAhead 71 = .ok (.if_icmp .ne 9, 3) := by decide +kernel
theorem dX7_isAhead_74 : decode cX7_isAhead 74 = .ok (.iinc 5 1, 3) := by decide +kernel
theorem dX7_isAhead_77 : decode cX7_isAhead 77 = .ok (.goto (-49), 3) := by decide +kernel
theorem dX7_isAhead_80 : decode cX7_isAhead 80 = .ok (.aload_n 0, 1) := by decide +kernel
theorem dX7_isAhead_81 : decode cX7_isAhead 81 = .ok (.iload_n 3, 1) := by decide +kernel
theorem dX7_isAhead_82 : decode cX7_isAhead 82 = .ok (.iload 5, 2) := by decide +kernel
theorem dX7_isAhead_84 : decode cX7_isAhead 84 = .ok (.invokevirtual 97, 3) := by decide +kernel
theorem dX7_isAhead_87 : decode cX7_isAhead 87 = .ok (.aload_n 0, 1) := by decide +kernel
theorem dX7_isAhead_88 : decode cX7_isAhead 88 = .ok (.iload 4, 2) := by decide +kernel
theorem dX7_isAhead_90 : decode cX7_isAhead 90 = .ok (.iload 5, 2) := by decide +kernel
theorem dX7_isAhead_92 : decode cX7_isAhead 92 = .ok (.invokevirtual 97, 3) := by decide +kernel
theorem dX7_isAhead_95 : decode cX7_isAhead 95 = .ok (.if_icmp .ne 27, 3) := by decide +kernel
theorem dX7_isAhead_98 : decode cX7_isAhead 98 = .ok (.aload_n 0, 1) := by decide +kernel
theorem dX7_isAhead_99 : decode cX7_isAhead 99 = .ok (.iload_n 3, 1) := by decide +kernel
theorem dX7_isAhead_100 : decode cX7_isAhead 100 = .ok (.iload 5, 2) := by decide +kernel
theorem dX7_isAhead_102 : decode cX7_isAhead 102 = .ok (.invokevirtual 101, 3) := by decide +kernel
theorem dX7_isAhead_105 : decode cX7_isAhead 105 = .ok (.aload_n 0, 1) := by decide +kernel
theorem dX7_isAhead_106 : decode cX7_isAhead 106 = .ok (.iload 4, 2) := by decide +kernel
theorem dX7_isAhead_108 : decode cX7_isAhead 108 = .ok (.iload 5, 2) := by decide +kernel
theorem dX7_isAhead_110 : decode cX7_isAhead 110 = .ok (.invokevirtual 101, 3) := by decide +kernel
theorem dX7_isAhead_113 : decode cX7_isAhead 113 = .ok (.if_icmp .ge 7, 3) := by decide +kernel
theorem dX7_isAhead_116 : decode cX7_isAhead 116 = .ok (.iconst 1, 1) := by decide +kernel
theorem dX7_isAhead_117 : decode cX7_isAhead 117 = .ok (.goto 4, 3) := by decide +kernel
theorem dX7_isAhead_120 : decode cX7_isAhead 120 = .ok (.iconst 0, 1) := by decide +kernel
theorem dX7_isAhead_121 : decode cX7_isAhead 121 = .ok (.ireturn, 1) := by decide +kernel
theorem dX7_isAhead_122 : decode cX7_isAhead 122 = .ok (.aload_n 0, 1) := by decide +kernel
theorem dX7_isAhead_123 : decode cX7_isAhead 123 = .ok (.iload_n 3, 1) := by decide +kernel
theorem dX7_isAhead_124 : decode cX7_isAhead 124 = .ok (.iload 5, 2) := by decide +kernel
theorem dX7_isAhead_126 : decode cX7_isAhead 126 = .ok (.invokevirtual 97, 3) := by decide +kernel
theorem dX7_isAhead_129 : decode cX7_isAhead 129 = .ok (.istore 6, 2) := by decide +kernel
theorem dX7_isAhead_131 : decode cX7_isAhead 131 = .ok (.aload_n 0, 1) := by decide +kernel
theorem dX7_isAhead_132 : decode cX7_isAhead 132 = .ok (.iload 4, 2) := by decide +kernel
theorem dX7_isAhead_134 : decode cX7_isAhead 134 = .ok (.iload 5, 2) := by decide +kernel
theorem dX7_isAhead_136 : decode cX7_isAhead 136 = .ok (.invokevirtual 97, 3) := by decide +kernel
theorem dX7_isAhead_139 : decode cX7_isAhead 139 = .ok (.istore 4, 2) := by decide +kernel
theorem dX7_isAhead_141 : decode cX7_isAhead 141 = .ok (.iload 6, 2) := by decide +kernel
theorem dX7_isAhead_143 : decode cX7_isAhead 143 = .ok (.istore_n 3, 1) := by decide +kernel
theorem dX7_isAhead_144 : decode cX7_isAhead 144 = .ok (.goto (-139), 3) := by decide +kernel
theorem dX7_isAhead_147 : decode cX7_isAhead 147 = .ok (.aload_n 0, 1) := by decide +kernel
theorem dX7_isAhead_148 : decode cX7_isAhead 148 = .ok (.iload_n 3, 1) := by decide +kernel
theorem dX7_isAhead_149 : decode cX7_isAhead 149 = .ok (.invokevirtual 94, 3) := by decide +kernel
theorem dX7_isAhead_152 : decode cX7_isAhead 152 = .ok (.aload_n 0, 1) := by decide +kernel
theorem dX7_isAhead_153 : decode cX7_isAhead 153 = .ok (.iload 4, 2) := by decide +kernel
theorem dX7_isAhead_155 : decode cX7_isAhead 155 = .ok (.invokevirtual 94, 3) := by decide +kernel
theorem dX7_isAhead_158 : decode cX7_isAhead 158 = .ok (.if_icmp .ne 17, 3) := by decide +kernel
theorem dX7_isAhead_161 : decode cX7_isAhead 161 = .ok (.iload_n 3, 1) := by decide +kernel
theorem dX7_isAhead_162 : decode cX7_isAhead 162 = .ok (.iload 4, 2) := by decide +kernel
theorem dX7_isAhead_164 : decode cX7_isAhead 164 = .ok (.if_icmp .ge 7, 3) := by decide +kernel
theorem dX7_isAhead_167 : decode cX7_isAhead 167 = .ok (.iconst 1, 1) := by decide +kernel
theorem dX7_isAhead_168 : decode cX7_isAhead 168 = .ok (.goto 26, 3) := by decide +kernel
theorem dX7_isAhead_171 : decode cX7_isAhead 171 = .ok (.iconst 0, 1) := by decide +kernel
theorem dX7_isAhead_172 : decode cX7_isAhead 172 = .ok (.goto 22, 3) := by decide +kernel
theorem dX7_isAhead_175 : decode cX7_isAhead 175 = .ok (.aload_n 0, 1) := by decide +kernel
theorem dX7_isAhead_176 : decode cX7_isAhead 176 = .ok (.iload_n 3, 1) := by decide +kernel
theorem dX7_isAhead_177 : decode cX7_isAhead 177 = .ok (.invokevirtual 94, 3) := by decide +kernel
theorem dX7_isAhead_180 : decode cX7_isAhead 180 = .ok (.aload_n 0, 1) := by decide +kernel
theorem dX7_isAhead_181 : decode cX7_isAhead 181 = .ok (.iload 4, 2) := by decide +kernel
theorem dX7_isAhead_183 : decode cX7_isAhead 183 = .ok (.invokevirtual 94, 3) := by decide +kernel
theorem dX7_isAhead_186 : decode cX7_isAhead 186 = .ok (.if_icmp .ge 7, 3) := by decide +kernel
theorem dX7_isAhead_189 : decode cX7_isAhead 189 = .ok (.iconst 1, 1) := by decide +kernel
theorem dX7_isAhead_190 : decode cX7_isAhead 190 = .ok (.goto 4, 3) := by decide +kernel
theorem dX7_isAhead_193 : decode cX7_isAhead 193 = .ok (.iconst 0, 1) := by decide +kernel
theorem dX7_isAhead_194 : decode cX7_isAhead 194 = .ok (.ireturn, 1) := by decide +kernel
theorem dX7_beginPut_0 : decode cX7_beginPut 0 = .ok (.aload_n 0, 1) := by decide +kernel
theorem dX7_beginPut_1 : decode cX7_beginPut 1 = .ok (.iconst 0, 1) := by decide +kernel
theorem dX7_beginPut_2 : decode cX7_beginPut 2 = .ok (.putfield 84, 3) := by decide +kernel
theorem dX7_beginPut_5 : decode cX7_beginPut 5 = .ok (.aload_n 0, 1) := by decide +kernel
theorem dX7_beginPut_6 : decode cX7_beginPut 6 = .ok (.iconst 0, 1) := by decide +kernel
theorem dX7_beginPut_7 : decode cX7_beginPut 7 = .ok (.putfield 104, 3) := by decide +kernel
theorem dX7_beginPut_10 : decode cX7_beginPut 10 = .ok (.return_, 1) := by decide +kernel
theorem dX7_counter_0 : decode cX7_counter 0 = .ok (.iload_n 0, 1) := by decide +kernel
theorem dX7_counter_1 : decode cX7_counter 1 = .ok (.iconst 2, 1) := by decide +kernel
theorem dX7_counter_2 : decode cX7_counter 2 = .ok (.if_icmp .ne 7, 3) := by decide +kernel
theorem dX7_counter_5 : decode cX7_counter 5 = .ok (.iconst 3, 1) := by decide +kernel
theorem dX7_counter_6 : decode cX7_counter 6 = .ok (.goto 50, 3) := by decide +kernel
theorem dX7_counter_9 : decode cX7_counter 9 = .ok (.iload_n 0, 1) := by decide +kernel
theorem dX7_counter_10 : decode cX7_counter 10 = .ok (.iconst 3, 1) := by decide +kernel
theorem dX7_counter_11 : decode cX7_counter 11 = .ok (.if_icmp .ne 7, 3) := by decide +kernel
theorem dX7_counter_14 : decode cX7_counter 14 = .ok (.iconst 2, 1) := by decide +kernel
theorem dX7_counter_15 : decode cX7_counter 15 = .ok (.goto 41, 3) := by decide +kernel
theorem dX7_counter_18 : decode cX7_counter 18 = .ok (.iload_n 0, 1) := by decide +kernel
theorem dX7_counter_19 : decode cX7_counter 19 = .ok (.iconst 4, 1) := by decide +kernel
theorem dX7_counter_20 : decode cX7_counter 20 = .ok (.if_icmp .lt 16, 3) := by decide +kernel
theorem dX7_counter_23 : decode cX7_counter 23 = .ok (.iload_n 0, 1) := by decide +kernel
theorem dX7_counter_24 : decode cX7_counter 24 = .ok (.bipush 10, 2) := by decide +kernel
theorem dX7_counter_26 : decode cX7_counter 26 = .ok (.if_icmp .ge 10, 3) := by decide +kernel
theorem dX7_counter_29 : decode cX7_counter 29 = .ok (.iload_n 0, 1) := by decide +kernel
theorem dX7_counter_30 : decode cX7_counter 30 = .ok (.bipush 6, 2) := by decide +kernel
theorem dX7_counter_32 : decode cX7_counter 32 = .ok (.iadd, 1) := by decide +kernel
theorem dX7_counter_33 : decode cX7_counter 33 = .ok (.goto 23, 3) := by decide +kernel
theorem dX7_counter_36 : decode cX7_counter 36 = .ok (.iload_n 0, 1) := by decide +kernel
theorem dX7_counter_37 : decode cX7_counter 37 = .ok (.bipush 10, 2) := by decide +kernel
theorem dX7_counter_39 : decode cX7_counter 39 = .ok (.if_icmp .lt 16, 3) := by decide +kernel
theorem dX7_counter_42 : decode cX7_counter 42 = .ok (.iload_n 0, 1) := by decide +kernel
theorem dX7_counter_43 : decode cX7_counter 43 = .ok (.bipush 16, 2) := by decide +kernel
theorem dX7_counter_45 : decode cX7_counter 45 = .ok (.if_icmp .ge 10, 3) := by decide +kernel
theorem dX7_counter_48 : decode cX7_counter 48 = .ok (.iload_n 0, 1) := by decide +kernel
theorem dX7_counter_49 : decode cX7_counter 49 = .ok (.bipush 6, 2) := by decide +kernel
theorem dX7_counter_51 : decode cX7_counter 51 = .ok (.isub, 1) := by decide +kernel
theorem dX7_counter_52 : decode cX7_counter 52 = .ok (.goto 4, 3) := by decide +kernel
theorem dX7_counter_55 : decode cX7_counter 55 = .ok (.iconst (-1), 1) := by decide +kernel
theorem dX7_counter_56 : decode cX7_counter 56 = .ok (.ireturn, 1) := by decide +kernel
theorem dX7_putOne_0 : decode cX7_putOne 0 = .ok (.iload_n 1, 1) := by decide +kernel
theorem dX7_putOne_1 : decode cX7_putOne 1 = .ok (.iconst 5, 1) := by decide +kernel
theorem dX7_putOne_2 : decode cX7_putOne 2 = .ok (.if_icmp .ne 7, 3) := by decide +kernel
theorem dX7_putOne_5 : decode cX7_putOne 5 = .ok (.iconst 1, 1) := by decide +kernel
theorem dX7_putOne_6 : decode cX7_putOne 6 = .ok (.goto 4, 3) := by decide +kernel
theorem dX7_putOne_9 : decode cX7_putOne 9 = .ok (.iconst 0, 1) := by decide +kernel
theorem dX7_putOne_10 : decode cX7_putOne 10 = .ok (.istore_n 3, 1) := by decide +kernel
theorem dX7_putOne_11 : decode cX7_putOne 11 = .ok (.iload_n 2, 1) := by decide +kernel
theorem dX7_putOne_12 : decode cX7_putOne 12 = .ok (.iconst 2, 1) := by decide +kernel
theorem dX7_putOne_13 : decode cX7_putOne 13 = .ok (.if_icmp .ge 25, 3) := by decide +kernel
theorem dX7_putOne_16 : decode cX7_putOne 16 = .ok (.aload_n 0, 1) := by decide +kernel
theorem dX7_putOne_17 : decode cX7_putOne 17 = .ok (.aload_n 0, 1) := by decide +kernel
theorem dX7_putOne_18 : decode cX7_putOne 18 = .ok (.getfield 104, 3) := by decide +kernel
theorem dX7_putOne_21 : decode cX7_putOne 21 = .ok (.ifCond .ne 8, 3) := by decide +kernel
theorem dX7_putOne_24 : decode cX7_putOne 24 = .ok (.iload_n 2, 1) := by decide +kernel
theorem dX7_putOne_25 : decode cX7_putOne 25 = .ok (.iload_n 3, 1) := by decide +kernel
theorem dX7_putOne_26 : decode cX7_putOne 26 = .ok (.if_icmp .eq 7, 3) := by decide +kernel
theorem dX7_putOne_29 : decode cX7_putOne 29 = .ok (.iconst 1, 1) := by decide +kernel
theorem dX7_putOne_30 : decode cX7_putOne 30 = .ok (.goto 4, 3) := by decide +kernel
theorem dX7_putOne_33 : decode cX7_putOne 33 = .ok (.iconst 0, 1) := by decide +kernel
theorem dX7_putOne_34 : decode cX7_putOne 34 = .ok (.putfield 104, 3) := by decide +kernel
theorem dX7_putOne_37 : decode cX7_putOne 37 = .ok (.return_, 1) := by decide +kernel
theorem dX7_putOne_38 : decode cX7_putOne 38 = .ok (.iconst 0, 1) := by decide +kernel
theorem dX7_putOne_39 : decode cX7_putOne 39 = .ok (.istore 4, 2) := by decide +kernel
theorem dX7_putOne_41 : decode cX7_putOne 41 = .ok (.iconst 0, 1) := by decide +kernel
theorem dX7_putOne_42 : decode cX7_putOne 42 = .ok (.istore 5, 2) := by decide +kernel
theorem dX7_putOne_44 : decode cX7_putOne 44 = .ok (.iconst 0, 1) := by decide +kernel
theorem dX7_putOne_45 : decode cX7_putOne 45 = .ok (.istore 6, 2) := by decide +kernel
theorem dX7_putOne_47 : decode cX7_putOne 47 = .ok (.iload 6, 2) := by decide +kernel
theorem dX7_putOne_49 : decode cX7_putOne 49 = .ok (.aload_n 0, 1) := by decide +kernel
theorem dX7_putOne_50 : decode cX7_putOne 50 = .ok (.getfield 84, 3) := by decide +kernel
theorem dX7_putOne_53 : decode cX7_putOne 53 = .ok (.if_icmp .ge 62, 3) := by decide +kernel
theorem dX7_putOne_56 : decode cX7_putOne 56 = .ok (.iload 5, 2) := by decide +kernel
theorem dX7_putOne_58 : decode cX7_putOne 58 = .ok (.ifCond .ne 14, 3) := by decide +kernel
theorem dX7_putOne_61 : decode cX7_putOne 61 = .ok (.aload_n 0, 1) := by decide +kernel
theorem dX7_putOne_62 : decode cX7_putOne 62 = .ok (.getfield 46, 3) := by decide +kernel
theorem dX7_putOne_65 : decode cX7_putOne 65 = .ok (.iload 6, 2) := by decide +kernel
theorem dX7_putOne_67 : decode cX7_putOne 67 = .ok (.iaload, 1) := by decide +kernel
theorem dX7_putOne_68 : decode cX7_putOne 68 = .ok (.iload_n 2, 1) := by decide +kernel
theorem dX7_putOne_69 : decode cX7_putOne 69 = .ok (.if_icmp .ne 7, 3) := by decide +kernel
theorem dX7_putOne_72 : decode cX7_putOne 72 = .ok (.iconst 1, 1) := by decide +kernel
theorem dX7_putOne_73 : decode cX7_putOne 73 = .ok (.goto 4, 3) := by decide +kernel
theorem dX7_putOne_76 : decode cX7_putOne 76 = .ok (.iconst 0, 1) := by decide +kernel
theorem dX7_putOne_77 : decode cX7_putOne 77 = .ok (.istore 5, 2) := by decide +kernel
theorem dX7_putOne_79 : decode cX7_putOne 79 = .ok (.aload_n 0, 1) := by decide +kernel
theorem dX7_putOne_80 : decode cX7_putOne 80 = .ok (.aload_n 0, 1) := by decide +kernel
theorem dX7_putOne_81 : decode cX7_putOne 81 = .ok (.getfield 104, 3) := by decide +kernel
theorem dX7_putOne_84 : decode cX7_putOne 84 = .ok (.ifCond .ne 17, 3) := by decide +kernel
theorem dX7_putOne_87 : decode cX7_putOne 87 = .ok (.aload_n 0, 1) := by decide +kernel
theorem dX7_putOne_88 : decode cX7_putOne 88 = .ok (.getfield 46, 3) := by decide +kernel
theorem dX7_putOne_91 : decode cX7_putOne 91 = .ok (.iload 6, 2) := by decide +kernel
theorem dX7_putOne_93 : decode cX7_putOne 93 = .ok (.iaload, 1) := by decide +kernel
theorem dX7_putOne_94 : decode cX7_putOne 94 = .ok (.iload_n 2, 1) := by decide +kernel
theorem dX7_putOne_95 : decode cX7_putOne 95 = .ok (.invokestatic 108, 3) := by decide +kernel
theorem dX7_putOne_98 : decode cX7_putOne 98 = .ok (.if_icmp .ne 7, 3) := by decide +kernel
theorem dX7_putOne_101 : decode cX7_putOne 101 = .ok (.iconst 1, 1) := by decide +kernel
theorem dX7_putOne_102 : decode cX7_putOne 102 = .ok (.goto 4, 3) := by decide +kernel
theorem dX7_putOne_105 : decode cX7_putOne 105 = .ok (.iconst 0, 1) := by decide +kernel
theorem dX7_putOne_106 : decode cX7_putOne 106 = .ok (.putfield 104, 3) := by decide +kernel
theorem dX7_putOne_109 : decode cX7_putOne 109 = .ok (.iinc 6 1, 3) := by decide +kernel
theorem dX7_putOne_112 : decode cX7_putOne 112 = .ok (.goto (-65), 3) := by decide +kernel
theorem dX7_putOne_115 : decode cX7_putOne 115 = .ok (.iload 5, 2) := by decide +kernel
theorem dX7_putOne_117 : decode cX7_putOne 117 = .ok (.ifCond .eq 4, 3) := by decide +kernel
theorem dX7_putOne_120 : decode cX7_putOne 120 = .ok (.return_, 1) := by decide +kernel
theorem dX7_putOne_121 : decode cX7_putOne 121 = .ok (.iload 4, 2) := by decide +kernel
theorem dX7_putOne_123 : decode cX7_putOne 123 = .ok (.aload_n 0, 1) := by decide +kernel
theorem dX7_putOne_124 : decode cX7_putOne 124 = .ok (.getfield 84, 3) := by decide +kernel
theorem dX7_putOne_127 : decode cX7_putOne 127 = .ok (.if_icmp .ge 24, 3) := by decide +kernel
theorem dX7_putOne_130 : decode cX7_putOne 130 = .ok (.aload_n 0, 1) := by decide +kernel
theorem dX7_putOne_131 : decode cX7_putOne 131 = .ok (.aload_n 0, 1) := by decide +kernel
theorem dX7_putOne_132 : decode cX7_putOne 132 = .ok (.getfield 46, 3) := by decide +kernel
theorem dX7_putOne_135 : decode cX7_putOne 135 = .ok (.iload 4, 2) := by decide +kernel
theorem dX7_putOne_137 : decode cX7_putOne 137 = .ok (.iaload, 1) := by decide +kernel
theorem dX7_putOne_138 : decode cX7_putOne 138 = .ok (.iload_n 2, 1) := by decide +kernel
theorem dX7_putOne_139 : decode cX7_putOne 139 = .ok (.invokevirtual 111, 3) := by decide +kernel
theorem dX7_putOne_142 : decode cX7_putOne 142 = .ok (.ifCond .eq 9, 3) := by decide +kernel
theorem dX7_putOne_145 : decode cX7_putOne 145 = .ok (.iinc 4 1, 3) := by decide +kernel
theorem dX7_putOne_148 : decode cX7_putOne 148 = .ok (.goto (-27), 3) := by decide +kernel
theorem dX7_putOne_151 : decode cX7_putOne 151 = .ok (.aload_n 0, 1) := by decide +kernel
theorem dX7_putOne_152 : decode cX7_putOne 152 = .ok (.getfield 84, 3) := by decide +kernel
theorem dX7_putOne_155 : decode cX7_putOne 155 = .ok (.istore 6, 2) := by decide +kernel
theorem dX7_putOne_157 : decode cX7_putOne 157 = .ok (.iload 6, 2) := by decide +kernel
theorem dX7_putOne_159 : decode cX7_putOne 159 = .ok (.iload 4, 2) := by decide +kernel
theorem dX7_putOne_161 : decode cX7_putOne 161 = .ok (.if_icmp .le 25, 3) := by decide +kernel
theorem dX7_putOne_164 : decode cX7_putOne 164 = .ok (.aload_n 0, 1) := by decide +kernel
theorem dX7_putOne_165 : decode cX7_putOne 165 = .ok (.getfield 46, 3) := by decide +kernel
theorem dX7_putOne_168 : decode cX7_putOne 168 = .ok (.iload 6, 2) := by decide +kernel
theorem dX7_putOne_170 : decode cX7_putOne 170 = .ok (.aload_n 0, 1) := by decide +kernel
theorem dX7_putOne_171 : decode cX7_putOne 171 = .ok (.getfield 46, 3) := by decide +kernel
theorem dX7_putOne_174 : decode cX7_putOne 174 = .ok (.iload 6, 2) := by decide +kernel
theorem dX7_putOne_176 : decode cX7_putOne 176 = .ok (.iconst 1, 1) := by decide +kernel
theorem dX7_putOne_177 : decode cX7_putOne 177 = .ok (.isub, 1) := by decide +kernel
theorem dX7_putOne_178 : decode cX7_putOne 178 = .ok (.iaload, 1) := by decide +kernel
theorem dX7_putOne_179 : decode cX7_putOne 179 = .ok (.iastore, 1) := by decide +kernel
theorem dX7_putOne_180 : decode cX7_putOne 180 = .ok (.iinc 6 (-1), 3) := by decide +kernel
theorem dX7_putOne_183 : decode cX7_putOne 183 = .ok (.goto (-26), 3) := by decide +kernel
theorem dX7_putOne_186 : decode cX7_putOne 186 = .ok (.aload_n 0, 1) := by decide +kernel
theorem dX7_putOne_187 : decode cX7_putOne 187 = .ok (.getfield 46, 3) := by decide +kernel
theorem dX7_putOne_190 : decode cX7_putOne 190 = .ok (.iload 4, 2) := by decide +kernel
theorem dX7_putOne_192 : decode cX7_putOne 192 = .ok (.iload_n 2, 1) := by decide +kernel
theorem dX7_putOne_193 : decode cX7_putOne 193 = .ok (.iastore, 1) := by decide +kernel
theorem dX7_putOne_194 : decode cX7_putOne 194 = .ok (.aload_n 0, 1) := by decide +kernel
theorem dX7_putOne_195 : decode cX7_putOne 195 = .ok (.dup, 1) := by decide +kernel
theorem dX7_putOne_196 : decode cX7_putOne 196 = .ok (.getfield 84, 3) := by decide +kernel
theorem dX7_putOne_199 : decode cX7_putOne 199 = .ok (.iconst 1, 1) := by decide +kernel
theorem dX7_putOne_200 : decode cX7_putOne 200 = .ok (.iadd, 1) := by decide +kernel
theorem dX7_putOne_201 : decode cX7_putOne 201 = .ok (.putfield 84, 3) := by decide +kernel
theorem dX7_putOne_204 : decode cX7_putOne 204 = .ok (.return_, 1) := by decide +kernel
theorem dX7_putIn_0 : decode cX7_putIn 0 = .ok (.iload_n 2, 1) := by decide +kernel
theorem dX7_putIn_1 : decode cX7_putIn 1 = .ok (.bipush 16, 2) := by decide +kernel
theorem dX7_putIn_3 : decode cX7_putIn 3 = .ok (.if_icmp .lt 52, 3) := by decide +kernel
theorem dX7_putIn_6 : decode cX7_putIn 6 = .ok (.aload_n 0, 1) := by decide +kernel
theorem dX7_putIn_7 : decode cX7_putIn 7 = .ok (.getfield 20, 3) := by decide +kernel
theorem dX7_putIn_10 : decode cX7_putIn 10 = .ok (.iload_n 2, 1) := by decide +kernel
theorem dX7_putIn_11 : decode cX7_putIn 11 = .ok (.iaload, 1) := by decide +kernel
theorem dX7_putIn_12 : decode cX7_putIn 12 = .ok (.iload_n 1, 1) := by decide +kernel
theorem dX7_putIn_13 : decode cX7_putIn 13 = .ok (.if_icmp .ne 42, 3) := by decide +kernel
theorem dX7_putIn_16 : decode cX7_putIn 16 = .ok (.iconst 0, 1) := by decide +kernel
theorem dX7_putIn_17 : decode cX7_putIn 17 = .ok (.istore_n 3, 1) := by decide +kernel
theorem dX7_putIn_18 : decode cX7_putIn 18 = .ok (.iload_n 3, 1) := by decide +kernel
theorem dX7_putIn_19 : decode cX7_putIn 19 = .ok (.aload_n 0, 1) := by decide +kernel
theorem dX7_putIn_20 : decode cX7_putIn 20 = .ok (.getfield 26, 3) := by decide +kernel
theorem dX7_putIn_23 : decode cX7_putIn 23 = .ok (.iload_n 2, 1) := by decide +kernel
theorem dX7_putIn_24 : decode cX7_putIn 24 = .ok (.iaload, 1) := by decide +kernel
theorem dX7_putIn_25 : decode cX7_putIn 25 = .ok (.if_icmp .ge 27, 3) := by decide +kernel
theorem dX7_putIn_28 : decode cX7_putIn 28 = .ok (.aload_n 0, 1) := by decide +kernel
theorem dX7_putIn_29 : decode cX7_putIn 29 = .ok (.iload_n 1, 1) := by decide +kernel
theorem dX7_putIn_30 : decode cX7_putIn 30 = .ok (.aload_n 0, 1) := by decide +kernel
theorem dX7_putIn_31 : decode cX7_putIn 31 = .ok (.getfield 43, 3) := by decide +kernel
theorem dX7_putIn_34 : decode cX7_putIn 34 = .ok (.aload_n 0, 1) := by decide +kernel
theorem dX7_putIn_35 : decode cX7_putIn 35 = .ok (.getfield 23, 3) := by decide +kernel
theorem dX7_putIn_38 : decode cX7_putIn 38 = .ok (.iload_n 2, 1) := by decide +kernel
theorem dX7_putIn_39 : decode cX7_putIn 39 = .ok (.iaload, 1) := by decide +kernel
theorem dX7_putIn_40 : decode cX7_putIn 40 = .ok (.iload_n 3, 1) := by decide +kernel
theorem dX7_putIn_41 : decode cX7_putIn 41 = .ok (.iadd, 1) := by decide +kernel
theorem dX7_putIn_42 : decode cX7_putIn 42 = .ok (.iaload, 1) := by decide +kernel
theorem dX7_putIn_43 : decode cX7_putIn 43 = .ok (.invokevirtual 114, 3) := by decide +kernel
theorem dX7_putIn_46 : decode cX7_putIn 46 = .ok (.iinc 3 1, 3) := by decide +kernel
theorem dX7_putIn_49 : decode cX7_putIn 49 = .ok (.goto (-31), 3) := by decide +kernel
theorem dX7_putIn_52 : decode cX7_putIn 52 = .ok (.goto 9, 3) := by decide +kernel
theorem dX7_putIn_55 : decode cX7_putIn 55 = .ok (.aload_n 0, 1) := by decide +kernel
theorem dX7_putIn_56 : decode cX7_putIn 56 = .ok (.iload_n 1, 1) := by decide +kernel
theorem dX7_putIn_57 : decode cX7_putIn 57 = .ok (.iload_n 2, 1) := by decide +kernel
theorem dX7_putIn_58 : decode cX7_putIn 58 = .ok (.invokevirtual 114, 3) := by decide +kernel
theorem dX7_putIn_61 : decode cX7_putIn 61 = .ok (.return_, 1) := by decide +kernel
theorem dX7_endPut_0 : decode cX7_endPut 0 = .ok (.iload_n 1, 1) := by decide +kernel
theorem dX7_endPut_1 : decode cX7_endPut 1 = .ok (.iconst 5, 1) := by decide +kernel
theorem dX7_endPut_2 : decode cX7_endPut 2 = .ok (.if_icmp .ne 7, 3) := by decide +kernel
theorem dX7_endPut_5 : decode cX7_endPut 5 = .ok (.iconst 1, 1) := by decide +kernel
theorem dX7_endPut_6 : decode cX7_endPut 6 = .ok (.goto 4, 3) := by decide +kernel
theorem dX7_endPut_9 : decode cX7_endPut 9 = .ok (.iconst 0, 1) := by decide +kernel
theorem dX7_endPut_10 : decode cX7_endPut 10 = .ok (.istore_n 2, 1) := by decide +kernel
theorem dX7_endPut_11 : decode cX7_endPut 11 = .ok (.aload_n 0, 1) := by decide +kernel
theorem dX7_endPut_12 : decode cX7_endPut 12 = .ok (.getfield 104, 3) := by decide +kernel
theorem dX7_endPut_15 : decode cX7_endPut 15 = .ok (.ifCond .eq 9, 3) := by decide +kernel
theorem dX7_endPut_18 : decode cX7_endPut 18 = .ok (.iconst 1, 1) := by decide +kernel
theorem dX7_endPut_19 : decode cX7_endPut 19 = .ok (.iload_n 2, 1) := by decide +kernel
theorem dX7_endPut_20 : decode cX7_endPut 20 = .ok (.isub, 1) := by decide +kernel
theorem dX7_endPut_21 : decode cX7_endPut 21 = .ok (.goto 36, 3) := by decide +kernel
theorem dX7_endPut_24 : decode cX7_endPut 24 = .ok (.aload_n 0, 1) := by decide +kernel
theorem dX7_endPut_25 : decode cX7_endPut 25 = .ok (.getfield 84, 3) := by decide +kernel
theorem dX7_endPut_28 : decode cX7_endPut 28 = .ok (.ifCond .ne 7, 3) := by decide +kernel
theorem dX7_endPut_31 : decode cX7_endPut 31 = .ok (.iload_n 2, 1) := by decide +kernel
theorem dX7_endPut_32 : decode cX7_endPut 32 = .ok (.goto 25, 3) := by decide +kernel
theorem dX7_endPut_35 : decode cX7_endPut 35 = .ok (.aload_n 0, 1) := by decide +kernel
theorem dX7_endPut_36 : decode cX7_endPut 36 = .ok (.getfield 84, 3) := by decide +kernel
theorem dX7_endPut_39 : decode cX7_endPut 39 = .ok (.iconst 1, 1) := by decide +kernel
theorem dX7_endPut_40 : decode cX7_endPut 40 = .ok (.if_icmp .ne 12, 3) := by decide +kernel
theorem dX7_endPut_43 : decode cX7_endPut 43 = .ok (.aload_n 0, 1) := by decide +kernel
theorem dX7_endPut_44 : decode cX7_endPut 44 = .ok (.getfield 46, 3) := by decide +kernel
theorem dX7_endPut_47 : decode cX7_endPut 47 = .ok (.iconst 0, 1) := by decide +kernel
theorem dX7_endPut_48 : decode cX7_endPut 48 = .ok (.iaload, 1) := by decide +kernel
theorem dX7_endPut_49 : decode cX7_endPut 49 = .ok (.goto 8, 3) := by decide +kernel
theorem dX7_endPut_52 : decode cX7_endPut 52 = .ok (.aload_n 0, 1) := by decide +kernel
theorem dX7_endPut_53 : decode cX7_endPut 53 = .ok (.iload_n 1, 1) := by decide +kernel
theorem dX7_endPut_54 : decode cX7_endPut 54 = .ok (.invokevirtual 118, 3) := by decide +kernel
theorem dX7_endPut_57 : decode cX7_endPut 57 = .ok (.ireturn, 1) := by decide +kernel
theorem dX7_both_0 : decode cX7_both 0 = .ok (.aload_n 0, 1) := by decide +kernel
theorem dX7_both_1 : decode cX7_both 1 = .ok (.invokevirtual 121, 3) := by decide +kernel
theorem dX7_both_4 : decode cX7_both 4 = .ok (.aload_n 0, 1) := by decide +kernel
theorem dX7_both_5 : decode cX7_both 5 = .ok (.iload_n 1, 1) := by decide +kernel
theorem dX7_both_6 : decode cX7_both 6 = .ok (.iload_n 2, 1) := by decide +kernel
theorem dX7_both_7 : decode cX7_both 7 = .ok (.invokevirtual 124, 3) := by decide +kernel
theorem dX7_both_10 : decode cX7_both 10 = .ok (.aload_n 0, 1) := by decide +kernel
theorem dX7_both_11 : decode cX7_both 11 = .ok (.iload_n 1, 1) := by decide +kernel
theorem dX7_both_12 : decode cX7_both 12 = .ok (.iload_n 3, 1) := by decide +kernel
theorem dX7_both_13 : decode cX7_both 13 = .ok (.invokevirtual 124, 3) := by decide +kernel
theorem dX7_both_16 : decode cX7_both 16 = .ok (.aload_n 0, 1) := by decide +kernel
theorem dX7_both_17 : decode cX7_both 17 = .ok (.iload_n 1, 1) := by decide +kernel
theorem dX7_both_18 : decode cX7_both 18 = .ok (.invokevirtual 127, 3) := by decide +kernel
theorem dX7_both_21 : decode cX7_both 21 = .ok (.ireturn, 1) := by decide +kernel
theorem dX7_mark_0 : decode cX7_mark 0 = .ok (.iconst 0, 1) := by decide +kernel
theorem dX7_mark_1 : decode cX7_mark 1 = .ok (.istore_n 2, 1) := by decide +kernel
theorem dX7_mark_2 : decode cX7_mark 2 = .ok (.iload_n 2, 1) := by decide +kernel
theorem dX7_mark_3 : decode cX7_mark 3 = .ok (.iload_n 1, 1) := by decide +kernel
theorem dX7_mark_4 : decode cX7_mark 4 = .ok (.if_icmp .le 9, 3) := by decide +kernel
theorem dX7_mark_7 : decode cX7_mark 7 = .ok (.iload_n 2, 1) := by decide +kernel
theorem dX7_mark_8 : decode cX7_mark 8 = .ok (.bipush 16, 2) := by decide +kernel
theorem dX7_mark_10 : decode cX7_mark 10 = .ok (.if_icmp .ge 16, 3) := by decide +kernel
theorem dX7_mark_13 : decode cX7_mark 13 = .ok (.aload_n 0, 1) := by decide +kernel
theorem dX7_mark_14 : decode cX7_mark 14 = .ok (.getfield 38, 3) := by decide +kernel
theorem dX7_mark_17 : decode cX7_mark 17 = .ok (.iload_n 2, 1) := by decide +kernel
theorem dX7_mark_18 : decode cX7_mark 18 = .ok (.iconst 0, 1) := by decide +kernel
theorem dX7_mark_19 : decode cX7_mark 19 = .ok (.bastore, 1) := by decide +kernel
theorem dX7_mark_20 : decode cX7_mark 20 = .ok (.iinc 2 1, 3) := by decide +kernel
theorem dX7_mark_23 : decode cX7_mark 23 = .ok (.goto (-21), 3) := by decide +kernel
theorem dX7_mark_26 : decode cX7_mark 26 = .ok (.aload_n 0, 1) := by decide +kernel
theorem dX7_mark_27 : decode cX7_mark 27 = .ok (.getfield 38, 3) := by decide +kernel
theorem dX7_mark_30 : decode cX7_mark 30 = .ok (.iload_n 1, 1) := by decide +kernel
theorem dX7_mark_31 : decode cX7_mark 31 = .ok (.iconst 1, 1) := by decide +kernel
theorem dX7_mark_32 : decode cX7_mark 32 = .ok (.bastore, 1) := by decide +kernel
theorem dX7_mark_33 : decode cX7_mark 33 = .ok (.iload_n 1, 1) := by decide +kernel
theorem dX7_mark_34 : decode cX7_mark 34 = .ok (.istore_n 2, 1) := by decide +kernel
theorem dX7_mark_35 : decode cX7_mark 35 = .ok (.iload_n 2, 1) := by decide +kernel
theorem dX7_mark_36 : decode cX7_mark 36 = .ok (.bipush 16, 2) := by decide +kernel
theorem dX7_mark_38 : decode cX7_mark 38 = .ok (.if_icmp .lt 47, 3) := by decide +kernel
theorem dX7_mark_41 : decode cX7_mark 41 = .ok (.iconst 0, 1) := by decide +kernel
theorem dX7_mark_42 : decode cX7_mark 42 = .ok (.istore_n 3, 1) := by decide +kernel
theorem dX7_mark_43 : decode cX7_mark 43 = .ok (.iload_n 3, 1) := by decide +kernel
theorem dX7_mark_44 : decode cX7_mark 44 = .ok (.aload_n 0, 1) := by decide +kernel
theorem dX7_mark_45 : decode cX7_mark 45 = .ok (.iload_n 2, 1) := by decide +kernel
theorem dX7_mark_46 : decode cX7_mark 46 = .ok (.invokevirtual 91, 3) := by decide +kernel
theorem dX7_mark_49 : decode cX7_mark 49 = .ok (.if_icmp .ge 30, 3) := by decide +kernel
theorem dX7_mark_52 : decode cX7_mark 52 = .ok (.aload_n 0, 1) := by decide +kernel
theorem dX7_mark_53 : decode cX7_mark 53 = .ok (.getfield 38, 3) := by decide +kernel
theorem dX7_mark_56 : decode cX7_mark 56 = .ok (.iload_n 2, 1) := by decide +kernel
theorem dX7_mark_57 : decode cX7_mark 57 = .ok (.baload, 1) := by decide +kernel
theorem dX7_mark_58 : decode cX7_mark 58 = .ok (.ifCond .eq 21, 3) := by decide +kernel
theorem dX7_mark_61 : decode cX7_mark 61 = .ok (.aload_n 0, 1) := by decide +kernel
theorem dX7_mark_62 : decode cX7_mark 62 = .ok (.getfield 38, 3) := by decide +kernel
theorem dX7_mark_65 : decode cX7_mark 65 = .ok (.aload_n 0, 1) := by decide +kernel
theorem dX7_mark_66 : decode cX7_mark 66 = .ok (.iload_n 2, 1) := by decide +kernel
theorem dX7_mark_67 : decode cX7_mark 67 = .ok (.iload_n 3, 1) := by decide +kernel
theorem dX7_mark_68 : decode cX7_mark 68 = .ok (.invokevirtual 97, 3) := by decide +kernel
theorem dX7_mark_71 : decode cX7_mark 71 = .ok (.iconst 1, 1) := by decide +kernel
theorem dX7_mark_72 : decode cX7_mark 72 = .ok (.bastore, 1) := by decide +kernel
theorem dX7_mark_73 : decode cX7_mark 73 = .ok (.iinc 3 1, 3) := by decide +kernel
theorem dX7_mark_76 : decode cX7_mark 76 = .ok (.goto (-33), 3) := by decide +kernel
theorem dX7_mark_79 : decode cX7_mark 79 = .ok (.iinc 2 (-1), 3) := by decide +kernel
theorem dX7_mark_82 : decode cX7_mark 82 = .ok (.goto (-47), 3) := by decide +kernel
theorem dX7_mark_85 : decode cX7_mark 85 = .ok (.return_, 1) := by decide +kernel
theorem dX7_putAll_0 : decode cX7_putAll 0 = .ok (.aload_n 0, 1) := by decide +kernel
theorem dX7_putAll_1 : decode cX7_putAll 1 = .ok (.invokevirtual 121, 3) := by decide +kernel
theorem dX7_putAll_4 : decode cX7_putAll 4 = .ok (.iconst 0, 1) := by decide +kernel
theorem dX7_putAll_5 : decode cX7_putAll 5 = .ok (.istore_n 3, 1) := by decide +kernel
theorem dX7_putAll_6 : decode cX7_putAll 6 = .ok (.iload_n 3, 1) := by decide +kernel
theorem dX7_putAll_7 : decode cX7_putAll 7 = .ok (.aload_n 0, 1) := by decide +kernel
theorem dX7_putAll_8 : decode cX7_putAll 8 = .ok (.getfield 26, 3) := by decide +kernel
theorem dX7_putAll_11 : decode cX7_putAll 11 = .ok (.iload_n 2, 1) := by decide +kernel
theorem dX7_putAll_12 : decode cX7_putAll 12 = .ok (.iaload, 1) := by decide +kernel
theorem dX7_putAll_13 : decode cX7_putAll 13 = .ok (.if_icmp .ge 32, 3) := by decide +kernel
theorem dX7_putAll_16 : decode cX7_putAll 16 = .ok (.aload_n 0, 1) := by decide +kernel
theorem dX7_putAll_17 : decode cX7_putAll 17 = .ok (.iload_n 1, 1) := by decide +kernel
theorem dX7_putAll_18 : decode cX7_putAll 18 = .ok (.aload_n 0, 1) := by decide +kernel
theorem dX7_putAll_19 : decode cX7_putAll 19 = .ok (.getfield 35, 3) := by decide +kernel
theorem dX7_putAll_22 : decode cX7_putAll 22 = .ok (.aload_n 0, 1) := by decide +kernel
theorem dX7_putAll_23 : decode cX7_putAll 23 = .ok (.getfield 43, 3) := by decide +kernel
theorem dX7_putAll_26 : decode cX7_putAll 26 = .ok (.aload_n 0, 1) := by decide +kernel
theorem dX7_putAll_27 : decode cX7_putAll 27 = .ok (.getfield 23, 3) := by decide +kernel
theorem dX7_putAll_30 : decode cX7_putAll 30 = .ok (.iload_n 2, 1) := by decide +kernel
theorem dX7_putAll_31 : decode cX7_putAll 31 = .ok (.iaload, 1) := by decide +kernel
theorem dX7_putAll_32 : decode cX7_putAll 32 = .ok (.iload_n 3, 1) := by decide +kernel
theorem dX7_putAll_33 : decode cX7_putAll 33 = .ok (.iadd, 1) := by decide +kernel
theorem dX7_putAll_34 : decode cX7_putAll 34 = .ok (.iaload, 1) := by decide +kernel
theorem dX7_putAll_35 : decode cX7_putAll 35 = .ok (.iaload, 1) := by decide +kernel
theorem dX7_putAll_36 : decode cX7_putAll 36 = .ok (.invokevirtual 124, 3) := by decide +kernel
theorem dX7_putAll_39 : decode cX7_putAll 39 = .ok (.iinc 3 1, 3) := by decide +kernel
theorem dX7_putAll_42 : decode cX7_putAll 42 = .ok (.goto (-36), 3) := by decide +kernel
theorem dX7_putAll_45 : decode cX7_putAll 45 = .ok (.aload_n 0, 1) := by decide +kernel
theorem dX7_putAll_46 : decode cX7_putAll 46 = .ok (.iload_n 1, 1) := by decide +kernel
theorem dX7_putAll_47 : decode cX7_putAll 47 = .ok (.invokevirtual 127, 3) := by decide +kernel
theorem dX7_putAll_50 : decode cX7_putAll 50 = .ok (.ireturn, 1) := by decide +kernel
theorem dX7_rewritten_0 : decode cX7_rewritten 0 = .ok (.aload_n 0, 1) := by decide +kernel
theorem dX7_rewritten_1 : decode cX7_rewritten 1 = .ok (.iload_n 1, 1) := by decide +kernel
theorem dX7_rewritten_2 : decode cX7_rewritten 2 = .ok (.invokevirtual 130, 3) := by decide +kernel
theorem dX7_rewritten_5 : decode cX7_rewritten 5 = .ok (.iconst 0, 1) := by decide +kernel
theorem dX7_rewritten_6 : decode cX7_rewritten 6 = .ok (.istore_n 3, 1) := by decide +kernel
theorem dX7_rewritten_7 : decode cX7_rewritten 7 = .ok (.iload_n 3, 1) := by decide +kernel
theorem dX7_rewritten_8 : decode cX7_rewritten 8 = .ok (.iload_n 1, 1) := by decide +kernel
theorem dX7_rewritten_9 : decode cX7_rewritten 9 = .ok (.if_icmp .le 9, 3) := by decide +kernel
theorem dX7_rewritten_12 : decode cX7_rewritten 12 = .ok (.iload_n 3, 1) := by decide +kernel
theorem dX7_rewritten_13 : decode cX7_rewritten 13 = .ok (.bipush 16, 2) := by decide +kernel
theorem dX7_rewritten_15 : decode cX7_rewritten 15 = .ok (.if_icmp .ge 114, 3) := by decide +kernel
theorem dX7_rewritten_18 : decode cX7_rewritten 18 = .ok (.iload_n 3, 1) := by decide +kernel
theorem dX7_rewritten_19 : decode cX7_rewritten 19 = .ok (.iconst 4, 1) := by decide +kernel
theorem dX7_rewritten_20 : decode cX7_rewritten 20 = .ok (.if_icmp .ge 31, 3) := by decide +kernel
theorem dX7_rewritten_23 : decode cX7_rewritten 23 = .ok (.aload_n 0, 1) := by decide +kernel
theorem dX7_rewritten_24 : decode cX7_rewritten 24 = .ok (.getfield 35, 3) := by decide +kernel
theorem dX7_rewritten_27 : decode cX7_rewritten 27 = .ok (.iload_n 3, 1) := by decide +kernel
theorem dX7_rewritten_28 : decode cX7_rewritten 28 = .ok (.iload_n 3, 1) := by decide +kernel
theorem dX7_rewritten_29 : decode cX7_rewritten 29 = .ok (.iconst 2, 1) := by decide +kernel
theorem dX7_rewritten_30 : decode cX7_rewritten 30 = .ok (.if_icmp .ge 7, 3) := by decide +kernel
theorem dX7_rewritten_33 : decode cX7_rewritten 33 = .ok (.iload_n 3, 1) := by decide +kernel
theorem dX7_rewritten_34 : decode cX7_rewritten 34 = .ok (.goto 13, 3) := by decide +kernel
theorem dX7_rewritten_37 : decode cX7_rewritten 37 = .ok (.iload_n 3, 1) := by decide +kernel
theorem dX7_rewritten_38 : decode cX7_rewritten 38 = .ok (.iconst 2, 1) := by decide +kernel
theorem dX7_rewritten_39 : decode cX7_rewritten 39 = .ok (.if_icmp .ne 7, 3) := by decide +kernel
theorem dX7_rewritten_42 : decode cX7_rewritten 42 = .ok (.iconst 1, 1) := by decide +kernel
theorem dX7_rewritten_43 : decode cX7_rewritten 43 = .ok (.goto 4, 3) := by decide +kernel
theorem dX7_rewritten_46 : decode cX7_rewritten 46 = .ok (.iconst 0, 1) := by decide +kernel
theorem dX7_rewritten_47 : decode cX7_rewritten 47 = .ok (.iastore, 1) := by decide +kernel
theorem dX7_rewritten_48 : decode cX7_rewritten 48 = .ok (.goto 75, 3) := by decide +kernel
theorem dX7_rewritten_51 : decode cX7_rewritten 51 = .ok (.iload_n 3, 1) := by decide +kernel
theorem dX7_rewritten_52 : decode cX7_rewritten 52 = .ok (.bipush 16, 2) := by decide +kernel
theorem dX7_rewritten_54 : decode cX7_rewritten 54 = .ok (.if_icmp .ge 49, 3) := by decide +kernel
theorem dX7_rewritten_57 : decode cX7_rewritten 57 = .ok (.iload_n 2, 1) := by decide +kernel
theorem dX7_rewritten_58 : decode cX7_rewritten 58 = .ok (.iload_n 3, 1) := by decide +kernel
theorem dX7_rewritten_59 : decode cX7_rewritten 59 = .ok (.bipush 10, 2) := by decide +kernel
theorem dX7_rewritten_61 : decode cX7_rewritten 61 = .ok (.if_icmp .ge 9, 3) := by decide +kernel
theorem dX7_rewritten_64 : decode cX7_rewritten 64 = .ok (.iload_n 3, 1) := by decide +kernel
theorem dX7_rewritten_65 : decode cX7_rewritten 65 = .ok (.iconst 4, 1) := by decide +kernel
theorem dX7_rewritten_66 : decode cX7_rewritten 66 = .ok (.isub, 1) := by decide +kernel
theorem dX7_rewritten_67 : decode cX7_rewritten 67 = .ok (.goto 7, 3) := by decide +kernel
theorem dX7_rewritten_70 : decode cX7_rewritten 70 = .ok (.iload_n 3, 1) := by decide +kernel
theorem dX7_rewritten_71 : decode cX7_rewritten 71 = .ok (.bipush 10, 2) := by decide +kernel
theorem dX7_rewritten_73 : decode cX7_rewritten 73 = .ok (.isub, 1) := by decide +kernel
theorem dX7_rewritten_74 : decode cX7_rewritten 74 = .ok (.ishr, 1) := by decide +kernel
theorem dX7_rewritten_75 : decode cX7_rewritten 75 = .ok (.iconst 1, 1) := by decide +kernel
theorem dX7_rewritten_76 : decode cX7_rewritten 76 = .ok (.iand, 1) := by decide +kernel
theorem dX7_rewritten_77 : decode cX7_rewritten 77 = .ok (.istore 4, 2) := by decide +kernel
theorem dX7_rewritten_79 : decode cX7_rewritten 79 = .ok (.aload_n 0, 1) := by decide +kernel
theorem dX7_rewritten_80 : decode cX7_rewritten 80 = .ok (.getfield 35, 3) := by decide +kernel
theorem dX7_rewritten_83 : decode cX7_rewritten 83 = .ok (.iload_n 3, 1) := by decide +kernel
theorem dX7_rewritten_84 : decode cX7_rewritten 84 = .ok (.iload_n 3, 1) := by decide +kernel
theorem dX7_rewritten_85 : decode cX7_rewritten 85 = .ok (.bipush 10, 2) := by decide +kernel
theorem dX7_rewritten_87 : decode cX7_rewritten 87 = .ok (.if_icmp .ge 8, 3) := by decide +kernel
theorem dX7_rewritten_90 : decode cX7_rewritten 90 = .ok (.iload 4, 2) := by decide +kernel
theorem dX7_rewritten_92 : decode cX7_rewritten 92 = .ok (.goto 7, 3) := by decide +kernel
theorem dX7_rewritten_95 : decode cX7_rewritten 95 = .ok (.iconst 1, 1) := by decide +kernel
theorem dX7_rewritten_96 : decode cX7_rewritten 96 = .ok (.iload 4, 2) := by decide +kernel
theorem dX7_rewritten_98 : decode cX7_rewritten 98 = .ok (.isub, 1) := by decide +kernel
theorem dX7_rewritten_99 : decode cX7_rewritten 99 = .ok (.iastore, 1) := by decide +kernel
theorem dX7_rewritten_100 : decode cX7_rewritten 100 = .ok (.goto 23, 3) := by decide +kernel
theorem dX7_rewritten_103 : decode cX7_rewritten 103 = .ok (.aload_n 0, 1) := by decide +kernel
theorem dX7_rewritten_104 : decode cX7_rewritten 104 = .ok (.getfield 38, 3) := by decide +kernel
theorem dX7_rewritten_107 : decode cX7_rewritten 107 = .ok (.iload_n 3, 1) := by decide +kernel
theorem dX7_rewritten_108 : decode cX7_rewritten 108 = .ok (.baload, 1) := by decide +kernel
theorem dX7_rewritten_109 : decode cX7_rewritten 109 = .ok (.ifCond .eq 14, 3) := by decide +kernel
theorem dX7_rewritten_112 : decode cX7_rewritten 112 = .ok (.aload_n 0, 1) := by decide +kernel
theorem dX7_rewritten_113 : decode cX7_rewritten 113 = .ok (.getfield 35, 3) := by decide +kernel
theorem dX7_rewritten_116 : decode cX7_rewritten 116 = .ok (.iload_n 3, 1) := by decide +kernel
theorem dX7_rewritten_117 : decode cX7_rewritten 117 = .ok (.aload_n 0, 1) := by decide +kernel
theorem dX7_rewritten_118 : decode cX7_rewritten 118 = .ok (.iload_n 3, 1) := by decide +kernel
theorem dX7_rewritten_119 : decode cX7_rewritten 119 = .ok (.invokevirtual 134, 3) := by decide +kernel
theorem dX7_rewritten_122 : decode cX7_rewritten 122 = .ok (.iastore, 1) := by decide +kernel
theorem dX7_rewritten_123 : decode cX7_rewritten 123 = .ok (.iinc 3 1, 3) := by decide +kernel
theorem dX7_rewritten_126 : decode cX7_rewritten 126 = .ok (.goto (-119), 3) := by decide +kernel
theorem dX7_rewritten_129 : decode cX7_rewritten 129 = .ok (.aload_n 0, 1) := by decide +kernel
theorem dX7_rewritten_130 : decode cX7_rewritten 130 = .ok (.getfield 35, 3) := by decide +kernel
theorem dX7_rewritten_133 : decode cX7_rewritten 133 = .ok (.iload_n 1, 1) := by decide +kernel
theorem dX7_rewritten_134 : decode cX7_rewritten 134 = .ok (.iaload, 1) := by decide +kernel
theorem dX7_rewritten_135 : decode cX7_rewritten 135 = .ok (.ireturn, 1) := by decide +kernel
theorem dX7_step_0 : decode cX7_step 0 = .ok (.aload_n 0, 1) := by decide +kernel
theorem dX7_step_1 : decode cX7_step 1 = .ok (.getfield 20, 3) := by decide +kernel
theorem dX7_step_4 : decode cX7_step 4 = .ok (.iload_n 1, 1) := by decide +kernel
theorem dX7_step_5 : decode cX7_step 5 = .ok (.iaload, 1) := by decide +kernel
theorem dX7_step_6 : decode cX7_step 6 = .ok (.tableswitch 127 1 4 #[30, 43, 57, 92], 30) := by decide +kernel
theorem dX7_step_36 : decode cX7_step 36 = .ok (.aload_n 0, 1) := by decide +kernel
theorem dX7_step_37 : decode cX7_step 37 = .ok (.iconst 5, 1) := by decide +kernel
theorem dX7_step_38 : decode cX7_step 38 = .ok (.iconst 2, 1) := by decide +kernel
theorem dX7_step_39 : decode cX7_step 39 = .ok (.aload_n 0, 1) := by decide +kernel
theorem dX7_step_40 : decode cX7_step 40 = .ok (.getfield 23, 3) := by decide +kernel
theorem dX7_step_43 : decode cX7_step 43 = .ok (.iload_n 1, 1) := by decide +kernel
theorem dX7_step_44 : decode cX7_step 44 = .ok (.iaload, 1) := by decide +kernel
theorem dX7_step_45 : decode cX7_step 45 = .ok (.invokevirtual 137, 3) := by decide +kernel
theorem dX7_step_48 : decode cX7_step 48 = .ok (.ireturn, 1) := by decide +kernel
theorem dX7_step_49 : decode cX7_step 49 = .ok (.aload_n 0, 1) := by decide +kernel
theorem dX7_step_50 : decode cX7_step 50 = .ok (.bipush 6, 2) := by decide +kernel
theorem dX7_step_52 : decode cX7_step 52 = .ok (.iconst 3, 1) := by decide +kernel
theorem dX7_step_53 : decode cX7_step 53 = .ok (.aload_n 0, 1) := by decide +kernel
theorem dX7_step_54 : decode cX7_step 54 = .ok (.getfield 23, 3) := by decide +kernel
theorem dX7_step_57 : decode cX7_step 57 = .ok (.iload_n 1, 1) := by decide +kernel
theorem dX7_step_58 : decode cX7_step 58 = .ok (.iaload, 1) := by decide +kernel
theorem dX7_step_59 : decode cX7_step 59 = .ok (.invokevirtual 137, 3) := by decide +kernel
theorem dX7_step_62 : decode cX7_step 62 = .ok (.ireturn, 1) := by decide +kernel
theorem dX7_step_63 : decode cX7_step 63 = .ok (.aload_n 0, 1) := by decide +kernel
theorem dX7_step_64 : decode cX7_step 64 = .ok (.bipush 6, 2) := by decide +kernel
theorem dX7_step_66 : decode cX7_step 66 = .ok (.aload_n 0, 1) := by decide +kernel
theorem dX7_step_67 : decode cX7_step 67 = .ok (.getfield 35, 3) := by decide +kernel
theorem dX7_step_70 : decode cX7_step 70 = .ok (.aload_n 0, 1) := by decide +kernel
theorem dX7_step_71 : decode cX7_step 71 = .ok (.getfield 26, 3) := by decide +kernel
theorem dX7_step_74 : decode cX7_step 74 = .ok (.iload_n 1, 1) := by decide +kernel
theorem dX7_step_75 : decode cX7_step 75 = .ok (.iaload, 1) := by decide +kernel
theorem dX7_step_76 : decode cX7_step 76 = .ok (.iaload, 1) := by decide +kernel
theorem dX7_step_77 : decode cX7_step 77 = .ok (.aload_n 0, 1) := by decide +kernel
theorem dX7_step_78 : decode cX7_step 78 = .ok (.iconst 5, 1) := by decide +kernel
theorem dX7_step_79 : decode cX7_step 79 = .ok (.aload_n 0, 1) := by decide +kernel
theorem dX7_step_80 : decode cX7_step 80 = .ok (.getfield 35, 3) := by decide +kernel
theorem dX7_step_83 : decode cX7_step 83 = .ok (.aload_n 0, 1) := by decide +kernel
theorem dX7_step_84 : decode cX7_step 84 = .ok (.getfield 23, 3) := by decide +kernel
theorem dX7_step_87 : decode cX7_step 87 = .ok (.iload_n 1, 1) := by decide +kernel
theorem dX7_step_88 : decode cX7_step 88 = .ok (.iaload, 1) := by decide +kernel
theorem dX7_step_89 : decode cX7_step 89 = .ok (.iaload, 1) := by decide +kernel
theorem dX7_step_90 : decode cX7_step 90 = .ok (.iload_n 1, 1) := by decide +kernel
theorem dX7_step_91 : decode cX7_step 91 = .ok (.invokevirtual 137, 3) := by decide +kernel
theorem dX7_step_94 : decode cX7_step 94 = .ok (.invokevirtual 137, 3) := by decide +kernel
theorem dX7_step_97 : decode cX7_step 97 = .ok (.ireturn, 1) := by decide +kernel
theorem dX7_step_98 : decode cX7_step 98 = .ok (.aload_n 0, 1) := by decide +kernel
theorem dX7_step_99 : decode cX7_step 99 = .ok (.iconst 5, 1) := by decide +kernel
theorem dX7_step_100 : decode cX7_step 100 = .ok (.aload_n 0, 1) := by decide +kernel
theorem dX7_step_101 : decode cX7_step 101 = .ok (.getfield 35, 3) := by decide +kernel
theorem dX7_step_104 : decode cX7_step 104 = .ok (.aload_n 0, 1) := by decide +kernel
theorem dX7_step_105 : decode cX7_step 105 = .ok (.getfield 26, 3) := by decide +kernel
theorem dX7_step_108 : decode cX7_step 108 = .ok (.iload_n 1, 1) := by decide +kernel
theorem dX7_step_109 : decode cX7_step 109 = .ok (.iaload, 1) := by decide +kernel
theorem dX7_step_110 : decode cX7_step 110 = .ok (.iaload, 1) := by decide +kernel
theorem dX7_step_111 : decode cX7_step 111 = .ok (.aload_n 0, 1) := by decide +kernel
theorem dX7_step_112 : decode cX7_step 112 = .ok (.bipush 6, 2) := by decide +kernel
theorem dX7_step_114 : decode cX7_step 114 = .ok (.aload_n 0, 1) := by decide +kernel
theorem dX7_step_115 : decode cX7_step 115 = .ok (.getfield 35, 3) := by decide +kernel
theorem dX7_step_118 : decode cX7_step 118 = .ok (.aload_n 0, 1) := by decide +kernel
theorem dX7_step_119 : decode cX7_step 119 = .ok (.getfield 23, 3) := by decide +kernel
theorem dX7_step_122 : decode cX7_step 122 = .ok (.iload_n 1, 1) := by decide +kernel
theorem dX7_step_123 : decode cX7_step 123 = .ok (.iaload, 1) := by decide +kernel
theorem dX7_step_124 : decode cX7_step 124 = .ok (.iaload, 1) := by decide +kernel
theorem dX7_step_125 : decode cX7_step 125 = .ok (.iload_n 1, 1) := by decide +kernel
theorem dX7_step_126 : decode cX7_step 126 = .ok (.invokevirtual 137, 3) := by decide +kernel
theorem dX7_step_129 : decode cX7_step 129 = .ok (.invokevirtual 137, 3) := by decide +kernel
theorem dX7_step_132 : decode cX7_step 132 = .ok (.ireturn, 1) := by decide +kernel
theorem dX7_step_133 : decode cX7_step 133 = .ok (.aload_n 0, 1) := by decide +kernel
theorem dX7_step_134 : decode cX7_step 134 = .ok (.aload_n 0, 1) := by decide +kernel
theorem dX7_step_135 : decode cX7_step 135 = .ok (.getfield 20, 3) := by decide +kernel
theorem dX7_step_138 : decode cX7_step 138 = .ok (.iload_n 1, 1) := by decide +kernel
theorem dX7_step_139 : decode cX7_step 139 = .ok (.iaload, 1) := by decide +kernel
theorem dX7_step_140 : decode cX7_step 140 = .ok (.iload_n 1, 1) := by decide +kernel
theorem dX7_step_141 : decode cX7_step 141 = .ok (.invokevirtual 141, 3) := by decide +kernel
theorem dX7_step_144 : decode cX7_step 144 = .ok (.ireturn, 1) := by decide +kernel
theorem dX7_opposite_0 : decode cX7_opposite 0 = .ok (.aload_n 0, 1) := by decide +kernel
theorem dX7_opposite_1 : decode cX7_opposite 1 = .ok (.iload_n 1, 1) := by decide +kernel
theorem dX7_opposite_2 : decode cX7_opposite 2 = .ok (.invokevirtual 130, 3) := by decide +kernel
theorem dX7_opposite_5 : decode cX7_opposite 5 = .ok (.iconst 0, 1) := by decide +kernel
theorem dX7_opposite_6 : decode cX7_opposite 6 = .ok (.istore_n 2, 1) := by decide +kernel
theorem dX7_opposite_7 : decode cX7_opposite 7 = .ok (.iload_n 2, 1) := by decide +kernel
theorem dX7_opposite_8 : decode cX7_opposite 8 = .ok (.iload_n 1, 1) := by decide +kernel
theorem dX7_opposite_9 : decode cX7_opposite 9 = .ok (.if_icmp .le 9, 3) := by decide +kernel
theorem dX7_opposite_12 : decode cX7_opposite 12 = .ok (.iload_n 2, 1) := by decide +kernel
theorem dX7_opposite_13 : decode cX7_opposite 13 = .ok (.bipush 16, 2) := by decide +kernel
theorem dX7_opposite_15 : decode cX7_opposite 15 = .ok (.if_icmp .ge 59, 3) := by decide +kernel
theorem dX7_opposite_18 : decode cX7_opposite 18 = .ok (.iload_n 2, 1) := by decide +kernel
theorem dX7_opposite_19 : decode cX7_opposite 19 = .ok (.bipush 16, 2) := by decide +kernel
theorem dX7_opposite_21 : decode cX7_opposite 21 = .ok (.if_icmp .ge 27, 3) := by decide +kernel
theorem dX7_opposite_24 : decode cX7_opposite 24 = .ok (.aload_n 0, 1) := by decide +kernel
theorem dX7_opposite_25 : decode cX7_opposite 25 = .ok (.getfield 35, 3) := by decide +kernel
theorem dX7_opposite_28 : decode cX7_opposite 28 = .ok (.iload_n 2, 1) := by decide +kernel
theorem dX7_opposite_29 : decode cX7_opposite 29 = .ok (.iload_n 2, 1) := by decide +kernel
theorem dX7_opposite_30 : decode cX7_opposite 30 = .ok (.iconst 2, 1) := by decide +kernel
theorem dX7_opposite_31 : decode cX7_opposite 31 = .ok (.if_icmp .ge 9, 3) := by decide +kernel
theorem dX7_opposite_34 : decode cX7_opposite 34 = .ok (.iconst 1, 1) := by decide +kernel
theorem dX7_opposite_35 : decode cX7_opposite 35 = .ok (.iload_n 2, 1) := by decide +kernel
theorem dX7_opposite_36 : decode cX7_opposite 36 = .ok (.isub, 1) := by decide +kernel
theorem dX7_opposite_37 : decode cX7_opposite 37 = .ok (.goto 7, 3) := by decide +kernel
theorem dX7_opposite_40 : decode cX7_opposite 40 = .ok (.iload_n 2, 1) := by decide +kernel
theorem dX7_opposite_41 : decode cX7_opposite 41 = .ok (.invokestatic 108, 3) := by decide +kernel
theorem dX7_opposite_44 : decode cX7_opposite 44 = .ok (.iastore, 1) := by decide +kernel
theorem dX7_opposite_45 : decode cX7_opposite 45 = .ok (.goto 23, 3) := by decide +kernel
theorem dX7_opposite_48 : decode cX7_opposite 48 = .ok (.aload_n 0, 1) := by decide +kernel
theorem dX7_opposite_49 : decode cX7_opposite 49 = .ok (.getfield 38, 3) := by decide +kernel
theorem dX7_opposite_52 : decode cX7_opposite 52 = .ok (.iload_n 2, 1) := by decide +kernel
theorem dX7_opposite_53 : decode cX7_opposite 53 = .ok (.baload, 1) := by decide +kernel
theorem dX7_opposite_54 : decode cX7_opposite 54 = .ok (.ifCond .eq 14, 3) := by decide +kernel
theorem dX7_opposite_57 : decode cX7_opposite 57 = .ok (.aload_n 0, 1) := by decide +kernel
theorem dX7_opposite_58 : decode cX7_opposite 58 = .ok (.getfield 35, 3) := by decide +kernel
theorem dX7_opposite_61 : decode cX7_opposite 61 = .ok (.iload_n 2, 1) := by decide +kernel
theorem dX7_opposite_62 : decode cX7_opposite 62 = .ok (.aload_n 0, 1) := by decide +kernel
theorem dX7_opposite_63 : decode cX7_opposite 63 = .ok (.iload_n 2, 1) := by decide +kernel
theorem dX7_opposite_64 : decode cX7_opposite 64 = .ok (.invokevirtual 144, 3) := by decide +kernel
theorem dX7_opposite_67 : decode cX7_opposite 67 = .ok (.iastore, 1) := by decide +kernel
theorem dX7_opposite_68 : decode cX7_opposite 68 = .ok (.iinc 2 1, 3) := by decide +kernel
theorem dX7_opposite_71 : decode cX7_opposite 71 = .ok (.goto (-64), 3) := by decide +kernel
theorem dX7_opposite_74 : decode cX7_opposite 74 = .ok (.aload_n 0, 1) := by decide +kernel
theorem dX7_opposite_75 : decode cX7_opposite 75 = .ok (.getfield 35, 3) := by decide +kernel
theorem dX7_opposite_78 : decode cX7_opposite 78 = .ok (.iload_n 1, 1) := by decide +kernel
theorem dX7_opposite_79 : decode cX7_opposite 79 = .ok (.iaload, 1) := by decide +kernel
theorem dX7_opposite_80 : decode cX7_opposite 80 = .ok (.ireturn, 1) := by decide +kernel
theorem dX7_turned_0 : decode cX7_turned 0 = .ok (.aload_n 0, 1) := by decide +kernel
theorem dX7_turned_1 : decode cX7_turned 1 = .ok (.getfield 20, 3) := by decide +kernel
theorem dX7_turned_4 : decode cX7_turned 4 = .ok (.iload_n 1, 1) := by decide +kernel
theorem dX7_turned_5 : decode cX7_turned 5 = .ok (.iaload, 1) := by decide +kernel
theorem dX7_turned_6 : decode cX7_turned 6 = .ok (.tableswitch 134 1 5 #[34, 52, 70, 98, 126], 34) := by decide +kernel
theorem dX7_turned_40 : decode cX7_turned 40 = .ok (.aload_n 0, 1) := by decide +kernel
theorem dX7_turned_41 : decode cX7_turned 41 = .ok (.iconst 2, 1) := by decide +kernel
theorem dX7_turned_42 : decode cX7_turned 42 = .ok (.aload_n 0, 1) := by decide +kernel
theorem dX7_turned_43 : decode cX7_turned 43 = .ok (.getfield 35, 3) := by decide +kernel
theorem dX7_turned_46 : decode cX7_turned 46 = .ok (.aload_n 0, 1) := by decide +kernel
theorem dX7_turned_47 : decode cX7_turned 47 = .ok (.getfield 23, 3) := by decide +kernel
theorem dX7_turned_50 : decode cX7_turned 50 = .ok (.iload_n 1, 1) := by decide +kernel
theorem dX7_turned_51 : decode cX7_turned 51 = .ok (.iaload, 1) := by decide +kernel
theorem dX7_turned_52 : decode cX7_turned 52 = .ok (.iaload, 1) := by decide +kernel
theorem dX7_turned_53 : decode cX7_turned 53 = .ok (.iconst 0, 1) := by decide +kernel
theorem dX7_turned_54 : decode cX7_turned 54 = .ok (.invokevirtual 147, 3) := by decide +kernel
theorem dX7_turned_57 : decode cX7_turned 57 = .ok (.ireturn, 1) := by decide +kernel
theorem dX7_turned_58 : decode cX7_turned 58 = .ok (.aload_n 0, 1) := by decide +kernel
theorem dX7_turned_59 : decode cX7_turned 59 = .ok (.iconst 1, 1) := by decide +kernel
theorem dX7_turned_60 : decode cX7_turned 60 = .ok (.aload_n 0, 1) := by decide +kernel
theorem dX7_turned_61 : decode cX7_turned 61 = .ok (.getfield 35, 3) := by decide +kernel
theorem dX7_turned_64 : decode cX7_turned 64 = .ok (.aload_n 0, 1) := by decide +kernel
theorem dX7_turned_65 : decode cX7_turned 65 = .ok (.getfield 23, 3) := by decide +kernel
theorem dX7_turned_68 : decode cX7_turned 68 = .ok (.iload_n 1, 1) := by decide +kernel
theorem dX7_turned_69 : decode cX7_turned 69 = .ok (.iaload, 1) := by decide +kernel
theorem dX7_turned_70 : decode cX7_turned 70 = .ok (.iaload, 1) := by decide +kernel
theorem dX7_turned_71 : decode cX7_turned 71 = .ok (.iconst 0, 1) := by decide +kernel
theorem dX7_turned_72 : decode cX7_turned 72 = .ok (.invokevirtual 147, 3) := by decide +kernel
theorem dX7_turned_75 : decode cX7_turned 75 = .ok (.ireturn, 1) := by decide +kernel
theorem dX7_turned_76 : decode cX7_turned 76 = .ok (.aload_n 0, 1) := by decide +kernel
theorem dX7_turned_77 : decode cX7_turned 77 = .ok (.iconst 4, 1) := by decide +kernel
theorem dX7_turned_78 : decode cX7_turned 78 = .ok (.aload_n 0, 1) := by decide +kernel
theorem dX7_turned_79 : decode cX7_turned 79 = .ok (.getfield 35, 3) := by decide +kernel
theorem dX7_turned_82 : decode cX7_turned 82 = .ok (.aload_n 0, 1) := by decide +kernel
theorem dX7_turned_83 : decode cX7_turned 83 = .ok (.getfield 23, 3) := by decide +kernel
theorem dX7_turned_86 : decode cX7_turned 86 = .ok (.iload_n 1, 1) := by decide +kernel
theorem dX7_turned_87 : decode cX7_turned 87 = .ok (.iaload, 1) := by decide +kernel
theorem dX7_turned_88 : decode cX7_turned 88 = .ok (.iaload, 1) := by decide +kernel
theorem dX7_turned_89 : decode cX7_turned 89 = .ok (.aload_n 0, 1) := by decide +kernel
theorem dX7_turned_90 : decode cX7_turned 90 = .ok (.getfield 35, 3) := by decide +kernel
theorem dX7_turned_93 : decode cX7_turned 93 = .ok (.aload_n 0, 1) := by decide +kernel
theorem dX7_turned_94 : decode cX7_turned 94 = .ok (.getfield 26, 3) := by decide +kernel
theorem dX7_turned_97 : decode cX7_turned 97 = .ok (.iload_n 1, 1) := by decide +kernel
theorem dX7_turned_98 : decode cX7_turned 98 = .ok (.iaload, 1) := by decide +kernel
theorem dX7_turned_99 : decode cX7_turned 99 = .ok (.iaload, 1) := by decide +kernel
theorem dX7_turned_100 : decode cX7_turned 100 = .ok (.invokevirtual 147, 3) := by decide +kernel
theorem dX7_turned_103 : decode cX7_turned 103 = .ok (.ireturn, 1) := by decide +kernel
theorem dX7_turned_104 : decode cX7_turned 104 = .ok (.aload_n 0, 1) := by decide +kernel
theorem dX7_turned_105 : decode cX7_turned 105 = .ok (.iconst 3, 1) := by decide +kernel
theorem dX7_turned_106 : decode cX7_turned 106 = .ok (.aload_n 0, 1) := by decide +kernel
theorem dX7_turned_107 : decode cX7_turned 107 = .ok (.getfield 35, 3) := by decide +kernel
theorem dX7_turned_110 : decode cX7_turned 110 = .ok (.aload_n 0, 1) := by decide +kernel
theorem dX7_turned_111 : decode cX7_turned 111 = .ok (.getfield 23, 3) := by decide +kernel
theorem dX7_turned_114 : decode cX7_turned 114 = .ok (.iload_n 1, 1) := by decide +kernel
theorem dX7_turned_115 : decode cX7_turned 115 = .ok (.iaload, 1) := by decide +kernel
theorem dX7_turned_116 : decode cX7_turned 116 = .ok (.iaload, 1) := by decide +kernel
theorem dX7_turned_117 : decode cX7_turned 117 = .ok (.aload_n 0, 1) := by decide +kernel
theorem dX7_turned_118 : decode cX7_turned 118 = .ok (.getfield 35, 3) := by decide +kernel
theorem dX7_turned_121 : decode cX7_turned 121 = .ok (.aload_n 0, 1) := by decide +kernel
theorem dX7_turned_122 : decode cX7_turned 122 = .ok (.getfield 26, 3) := by decide +kernel
theorem dX7_turned_125 : decode cX7_turned 125 = .ok (.iload_n 1, 1) := by decide +kernel
theorem dX7_turned_126 : decode cX7_turned 126 = .ok (.iaload, 1) := by decide +kernel
theorem dX7_turned_127 : decode cX7_turned 127 = .ok (.iaload, 1) := by decide +kernel
theorem dX7_turned_128 : decode cX7_turned 128 = .ok (.invokevirtual 147, 3) := by decide +kernel
theorem dX7_turned_131 : decode cX7_turned 131 = .ok (.ireturn, 1) := by decide +kernel
theorem dX7_turned_132 : decode cX7_turned 132 = .ok (.aload_n 0, 1) := by decide +kernel
theorem dX7_turned_133 : decode cX7_turned 133 = .ok (.bipush 6, 2) := by decide +kernel
theorem dX7_turned_135 : decode cX7_turned 135 = .ok (.iload_n 1, 1) := by decide +kernel
theorem dX7_turned_136 : decode cX7_turned 136 = .ok (.invokevirtual 141, 3) := by decide +kernel
theorem dX7_turned_139 : decode cX7_turned 139 = .ok (.ireturn, 1) := by decide +kernel
theorem dX7_turned_140 : decode cX7_turned 140 = .ok (.aload_n 0, 1) := by decide +kernel
theorem dX7_turned_141 : decode cX7_turned 141 = .ok (.iconst 5, 1) := by decide +kernel
theorem dX7_turned_142 : decode cX7_turned 142 = .ok (.iload_n 1, 1) := by decide +kernel
theorem dX7_turned_143 : decode cX7_turned 143 = .ok (.invokevirtual 141, 3) := by decide +kernel
theorem dX7_turned_146 : decode cX7_turned 146 = .ok (.ireturn, 1) := by decide +kernel
theorem dX7_isTrue_0 : decode cX7_isTrue 0 = .ok (.iconst 0, 1) := by decide +kernel
theorem dX7_isTrue_1 : decode cX7_isTrue 1 = .ok (.istore_n 2, 1) := by decide +kernel
theorem dX7_isTrue_2 : decode cX7_isTrue 2 = .ok (.iload_n 2, 1) := by decide +kernel
theorem dX7_isTrue_3 : decode cX7_isTrue 3 = .ok (.iload_n 1, 1) := by decide +kernel
theorem dX7_isTrue_4 : decode cX7_isTrue 4 = .ok (.if_icmp .le 9, 3) := by decide +kernel
theorem dX7_isTrue_7 : decode cX7_isTrue 7 = .ok (.iload_n 2, 1) := by decide +kernel
theorem dX7_isTrue_8 : decode cX7_isTrue 8 = .ok (.bipush 16, 2) := by decide +kernel
theorem dX7_isTrue_10 : decode cX7_isTrue 10 = .ok (.if_icmp .ge 171, 3) := by decide +kernel
theorem dX7_isTrue_13 : decode cX7_isTrue 13 = .ok (.iload_n 2, 1) := by decide +kernel
theorem dX7_isTrue_14 : decode cX7_isTrue 14 = .ok (.bipush 16, 2) := by decide +kernel
theorem dX7_isTrue_16 : decode cX7_isTrue 16 = .ok (.if_icmp .ge 33, 3) := by decide +kernel
theorem dX7_isTrue_19 : decode cX7_isTrue 19 = .ok (.aload_n 0, 1) := by decide +kernel
theorem dX7_isTrue_20 : decode cX7_isTrue 20 = .ok (.getfield 35, 3) := by decide +kernel
theorem dX7_isTrue_23 : decode cX7_isTrue 23 = .ok (.iload_n 2, 1) := by decide +kernel
theorem dX7_isTrue_24 : decode cX7_isTrue 24 = .ok (.iload_n 2, 1) := by decide +kernel
theorem dX7_isTrue_25 : decode cX7_isTrue 25 = .ok (.iconst 1, 1) := by decide +kernel
theorem dX7_isTrue_26 : decode cX7_isTrue 26 = .ok (.if_icmp .eq 14, 3) := by decide +kernel
theorem dX7_isTrue_29 : decode cX7_isTrue 29 = .ok (.iload_n 2, 1) := by decide +kernel
theorem dX7_isTrue_30 : decode cX7_isTrue 30 = .ok (.iconst 3, 1) := by decide +kernel
theorem dX7_isTrue_31 : decode cX7_isTrue 31 = .ok (.if_icmp .eq 9, 3) := by decide +kernel
theorem dX7_isTrue_34 : decode cX7_isTrue 34 = .ok (.iload_n 2, 1) := by decide +kernel
theorem dX7_isTrue_35 : decode cX7_isTrue 35 = .ok (.bipush 10, 2) := by decide +kernel
theorem dX7_isTrue_37 : decode cX7_isTrue 37 = .ok (.if_icmp .lt 7, 3) := by decide +kernel
theorem dX7_isTrue_40 : decode cX7_isTrue 40 = .ok (.iconst 1, 1) := by decide +kernel
theorem dX7_isTrue_41 : decode cX7_isTrue 41 = .ok (.goto 4, 3) := by decide +kernel
theorem dX7_isTrue_44 : decode cX7_isTrue 44 = .ok (.iconst 0, 1) := by decide +kernel
theorem dX7_isTrue_45 : decode cX7_isTrue 45 = .ok (.iastore, 1) := by decide +kernel
theorem dX7_isTrue_46 : decode cX7_isTrue 46 = .ok (.goto 129, 3) := by decide +kernel
theorem dX7_isTrue_49 : decode cX7_isTrue 49 = .ok (.aload_n 0, 1) := by decide +kernel
theorem dX7_isTrue_50 : decode cX7_isTrue 50 = .ok (.getfield 20, 3) := by decide +kernel
theorem dX7_isTrue_53 : decode cX7_isTrue 53 = .ok (.iload_n 2, 1) := by decide +kernel
theorem dX7_isTrue_54 : decode cX7_isTrue 54 = .ok (.iaload, 1) := by decide +kernel
theorem dX7_isTrue_55 : decode cX7_isTrue 55 = .ok (.iconst 5, 1) := by decide +kernel
theorem dX7_isTrue_56 : decode cX7_isTrue 56 = .ok (.if_icmp .ge 37, 3) := by decide +kernel
theorem dX7_isTrue_59 : decode cX7_isTrue 59 = .ok (.aload_n 0, 1) := by decide +kernel
theorem dX7_isTrue_60 : decode cX7_isTrue 60 = .ok (.getfield 35, 3) := by decide +kernel
theorem dX7_isTrue_63 : decode cX7_isTrue 63 = .ok (.iload_n 2, 1) := by decide +kernel
theorem dX7_isTrue_64 : decode cX7_isTrue 64 = .ok (.aload_n 0, 1) := by decide +kernel
theorem dX7_isTrue_65 : decode cX7_isTrue 65 = .ok (.getfield 20, 3) := by decide +kernel
theorem dX7_isTrue_68 : decode cX7_isTrue 68 = .ok (.iload_n 2, 1) := by decide +kernel
theorem dX7_isTrue_69 : decode cX7_isTrue 69 = .ok (.iaload, 1) := by decide +kernel
theorem dX7_isTrue_70 : decode cX7_isTrue 70 = .ok (.iconst 2, 1) := by decide +kernel
theorem dX7_isTrue_71 : decode cX7_isTrue 71 = .ok (.if_icmp .eq 13, 3) := by decide +kernel
theorem dX7_isTrue_74 : decode cX7_isTrue 74 = .ok (.aload_n 0, 1) := by decide +kernel
theorem dX7_isTrue_75 : decode cX7_isTrue 75 = .ok (.getfield 20, 3) := by decide +kernel
theorem dX7_isTrue_78 : decode cX7_isTrue 78 = .ok (.iload_n 2, 1) := by decide +kernel
theorem dX7_isTrue_79 : decode cX7_isTrue 79 = .ok (.iaload, 1) := by decide +kernel
theorem dX7_isTrue_80 : decode cX7_isTrue 80 = .ok (.iconst 4, 1) := by decide +kernel
theorem dX7_isTrue_81 : decode cX7_isTrue 81 = .ok (.if_icmp .ne 7, 3) := by decide +kernel
theorem dX7_isTrue_84 : decode cX7_isTrue 84 = .ok (.iconst 1, 1) := by decide +kernel
theorem dX7_isTrue_85 : decode cX7_isTrue 85 = .ok (.goto 4, 3) := by decide +kernel
theorem dX7_isTrue_88 : decode cX7_isTrue 88 = .ok (.iconst 0, 1) := by decide +kernel
theorem dX7_isTrue_89 : decode cX7_isTrue 89 = .ok (.iastore, 1) := by decide +kernel
theorem dX7_isTrue_90 : decode cX7_isTrue 90 = .ok (.goto 85, 3) := by decide +kernel
theorem dX7_isTrue_93 : decode cX7_isTrue 93 = .ok (.iconst 0, 1) := by decide +kernel
theorem dX7_isTrue_94 : decode cX7_isTrue 94 = .ok (.istore_n 3, 1) := by decide +kernel
theorem dX7_isTrue_95 : decode cX7_isTrue 95 = .ok (.iconst 0, 1) := by decide +kernel
theorem dX7_isTrue_96 : decode cX7_isTrue 96 = .ok (.istore 4, 2) := by decide +kernel
theorem dX7_isTrue_98 : decode cX7_isTrue 98 = .ok (.iload 4, 2) := by decide +kernel
theorem dX7_isTrue_100 : decode cX7_isTrue 100 = .ok (.aload_n 0, 1) := by decide +kernel
theorem dX7_isTrue_101 : decode cX7_isTrue 101 = .ok (.getfield 26, 3) := by decide +kernel
theorem dX7_isTrue_104 : decode cX7_isTrue 104 = .ok (.iload_n 2, 1) := by decide +kernel
theorem dX7_isTrue_105 : decode cX7_isTrue 105 = .ok (.iaload, 1) := by decide +kernel
theorem dX7_isTrue_106 : decode cX7_isTrue 106 = .ok (.if_icmp .ge 31, 3) := by decide +kernel
theorem dX7_isTrue_109 : decode cX7_isTrue 109 = .ok (.iload_n 3, 1) := by decide +kernel
theorem dX7_isTrue_110 : decode cX7_isTrue 110 = .ok (.aload_n 0, 1) := by decide +kernel
theorem dX7_isTrue_111 : decode cX7_isTrue 111 = .ok (.getfield 35, 3) := by decide +kernel
theorem dX7_isTrue_114 : decode cX7_isTrue 114 = .ok (.aload_n 0, 1) := by decide +kernel
theorem dX7_isTrue_115 : decode cX7_isTrue 115 = .ok (.getfield 43, 3) := by decide +kernel
theorem dX7_isTrue_118 : decode cX7_isTrue 118 = .ok (.aload_n 0, 1) := by decide +kernel
theorem dX7_isTrue_119 : decode cX7_isTrue 119 = .ok (.getfield 23, 3) := by decide +kernel
theorem dX7_isTrue_122 : decode cX7_isTrue 122 = .ok (.iload_n 2, 1) := by decide +kernel
theorem dX7_isTrue_123 : decode cX7_isTrue 123 = .ok (.iaload, 1) := by decide +kernel
theorem dX7_isTrue_124 : decode cX7_isTrue 124 = .ok (.iload 4, 2) := by decide +kernel
theorem dX7_isTrue_126 : decode cX7_isTrue 126 = .ok (.iadd, 1) := by decide +kernel
theorem dX7_isTrue_127 : decode cX7_isTrue 127 = .ok (.iaload, 1) := by decide +kernel
theorem dX7_isTrue_128 : decode cX7_isTrue 128 = .ok (.iaload, 1) := by decide +kernel
theorem dX7_isTrue_129 : decode cX7_isTrue 129 = .ok (.iadd, 1) := by decide +kernel
theorem dX7_isTrue_130 : decode cX7_isTrue 130 = .ok (.istore_n 3, 1) := by decide +kernel
theorem dX7_isTrue_131 : decode cX7_isTrue 131 = .ok (.iinc 4 1, 3) := by decide +kernel
theorem dX7_isTrue_134 : decode cX7_isTrue 134 = .ok (.goto (-36), 3) := by decide +kernel
theorem dX7_isTrue_137 : decode cX7_isTrue 137 = .ok (.aload_n 0, 1) := by decide +kernel
theorem dX7_isTrue_138 : decode cX7_isTrue 138 = .ok (.getfield 35, 3) := by decide +kernel
theorem dX7_isTrue_141 : decode cX7_isTrue 141 = .ok (.iload_n 2, 1) := by decide +kernel
theorem dX7_isTrue_142 : decode cX7_isTrue 142 = .ok (.aload_n 0, 1) := by decide +kernel
theorem dX7_isTrue_143 : decode cX7_isTrue 143 = .ok (.getfield 20, 3) := by decide +kernel
theorem dX7_isTrue_146 : decode cX7_isTrue 146 = .ok (.iload_n 2, 1) := by decide +kernel
theorem dX7_isTrue_147 : decode cX7_isTrue 147 = .ok (.iaload, 1) := by decide +kernel
theorem dX7_isTrue_148 : decode cX7_isTrue 148 = .ok (.iconst 5, 1) := by decide +kernel
theorem dX7_isTrue_149 : decode cX7_isTrue 149 = .ok (.if_icmp .ne 16, 3) := by decide +kernel
theorem dX7_isTrue_152 : decode cX7_isTrue 152 = .ok (.iload_n 3, 1) := by decide +kernel
theorem dX7_isTrue_153 : decode cX7_isTrue 153 = .ok (.aload_n 0, 1) := by decide +kernel
theorem dX7_isTrue_154 : decode cX7_isTrue 154 = .ok (.getfield 26, 3) := by decide +kernel
theorem dX7_isTrue_157 : decode cX7_isTrue 157 = .ok (.iload_n 2, 1) := by decide +kernel
theorem dX7_isTrue_158 : decode cX7_isTrue 158 = .ok (.iaload, 1) := by decide +kernel
theorem dX7_isTrue_159 : decode cX7_isTrue 159 = .ok (.if_icmp .ne 14, 3) := by decide +kernel
theorem dX7_isTrue_162 : decode cX7_isTrue 162 = .ok (.goto 7, 3) := by decide +kernel
theorem dX7_isTrue_165 : decode cX7_isTrue 165 = .ok (.iload_n 3, 1) := by decide +kernel
theorem dX7_isTrue_166 : decode cX7_isTrue 166 = .ok (.ifCond .le 7, 3) := by decide +kernel
theorem dX7_isTrue_169 : decode cX7_isTrue 169 = .ok (.iconst 1, 1) := by decide +kernel
theorem dX7_isTrue_170 : decode cX7_isTrue 170 = .ok (.goto 4, 3) := by decide +kernel
theorem dX7_isTrue_173 : decode cX7_isTrue 173 = .ok (.iconst 0, 1) := by decide +kernel
theorem dX7_isTrue_174 : decode cX7_isTrue 174 = .ok (.iastore, 1) := by decide +kernel
theorem dX7_isTrue_175 : decode cX7_isTrue 175 = .ok (.iinc 2 1, 3) := by decide +kernel
theorem dX7_isTrue_178 : decode cX7_isTrue 178 = .ok (.goto (-176), 3) := by decide +kernel
theorem dX7_isTrue_181 : decode cX7_isTrue 181 = .ok (.aload_n 0, 1) := by decide +kernel
theorem dX7_isTrue_182 : decode cX7_isTrue 182 = .ok (.getfield 35, 3) := by decide +kernel
theorem dX7_isTrue_185 : decode cX7_isTrue 185 = .ok (.iload_n 1, 1) := by decide +kernel
theorem dX7_isTrue_186 : decode cX7_isTrue 186 = .ok (.iaload, 1) := by decide +kernel
theorem dX7_isTrue_187 : decode cX7_isTrue 187 = .ok (.iconst 1, 1) := by decide +kernel
theorem dX7_isTrue_188 : decode cX7_isTrue 188 = .ok (.if_icmp .ne 7, 3) := by decide +kernel
theorem dX7_isTrue_191 : decode cX7_isTrue 191 = .ok (.iconst 1, 1) := by decide +kernel
theorem dX7_isTrue_192 : decode cX7_isTrue 192 = .ok (.goto 4, 3) := by decide +kernel
theorem dX7_isTrue_195 : decode cX7_isTrue 195 = .ok (.iconst 0, 1) := by decide +kernel
theorem dX7_isTrue_196 : decode cX7_isTrue 196 = .ok (.ireturn, 1) := by decide +kernel
theorem dX7_store_0 : decode cX7_store 0 = .ok (.aload_n 0, 1) := by decide +kernel
theorem dX7_store_1 : decode cX7_store 1 = .ok (.iload_n 3, 1) := by decide +kernel
theorem dX7_store_2 : decode cX7_store 2 = .ok (.invokevirtual 130, 3) := by decide +kernel
theorem dX7_store_5 : decode cX7_store 5 = .ok (.bipush 16, 2) := by decide +kernel
theorem dX7_store_7 : decode cX7_store 7 = .ok (.istore 4, 2) := by decide +kernel
theorem dX7_store_9 : decode cX7_store 9 = .ok (.iconst 0, 1) := by decide +kernel
theorem dX7_store_10 : decode cX7_store 10 = .ok (.istore 5, 2) := by decide +kernel
theorem dX7_store_12 : decode cX7_store 12 = .ok (.iconst 0, 1) := by decide +kernel
theorem dX7_store_13 : decode cX7_store 13 = .ok (.istore 6, 2) := by decide +kernel
theorem dX7_store_15 : decode cX7_store 15 = .ok (.iload 6, 2) := by decide +kernel
theorem dX7_store_17 : decode cX7_store 17 = .ok (.bipush 16, 2) := by decide +kernel
theorem dX7_store_19 : decode cX7_store 19 = .ok (.if_icmp .ge 18, 3) := by decide +kernel
theorem dX7_store_22 : decode cX7_store 22 = .ok (.aload_n 0, 1) := by decide +kernel
theorem dX7_store_23 : decode cX7_store 23 = .ok (.getfield 35, 3) := by decide +kernel
theorem dX7_store_26 : decode cX7_store 26 = .ok (.iload 6, 2) := by decide +kernel
theorem dX7_store_28 : decode cX7_store 28 = .ok (.iload 6, 2) := by decide +kernel
theorem dX7_store_30 : decode cX7_store 30 = .ok (.iastore, 1) := by decide +kernel
theorem dX7_store_31 : decode cX7_store 31 = .ok (.iinc 6 1, 3) := by decide +kernel
theorem dX7_store_34 : decode cX7_store 34 = .ok (.goto (-19), 3) := by decide +kernel
theorem dX7_store_37 : decode cX7_store 37 = .ok (.bipush 16, 2) := by decide +kernel
theorem dX7_store_39 : decode cX7_store 39 = .ok (.istore 6, 2) := by decide +kernel
theorem dX7_store_41 : decode cX7_store 41 = .ok (.iload 6, 2) := by decide +kernel
theorem dX7_store_43 : decode cX7_store 43 = .ok (.iload_n 3, 1) := by decide +kernel
theorem dX7_store_44 : decode cX7_store 44 = .ok (.if_icmp .gt 211, 3) := by decide +kernel
theorem dX7_store_47 : decode cX7_store 47 = .ok (.aload_n 0, 1) := by decide +kernel
theorem dX7_store_48 : decode cX7_store 48 = .ok (.getfield 38, 3) := by decide +kernel
theorem dX7_store_51 : decode cX7_store 51 = .ok (.iload 6, 2) := by decide +kernel
theorem dX7_store_53 : decode cX7_store 53 = .ok (.baload, 1) := by decide +kernel
theorem dX7_store_54 : decode cX7_store 54 = .ok (.ifCond .eq 195, 3) := by decide +kernel
theorem dX7_store_57 : decode cX7_store 57 = .ok (.iload_n 1, 1) := by decide +kernel
theorem dX7_store_58 : decode cX7_store 58 = .ok (.iload_n 2, 1) := by decide +kernel
theorem dX7_store_59 : decode cX7_store 59 = .ok (.iconst 2, 1) := by decide +kernel
theorem dX7_store_60 : decode cX7_store 60 = .ok (.iconst 3, 1) := by decide +kernel
theorem dX7_store_61 : decode cX7_store 61 = .ok (.iload 4, 2) := by decide +kernel
theorem dX7_store_63 : decode cX7_store 63 = .ok (.bipush 16, 2) := by decide +kernel
theorem dX7_store_65 : decode cX7_store 65 = .ok (.isub, 1) := by decide +kernel
theorem dX7_store_66 : decode cX7_store 66 = .ok (.imul, 1) := by decide +kernel
theorem dX7_store_67 : decode cX7_store 67 = .ok (.iadd, 1) := by decide +kernel
theorem dX7_store_68 : decode cX7_store 68 = .ok (.invokestatic 150, 3) := by decide +kernel
theorem dX7_store_71 : decode cX7_store 71 = .ok (.istore 7, 2) := by decide +kernel
theorem dX7_store_73 : decode cX7_store 73 = .ok (.aload_n 0, 1) := by decide +kernel
theorem dX7_store_74 : decode cX7_store 74 = .ok (.getfield 35, 3) := by decide +kernel
theorem dX7_store_77 : decode cX7_store 77 = .ok (.iload 6, 2) := by decide +kernel
theorem dX7_store_79 : decode cX7_store 79 = .ok (.iload 4, 2) := by decide +kernel
theorem dX7_store_81 : decode cX7_store 81 = .ok (.iastore, 1) := by decide +kernel
theorem dX7_store_82 : decode cX7_store 82 = .ok (.aload_n 0, 1) := by decide +kernel
theorem dX7_store_83 : decode cX7_store 83 = .ok (.getfield 7, 3) := by decide +kernel
theorem dX7_store_86 : decode cX7_store 86 = .ok (.iload 7, 2) := by decide +kernel
theorem dX7_store_88 : decode cX7_store 88 = .ok (.aload_n 0, 1) := by decide +kernel
theorem dX7_store_89 : decode cX7_store 89 = .ok (.getfield 20, 3) := by decide +kernel
theorem dX7_store_92 : decode cX7_store 92 = .ok (.iload 6, 2) := by decide +kernel
theorem dX7_store_94 : decode cX7_store 94 = .ok (.iaload, 1) := by decide +kernel
theorem dX7_store_95 : decode cX7_store 95 = .ok (.iastore, 1) := by decide +kernel
theorem dX7_store_96 : decode cX7_store 96 = .ok (.aload_n 0, 1) := by decide +kernel
theorem dX7_store_97 : decode cX7_store 97 = .ok (.getfield 7, 3) := by decide +kernel
theorem dX7_store_100 : decode cX7_store 100 = .ok (.iload 7, 2) := by decide +kernel
theorem dX7_store_102 : decode cX7_store 102 = .ok (.iconst 1, 1) := by decide +kernel
theorem dX7_store_103 : decode cX7_store 103 = .ok (.iadd, 1) := by decide +kernel
theorem dX7_store_104 : decode cX7_store 104 = .ok (.aload_n 0, 1) := by decide +kernel
theorem dX7_store_105 : decode cX7_store 105 = .ok (.getfield 20, 3) := by decide +kernel
theorem dX7_store_108 : decode cX7_store 108 = .ok (.iload 6, 2) := by decide +kernel
theorem dX7_store_110 : decode cX7_store 110 = .ok (.iaload, 1) := by decide +kernel
theorem dX7_store_111 : decode cX7_store 111 = .ok (.iconst 5, 1) := by decide +kernel
theorem dX7_store_112 : decode cX7_store 112 = .ok (.if_icmp .lt 8, 3) := by decide +kernel
theorem dX7_store_115 : decode cX7_store 115 = .ok (.iload 5, 2) := by decide +kernel
theorem dX7_store_117 : decode cX7_store 117 = .ok (.goto 15, 3) := by decide +kernel
theorem dX7_store_120 : decode cX7_store 120 = .ok (.aload_n 0, 1) := by decide +kernel
theorem dX7_store_121 : decode cX7_store 121 = .ok (.getfield 35, 3) := by decide +kernel
theorem dX7_store_124 : decode cX7_store 124 = .ok (.aload_n 0, 1) := by decide +kernel
theorem dX7_store_125 : decode cX7_store 125 = .ok (.getfield 23, 3) := by decide +kernel
theorem dX7_store_128 : decode cX7_store 128 = .ok (.iload 6, 2) := by decide +kernel
theorem dX7_store_130 : decode cX7_store 130 = .ok (.iaload, 1) := by decide +kernel
theorem dX7_store_131 : decode cX7_store 131 = .ok (.iaload, 1) := by decide +kernel
theorem dX7_store_132 : decode cX7_store 132 = .ok (.iastore, 1) := by decide +kernel
theorem dX7_store_133 : decode cX7_store 133 = .ok (.aload_n 0, 1) := by decide +kernel
theorem dX7_store_134 : decode cX7_store 134 = .ok (.getfield 7, 3) := by decide +kernel
theorem dX7_store_137 : decode cX7_store 137 = .ok (.iload 7, 2) := by decide +kernel
theorem dX7_store_139 : decode cX7_store 139 = .ok (.iconst 2, 1) := by decide +kernel
theorem dX7_store_140 : decode cX7_store 140 = .ok (.iadd, 1) := by decide +kernel
theorem dX7_store_141 : decode cX7_store 141 = .ok (.aload_n 0, 1) := by decide +kernel
theorem dX7_store_142 : decode cX7_store 142 = .ok (.getfield 20, 3) := by decide +kernel
theorem dX7_store_145 : decode cX7_store 145 = .ok (.iload 6, 2) := by decide +kernel
theorem dX7_store_147 : decode cX7_store 147 = .ok (.iaload, 1) := by decide +kernel
theorem dX7_store_148 : decode cX7_store 148 = .ok (.iconst 5, 1) := by decide +kernel
theorem dX7_store_149 : decode cX7_store 149 = .ok (.if_icmp .lt 13, 3) := by decide +kernel
theorem dX7_store_152 : decode cX7_store 152 = .ok (.aload_n 0, 1) := by decide +kernel
theorem dX7_store_153 : decode cX7_store 153 = .ok (.getfield 26, 3) := by decide +kernel
theorem dX7_store_156 : decode cX7_store 156 = .ok (.iload 6, 2) := by decide +kernel
theorem dX7_store_158 : decode cX7_store 158 = .ok (.iaload, 1) := by decide +kernel
theorem dX7_store_159 : decode cX7_store 159 = .ok (.goto 15, 3) := by decide +kernel
theorem dX7_store_162 : decode cX7_store 162 = .ok (.aload_n 0, 1) := by decide +kernel
theorem dX7_store_163 : decode cX7_store 163 = .ok (.getfield 35, 3) := by decide +kernel
theorem dX7_store_166 : decode cX7_store 166 = .ok (.aload_n 0, 1) := by decide +kernel
theorem dX7_store_167 : decode cX7_store 167 = .ok (.getfield 26, 3) := by decide +kernel
theorem dX7_store_170 : decode cX7_store 170 = .ok (.iload 6, 2) := by decide +kernel
theorem dX7_store_172 : decode cX7_store 172 = .ok (.iaload, 1) := by decide +kernel
theorem dX7_store_173 : decode cX7_store 173 = .ok (.iaload, 1) := by decide +kernel
theorem dX7_store_174 : decode cX7_store 174 = .ok (.iastore, 1) := by decide +kernel
theorem dX7_store_175 : decode cX7_store 175 = .ok (.iconst 0, 1) := by decide +kernel
theorem dX7_store_176 : decode cX7_store 176 = .ok (.istore 8, 2) := by decide +kernel
theorem dX7_store_178 : decode cX7_store 178 = .ok (.iload 8, 2) := by decide +kernel
theorem dX7_store_180 : decode cX7_store 180 = .ok (.aload_n 0, 1) := by decide +kernel
theorem dX7_store_181 : decode cX7_store 181 = .ok (.getfield 26, 3) := by decide +kernel
theorem dX7_store_184 : decode cX7_store 184 = .ok (.iload 6, 2) := by decide +kernel
theorem dX7_store_186 : decode cX7_store 186 = .ok (.iaload, 1) := by decide +kernel
theorem dX7_store_187 : decode cX7_store 187 = .ok (.if_icmp .ge 59, 3) := by decide +kernel
theorem dX7_store_190 : decode cX7_store 190 = .ok (.aload_n 0, 1) := by decide +kernel
theorem dX7_store_191 : decode cX7_store 191 = .ok (.getfield 20, 3) := by decide +kernel
theorem dX7_store_194 : decode cX7_store 194 = .ok (.iload 6, 2) := by decide +kernel
theorem dX7_store_196 : decode cX7_store 196 = .ok (.iaload, 1) := by decide +kernel
theorem dX7_store_197 : decode cX7_store 197 = .ok (.iconst 5, 1) := by decide +kernel
theorem dX7_store_198 : decode cX7_store 198 = .ok (.if_icmp .lt 48, 3) := by decide +kernel
theorem dX7_store_201 : decode cX7_store 201 = .ok (.aload_n 0, 1) := by decide +kernel
theorem dX7_store_202 : decode cX7_store 202 = .ok (.getfield 7, 3) := by decide +kernel
theorem dX7_store_205 : decode cX7_store 205 = .ok (.iload_n 1, 1) := by decide +kernel
theorem dX7_store_206 : decode cX7_store 206 = .ok (.iload_n 2, 1) := by decide +kernel
theorem dX7_store_207 : decode cX7_store 207 = .ok (.sipush 362, 3) := by decide +kernel
theorem dX7_store_210 : decode cX7_store 210 = .ok (.iload 5, 2) := by decide +kernel
theorem dX7_store_212 : decode cX7_store 212 = .ok (.iadd, 1) := by decide +kernel
theorem dX7_store_213 : decode cX7_store 213 = .ok (.invokestatic 150, 3) := by decide +kernel
theorem dX7_store_216 : decode cX7_store 216 = .ok (.aload_n 0, 1) := by decide +kernel
theorem dX7_store_217 : decode cX7_store 217 = .ok (.getfield 35, 3) := by decide +kernel
theorem dX7_store_220 : decode cX7_store 220 = .ok (.aload_n 0, 1) := by decide +kernel
theorem dX7_store_221 : decode cX7_store 221 = .ok (.getfield 43, 3) := by decide +kernel
theorem dX7_store_224 : decode cX7_store 224 = .ok (.aload_n 0, 1) := by decide +kernel
theorem dX7_store_225 : decode cX7_store 225 = .ok (.getfield 23, 3) := by decide +kernel
theorem dX7_store_228 : decode cX7_store 228 = .ok (.iload 6, 2) := by decide +kernel
theorem dX7_store_230 : decode cX7_store 230 = .ok (.iaload, 1) := by decide +kernel
theorem dX7_store_231 : decode cX7_store 231 = .ok (.iload 8, 2) := by decide +kernel
theorem dX7_store_233 : decode cX7_store 233 = .ok (.iadd, 1) := by decide +kernel
theorem dX7_store_234 : decode cX7_store 234 = .ok (.iaload, 1) := by decide +kernel
theorem dX7_store_235 : decode cX7_store 235 = .ok (.iaload, 1) := by decide +kernel
theorem dX7_store_236 : decode cX7_store 236 = .ok (.iastore, 1) := by decide +kernel
theorem dX7_store_237 : decode cX7_store 237 = .ok (.iinc 5 1, 3) := by decide +kernel
theorem dX7_store_240 : decode cX7_store 240 = .ok (.iinc 8 1, 3) := by decide +kernel
theorem dX7_store_243 : decode cX7_store 243 = .ok (.goto (-65), 3) := by decide +kernel
theorem dX7_store_246 : decode cX7_store 246 = .ok (.iinc 4 1, 3) := by decide +kernel
theorem dX7_store_249 : decode cX7_store 249 = .ok (.iinc 6 1, 3) := by decide +kernel
theorem dX7_store_252 : decode cX7_store 252 = .ok (.goto (-211), 3) := by decide +kernel
theorem dX7_store_255 : decode cX7_store 255 = .ok (.aload_n 0, 1) := by decide +kernel
theorem dX7_store_256 : decode cX7_store 256 = .ok (.getfield 7, 3) := by decide +kernel
theorem dX7_store_259 : decode cX7_store 259 = .ok (.iload_n 1, 1) := by decide +kernel
theorem dX7_store_260 : decode cX7_store 260 = .ok (.iload_n 2, 1) := by decide +kernel
theorem dX7_store_261 : decode cX7_store 261 = .ok (.iconst 0, 1) := by decide +kernel
theorem dX7_store_262 : decode cX7_store 262 = .ok (.invokestatic 150, 3) := by decide +kernel
theorem dX7_store_265 : decode cX7_store 265 = .ok (.aload_n 0, 1) := by decide +kernel
theorem dX7_store_266 : decode cX7_store 266 = .ok (.getfield 35, 3) := by decide +kernel
theorem dX7_store_269 : decode cX7_store 269 = .ok (.iload_n 3, 1) := by decide +kernel
theorem dX7_store_270 : decode cX7_store 270 = .ok (.iaload, 1) := by decide +kernel
theorem dX7_store_271 : decode cX7_store 271 = .ok (.iastore, 1) := by decide +kernel
theorem dX7_store_272 : decode cX7_store 272 = .ok (.aload_n 0, 1) := by decide +kernel
theorem dX7_store_273 : decode cX7_store 273 = .ok (.getfield 7, 3) := by decide +kernel
theorem dX7_store_276 : decode cX7_store 276 = .ok (.iload_n 1, 1) := by decide +kernel
theorem dX7_store_277 : decode cX7_store 277 = .ok (.iload_n 2, 1) := by decide +kernel
theorem dX7_store_278 : decode cX7_store 278 = .ok (.iconst 1, 1) := by decide +kernel
theorem dX7_store_279 : decode cX7_store 279 = .ok (.invokestatic 150, 3) := by decide +kernel
theorem dX7_store_282 : decode cX7_store 282 = .ok (.iload 4, 2) := by decide +kernel
theorem dX7_store_284 : decode cX7_store 284 = .ok (.bipush 16, 2) := by decide +kernel
theorem dX7_store_286 : decode cX7_store 286 = .ok (.isub, 1) := by decide +kernel
theorem dX7_store_287 : decode cX7_store 287 = .ok (.iastore, 1) := by decide +kernel
theorem dX7_store_288 : decode cX7_store 288 = .ok (.return_, 1) := by decide +kernel
theorem dX7_load_0 : decode cX7_load 0 = .ok (.aload_n 0, 1) := by decide +kernel
theorem dX7_load_1 : decode cX7_load 1 = .ok (.getfield 7, 3) := by decide +kernel
theorem dX7_load_4 : decode cX7_load 4 = .ok (.iload_n 1, 1) := by decide +kernel
theorem dX7_load_5 : decode cX7_load 5 = .ok (.iload_n 2, 1) := by decide +kernel
theorem dX7_load_6 : decode cX7_load 6 = .ok (.iconst 1, 1) := by decide +kernel
theorem dX7_load_7 : decode cX7_load 7 = .ok (.invokestatic 150, 3) := by decide +kernel
theorem dX7_load_10 : decode cX7_load 10 = .ok (.iaload, 1) := by decide +kernel
theorem dX7_load_11 : decode cX7_load 11 = .ok (.istore_n 3, 1) := by decide +kernel
theorem dX7_load_12 : decode cX7_load 12 = .ok (.iconst 0, 1) := by decide +kernel
theorem dX7_load_13 : decode cX7_load 13 = .ok (.istore 4, 2) := by decide +kernel
theorem dX7_load_15 : decode cX7_load 15 = .ok (.iload 4, 2) := by decide +kernel
theorem dX7_load_17 : decode cX7_load 17 = .ok (.bipush 16, 2) := by decide +kernel
theorem dX7_load_19 : decode cX7_load 19 = .ok (.if_icmp .ge 18, 3) := by decide +kernel
theorem dX7_load_22 : decode cX7_load 22 = .ok (.aload_n 0, 1) := by decide +kernel
theorem dX7_load_23 : decode cX7_load 23 = .ok (.getfield 35, 3) := by decide +kernel
theorem dX7_load_26 : decode cX7_load 26 = .ok (.iload 4, 2) := by decide +kernel
theorem dX7_load_28 : decode cX7_load 28 = .ok (.iload 4, 2) := by decide +kernel
theorem dX7_load_30 : decode cX7_load 30 = .ok (.iastore, 1) := by decide +kernel
theorem dX7_load_31 : decode cX7_load 31 = .ok (.iinc 4 1, 3) := by decide +kernel
theorem dX7_load_34 : decode cX7_load 34 = .ok (.goto (-19), 3) := by decide +kernel
theorem dX7_load_37 : decode cX7_load 37 = .ok (.iconst 0, 1) := by decide +kernel
theorem dX7_load_38 : decode cX7_load 38 = .ok (.istore 4, 2) := by decide +kernel
theorem dX7_load_40 : decode cX7_load 40 = .ok (.iload 4, 2) := by decide +kernel
theorem dX7_load_42 : decode cX7_load 42 = .ok (.iload_n 3, 1) := by decide +kernel
theorem dX7_load_43 : decode cX7_load 43 = .ok (.if_icmp .ge 175, 3) := by decide +kernel
theorem dX7_load_46 : decode cX7_load 46 = .ok (.iload_n 1, 1) := by decide +kernel
theorem dX7_load_47 : decode cX7_load 47 = .ok (.iload_n 2, 1) := by decide +kernel
theorem dX7_load_48 : decode cX7_load 48 = .ok (.iconst 2, 1) := by decide +kernel
theorem dX7_load_49 : decode cX7_load 49 = .ok (.iconst 3, 1) := by decide +kernel
theorem dX7_load_50 : decode cX7_load 50 = .ok (.iload 4, 2) := by decide +kernel
theorem dX7_load_52 : decode cX7_load 52 = .ok (.imul, 1) := by decide +kernel
theorem dX7_load_53 : decode cX7_load 53 = .ok (.iadd, 1) := by decide +kernel
theorem dX7_load_54 : decode cX7_load 54 = .ok (.invokestatic 150, 3) := by decide +kernel
theorem dX7_load_57 : decode cX7_load 57 = .ok (.istore 5, 2) := by decide +kernel
theorem dX7_load_59 : decode cX7_load 59 = .ok (.aload_n 0, 1) := by decide +kernel
theorem dX7_load_60 : decode cX7_load 60 = .ok (.getfield 7, 3) := by decide +kernel
theorem dX7_load_63 : decode cX7_load 63 = .ok (.iload 5, 2) := by decide +kernel
theorem dX7_load_65 : decode cX7_load 65 = .ok (.iaload, 1) := by decide +kernel
theorem dX7_load_66 : decode cX7_load 66 = .ok (.iconst 5, 1) := by decide +kernel
theorem dX7_load_67 : decode cX7_load 67 = .ok (.if_icmp .lt 96, 3) := by decide +kernel
theorem dX7_load_70 : decode cX7_load 70 = .ok (.aload_n 0, 1) := by decide +kernel
theorem dX7_load_71 : decode cX7_load 71 = .ok (.aload_n 0, 1) := by decide +kernel
theorem dX7_load_72 : decode cX7_load 72 = .ok (.getfield 7, 3) := by decide +kernel
theorem dX7_load_75 : decode cX7_load 75 = .ok (.iload 5, 2) := by decide +kernel
theorem dX7_load_77 : decode cX7_load 77 = .ok (.iconst 2, 1) := by decide +kernel
theorem dX7_load_78 : decode cX7_load 78 = .ok (.iadd, 1) := by decide +kernel
theorem dX7_load_79 : decode cX7_load 79 = .ok (.iaload, 1) := by decide +kernel
theorem dX7_load_80 : decode cX7_load 80 = .ok (.putfield 84, 3) := by decide +kernel
theorem dX7_load_83 : decode cX7_load 83 = .ok (.iconst 0, 1) := by decide +kernel
theorem dX7_load_84 : decode cX7_load 84 = .ok (.istore 6, 2) := by decide +kernel
theorem dX7_load_86 : decode cX7_load 86 = .ok (.iload 6, 2) := by decide +kernel
theorem dX7_load_88 : decode cX7_load 88 = .ok (.aload_n 0, 1) := by decide +kernel
theorem dX7_load_89 : decode cX7_load 89 = .ok (.getfield 84, 3) := by decide +kernel
theorem dX7_load_92 : decode cX7_load 92 = .ok (.if_icmp .ge 47, 3) := by decide +kernel
theorem dX7_load_95 : decode cX7_load 95 = .ok (.aload_n 0, 1) := by decide +kernel
theorem dX7_load_96 : decode cX7_load 96 = .ok (.getfield 46, 3) := by decide +kernel
theorem dX7_load_99 : decode cX7_load 99 = .ok (.iload 6, 2) := by decide +kernel
theorem dX7_load_101 : decode cX7_load 101 = .ok (.aload_n 0, 1) := by decide +kernel
theorem dX7_load_102 : decode cX7_load 102 = .ok (.getfield 35, 3) := by decide +kernel
theorem dX7_load_105 : decode cX7_load 105 = .ok (.aload_n 0, 1) := by decide +kernel
theorem dX7_load_106 : decode cX7_load 106 = .ok (.getfield 7, 3) := by decide +kernel
theorem dX7_load_109 : decode cX7_load 109 = .ok (.iload_n 1, 1) := by decide +kernel
theorem dX7_load_110 : decode cX7_load 110 = .ok (.iload_n 2, 1) := by decide +kernel
theorem dX7_load_111 : decode cX7_load 111 = .ok (.sipush 362, 3) := by decide +kernel
theorem dX7_load_114 : decode cX7_load 114 = .ok (.aload_n 0, 1) := by decide +kernel
theorem dX7_load_115 : decode cX7_load 115 = .ok (.getfield 7, 3) := by decide +kernel
theorem dX7_load_118 : decode cX7_load 118 = .ok (.iload 5, 2) := by decide +kernel
theorem dX7_load_120 : decode cX7_load 120 = .ok (.iconst 1, 1) := by decide +kernel
theorem dX7_load_121 : decode cX7_load 121 = .ok (.iadd, 1) := by decide +kernel
theorem dX7_load_122 : decode cX7_load 122 = .ok (.iaload, 1) := by decide +kernel
theorem dX7_load_123 : decode cX7_load 123 = .ok (.iadd, 1) := by decide +kernel
theorem dX7_load_124 : decode cX7_load 124 = .ok (.iload 6, 2) := by decide +kernel
theorem dX7_load_126 : decode cX7_load 126 = .ok (.iadd, 1) := by decide +kernel
theorem dX7_load_127 : decode cX7_load 127 = .ok (.invokestatic 150, 3) := by decide +kernel
theorem dX7_load_130 : decode cX7_load 130 = .ok (.iaload, 1) := by decide +kernel
theorem dX7_load_131 : decode cX7_load 131 = .ok (.iaload, 1) := by decide +kernel
theorem dX7_load_132 : decode cX7_load 132 = .ok (.iastore, 1) := by decide +kernel
theorem dX7_load_133 : decode cX7_load 133 = .ok (.iinc 6 1, 3) := by decide +kernel
theorem dX7_load_136 : decode cX7_load 136 = .ok (.goto (-50), 3) := by decide +kernel
theorem dX7_load_139 : decode cX7_load 139 = .ok (.aload_n 0, 1) := by decide +kernel
theorem dX7_load_140 : decode cX7_load 140 = .ok (.getfield 35, 3) := by decide +kernel
theorem dX7_load_143 : decode cX7_load 143 = .ok (.bipush 16, 2) := by decide +kernel
theorem dX7_load_145 : decode cX7_load 145 = .ok (.iload 4, 2) := by decide +kernel
theorem dX7_load_147 : decode cX7_load 147 = .ok (.iadd, 1) := by decide +kernel
theorem dX7_load_148 : decode cX7_load 148 = .ok (.aload_n 0, 1) := by decide +kernel
theorem dX7_load_149 : decode cX7_load 149 = .ok (.aload_n 0, 1) := by decide +kernel
theorem dX7_load_150 : decode cX7_load 150 = .ok (.getfield 7, 3) := by decide +kernel
theorem dX7_load_153 : decode cX7_load 153 = .ok (.iload 5, 2) := by decide +kernel
theorem dX7_load_155 : decode cX7_load 155 = .ok (.iaload, 1) := by decide +kernel
theorem dX7_load_156 : decode cX7_load 156 = .ok (.invokevirtual 118, 3) := by decide +kernel
theorem dX7_load_159 : decode cX7_load 159 = .ok (.iastore, 1) := by decide +kernel
theorem dX7_load_160 : decode cX7_load 160 = .ok (.goto 52, 3) := by decide +kernel
theorem dX7_load_163 : decode cX7_load 163 = .ok (.aload_n 0, 1) := by decide +kernel
theorem dX7_load_164 : decode cX7_load 164 = .ok (.getfield 35, 3) := by decide +kernel
theorem dX7_load_167 : decode cX7_load 167 = .ok (.bipush 16, 2) := by decide +kernel
theorem dX7_load_169 : decode cX7_load 169 = .ok (.iload 4, 2) := by decide +kernel
theorem dX7_load_171 : decode cX7_load 171 = .ok (.iadd, 1) := by decide +kernel
theorem dX7_load_172 : decode cX7_load 172 = .ok (.aload_n 0, 1) := by decide +kernel
theorem dX7_load_173 : decode cX7_load 173 = .ok (.aload_n 0, 1) := by decide +kernel
theorem dX7_load_174 : decode cX7_load 174 = .ok (.getfield 7, 3) := by decide +kernel
theorem dX7_load_177 : decode cX7_load 177 = .ok (.iload 5, 2) := by decide +kernel
theorem dX7_load_179 : decode cX7_load 179 = .ok (.iaload, 1) := by decide +kernel
theorem dX7_load_180 : decode cX7_load 180 = .ok (.aload_n 0, 1) := by decide +kernel
theorem dX7_load_181 : decode cX7_load 181 = .ok (.getfield 35, 3) := by decide +kernel
theorem dX7_load_184 : decode cX7_load 184 = .ok (.aload_n 0, 1) := by decide +kernel
theorem dX7_load_185 : decode cX7_load 185 = .ok (.getfield 7, 3) := by decide +kernel
theorem dX7_load_188 : decode cX7_load 188 = .ok (.iload 5, 2) := by decide +kernel
theorem dX7_load_190 : decode cX7_load 190 = .ok (.iconst 1, 1) := by decide +kernel
theorem dX7_load_191 : decode cX7_load 191 = .ok (.iadd, 1) := by decide +kernel
theorem dX7_load_192 : decode cX7_load 192 = .ok (.iaload, 1) := by decide +kernel
theorem dX7_load_193 : decode cX7_load 193 = .ok (.iaload, 1) := by decide +kernel
theorem dX7_load_194 : decode cX7_load 194 = .ok (.aload_n 0, 1) := by decide +kernel
theorem dX7_load_195 : decode cX7_load 195 = .ok (.getfield 35, 3) := by decide +kernel
theorem dX7_load_198 : decode cX7_load 198 = .ok (.aload_n 0, 1) := by decide +kernel
theorem dX7_load_199 : decode cX7_load 199 = .ok (.getfield 7, 3) := by decide +kernel
theorem dX7_load_202 : decode cX7_load 202 = .ok (.iload 5, 2) := by decide +kernel
theorem dX7_load_204 : decode cX7_load 204 = .ok (.iconst 2, 1) := by decide +kernel
theorem dX7_load_205 : decode cX7_load 205 = .ok (.iadd, 1) := by decide +kernel
theorem dX7_load_206 : decode cX7_load 206 = .ok (.iaload, 1) := by decide +kernel
theorem dX7_load_207 : decode cX7_load 207 = .ok (.iaload, 1) := by decide +kernel
theorem dX7_load_208 : decode cX7_load 208 = .ok (.invokevirtual 147, 3) := by decide +kernel
theorem dX7_load_211 : decode cX7_load 211 = .ok (.iastore, 1) := by decide +kernel
theorem dX7_load_212 : decode cX7_load 212 = .ok (.iinc 4 1, 3) := by decide +kernel
theorem dX7_load_215 : decode cX7_load 215 = .ok (.goto (-175), 3) := by decide +kernel
theorem dX7_load_218 : decode cX7_load 218 = .ok (.aload_n 0, 1) := by decide +kernel
theorem dX7_load_219 : decode cX7_load 219 = .ok (.getfield 35, 3) := by decide +kernel
theorem dX7_load_222 : decode cX7_load 222 = .ok (.aload_n 0, 1) := by decide +kernel
theorem dX7_load_223 : decode cX7_load 223 = .ok (.getfield 7, 3) := by decide +kernel
theorem dX7_load_226 : decode cX7_load 226 = .ok (.iload_n 1, 1) := by decide +kernel
theorem dX7_load_227 : decode cX7_load 227 = .ok (.iload_n 2, 1) := by decide +kernel
theorem dX7_load_228 : decode cX7_load 228 = .ok (.iconst 0, 1) := by decide +kernel
theorem dX7_load_229 : decode cX7_load 229 = .ok (.invokestatic 150, 3) := by decide +kernel
theorem dX7_load_232 : decode cX7_load 232 = .ok (.iaload, 1) := by decide +kernel
theorem dX7_load_233 : decode cX7_load 233 = .ok (.iaload, 1) := by decide +kernel
theorem dX7_load_234 : decode cX7_load 234 = .ok (.ireturn, 1) := by decide +kernel
theorem dX7_loadAlone_0 : decode cX7_loadAlone 0 = .ok (.aload_n 0, 1) := by decide +kernel
theorem dX7_loadAlone_1 : decode cX7_loadAlone 1 = .ok (.invokevirtual 62, 3) := by decide +kernel
theorem dX7_loadAlone_4 : decode cX7_loadAlone 4 = .ok (.aload_n 0, 1) := by decide +kernel
theorem dX7_loadAlone_5 : decode cX7_loadAlone 5 = .ok (.iload_n 1, 1) := by decide +kernel
theorem dX7_loadAlone_6 : decode cX7_loadAlone 6 = .ok (.iload_n 2, 1) := by decide +kernel
theorem dX7_loadAlone_7 : decode cX7_loadAlone 7 = .ok (.invokevirtual 153, 3) := by decide +kernel
theorem dX7_loadAlone_10 : decode cX7_loadAlone 10 = .ok (.ireturn, 1) := by decide +kernel
theorem dX7_formOf_0 : decode cX7_formOf 0 = .ok (.aload_n 0, 1) := by decide +kernel
theorem dX7_formOf_1 : decode cX7_formOf 1 = .ok (.getfield 7, 3) := by decide +kernel
theorem dX7_formOf_4 : decode cX7_formOf 4 = .ok (.iload_n 1, 1) := by decide +kernel
theorem dX7_formOf_5 : decode cX7_formOf 5 = .ok (.iload_n 2, 1) := by decide +kernel
theorem dX7_formOf_6 : decode cX7_formOf 6 = .ok (.iconst 0, 1) := by decide +kernel
theorem dX7_formOf_7 : decode cX7_formOf 7 = .ok (.invokestatic 150, 3) := by decide +kernel
theorem dX7_formOf_10 : decode cX7_formOf 10 = .ok (.iaload, 1) := by decide +kernel
theorem dX7_formOf_11 : decode cX7_formOf 11 = .ok (.ireturn, 1) := by decide +kernel
theorem dX7_partsThat_0 : decode cX7_partsThat 0 = .ok (.iconst 0, 1) := by decide +kernel
theorem dX7_partsThat_1 : decode cX7_partsThat 1 = .ok (.istore_n 3, 1) := by decide +kernel
theorem dX7_partsThat_2 : decode cX7_partsThat 2 = .ok (.iconst 0, 1) := by decide +kernel
theorem dX7_partsThat_3 : decode cX7_partsThat 3 = .ok (.istore 4, 2) := by decide +kernel
theorem dX7_partsThat_5 : decode cX7_partsThat 5 = .ok (.iload 4, 2) := by decide +kernel
theorem dX7_partsThat_7 : decode cX7_partsThat 7 = .ok (.aload_n 0, 1) := by decide +kernel
theorem dX7_partsThat_8 : decode cX7_partsThat 8 = .ok (.getfield 7, 3) := by decide +kernel
theorem dX7_partsThat_11 : decode cX7_partsThat 11 = .ok (.iload_n 1, 1) := by decide +kernel
theorem dX7_partsThat_12 : decode cX7_partsThat 12 = .ok (.invokestatic 74, 3) := by decide +kernel
theorem dX7_partsThat_15 : decode cX7_partsThat 15 = .ok (.iconst 5, 1) := by decide +kernel
theorem dX7_partsThat_16 : decode cX7_partsThat 16 = .ok (.iadd, 1) := by decide +kernel
theorem dX7_partsThat_17 : decode cX7_partsThat 17 = .ok (.iaload, 1) := by decide +kernel
theorem dX7_partsThat_18 : decode cX7_partsThat 18 = .ok (.if_icmp .ge 31, 3) := by decide +kernel
theorem dX7_partsThat_21 : decode cX7_partsThat 21 = .ok (.iload_n 3, 1) := by decide +kernel
theorem dX7_partsThat_22 : decode cX7_partsThat 22 = .ok (.aload_n 0, 1) := by decide +kernel
theorem dX7_partsThat_23 : decode cX7_partsThat 23 = .ok (.iload_n 1, 1) := by decide +kernel
theorem dX7_partsThat_24 : decode cX7_partsThat 24 = .ok (.iload 4, 2) := by decide +kernel
theorem dX7_partsThat_26 : decode cX7_partsThat 26 = .ok (.invokevirtual 156, 3) := by decide +kernel
theorem dX7_partsThat_29 : decode cX7_partsThat 29 = .ok (.iload_n 2, 1) := by decide +kernel
theorem dX7_partsThat_30 : decode cX7_partsThat 30 = .ok (.if_icmp .ne 10, 3) := by decide +kernel
theorem dX7_partsThat_33 : decode cX7_partsThat 33 = .ok (.iconst 1, 1) := by decide +kernel
theorem dX7_partsThat_34 : decode cX7_partsThat 34 = .ok (.iload 4, 2) := by decide +kernel
theorem dX7_partsThat_36 : decode cX7_partsThat 36 = .ok (.ishl, 1) := by decide +kernel
theorem dX7_partsThat_37 : decode cX7_partsThat 37 = .ok (.goto 4, 3) := by decide +kernel
theorem dX7_partsThat_40 : decode cX7_partsThat 40 = .ok (.iconst 0, 1) := by decide +kernel
theorem dX7_partsThat_41 : decode cX7_partsThat 41 = .ok (.ior, 1) := by decide +kernel
theorem dX7_partsThat_42 : decode cX7_partsThat 42 = .ok (.istore_n 3, 1) := by decide +kernel
theorem dX7_partsThat_43 : decode cX7_partsThat 43 = .ok (.iinc 4 1, 3) := by decide +kernel
theorem dX7_partsThat_46 : decode cX7_partsThat 46 = .ok (.goto (-41), 3) := by decide +kernel
theorem dX7_partsThat_49 : decode cX7_partsThat 49 = .ok (.iload_n 3, 1) := by decide +kernel
theorem dX7_partsThat_50 : decode cX7_partsThat 50 = .ok (.ireturn, 1) := by decide +kernel
theorem dX7_verdictBy_0 : decode cX7_verdictBy 0 = .ok (.iconst 1, 1) := by decide +kernel
theorem dX7_verdictBy_1 : decode cX7_verdictBy 1 = .ok (.aload_n 0, 1) := by decide +kernel
theorem dX7_verdictBy_2 : decode cX7_verdictBy 2 = .ok (.getfield 7, 3) := by decide +kernel
theorem dX7_verdictBy_5 : decode cX7_verdictBy 5 = .ok (.iload_n 1, 1) := by decide +kernel
theorem dX7_verdictBy_6 : decode cX7_verdictBy 6 = .ok (.invokestatic 74, 3) := by decide +kernel
theorem dX7_verdictBy_9 : decode cX7_verdictBy 9 = .ok (.iconst 5, 1) := by decide +kernel
theorem dX7_verdictBy_10 : decode cX7_verdictBy 10 = .ok (.iadd, 1) := by decide +kernel
theorem dX7_verdictBy_11 : decode cX7_verdictBy 11 = .ok (.iaload, 1) := by decide +kernel
theorem dX7_verdictBy_12 : decode cX7_verdictBy 12 = .ok (.ishl, 1) := by decide +kernel
theorem dX7_verdictBy_13 : decode cX7_verdictBy 13 = .ok (.iconst 1, 1) := by decide +kernel
theorem dX7_verdictBy_14 : decode cX7_verdictBy 14 = .ok (.isub, 1) := by decide +kernel
theorem dX7_verdictBy_15 : decode cX7_verdictBy 15 = .ok (.istore_n 2, 1) := by decide +kernel
theorem dX7_verdictBy_16 : decode cX7_verdictBy 16 = .ok (.aload_n 0, 1) := by decide +kernel
theorem dX7_verdictBy_17 : decode cX7_verdictBy 17 = .ok (.iload_n 1, 1) := by decide +kernel
theorem dX7_verdictBy_18 : decode cX7_verdictBy 18 = .ok (.iconst 0, 1) := by decide +kernel
theorem dX7_verdictBy_19 : decode cX7_verdictBy 19 = .ok (.invokevirtual 159, 3) := by decide +kernel
theorem dX7_verdictBy_22 : decode cX7_verdictBy 22 = .ok (.ifCond .eq 7, 3) := by decide +kernel
theorem dX7_verdictBy_25 : decode cX7_verdictBy 25 = .ok (.iconst 0, 1) := by decide +kernel
theorem dX7_verdictBy_26 : decode cX7_verdictBy 26 = .ok (.goto 18, 3) := by decide +kernel
theorem dX7_verdictBy_29 : decode cX7_verdictBy 29 = .ok (.aload_n 0, 1) := by decide +kernel
theorem dX7_verdictBy_30 : decode cX7_verdictBy 30 = .ok (.iload_n 1, 1) := by decide +kernel
theorem dX7_verdictBy_31 : decode cX7_verdictBy 31 = .ok (.iconst 1, 1) := by decide +kernel
theorem dX7_verdictBy_32 : decode cX7_verdictBy 32 = .ok (.invokevirtual 159, 3) := by decide +kernel
theorem dX7_verdictBy_35 : decode cX7_verdictBy 35 = .ok (.iload_n 2, 1) := by decide +kernel
theorem dX7_verdictBy_36 : decode cX7_verdictBy 36 = .ok (.if_icmp .ne 7, 3) := by decide +kernel
theorem dX7_verdictBy_39 : decode cX7_verdictBy 39 = .ok (.iconst 1, 1) := by decide +kernel
theorem dX7_verdictBy_40 : decode cX7_verdictBy 40 = .ok (.goto 4, 3) := by decide +kernel
theorem dX7_verdictBy_43 : decode cX7_verdictBy 43 = .ok (.iconst 2, 1) := by decide +kernel
theorem dX7_verdictBy_44 : decode cX7_verdictBy 44 = .ok (.ireturn, 1) := by decide +kernel
theorem dX7_wouldBe_0 : decode cX7_wouldBe 0 = .ok (.aload_n 0, 1) := by decide +kernel
theorem dX7_wouldBe_1 : decode cX7_wouldBe 1 = .ok (.iload_n 1, 1) := by decide +kernel
theorem dX7_wouldBe_2 : decode cX7_wouldBe 2 = .ok (.invokevirtual 162, 3) := by decide +kernel
theorem dX7_wouldBe_5 : decode cX7_wouldBe 5 = .ok (.iconst 2, 1) := by decide +kernel
theorem dX7_wouldBe_6 : decode cX7_wouldBe 6 = .ok (.if_icmp .ge 9, 3) := by decide +kernel
theorem dX7_wouldBe_9 : decode cX7_wouldBe 9 = .ok (.aload_n 0, 1) := by decide +kernel
theorem dX7_wouldBe_10 : decode cX7_wouldBe 10 = .ok (.iload_n 1, 1) := by decide +kernel
theorem dX7_wouldBe_11 : decode cX7_wouldBe 11 = .ok (.invokevirtual 162, 3) := by decide +kernel
theorem dX7_wouldBe_14 : decode cX7_wouldBe 14 = .ok (.ireturn, 1) := by decide +kernel
theorem dX7_wouldBe_15 : decode cX7_wouldBe 15 = .ok (.iconst 1, 1) := by decide +kernel
theorem dX7_wouldBe_16 : decode cX7_wouldBe 16 = .ok (.istore_n 3, 1) := by decide +kernel
theorem dX7_wouldBe_17 : decode cX7_wouldBe 17 = .ok (.iconst 1, 1) := by decide +kernel
theorem dX7_wouldBe_18 : decode cX7_wouldBe 18 = .ok (.istore 4, 2) := by decide +kernel
theorem dX7_wouldBe_20 : decode cX7_wouldBe 20 = .ok (.iconst 0, 1) := by decide +kernel
theorem dX7_wouldBe_21 : decode cX7_wouldBe 21 = .ok (.istore 5, 2) := by decide +kernel
theorem dX7_wouldBe_23 : decode cX7_wouldBe 23 = .ok (.iload 5, 2) := by decide +kernel
theorem dX7_wouldBe_25 : decode cX7_wouldBe 25 = .ok (.aload_n 0, 1) := by decide +kernel
theorem dX7_wouldBe_26 : decode cX7_wouldBe 26 = .ok (.getfield 7, 3) := by decide +kernel
theorem dX7_wouldBe_29 : decode cX7_wouldBe 29 = .ok (.iload_n 1, 1) := by decide +kernel
theorem dX7_wouldBe_30 : decode cX7_wouldBe 30 = .ok (.invokestatic 74, 3) := by decide +kernel
theorem dX7_wouldBe_33 : decode cX7_wouldBe 33 = .ok (.iconst 5, 1) := by decide +kernel
theorem dX7_wouldBe_34 : decode cX7_wouldBe 34 = .ok (.iadd, 1) := by decide +kernel
theorem dX7_wouldBe_35 : decode cX7_wouldBe 35 = .ok (.iaload, 1) := by decide +kernel
theorem dX7_wouldBe_36 : decode cX7_wouldBe 36 = .ok (.if_icmp .ge 56, 3) := by decide +kernel
theorem dX7_wouldBe_39 : decode cX7_wouldBe 39 = .ok (.aload_n 0, 1) := by decide +kernel
theorem dX7_wouldBe_40 : decode cX7_wouldBe 40 = .ok (.aload_n 0, 1) := by decide +kernel
theorem dX7_wouldBe_41 : decode cX7_wouldBe 41 = .ok (.iload_n 1, 1) := by decide +kernel
theorem dX7_wouldBe_42 : decode cX7_wouldBe 42 = .ok (.iload 5, 2) := by decide +kernel
theorem dX7_wouldBe_44 : decode cX7_wouldBe 44 = .ok (.invokevirtual 165, 3) := by decide +kernel
theorem dX7_wouldBe_47 : decode cX7_wouldBe 47 = .ok (.iload_n 2, 1) := by decide +kernel
theorem dX7_wouldBe_48 : decode cX7_wouldBe 48 = .ok (.invokevirtual 168, 3) := by decide +kernel
theorem dX7_wouldBe_51 : decode cX7_wouldBe 51 = .ok (.istore 6, 2) := by decide +kernel
theorem dX7_wouldBe_53 : decode cX7_wouldBe 53 = .ok (.iload_n 3, 1) := by decide +kernel
theorem dX7_wouldBe_54 : decode cX7_wouldBe 54 = .ok (.ifCond .eq 13, 3) := by decide +kernel
theorem dX7_wouldBe_57 : decode cX7_wouldBe 57 = .ok (.iload 6, 2) := by decide +kernel
theorem dX7_wouldBe_59 : decode cX7_wouldBe 59 = .ok (.iconst 1, 1) := by decide +kernel
theorem dX7_wouldBe_60 : decode cX7_wouldBe 60 = .ok (.if_icmp .ne 7, 3) := by decide +kernel
theorem dX7_wouldBe_63 : decode cX7_wouldBe 63 = .ok (.iconst 1, 1) := by decide +kernel
theorem dX7_wouldBe_64 : decode cX7_wouldBe 64 = .ok (.goto 4, 3) := by decide +kernel
theorem dX7_wouldBe_67 : decode cX7_wouldBe 67 = .ok (.iconst 0, 1) := by decide +kernel
theorem dX7_wouldBe_68 : decode cX7_wouldBe 68 = .ok (.istore_n 3, 1) := by decide +kernel
theorem dX7_wouldBe_69 : decode cX7_wouldBe 69 = .ok (.iload 4, 2) := by decide +kernel
theorem dX7_wouldBe_71 : decode cX7_wouldBe 71 = .ok (.ifCond .eq 12, 3) := by decide +kernel
theorem dX7_wouldBe_74 : decode cX7_wouldBe 74 = .ok (.iload 6, 2) := by decide +kernel
theorem dX7_wouldBe_76 : decode cX7_wouldBe 76 = .ok (.ifCond .eq 7, 3) := by decide +kernel
theorem dX7_wouldBe_79 : decode cX7_wouldBe 79 = .ok (.iconst 1, 1) := by decide +kernel
theorem dX7_wouldBe_80 : decode cX7_wouldBe 80 = .ok (.goto 4, 3) := by decide +kernel
theorem dX7_wouldBe_83 : decode cX7_wouldBe 83 = .ok (.iconst 0, 1) := by decide +kernel
theorem dX7_wouldBe_84 : decode cX7_wouldBe 84 = .ok (.istore 4, 2) := by decide +kernel
theorem dX7_wouldBe_86 : decode cX7_wouldBe 86 = .ok (.iinc 5 1, 3) := by decide +kernel
theorem dX7_wouldBe_89 : decode cX7_wouldBe 89 = .ok (.goto (-66), 3) := by decide +kernel
theorem dX7_wouldBe_92 : decode cX7_wouldBe 92 = .ok (.iload 4, 2) := by decide +kernel
theorem dX7_wouldBe_94 : decode cX7_wouldBe 94 = .ok (.ifCond .ne 7, 3) := by decide +kernel
theorem dX7_wouldBe_97 : decode cX7_wouldBe 97 = .ok (.iconst 0, 1) := by decide +kernel
theorem dX7_wouldBe_98 : decode cX7_wouldBe 98 = .ok (.goto 12, 3) := by decide +kernel
theorem dX7_wouldBe_101 : decode cX7_wouldBe 101 = .ok (.iload_n 3, 1) := by decide +kernel
theorem dX7_wouldBe_102 : decode cX7_wouldBe 102 = .ok (.ifCond .eq 7, 3) := by decide +kernel
theorem dX7_wouldBe_105 : decode cX7_wouldBe 105 = .ok (.iconst 1, 1) := by decide +kernel
theorem dX7_wouldBe_106 : decode cX7_wouldBe 106 = .ok (.goto 4, 3) := by decide +kernel
theorem dX7_wouldBe_109 : decode cX7_wouldBe 109 = .ok (.iconst 2, 1) := by decide +kernel
theorem dX7_wouldBe_110 : decode cX7_wouldBe 110 = .ok (.ireturn, 1) := by decide +kernel
theorem dX7_blame_0 : decode cX7_blame 0 = .ok (.iconst 0, 1) := by decide +kernel
theorem dX7_blame_1 : decode cX7_blame 1 = .ok (.istore_n 3, 1) := by decide +kernel
theorem dX7_blame_2 : decode cX7_blame 2 = .ok (.iconst 0, 1) := by decide +kernel
theorem dX7_blame_3 : decode cX7_blame 3 = .ok (.istore 4, 2) := by decide +kernel
theorem dX7_blame_5 : decode cX7_blame 5 = .ok (.iload 4, 2) := by decide +kernel
theorem dX7_blame_7 : decode cX7_blame 7 = .ok (.bipush 6, 2) := by decide +kernel
theorem dX7_blame_9 : decode cX7_blame 9 = .ok (.if_icmp .ge 34, 3) := by decide +kernel
theorem dX7_blame_12 : decode cX7_blame 12 = .ok (.iload_n 3, 1) := by decide +kernel
theorem dX7_blame_13 : decode cX7_blame 13 = .ok (.aload_n 0, 1) := by decide +kernel
theorem dX7_blame_14 : decode cX7_blame 14 = .ok (.iload_n 1, 1) := by decide +kernel
theorem dX7_blame_15 : decode cX7_blame 15 = .ok (.iload_n 2, 1) := by decide +kernel
theorem dX7_blame_16 : decode cX7_blame 16 = .ok (.iconst 1, 1) := by decide +kernel
theorem dX7_blame_17 : decode cX7_blame 17 = .ok (.iload 4, 2) := by decide +kernel
theorem dX7_blame_19 : decode cX7_blame 19 = .ok (.ishl, 1) := by decide +kernel
theorem dX7_blame_20 : decode cX7_blame 20 = .ok (.ixor, 1) := by decide +kernel
theorem dX7_blame_21 : decode cX7_blame 21 = .ok (.invokevirtual 171, 3) := by decide +kernel
theorem dX7_blame_24 : decode cX7_blame 24 = .ok (.ifCond .ne 7, 3) := by decide +kernel
theorem dX7_blame_27 : decode cX7_blame 27 = .ok (.iconst 0, 1) := by decide +kernel
theorem dX7_blame_28 : decode cX7_blame 28 = .ok (.goto 7, 3) := by decide +kernel
theorem dX7_blame_31 : decode cX7_blame 31 = .ok (.iconst 1, 1) := by decide +kernel
theorem dX7_blame_32 : decode cX7_blame 32 = .ok (.iload 4, 2) := by decide +kernel
theorem dX7_blame_34 : decode cX7_blame 34 = .ok (.ishl, 1) := by decide +kernel
theorem dX7_blame_35 : decode cX7_blame 35 = .ok (.ior, 1) := by decide +kernel
theorem dX7_blame_36 : decode cX7_blame 36 = .ok (.istore_n 3, 1) := by decide +kernel
theorem dX7_blame_37 : decode cX7_blame 37 = .ok (.iinc 4 1, 3) := by decide +kernel
theorem dX7_blame_40 : decode cX7_blame 40 = .ok (.goto (-35), 3) := by decide +kernel
theorem dX7_blame_43 : decode cX7_blame 43 = .ok (.iload_n 3, 1) := by decide +kernel
theorem dX7_blame_44 : decode cX7_blame 44 = .ok (.ireturn, 1) := by decide +kernel
theorem dX7_isTooGreat_0 : decode cX7_isTooGreat 0 = .ok (.iconst 0, 1) := by decide +kernel
theorem dX7_isTooGreat_1 : decode cX7_isTooGreat 1 = .ok (.istore_n 2, 1) := by decide +kernel
theorem dX7_isTooGreat_2 : decode cX7_isTooGreat 2 = .ok (.iconst 0, 1) := by decide +kernel
theorem dX7_isTooGreat_3 : decode cX7_isTooGreat 3 = .ok (.istore_n 3, 1) := by decide +kernel
theorem dX7_isTooGreat_4 : decode cX7_isTooGreat 4 = .ok (.iload_n 3, 1) := by decide +kernel
theorem dX7_isTooGreat_5 : decode cX7_isTooGreat 5 = .ok (.aload_n 0, 1) := by decide +kernel
theorem dX7_isTooGreat_6 : decode cX7_isTooGreat 6 = .ok (.getfield 7, 3) := by decide +kernel
theorem dX7_isTooGreat_9 : decode cX7_isTooGreat 9 = .ok (.iconst 2, 1) := by decide +kernel
theorem dX7_isTooGreat_10 : decode cX7_isTooGreat 10 = .ok (.iaload, 1) := by decide +kernel
theorem dX7_isTooGreat_11 : decode cX7_isTooGreat 11 = .ok (.if_icmp .ge 74, 3) := by decide +kernel
theorem dX7_isTooGreat_14 : decode cX7_isTooGreat 14 = .ok (.iconst 0, 1) := by decide +kernel
theorem dX7_isTooGreat_15 : decode cX7_isTooGreat 15 = .ok (.istore 4, 2) := by decide +kernel
theorem dX7_isTooGreat_17 : decode cX7_isTooGreat 17 = .ok (.iload 4, 2) := by decide +kernel
theorem dX7_isTooGreat_19 : decode cX7_isTooGreat 19 = .ok (.aload_n 0, 1) := by decide +kernel
theorem dX7_isTooGreat_20 : decode cX7_isTooGreat 20 = .ok (.getfield 7, 3) := by decide +kernel
theorem dX7_isTooGreat_23 : decode cX7_isTooGreat 23 = .ok (.iload_n 3, 1) := by decide +kernel
theorem dX7_isTooGreat_24 : decode cX7_isTooGreat 24 = .ok (.invokestatic 74, 3) := by decide +kernel
theorem dX7_isTooGreat_27 : decode cX7_isTooGreat 27 = .ok (.iconst 5, 1) := by decide +kernel
theorem dX7_isTooGreat_28 : decode cX7_isTooGreat 28 = .ok (.iadd, 1) := by decide +kernel
theorem dX7_isTooGreat_29 : decode cX7_isTooGreat 29 = .ok (.iaload, 1) := by decide +kernel
theorem dX7_isTooGreat_30 : decode cX7_isTooGreat 30 = .ok (.if_icmp .ge 49, 3) := by decide +kernel
theorem dX7_isTooGreat_33 : decode cX7_isTooGreat 33 = .ok (.aload_n 0, 1) := by decide +kernel
theorem dX7_isTooGreat_34 : decode cX7_isTooGreat 34 = .ok (.iload_n 3, 1) := by decide +kernel
theorem dX7_isTooGreat_35 : decode cX7_isTooGreat 35 = .ok (.invokevirtual 174, 3) := by decide +kernel
theorem dX7_isTooGreat_38 : decode cX7_isTooGreat 38 = .ok (.ifCond .eq 41, 3) := by decide +kernel
theorem dX7_isTooGreat_41 : decode cX7_isTooGreat 41 = .ok (.iload_n 2, 1) := by decide +kernel
theorem dX7_isTooGreat_42 : decode cX7_isTooGreat 42 = .ok (.ifCond .ne 37, 3) := by decide +kernel
theorem dX7_isTooGreat_45 : decode cX7_isTooGreat 45 = .ok (.aload_n 0, 1) := by decide +kernel
theorem dX7_isTooGreat_46 : decode cX7_isTooGreat 46 = .ok (.getfield 29, 3) := by decide +kernel
theorem dX7_isTooGreat_49 : decode cX7_isTooGreat 49 = .ok (.aload_n 0, 1) := by decide +kernel
theorem dX7_isTooGreat_50 : decode cX7_isTooGreat 50 = .ok (.aload_n 0, 1) := by decide +kernel
theorem dX7_isTooGreat_51 : decode cX7_isTooGreat 51 = .ok (.iload_n 3, 1) := by decide +kernel
theorem dX7_isTooGreat_52 : decode cX7_isTooGreat 52 = .ok (.iload 4, 2) := by decide +kernel
theorem dX7_isTooGreat_54 : decode cX7_isTooGreat 54 = .ok (.invokevirtual 165, 3) := by decide +kernel
theorem dX7_isTooGreat_57 : decode cX7_isTooGreat 57 = .ok (.iload_n 1, 1) := by decide +kernel
theorem dX7_isTooGreat_58 : decode cX7_isTooGreat 58 = .ok (.invokevirtual 168, 3) := by decide +kernel
theorem dX7_isTooGreat_61 : decode cX7_isTooGreat 61 = .ok (.iaload, 1) := by decide +kernel
theorem dX7_isTooGreat_62 : decode cX7_isTooGreat 62 = .ok (.bipush 120, 2) := by decide +kernel
theorem dX7_isTooGreat_64 : decode cX7_isTooGreat 64 = .ok (.if_icmp .le 7, 3) := by decide +kernel
theorem dX7_isTooGreat_67 : decode cX7_isTooGreat 67 = .ok (.iconst 1, 1) := by decide +kernel
theorem dX7_isTooGreat_68 : decode cX7_isTooGreat 68 = .ok (.goto 4, 3) := by decide +kernel
theorem dX7_isTooGreat_71 : decode cX7_isTooGreat 71 = .ok (.iconst 0, 1) := by decide +kernel
theorem dX7_isTooGreat_72 : decode cX7_isTooGreat 72 = .ok (.istore_n 2, 1) := by decide +kernel
theorem dX7_isTooGreat_73 : decode cX7_isTooGreat 73 = .ok (.iinc 4 1, 3) := by decide +kernel
theorem dX7_isTooGreat_76 : decode cX7_isTooGreat 76 = .ok (.goto (-59), 3) := by decide +kernel
theorem dX7_isTooGreat_79 : decode cX7_isTooGreat 79 = .ok (.iinc 3 1, 3) := by decide +kernel
theorem dX7_isTooGreat_82 : decode cX7_isTooGreat 82 = .ok (.goto (-78), 3) := by decide +kernel
theorem dX7_isTooGreat_85 : decode cX7_isTooGreat 85 = .ok (.iload_n 2, 1) := by decide +kernel
theorem dX7_isTooGreat_86 : decode cX7_isTooGreat 86 = .ok (.ireturn, 1) := by decide +kernel
theorem dX7_happens_0 : decode cX7_happens 0 = .ok (.aload_n 0, 1) := by decide +kernel
theorem dX7_happens_1 : decode cX7_happens 1 = .ok (.iload_n 1, 1) := by decide +kernel
theorem dX7_happens_2 : decode cX7_happens 2 = .ok (.invokevirtual 162, 3) := by decide +kernel
theorem dX7_happens_5 : decode cX7_happens 5 = .ok (.iconst 2, 1) := by decide +kernel
theorem dX7_happens_6 : decode cX7_happens 6 = .ok (.if_icmp .ne 7, 3) := by decide +kernel
theorem dX7_happens_9 : decode cX7_happens 9 = .ok (.iconst 1, 1) := by decide +kernel
theorem dX7_happens_10 : decode cX7_happens 10 = .ok (.goto 4, 3) := by decide +kernel
theorem dX7_happens_13 : decode cX7_happens 13 = .ok (.iconst 0, 1) := by decide +kernel
theorem dX7_happens_14 : decode cX7_happens 14 = .ok (.istore_n 3, 1) := by decide +kernel
theorem dX7_happens_15 : decode cX7_happens 15 = .ok (.iload_n 3, 1) := by decide +kernel
theorem dX7_happens_16 : decode cX7_happens 16 = .ok (.ifCond .eq 12, 3) := by decide +kernel
theorem dX7_happens_19 : decode cX7_happens 19 = .ok (.aload_n 0, 1) := by decide +kernel
theorem dX7_happens_20 : decode cX7_happens 20 = .ok (.iload_n 1, 1) := by decide +kernel
theorem dX7_happens_21 : decode cX7_happens 21 = .ok (.iload_n 2, 1) := by decide +kernel
theorem dX7_happens_22 : decode cX7_happens 22 = .ok (.invokevirtual 178, 3) := by decide +kernel
theorem dX7_happens_25 : decode cX7_happens 25 = .ok (.goto 4, 3) := by decide +kernel
theorem dX7_happens_28 : decode cX7_happens 28 = .ok (.iconst 0, 1) := by decide +kernel
theorem dX7_happens_29 : decode cX7_happens 29 = .ok (.istore 4, 2) := by decide +kernel
theorem dX7_happens_31 : decode cX7_happens 31 = .ok (.iconst 0, 1) := by decide +kernel
theorem dX7_happens_32 : decode cX7_happens 32 = .ok (.istore 5, 2) := by decide +kernel
theorem dX7_happens_34 : decode cX7_happens 34 = .ok (.iload 5, 2) := by decide +kernel
theorem dX7_happens_36 : decode cX7_happens 36 = .ok (.aload_n 0, 1) := by decide +kernel
theorem dX7_happens_37 : decode cX7_happens 37 = .ok (.getfield 7, 3) := by decide +kernel
theorem dX7_happens_40 : decode cX7_happens 40 = .ok (.iload_n 1, 1) := by decide +kernel
theorem dX7_happens_41 : decode cX7_happens 41 = .ok (.invokestatic 74, 3) := by decide +kernel
theorem dX7_happens_44 : decode cX7_happens 44 = .ok (.iconst 5, 1) := by decide +kernel
theorem dX7_happens_45 : decode cX7_happens 45 = .ok (.iadd, 1) := by decide +kernel
theorem dX7_happens_46 : decode cX7_happens 46 = .ok (.iaload, 1) := by decide +kernel
theorem dX7_happens_47 : decode cX7_happens 47 = .ok (.if_icmp .ge 28, 3) := by decide +kernel
theorem dX7_happens_50 : decode cX7_happens 50 = .ok (.aload_n 0, 1) := by decide +kernel
theorem dX7_happens_51 : decode cX7_happens 51 = .ok (.iload_n 1, 1) := by decide +kernel
theorem dX7_happens_52 : decode cX7_happens 52 = .ok (.iload 5, 2) := by decide +kernel
theorem dX7_happens_54 : decode cX7_happens 54 = .ok (.aload_n 0, 1) := by decide +kernel
theorem dX7_happens_55 : decode cX7_happens 55 = .ok (.aload_n 0, 1) := by decide +kernel
theorem dX7_happens_56 : decode cX7_happens 56 = .ok (.iload_n 1, 1) := by decide +kernel
theorem dX7_happens_57 : decode cX7_happens 57 = .ok (.iload 5, 2) := by decide +kernel
theorem dX7_happens_59 : decode cX7_happens 59 = .ok (.invokevirtual 165, 3) := by decide +kernel
theorem dX7_happens_62 : decode cX7_happens 62 = .ok (.iload_n 2, 1) := by decide +kernel
theorem dX7_happens_63 : decode cX7_happens 63 = .ok (.invokevirtual 168, 3) := by decide +kernel
theorem dX7_happens_66 : decode cX7_happens 66 = .ok (.invokevirtual 181, 3) := by decide +kernel
theorem dX7_happens_69 : decode cX7_happens 69 = .ok (.iinc 5 1, 3) := by decide +kernel
theorem dX7_happens_72 : decode cX7_happens 72 = .ok (.goto (-38), 3) := by decide +kernel
theorem dX7_happens_75 : decode cX7_happens 75 = .ok (.iload_n 3, 1) := by decide +kernel
theorem dX7_happens_76 : decode cX7_happens 76 = .ok (.ifCond .eq 12, 3) := by decide +kernel
theorem dX7_happens_79 : decode cX7_happens 79 = .ok (.aload_n 0, 1) := by decide +kernel
theorem dX7_happens_80 : decode cX7_happens 80 = .ok (.iload_n 1, 1) := by decide +kernel
theorem dX7_happens_81 : decode cX7_happens 81 = .ok (.invokevirtual 185, 3) := by decide +kernel
theorem dX7_happens_84 : decode cX7_happens 84 = .ok (.iconst 2, 1) := by decide +kernel
theorem dX7_happens_85 : decode cX7_happens 85 = .ok (.if_icmp .ne 5, 3) := by decide +kernel
theorem dX7_happens_88 : decode cX7_happens 88 = .ok (.iconst 0, 1) := by decide +kernel
theorem dX7_happens_89 : decode cX7_happens 89 = .ok (.ireturn, 1) := by decide +kernel
theorem dX7_happens_90 : decode cX7_happens 90 = .ok (.aload_n 0, 1) := by decide +kernel
theorem dX7_happens_91 : decode cX7_happens 91 = .ok (.getfield 7, 3) := by decide +kernel
theorem dX7_happens_94 : decode cX7_happens 94 = .ok (.iload_n 1, 1) := by decide +kernel
theorem dX7_happens_95 : decode cX7_happens 95 = .ok (.invokestatic 74, 3) := by decide +kernel
theorem dX7_happens_98 : decode cX7_happens 98 = .ok (.iconst 1, 1) := by decide +kernel
theorem dX7_happens_99 : decode cX7_happens 99 = .ok (.iadd, 1) := by decide +kernel
theorem dX7_happens_100 : decode cX7_happens 100 = .ok (.aload_n 0, 1) := by decide +kernel
theorem dX7_happens_101 : decode cX7_happens 101 = .ok (.iload_n 1, 1) := by decide +kernel
theorem dX7_happens_102 : decode cX7_happens 102 = .ok (.invokevirtual 185, 3) := by decide +kernel
theorem dX7_happens_105 : decode cX7_happens 105 = .ok (.iastore, 1) := by decide +kernel
theorem dX7_happens_106 : decode cX7_happens 106 = .ok (.aload_n 0, 1) := by decide +kernel
theorem dX7_happens_107 : decode cX7_happens 107 = .ok (.getfield 7, 3) := by decide +kernel
theorem dX7_happens_110 : decode cX7_happens 110 = .ok (.iload_n 1, 1) := by decide +kernel
theorem dX7_happens_111 : decode cX7_happens 111 = .ok (.invokestatic 74, 3) := by decide +kernel
theorem dX7_happens_114 : decode cX7_happens 114 = .ok (.iconst 2, 1) := by decide +kernel
theorem dX7_happens_115 : decode cX7_happens 115 = .ok (.iadd, 1) := by decide +kernel
theorem dX7_happens_116 : decode cX7_happens 116 = .ok (.aload_n 0, 1) := by decide +kernel
theorem dX7_happens_117 : decode cX7_happens 117 = .ok (.getfield 7, 3) := by decide +kernel
theorem dX7_happens_120 : decode cX7_happens 120 = .ok (.iconst 0, 1) := by decide +kernel
theorem dX7_happens_121 : decode cX7_happens 121 = .ok (.iaload, 1) := by decide +kernel
theorem dX7_happens_122 : decode cX7_happens 122 = .ok (.iastore, 1) := by decide +kernel
theorem dX7_happens_123 : decode cX7_happens 123 = .ok (.aload_n 0, 1) := by decide +kernel
theorem dX7_happens_124 : decode cX7_happens 124 = .ok (.getfield 7, 3) := by decide +kernel
theorem dX7_happens_127 : decode cX7_happens 127 = .ok (.iload_n 1, 1) := by decide +kernel
theorem dX7_happens_128 : decode cX7_happens 128 = .ok (.invokestatic 74, 3) := by decide +kernel
theorem dX7_happens_131 : decode cX7_happens 131 = .ok (.iconst 3, 1) := by decide +kernel
theorem dX7_happens_132 : decode cX7_happens 132 = .ok (.iadd, 1) := by decide +kernel
theorem dX7_happens_133 : decode cX7_happens 133 = .ok (.aload_n 0, 1) := by decide +kernel
theorem dX7_happens_134 : decode cX7_happens 134 = .ok (.iload_n 1, 1) := by decide +kernel
theorem dX7_happens_135 : decode cX7_happens 135 = .ok (.invokevirtual 162, 3) := by decide +kernel
theorem dX7_happens_138 : decode cX7_happens 138 = .ok (.ifCond .ne 8, 3) := by decide +kernel
theorem dX7_happens_141 : decode cX7_happens 141 = .ok (.iload 4, 2) := by decide +kernel
theorem dX7_happens_143 : decode cX7_happens 143 = .ok (.goto 4, 3) := by decide +kernel
theorem dX7_happens_146 : decode cX7_happens 146 = .ok (.iconst 0, 1) := by decide +kernel
theorem dX7_happens_147 : decode cX7_happens 147 = .ok (.iastore, 1) := by decide +kernel
theorem dX7_happens_148 : decode cX7_happens 148 = .ok (.iconst 1, 1) := by decide +kernel
theorem dX7_happens_149 : decode cX7_happens 149 = .ok (.ireturn, 1) := by decide +kernel
theorem dX7_event_0 : decode cX7_event 0 = .ok (.iload_n 1, 1) := by decide +kernel
theorem dX7_event_1 : decode cX7_event 1 = .ok (.iconst 0, 1) := by decide +kernel
theorem dX7_event_2 : decode cX7_event 2 = .ok (.bipush 63, 2) := by decide +kernel
theorem dX7_event_4 : decode cX7_event 4 = .ok (.invokestatic 70, 3) := by decide +kernel
theorem dX7_event_7 : decode cX7_event 7 = .ok (.ifCond .ne 6, 3) := by decide +kernel
theorem dX7_event_10 : decode cX7_event 10 = .ok (.bipush (-2), 2) := by decide +kernel
theorem dX7_event_12 : decode cX7_event 12 = .ok (.ireturn, 1) := by decide +kernel
theorem dX7_event_13 : decode cX7_event 13 = .ok (.aload_n 0, 1) := by decide +kernel
theorem dX7_event_14 : decode cX7_event 14 = .ok (.getfield 7, 3) := by decide +kernel
theorem dX7_event_17 : decode cX7_event 17 = .ok (.iconst 1, 1) := by decide +kernel
theorem dX7_event_18 : decode cX7_event 18 = .ok (.iaload, 1) := by decide +kernel
theorem dX7_event_19 : decode cX7_event 19 = .ok (.iconst 1, 1) := by decide +kernel
theorem dX7_event_20 : decode cX7_event 20 = .ok (.if_icmp .ne 6, 3) := by decide +kernel
theorem dX7_event_23 : decode cX7_event 23 = .ok (.bipush (-4), 2) := by decide +kernel
theorem dX7_event_25 : decode cX7_event 25 = .ok (.ireturn, 1) := by decide +kernel
theorem dX7_event_26 : decode cX7_event 26 = .ok (.aload_n 0, 1) := by decide +kernel
theorem dX7_event_27 : decode cX7_event 27 = .ok (.getfield 7, 3) := by decide +kernel
theorem dX7_event_30 : decode cX7_event 30 = .ok (.iconst 0, 1) := by decide +kernel
theorem dX7_event_31 : decode cX7_event 31 = .ok (.iaload, 1) := by decide +kernel
theorem dX7_event_32 : decode cX7_event 32 = .ok (.bipush 40, 2) := by decide +kernel
theorem dX7_event_34 : decode cX7_event 34 = .ok (.if_icmp .eq 11, 3) := by decide +kernel
theorem dX7_event_37 : decode cX7_event 37 = .ok (.aload_n 0, 1) := by decide +kernel
theorem dX7_event_38 : decode cX7_event 38 = .ok (.iload_n 1, 1) := by decide +kernel
theorem dX7_event_39 : decode cX7_event 39 = .ok (.invokevirtual 188, 3) := by decide +kernel
theorem dX7_event_42 : decode cX7_event 42 = .ok (.ifCond .eq 6, 3) := by decide +kernel
theorem dX7_event_45 : decode cX7_event 45 = .ok (.bipush (-3), 2) := by decide +kernel
theorem dX7_event_47 : decode cX7_event 47 = .ok (.ireturn, 1) := by decide +kernel
theorem dX7_event_48 : decode cX7_event 48 = .ok (.aload_n 0, 1) := by decide +kernel
theorem dX7_event_49 : decode cX7_event 49 = .ok (.invokevirtual 191, 3) := by decide +kernel
theorem dX7_event_52 : decode cX7_event 52 = .ok (.iconst 0, 1) := by decide +kernel
theorem dX7_event_53 : decode cX7_event 53 = .ok (.istore_n 2, 1) := by decide +kernel
theorem dX7_event_54 : decode cX7_event 54 = .ok (.iconst 0, 1) := by decide +kernel
theorem dX7_event_55 : decode cX7_event 55 = .ok (.istore_n 3, 1) := by decide +kernel
theorem dX7_event_56 : decode cX7_event 56 = .ok (.iload_n 3, 1) := by decide +kernel
theorem dX7_event_57 : decode cX7_event 57 = .ok (.aload_n 0, 1) := by decide +kernel
theorem dX7_event_58 : decode cX7_event 58 = .ok (.getfield 7, 3) := by decide +kernel
theorem dX7_event_61 : decode cX7_event 61 = .ok (.iconst 2, 1) := by decide +kernel
theorem dX7_event_62 : decode cX7_event 62 = .ok (.iaload, 1) := by decide +kernel
theorem dX7_event_63 : decode cX7_event 63 = .ok (.if_icmp .ge 30, 3) := by decide +kernel
theorem dX7_event_66 : decode cX7_event 66 = .ok (.iload_n 2, 1) := by decide +kernel
theorem dX7_event_67 : decode cX7_event 67 = .ok (.aload_n 0, 1) := by decide +kernel
theorem dX7_event_68 : decode cX7_event 68 = .ok (.iload_n 3, 1) := by decide +kernel
theorem dX7_event_69 : decode cX7_event 69 = .ok (.invokevirtual 174, 3) := by decide +kernel
theorem dX7_event_72 : decode cX7_event 72 = .ok (.ifCond .eq 12, 3) := by decide +kernel
theorem dX7_event_75 : decode cX7_event 75 = .ok (.aload_n 0, 1) := by decide +kernel
theorem dX7_event_76 : decode cX7_event 76 = .ok (.iload_n 3, 1) := by decide +kernel
theorem dX7_event_77 : decode cX7_event 77 = .ok (.iload_n 1, 1) := by decide +kernel
theorem dX7_event_78 : decode cX7_event 78 = .ok (.invokevirtual 194, 3) := by decide +kernel
theorem dX7_event_81 : decode cX7_event 81 = .ok (.goto 4, 3) := by decide +kernel
theorem dX7_event_84 : decode cX7_event 84 = .ok (.iconst 0, 1) := by decide +kernel
theorem dX7_event_85 : decode cX7_event 85 = .ok (.iadd, 1) := by decide +kernel
theorem dX7_event_86 : decode cX7_event 86 = .ok (.istore_n 2, 1) := by decide +kernel
theorem dX7_event_87 : decode cX7_event 87 = .ok (.iinc 3 1, 3) := by decide +kernel
theorem dX7_event_90 : decode cX7_event 90 = .ok (.goto (-34), 3) := by decide +kernel
theorem dX7_event_93 : decode cX7_event 93 = .ok (.aload_n 0, 1) := by decide +kernel
theorem dX7_event_94 : decode cX7_event 94 = .ok (.getfield 7, 3) := by decide +kernel
theorem dX7_event_97 : decode cX7_event 97 = .ok (.iconst 4, 1) := by decide +kernel
theorem dX7_event_98 : decode cX7_event 98 = .ok (.aload_n 0, 1) := by decide +kernel
theorem dX7_event_99 : decode cX7_event 99 = .ok (.getfield 7, 3) := by decide +kernel
theorem dX7_event_102 : decode cX7_event 102 = .ok (.iconst 0, 1) := by decide +kernel
theorem dX7_event_103 : decode cX7_event 103 = .ok (.iaload, 1) := by decide +kernel
theorem dX7_event_104 : decode cX7_event 104 = .ok (.iadd, 1) := by decide +kernel
theorem dX7_event_105 : decode cX7_event 105 = .ok (.iload_n 1, 1) := by decide +kernel
theorem dX7_event_106 : decode cX7_event 106 = .ok (.iastore, 1) := by decide +kernel
theorem dX7_event_107 : decode cX7_event 107 = .ok (.aload_n 0, 1) := by decide +kernel
theorem dX7_event_108 : decode cX7_event 108 = .ok (.getfield 7, 3) := by decide +kernel
theorem dX7_event_111 : decode cX7_event 111 = .ok (.iconst 0, 1) := by decide +kernel
theorem dX7_event_112 : decode cX7_event 112 = .ok (.dup2, 1) := by decide +kernel
theorem dX7_event_113 : decode cX7_event 113 = .ok (.iaload, 1) := by decide +kernel
theorem dX7_event_114 : decode cX7_event 114 = .ok (.iconst 1, 1) := by decide +kernel
theorem dX7_event_115 : decode cX7_event 115 = .ok (.iadd, 1) := by decide +kernel
theorem dX7_event_116 : decode cX7_event 116 = .ok (.iastore, 1) := by decide +kernel
theorem dX7_event_117 : decode cX7_event 117 = .ok (.iload_n 2, 1) := by decide +kernel
theorem dX7_event_118 : decode cX7_event 118 = .ok (.ireturn, 1) := by decide +kernel
theorem dX7_end_0 : decode cX7_end 0 = .ok (.aload_n 0, 1) := by decide +kernel
theorem dX7_end_1 : decode cX7_end 1 = .ok (.getfield 7, 3) := by decide +kernel
theorem dX7_end_4 : decode cX7_end 4 = .ok (.iconst 1, 1) := by decide +kernel
theorem dX7_end_5 : decode cX7_end 5 = .ok (.iaload, 1) := by decide +kernel
theorem dX7_end_6 : decode cX7_end 6 = .ok (.iconst 1, 1) := by decide +kernel
theorem dX7_end_7 : decode cX7_end 7 = .ok (.if_icmp .ne 6, 3) := by decide +kernel
theorem dX7_end_10 : decode cX7_end 10 = .ok (.bipush (-4), 2) := by decide +kernel
theorem dX7_end_12 : decode cX7_end 12 = .ok (.ireturn, 1) := by decide +kernel
theorem dX7_end_13 : decode cX7_end 13 = .ok (.aload_n 0, 1) := by decide +kernel
theorem dX7_end_14 : decode cX7_end 14 = .ok (.invokevirtual 191, 3) := by decide +kernel
theorem dX7_end_17 : decode cX7_end 17 = .ok (.iconst 0, 1) := by decide +kernel
theorem dX7_end_18 : decode cX7_end 18 = .ok (.istore_n 1, 1) := by decide +kernel
theorem dX7_end_19 : decode cX7_end 19 = .ok (.iconst 0, 1) := by decide +kernel
theorem dX7_end_20 : decode cX7_end 20 = .ok (.istore_n 2, 1) := by decide +kernel
theorem dX7_end_21 : decode cX7_end 21 = .ok (.iload_n 2, 1) := by decide +kernel
theorem dX7_end_22 : decode cX7_end 22 = .ok (.aload_n 0, 1) := by decide +kernel
theorem dX7_end_23 : decode cX7_end 23 = .ok (.getfield 7, 3) := by decide +kernel
theorem dX7_end_26 : decode cX7_end 26 = .ok (.iconst 2, 1) := by decide +kernel
theorem dX7_end_27 : decode cX7_end 27 = .ok (.iaload, 1) := by decide +kernel
theorem dX7_end_28 : decode cX7_end 28 = .ok (.if_icmp .ge 97, 3) := by decide +kernel
theorem dX7_end_31 : decode cX7_end 31 = .ok (.aload_n 0, 1) := by decide +kernel
theorem dX7_end_32 : decode cX7_end 32 = .ok (.iload_n 2, 1) := by decide +kernel
theorem dX7_end_33 : decode cX7_end 33 = .ok (.invokevirtual 174, 3) := by decide +kernel
theorem dX7_end_36 : decode cX7_end 36 = .ok (.ifCond .eq 83, 3) := by decide +kernel
theorem dX7_end_39 : decode cX7_end 39 = .ok (.aload_n 0, 1) := by decide +kernel
theorem dX7_end_40 : decode cX7_end 40 = .ok (.iload_n 2, 1) := by decide +kernel
theorem dX7_end_41 : decode cX7_end 41 = .ok (.invokevirtual 162, 3) := by decide +kernel
theorem dX7_end_44 : decode cX7_end 44 = .ok (.iconst 2, 1) := by decide +kernel
theorem dX7_end_45 : decode cX7_end 45 = .ok (.if_icmp .ne 74, 3) := by decide +kernel
theorem dX7_end_48 : decode cX7_end 48 = .ok (.iconst 0, 1) := by decide +kernel
theorem dX7_end_49 : decode cX7_end 49 = .ok (.istore_n 3, 1) := by decide +kernel
theorem dX7_end_50 : decode cX7_end 50 = .ok (.iload_n 3, 1) := by decide +kernel
theorem dX7_end_51 : decode cX7_end 51 = .ok (.aload_n 0, 1) := by decide +kernel
theorem dX7_end_52 : decode cX7_end 52 = .ok (.getfield 7, 3) := by decide +kernel
theorem dX7_end_55 : decode cX7_end 55 = .ok (.iload_n 2, 1) := by decide +kernel
theorem dX7_end_56 : decode cX7_end 56 = .ok (.invokestatic 74, 3) := by decide +kernel
theorem dX7_end_59 : decode cX7_end 59 = .ok (.iconst 5, 1) := by decide +kernel
theorem dX7_end_60 : decode cX7_end 60 = .ok (.iadd, 1) := by decide +kernel
theorem dX7_end_61 : decode cX7_end 61 = .ok (.iaload, 1) := by decide +kernel
theorem dX7_end_62 : decode cX7_end 62 = .ok (.if_icmp .ge 33, 3) := by decide +kernel
theorem dX7_end_65 : decode cX7_end 65 = .ok (.aload_n 0, 1) := by decide +kernel
theorem dX7_end_66 : decode cX7_end 66 = .ok (.iload_n 2, 1) := by decide +kernel
theorem dX7_end_67 : decode cX7_end 67 = .ok (.iload_n 3, 1) := by decide +kernel
theorem dX7_end_68 : decode cX7_end 68 = .ok (.aload_n 0, 1) := by decide +kernel
theorem dX7_end_69 : decode cX7_end 69 = .ok (.aload_n 0, 1) := by decide +kernel
theorem dX7_end_70 : decode cX7_end 70 = .ok (.iload_n 2, 1) := by decide +kernel
theorem dX7_end_71 : decode cX7_end 71 = .ok (.iload_n 3, 1) := by decide +kernel
theorem dX7_end_72 : decode cX7_end 72 = .ok (.invokevirtual 165, 3) := by decide +kernel
theorem dX7_end_75 : decode cX7_end 75 = .ok (.invokevirtual 197, 3) := by decide +kernel
theorem dX7_end_78 : decode cX7_end 78 = .ok (.ifCond .eq 7, 3) := by decide +kernel
theorem dX7_end_81 : decode cX7_end 81 = .ok (.iconst 1, 1) := by decide +kernel
theorem dX7_end_82 : decode cX7_end 82 = .ok (.goto 4, 3) := by decide +kernel
theorem dX7_end_85 : decode cX7_end 85 = .ok (.iconst 0, 1) := by decide +kernel
theorem dX7_end_86 : decode cX7_end 86 = .ok (.invokevirtual 181, 3) := by decide +kernel
theorem dX7_end_89 : decode cX7_end 89 = .ok (.iinc 3 1, 3) := by decide +kernel
theorem dX7_end_92 : decode cX7_end 92 = .ok (.goto (-42), 3) := by decide +kernel
theorem dX7_end_95 : decode cX7_end 95 = .ok (.aload_n 0, 1) := by decide +kernel
theorem dX7_end_96 : decode cX7_end 96 = .ok (.getfield 7, 3) := by decide +kernel
theorem dX7_end_99 : decode cX7_end 99 = .ok (.iload_n 2, 1) := by decide +kernel
theorem dX7_end_100 : decode cX7_end 100 = .ok (.invokestatic 74, 3) := by decide +kernel
theorem dX7_end_103 : decode cX7_end 103 = .ok (.iconst 1, 1) := by decide +kernel
theorem dX7_end_104 : decode cX7_end 104 = .ok (.iadd, 1) := by decide +kernel
theorem dX7_end_105 : decode cX7_end 105 = .ok (.aload_n 0, 1) := by decide +kernel
theorem dX7_end_106 : decode cX7_end 106 = .ok (.iload_n 2, 1) := by decide +kernel
theorem dX7_end_107 : decode cX7_end 107 = .ok (.invokevirtual 185, 3) := by decide +kernel
theorem dX7_end_110 : decode cX7_end 110 = .ok (.iastore, 1) := by decide +kernel
theorem dX7_end_111 : decode cX7_end 111 = .ok (.iload_n 1, 1) := by decide +kernel
theorem dX7_end_112 : decode cX7_end 112 = .ok (.aload_n 0, 1) := by decide +kernel
theorem dX7_end_113 : decode cX7_end 113 = .ok (.iload_n 2, 1) := by decide +kernel
theorem dX7_end_114 : decode cX7_end 114 = .ok (.invokevirtual 162, 3) := by decide +kernel
theorem dX7_end_117 : decode cX7_end 117 = .ok (.iadd, 1) := by decide +kernel
theorem dX7_end_118 : decode cX7_end 118 = .ok (.istore_n 1, 1) := by decide +kernel
theorem dX7_end_119 : decode cX7_end 119 = .ok (.iinc 2 1, 3) := by decide +kernel
theorem dX7_end_122 : decode cX7_end 122 = .ok (.goto (-101), 3) := by decide +kernel
theorem dX7_end_125 : decode cX7_end 125 = .ok (.aload_n 0, 1) := by decide +kernel
theorem dX7_end_126 : decode cX7_end 126 = .ok (.getfield 7, 3) := by decide +kernel
theorem dX7_end_129 : decode cX7_end 129 = .ok (.iconst 1, 1) := by decide +kernel
theorem dX7_end_130 : decode cX7_end 130 = .ok (.iconst 1, 1) := by decide +kernel
theorem dX7_end_131 : decode cX7_end 131 = .ok (.iastore, 1) := by decide +kernel
theorem dX7_end_132 : decode cX7_end 132 = .ok (.iload_n 1, 1) := by decide +kernel
theorem dX7_end_133 : decode cX7_end 133 = .ok (.ireturn, 1) := by decide +kernel
theorem dX7_isThing_0 : decode cX7_isThing 0 = .ok (.iload_n 0, 1) := by decide +kernel
theorem dX7_isThing_1 : decode cX7_isThing 1 = .ok (.bipush 97, 2) := by decide +kernel
theorem dX7_isThing_3 : decode cX7_isThing 3 = .ok (.if_icmp .lt 9, 3) := by decide +kernel
theorem dX7_isThing_6 : decode cX7_isThing 6 = .ok (.iload_n 0, 1) := by decide +kernel
theorem dX7_isThing_7 : decode cX7_isThing 7 = .ok (.bipush 102, 2) := by decide +kernel
theorem dX7_isThing_9 : decode cX7_isThing 9 = .ok (.if_icmp .le 15, 3) := by decide +kernel
theorem dX7_isThing_12 : decode cX7_isThing 12 = .ok (.iload_n 0, 1) := by decide +kernel
theorem dX7_isThing_13 : decode cX7_isThing 13 = .ok (.bipush 49, 2) := by decide +kernel
theorem dX7_isThing_15 : decode cX7_isThing 15 = .ok (.if_icmp .eq 9, 3) := by decide +kernel
theorem dX7_isThing_18 : decode cX7_isThing 18 = .ok (.iload_n 0, 1) := by decide +kernel
theorem dX7_isThing_19 : decode cX7_isThing 19 = .ok (.bipush 48, 2) := by decide +kernel
theorem dX7_isThing_21 : decode cX7_isThing 21 = .ok (.if_icmp .ne 7, 3) := by decide +kernel
theorem dX7_isThing_24 : decode cX7_isThing 24 = .ok (.iconst 1, 1) := by decide +kernel
theorem dX7_isThing_25 : decode cX7_isThing 25 = .ok (.goto 4, 3) := by decide +kernel
theorem dX7_isThing_28 : decode cX7_isThing 28 = .ok (.iconst 0, 1) := by decide +kernel
theorem dX7_isThing_29 : decode cX7_isThing 29 = .ok (.ireturn, 1) := by decide +kernel
theorem dX7_isAheadSign_0 : decode cX7_isAheadSign 0 = .ok (.iload_n 0, 1) := by decide +kernel
theorem dX7_isAheadSign_1 : decode cX7_isAheadSign 1 = .ok (.bipush 33, 2) := by decide +kernel
theorem dX7_isAheadSign_3 : decode cX7_isAheadSign 3 = .ok (.if_icmp .eq 27, 3) := by decide +kernel
theorem dX7_isAheadSign_6 : decode cX7_isAheadSign 6 = .ok (.iload_n 0, 1) := by decide +kernel
theorem dX7_isAheadSign_7 : decode cX7_isAheadSign 7 = .ok (.bipush 88, 2) := by decide +kernel
theorem dX7_isAheadSign_9 : decode cX7_isAheadSign 9 = .ok (.if_icmp .eq 21, 3) := by decide +kernel
theorem dX7_isAheadSign_12 : decode cX7_isAheadSign 12 = .ok (.iload_n 0, 1) := by decide +kernel
theorem dX7_isAheadSign_13 : decode cX7_isAheadSign 13 = .ok (.bipush 78, 2) := by decide +kernel
theorem dX7_isAheadSign_15 : decode cX7_isAheadSign 15 = .ok (.if_icmp .eq 15, 3) := by decide +kernel
theorem dX7_isAheadSign_18 : decode cX7_isAheadSign 18 = .ok (.iload_n 0, 1) := by decide +kernel
theorem dX7_isAheadSign_19 : decode cX7_isAheadSign 19 = .ok (.bipush 71, 2) := by decide +kernel
theorem dX7_isAheadSign_21 : decode cX7_isAheadSign 21 = .ok (.if_icmp .eq 9, 3) := by decide +kernel
theorem dX7_isAheadSign_24 : decode cX7_isAheadSign 24 = .ok (.iload_n 0, 1) := by decide +kernel
theorem dX7_isAheadSign_25 : decode cX7_isAheadSign 25 = .ok (.bipush 70, 2) := by decide +kernel
theorem dX7_isAheadSign_27 : decode cX7_isAheadSign 27 = .ok (.if_icmp .ne 7, 3) := by decide +kernel
theorem dX7_isAheadSign_30 : decode cX7_isAheadSign 30 = .ok (.iconst 1, 1) := by decide +kernel
theorem dX7_isAheadSign_31 : decode cX7_isAheadSign 31 = .ok (.goto 4, 3) := by decide +kernel
theorem dX7_isAheadSign_34 : decode cX7_isAheadSign 34 = .ok (.iconst 0, 1) := by decide +kernel
theorem dX7_isAheadSign_35 : decode cX7_isAheadSign 35 = .ok (.ireturn, 1) := by decide +kernel
theorem dX7_rank_0 : decode cX7_rank 0 = .ok (.iload_n 0, 1) := by decide +kernel
theorem dX7_rank_1 : decode cX7_rank 1 = .ok (.bipush 124, 2) := by decide +kernel
theorem dX7_rank_3 : decode cX7_rank 3 = .ok (.if_icmp .ne 7, 3) := by decide +kernel
theorem dX7_rank_6 : decode cX7_rank 6 = .ok (.iconst 1, 1) := by decide +kernel
theorem dX7_rank_7 : decode cX7_rank 7 = .ok (.goto 30, 3) := by decide +kernel
theorem dX7_rank_10 : decode cX7_rank 10 = .ok (.iload_n 0, 1) := by decide +kernel
theorem dX7_rank_11 : decode cX7_rank 11 = .ok (.bipush 38, 2) := by decide +kernel
theorem dX7_rank_13 : decode cX7_rank 13 = .ok (.if_icmp .ne 7, 3) := by decide +kernel
theorem dX7_rank_16 : decode cX7_rank 16 = .ok (.iconst 2, 1) := by decide +kernel
theorem dX7_rank_17 : decode cX7_rank 17 = .ok (.goto 20, 3) := by decide +kernel
theorem dX7_rank_20 : decode cX7_rank 20 = .ok (.iload_n 0, 1) := by decide +kernel
theorem dX7_rank_21 : decode cX7_rank 21 = .ok (.bipush 85, 2) := by decide +kernel
theorem dX7_rank_23 : decode cX7_rank 23 = .ok (.if_icmp .eq 9, 3) := by decide +kernel
theorem dX7_rank_26 : decode cX7_rank 26 = .ok (.iload_n 0, 1) := by decide +kernel
theorem dX7_rank_27 : decode cX7_rank 27 = .ok (.bipush 82, 2) := by decide +kernel
theorem dX7_rank_29 : decode cX7_rank 29 = .ok (.if_icmp .ne 7, 3) := by decide +kernel
theorem dX7_rank_32 : decode cX7_rank 32 = .ok (.iconst 3, 1) := by decide +kernel
theorem dX7_rank_33 : decode cX7_rank 33 = .ok (.goto 4, 3) := by decide +kernel
theorem dX7_rank_36 : decode cX7_rank 36 = .ok (.iconst 0, 1) := by decide +kernel
theorem dX7_rank_37 : decode cX7_rank 37 = .ok (.ireturn, 1) := by decide +kernel
theorem dX7_faultOf_0 : decode cX7_faultOf 0 = .ok (.iconst 0, 1) := by decide +kernel
theorem dX7_faultOf_1 : decode cX7_faultOf 1 = .ok (.istore_n 1, 1) := by decide +kernel
theorem dX7_faultOf_2 : decode cX7_faultOf 2 = .ok (.iconst 1, 1) := by decide +kernel
theorem dX7_faultOf_3 : decode cX7_faultOf 3 = .ok (.istore_n 2, 1) := by decide +kernel
theorem dX7_faultOf_4 : decode cX7_faultOf 4 = .ok (.iconst 0, 1) := by decide +kernel
theorem dX7_faultOf_5 : decode cX7_faultOf 5 = .ok (.istore_n 3, 1) := by decide +kernel
theorem dX7_faultOf_6 : decode cX7_faultOf 6 = .ok (.iload_n 3, 1) := by decide +kernel
theorem dX7_faultOf_7 : decode cX7_faultOf 7 = .ok (.aload_n 0, 1) := by decide +kernel
theorem dX7_faultOf_8 : decode cX7_faultOf 8 = .ok (.getfield 200, 3) := by decide +kernel
theorem dX7_faultOf_11 : decode cX7_faultOf 11 = .ok (.if_icmp .ge 149, 3) := by decide +kernel
theorem dX7_faultOf_14 : decode cX7_faultOf 14 = .ok (.aload_n 0, 1) := by decide +kernel
theorem dX7_faultOf_15 : decode cX7_faultOf 15 = .ok (.getfield 59, 3) := by decide +kernel
theorem dX7_faultOf_18 : decode cX7_faultOf 18 = .ok (.iload_n 3, 1) := by decide +kernel
theorem dX7_faultOf_19 : decode cX7_faultOf 19 = .ok (.caload, 1) := by decide +kernel
theorem dX7_faultOf_20 : decode cX7_faultOf 20 = .ok (.istore 4, 2) := by decide +kernel
theorem dX7_faultOf_22 : decode cX7_faultOf 22 = .ok (.iload_n 2, 1) := by decide +kernel
theorem dX7_faultOf_23 : decode cX7_faultOf 23 = .ok (.ifCond .eq 39, 3) := by decide +kernel
theorem dX7_faultOf_26 : decode cX7_faultOf 26 = .ok (.iload 4, 2) := by decide +kernel
theorem dX7_faultOf_28 : decode cX7_faultOf 28 = .ok (.invokestatic 203, 3) := by decide +kernel
theorem dX7_faultOf_31 : decode cX7_faultOf 31 = .ok (.ifCond .ne 23, 3) := by decide +kernel
theorem dX7_faultOf_34 : decode cX7_faultOf 34 = .ok (.iload 4, 2) := by decide +kernel
theorem dX7_faultOf_36 : decode cX7_faultOf 36 = .ok (.invokestatic 207, 3) := by decide +kernel
theorem dX7_faultOf_39 : decode cX7_faultOf 39 = .ok (.ifCond .ne 15, 3) := by decide +kernel
theorem dX7_faultOf_42 : decode cX7_faultOf 42 = .ok (.iload 4, 2) := by decide +kernel
theorem dX7_faultOf_44 : decode cX7_faultOf 44 = .ok (.bipush 40, 2) := by decide +kernel
theorem dX7_faultOf_46 : decode cX7_faultOf 46 = .ok (.if_icmp .ne 12, 3) := by decide +kernel
theorem dX7_faultOf_49 : decode cX7_faultOf 49 = .ok (.iload_n 1, 1) := by decide +kernel
theorem dX7_faultOf_50 : decode cX7_faultOf 50 = .ok (.iconst 4, 1) := by decide +kernel
theorem dX7_faultOf_51 : decode cX7_faultOf 51 = .ok (.if_icmp .ge 7, 3) := by decide +kernel
theorem dX7_faultOf_54 : decode cX7_faultOf 54 = .ok (.iconst 1, 1) := by decide +kernel
theorem dX7_faultOf_55 : decode cX7_faultOf 55 = .ok (.goto 31, 3) := by decide +kernel
theorem dX7_faultOf_58 : decode cX7_faultOf 58 = .ok (.iconst 0, 1) := by decide +kernel
theorem dX7_faultOf_59 : decode cX7_faultOf 59 = .ok (.goto 27, 3) := by decide +kernel
theorem dX7_faultOf_62 : decode cX7_faultOf 62 = .ok (.iload 4, 2) := by decide +kernel
theorem dX7_faultOf_64 : decode cX7_faultOf 64 = .ok (.invokestatic 210, 3) := by decide +kernel
theorem dX7_faultOf_67 : decode cX7_faultOf 67 = .ok (.ifCond .gt 14, 3) := by decide +kernel
theorem dX7_faultOf_70 : decode cX7_faultOf 70 = .ok (.iload 4, 2) := by decide +kernel
theorem dX7_faultOf_72 : decode cX7_faultOf 72 = .ok (.bipush 41, 2) := by decide +kernel
theorem dX7_faultOf_74 : decode cX7_faultOf 74 = .ok (.if_icmp .ne 11, 3) := by decide +kernel
theorem dX7_faultOf_77 : decode cX7_faultOf 77 = .ok (.iload_n 1, 1) := by decide +kernel
theorem dX7_faultOf_78 : decode cX7_faultOf 78 = .ok (.ifCond .le 7, 3) := by decide +kernel
theorem dX7_faultOf_81 : decode cX7_faultOf 81 = .ok (.iconst 1, 1) := by decide +kernel
theorem dX7_faultOf_82 : decode cX7_faultOf 82 = .ok (.goto 4, 3) := by decide +kernel
theorem dX7_faultOf_85 : decode cX7_faultOf 85 = .ok (.iconst 0, 1) := by decide +kernel
theorem dX7_faultOf_86 : decode cX7_faultOf 86 = .ok (.istore 5, 2) := by decide +kernel
theorem dX7_faultOf_88 : decode cX7_faultOf 88 = .ok (.iload 5, 2) := by decide +kernel
theorem dX7_faultOf_90 : decode cX7_faultOf 90 = .ok (.ifCond .ne 5, 3) := by decide +kernel
theorem dX7_faultOf_93 : decode cX7_faultOf 93 = .ok (.iload_n 3, 1) := by decide +kernel
theorem dX7_faultOf_94 : decode cX7_faultOf 94 = .ok (.ireturn, 1) := by decide +kernel
theorem dX7_faultOf_95 : decode cX7_faultOf 95 = .ok (.iload_n 1, 1) := by decide +kernel
theorem dX7_faultOf_96 : decode cX7_faultOf 96 = .ok (.iload 4, 2) := by decide +kernel
theorem dX7_faultOf_98 : decode cX7_faultOf 98 = .ok (.bipush 40, 2) := by decide +kernel
theorem dX7_faultOf_100 : decode cX7_faultOf 100 = .ok (.if_icmp .ne 7, 3) := by decide +kernel
theorem dX7_faultOf_103 : decode cX7_faultOf 103 = .ok (.iconst 1, 1) := by decide +kernel
theorem dX7_faultOf_104 : decode cX7_faultOf 104 = .ok (.goto 15, 3) := by decide +kernel
theorem dX7_faultOf_107 : decode cX7_faultOf 107 = .ok (.iload 4, 2) := by decide +kernel
theorem dX7_faultOf_109 : decode cX7_faultOf 109 = .ok (.bipush 41, 2) := by decide +kernel
theorem dX7_faultOf_111 : decode cX7_faultOf 111 = .ok (.if_icmp .ne 7, 3) := by decide +kernel
theorem dX7_faultOf_114 : decode cX7_faultOf 114 = .ok (.iconst (-1), 1) := by decide +kernel
theorem dX7_faultOf_115 : decode cX7_faultOf 115 = .ok (.goto 4, 3) := by decide +kernel
theorem dX7_faultOf_118 : decode cX7_faultOf 118 = .ok (.iconst 0, 1) := by decide +kernel
theorem dX7_faultOf_119 : decode cX7_faultOf 119 = .ok (.iadd, 1) := by decide +kernel
theorem dX7_faultOf_120 : decode cX7_faultOf 120 = .ok (.istore_n 1, 1) := by decide +kernel
theorem dX7_faultOf_121 : decode cX7_faultOf 121 = .ok (.iload_n 2, 1) := by decide +kernel
theorem dX7_faultOf_122 : decode cX7_faultOf 122 = .ok (.ifCond .eq 19, 3) := by decide +kernel
theorem dX7_faultOf_125 : decode cX7_faultOf 125 = .ok (.iload 4, 2) := by decide +kernel
theorem dX7_faultOf_127 : decode cX7_faultOf 127 = .ok (.invokestatic 203, 3) := by decide +kernel
theorem dX7_faultOf_130 : decode cX7_faultOf 130 = .ok (.ifCond .ne 7, 3) := by decide +kernel
theorem dX7_faultOf_133 : decode cX7_faultOf 133 = .ok (.iconst 1, 1) := by decide +kernel
theorem dX7_faultOf_134 : decode cX7_faultOf 134 = .ok (.goto 19, 3) := by decide +kernel
theorem dX7_faultOf_137 : decode cX7_faultOf 137 = .ok (.iconst 0, 1) := by decide +kernel
theorem dX7_faultOf_138 : decode cX7_faultOf 138 = .ok (.goto 15, 3) := by decide +kernel
theorem dX7_faultOf_141 : decode cX7_faultOf 141 = .ok (.iload 4, 2) := by decide +kernel
theorem dX7_faultOf_143 : decode cX7_faultOf 143 = .ok (.bipush 41, 2) := by decide +kernel
theorem dX7_faultOf_145 : decode cX7_faultOf 145 = .ok (.if_icmp .eq 7, 3) := by decide +kernel
theorem dX7_faultOf_148 : decode cX7_faultOf 148 = .ok (.iconst 1, 1) := by decide +kernel
theorem dX7_faultOf_149 : decode cX7_faultOf 149 = .ok (.goto 4, 3) := by decide +kernel
theorem dX7_faultOf_152 : decode cX7_faultOf 152 = .ok (.iconst 0, 1) := by decide +kernel
theorem dX7_faultOf_153 : decode cX7_faultOf 153 = .ok (.istore_n 2, 1) := by decide +kernel
theorem dX7_faultOf_154 : decode cX7_faultOf 154 = .ok (.iinc 3 1, 3) := by decide +kernel
theorem dX7_faultOf_157 : decode cX7_faultOf 157 = .ok (.goto (-151), 3) := by decide +kernel
theorem dX7_faultOf_160 : decode cX7_faultOf 160 = .ok (.iload_n 2, 1) := by decide +kernel
theorem dX7_faultOf_161 : decode cX7_faultOf 161 = .ok (.ifCond .ne 7, 3) := by decide +kernel
theorem dX7_faultOf_164 : decode cX7_faultOf 164 = .ok (.iload_n 1, 1) := by decide +kernel
theorem dX7_faultOf_165 : decode cX7_faultOf 165 = .ok (.ifCond .le 10, 3) := by decide +kernel
theorem dX7_faultOf_168 : decode cX7_faultOf 168 = .ok (.aload_n 0, 1) := by decide +kernel
theorem dX7_faultOf_169 : decode cX7_faultOf 169 = .ok (.getfield 200, 3) := by decide +kernel
theorem dX7_faultOf_172 : decode cX7_faultOf 172 = .ok (.goto 4, 3) := by decide +kernel
theorem dX7_faultOf_175 : decode cX7_faultOf 175 = .ok (.iconst (-1), 1) := by decide +kernel
theorem dX7_faultOf_176 : decode cX7_faultOf 176 = .ok (.ireturn, 1) := by decide +kernel
theorem dX7_apply_0 : decode cX7_apply 0 = .ok (.aload_n 0, 1) := by decide +kernel
theorem dX7_apply_1 : decode cX7_apply 1 = .ok (.dup, 1) := by decide +kernel
theorem dX7_apply_2 : decode cX7_apply 2 = .ok (.getfield 214, 3) := by decide +kernel
theorem dX7_apply_5 : decode cX7_apply 5 = .ok (.iconst 1, 1) := by decide +kernel
theorem dX7_apply_6 : decode cX7_apply 6 = .ok (.isub, 1) := by decide +kernel
theorem dX7_apply_7 : decode cX7_apply 7 = .ok (.putfield 214, 3) := by decide +kernel
theorem dX7_apply_10 : decode cX7_apply 10 = .ok (.aload_n 0, 1) := by decide +kernel
theorem dX7_apply_11 : decode cX7_apply 11 = .ok (.getfield 52, 3) := by decide +kernel
theorem dX7_apply_14 : decode cX7_apply 14 = .ok (.aload_n 0, 1) := by decide +kernel
theorem dX7_apply_15 : decode cX7_apply 15 = .ok (.getfield 214, 3) := by decide +kernel
theorem dX7_apply_18 : decode cX7_apply 18 = .ok (.caload, 1) := by decide +kernel
theorem dX7_apply_19 : decode cX7_apply 19 = .ok (.istore_n 1, 1) := by decide +kernel
theorem dX7_apply_20 : decode cX7_apply 20 = .ok (.aload_n 0, 1) := by decide +kernel
theorem dX7_apply_21 : decode cX7_apply 21 = .ok (.getfield 49, 3) := by decide +kernel
theorem dX7_apply_24 : decode cX7_apply 24 = .ok (.aload_n 0, 1) := by decide +kernel
theorem dX7_apply_25 : decode cX7_apply 25 = .ok (.getfield 217, 3) := by decide +kernel
theorem dX7_apply_28 : decode cX7_apply 28 = .ok (.iconst 1, 1) := by decide +kernel
theorem dX7_apply_29 : decode cX7_apply 29 = .ok (.isub, 1) := by decide +kernel
theorem dX7_apply_30 : decode cX7_apply 30 = .ok (.iaload, 1) := by decide +kernel
theorem dX7_apply_31 : decode cX7_apply 31 = .ok (.istore_n 2, 1) := by decide +kernel
theorem dX7_apply_32 : decode cX7_apply 32 = .ok (.iload_n 1, 1) := by decide +kernel
theorem dX7_apply_33 : decode cX7_apply 33 = .ok (.invokestatic 207, 3) := by decide +kernel
theorem dX7_apply_36 : decode cX7_apply 36 = .ok (.ifCond .eq 84, 3) := by decide +kernel
theorem dX7_apply_39 : decode cX7_apply 39 = .ok (.aload_n 0, 1) := by decide +kernel
theorem dX7_apply_40 : decode cX7_apply 40 = .ok (.getfield 49, 3) := by decide +kernel
theorem dX7_apply_43 : decode cX7_apply 43 = .ok (.aload_n 0, 1) := by decide +kernel
theorem dX7_apply_44 : decode cX7_apply 44 = .ok (.getfield 217, 3) := by decide +kernel
theorem dX7_apply_47 : decode cX7_apply 47 = .ok (.iconst 1, 1) := by decide +kernel
theorem dX7_apply_48 : decode cX7_apply 48 = .ok (.isub, 1) := by decide +kernel
theorem dX7_apply_49 : decode cX7_apply 49 = .ok (.iload_n 1, 1) := by decide +kernel
theorem dX7_apply_50 : decode cX7_apply 50 = .ok (.bipush 33, 2) := by decide +kernel
theorem dX7_apply_52 : decode cX7_apply 52 = .ok (.if_icmp .ne 11, 3) := by decide +kernel
theorem dX7_apply_55 : decode cX7_apply 55 = .ok (.aload_n 0, 1) := by decide +kernel
theorem dX7_apply_56 : decode cX7_apply 56 = .ok (.iload_n 2, 1) := by decide +kernel
theorem dX7_apply_57 : decode cX7_apply 57 = .ok (.invokevirtual 220, 3) := by decide +kernel
theorem dX7_apply_60 : decode cX7_apply 60 = .ok (.goto 58, 3) := by decide +kernel
theorem dX7_apply_63 : decode cX7_apply 63 = .ok (.iload_n 1, 1) := by decide +kernel
theorem dX7_apply_64 : decode cX7_apply 64 = .ok (.bipush 88, 2) := by decide +kernel
theorem dX7_apply_66 : decode cX7_apply 66 = .ok (.if_icmp .ne 13, 3) := by decide +kernel
theorem dX7_apply_69 : decode cX7_apply 69 = .ok (.aload_n 0, 1) := by decide +kernel
theorem dX7_apply_70 : decode cX7_apply 70 = .ok (.iconst 1, 1) := by decide +kernel
theorem dX7_apply_71 : decode cX7_apply 71 = .ok (.iload_n 2, 1) := by decide +kernel
theorem dX7_apply_72 : decode cX7_apply 72 = .ok (.iconst 0, 1) := by decide +kernel
theorem dX7_apply_73 : decode cX7_apply 73 = .ok (.invokevirtual 147, 3) := by decide +kernel
theorem dX7_apply_76 : decode cX7_apply 76 = .ok (.goto 42, 3) := by decide +kernel
theorem dX7_apply_79 : decode cX7_apply 79 = .ok (.iload_n 1, 1) := by decide +kernel
theorem dX7_apply_80 : decode cX7_apply 80 = .ok (.bipush 78, 2) := by decide +kernel
theorem dX7_apply_82 : decode cX7_apply 82 = .ok (.if_icmp .ne 13, 3) := by decide +kernel
theorem dX7_apply_85 : decode cX7_apply 85 = .ok (.aload_n 0, 1) := by decide +kernel
theorem dX7_apply_86 : decode cX7_apply 86 = .ok (.iconst 2, 1) := by decide +kernel
theorem dX7_apply_87 : decode cX7_apply 87 = .ok (.iload_n 2, 1) := by decide +kernel
theorem dX7_apply_88 : decode cX7_apply 88 = .ok (.iconst 0, 1) := by decide +kernel
theorem dX7_apply_89 : decode cX7_apply 89 = .ok (.invokevirtual 147, 3) := by decide +kernel
theorem dX7_apply_92 : decode cX7_apply 92 = .ok (.goto 26, 3) := by decide +kernel
theorem dX7_apply_95 : decode cX7_apply 95 = .ok (.iload_n 1, 1) := by decide +kernel
theorem dX7_apply_96 : decode cX7_apply 96 = .ok (.bipush 71, 2) := by decide +kernel
theorem dX7_apply_98 : decode cX7_apply 98 = .ok (.if_icmp .ne 13, 3) := by decide +kernel
theorem dX7_apply_101 : decode cX7_apply 101 = .ok (.aload_n 0, 1) := by decide +kernel
theorem dX7_apply_102 : decode cX7_apply 102 = .ok (.iconst 4, 1) := by decide +kernel
theorem dX7_apply_103 : decode cX7_apply 103 = .ok (.iconst 0, 1) := by decide +kernel
theorem dX7_apply_104 : decode cX7_apply 104 = .ok (.iload_n 2, 1) := by decide +kernel
theorem dX7_apply_105 : decode cX7_apply 105 = .ok (.invokevirtual 147, 3) := by decide +kernel
theorem dX7_apply_108 : decode cX7_apply 108 = .ok (.goto 10, 3) := by decide +kernel
theorem dX7_apply_111 : decode cX7_apply 111 = .ok (.aload_n 0, 1) := by decide +kernel
theorem dX7_apply_112 : decode cX7_apply 112 = .ok (.iconst 3, 1) := by decide +kernel
theorem dX7_apply_113 : decode cX7_apply 113 = .ok (.iconst 1, 1) := by decide +kernel
theorem dX7_apply_114 : decode cX7_apply 114 = .ok (.iload_n 2, 1) := by decide +kernel
theorem dX7_apply_115 : decode cX7_apply 115 = .ok (.invokevirtual 147, 3) := by decide +kernel
theorem dX7_apply_118 : decode cX7_apply 118 = .ok (.iastore, 1) := by decide +kernel
theorem dX7_apply_119 : decode cX7_apply 119 = .ok (.return_, 1) := by decide +kernel
theorem dX7_apply_120 : decode cX7_apply 120 = .ok (.aload_n 0, 1) := by decide +kernel
theorem dX7_apply_121 : decode cX7_apply 121 = .ok (.dup, 1) := by decide +kernel
theorem dX7_apply_122 : decode cX7_apply 122 = .ok (.getfield 217, 3) := by decide +kernel
theorem dX7_apply_125 : decode cX7_apply 125 = .ok (.iconst 1, 1) := by decide +kernel
theorem dX7_apply_126 : decode cX7_apply 126 = .ok (.isub, 1) := by decide +kernel
theorem dX7_apply_127 : decode cX7_apply 127 = .ok (.putfield 217, 3) := by decide +kernel
theorem dX7_apply_130 : decode cX7_apply 130 = .ok (.aload_n 0, 1) := by decide +kernel
theorem dX7_apply_131 : decode cX7_apply 131 = .ok (.getfield 49, 3) := by decide +kernel
theorem dX7_apply_134 : decode cX7_apply 134 = .ok (.aload_n 0, 1) := by decide +kernel
theorem dX7_apply_135 : decode cX7_apply 135 = .ok (.getfield 217, 3) := by decide +kernel
theorem dX7_apply_138 : decode cX7_apply 138 = .ok (.iconst 1, 1) := by decide +kernel
theorem dX7_apply_139 : decode cX7_apply 139 = .ok (.isub, 1) := by decide +kernel
theorem dX7_apply_140 : decode cX7_apply 140 = .ok (.iaload, 1) := by decide +kernel
theorem dX7_apply_141 : decode cX7_apply 141 = .ok (.istore_n 3, 1) := by decide +kernel
theorem dX7_apply_142 : decode cX7_apply 142 = .ok (.aload_n 0, 1) := by decide +kernel
theorem dX7_apply_143 : decode cX7_apply 143 = .ok (.getfield 49, 3) := by decide +kernel
theorem dX7_apply_146 : decode cX7_apply 146 = .ok (.aload_n 0, 1) := by decide +kernel
theorem dX7_apply_147 : decode cX7_apply 147 = .ok (.getfield 217, 3) := by decide +kernel
theorem dX7_apply_150 : decode cX7_apply 150 = .ok (.iconst 1, 1) := by decide +kernel
theorem dX7_apply_151 : decode cX7_apply 151 = .ok (.isub, 1) := by decide +kernel
theorem dX7_apply_152 : decode cX7_apply 152 = .ok (.iload_n 1, 1) := by decide +kernel
theorem dX7_apply_153 : decode cX7_apply 153 = .ok (.bipush 124, 2) := by decide +kernel
theorem dX7_apply_155 : decode cX7_apply 155 = .ok (.if_icmp .ne 14, 3) := by decide +kernel
theorem dX7_apply_158 : decode cX7_apply 158 = .ok (.aload_n 0, 1) := by decide +kernel
theorem dX7_apply_159 : decode cX7_apply 159 = .ok (.bipush 6, 2) := by decide +kernel
theorem dX7_apply_161 : decode cX7_apply 161 = .ok (.iload_n 3, 1) := by decide +kernel
theorem dX7_apply_162 : decode cX7_apply 162 = .ok (.iload_n 2, 1) := by decide +kernel
theorem dX7_apply_163 : decode cX7_apply 163 = .ok (.invokevirtual 137, 3) := by decide +kernel
theorem dX7_apply_166 : decode cX7_apply 166 = .ok (.goto 36, 3) := by decide +kernel
theorem dX7_apply_169 : decode cX7_apply 169 = .ok (.iload_n 1, 1) := by decide +kernel
theorem dX7_apply_170 : decode cX7_apply 170 = .ok (.bipush 38, 2) := by decide +kernel
theorem dX7_apply_172 : decode cX7_apply 172 = .ok (.if_icmp .ne 13, 3) := by decide +kernel
theorem dX7_apply_175 : decode cX7_apply 175 = .ok (.aload_n 0, 1) := by decide +kernel
theorem dX7_apply_176 : decode cX7_apply 176 = .ok (.iconst 5, 1) := by decide +kernel
theorem dX7_apply_177 : decode cX7_apply 177 = .ok (.iload_n 3, 1) := by decide +kernel
theorem dX7_apply_178 : decode cX7_apply 178 = .ok (.iload_n 2, 1) := by decide +kernel
theorem dX7_apply_179 : decode cX7_apply 179 = .ok (.invokevirtual 137, 3) := by decide +kernel
theorem dX7_apply_182 : decode cX7_apply 182 = .ok (.goto 20, 3) := by decide +kernel
theorem dX7_apply_185 : decode cX7_apply 185 = .ok (.aload_n 0, 1) := by decide +kernel
theorem dX7_apply_186 : decode cX7_apply 186 = .ok (.iload_n 1, 1) := by decide +kernel
theorem dX7_apply_187 : decode cX7_apply 187 = .ok (.bipush 85, 2) := by decide +kernel
theorem dX7_apply_189 : decode cX7_apply 189 = .ok (.if_icmp .ne 7, 3) := by decide +kernel
theorem dX7_apply_192 : decode cX7_apply 192 = .ok (.iconst 3, 1) := by decide +kernel
theorem dX7_apply_193 : decode cX7_apply 193 = .ok (.goto 4, 3) := by decide +kernel
theorem dX7_apply_196 : decode cX7_apply 196 = .ok (.iconst 4, 1) := by decide +kernel
theorem dX7_apply_197 : decode cX7_apply 197 = .ok (.iload_n 3, 1) := by decide +kernel
theorem dX7_apply_198 : decode cX7_apply 198 = .ok (.iload_n 2, 1) := by decide +kernel
theorem dX7_apply_199 : decode cX7_apply 199 = .ok (.invokevirtual 147, 3) := by decide +kernel
theorem dX7_apply_202 : decode cX7_apply 202 = .ok (.iastore, 1) := by decide +kernel
theorem dX7_apply_203 : decode cX7_apply 203 = .ok (.return_, 1) := by decide +kernel
theorem dX7_applyAhead_0 : decode cX7_applyAhead 0 = .ok (.aload_n 0, 1) := by decide +kernel
theorem dX7_applyAhead_1 : decode cX7_applyAhead 1 = .ok (.getfield 214, 3) := by decide +kernel
theorem dX7_applyAhead_4 : decode cX7_applyAhead 4 = .ok (.ifCond .le 27, 3) := by decide +kernel
theorem dX7_applyAhead_7 : decode cX7_applyAhead 7 = .ok (.aload_n 0, 1) := by decide +kernel
theorem dX7_applyAhead_8 : decode cX7_applyAhead 8 = .ok (.getfield 52, 3) := by decide +kernel
theorem dX7_applyAhead_11 : decode cX7_applyAhead 11 = .ok (.aload_n 0, 1) := by decide +kernel
theorem dX7_applyAhead_12 : decode cX7_applyAhead 12 = .ok (.getfield 214, 3) := by decide +kernel
theorem dX7_applyAhead_15 : decode cX7_applyAhead 15 = .ok (.iconst 1, 1) := by decide +kernel
theorem dX7_applyAhead_16 : decode cX7_applyAhead 16 = .ok (.isub, 1) := by decide +kernel
theorem dX7_applyAhead_17 : decode cX7_applyAhead 17 = .ok (.caload, 1) := by decide +kernel
theorem dX7_applyAhead_18 : decode cX7_applyAhead 18 = .ok (.invokestatic 207, 3) := by decide +kernel
theorem dX7_applyAhead_21 : decode cX7_applyAhead 21 = .ok (.ifCond .eq 10, 3) := by decide +kernel
theorem dX7_applyAhead_24 : decode cX7_applyAhead 24 = .ok (.aload_n 0, 1) := by decide +kernel
theorem dX7_applyAhead_25 : decode cX7_applyAhead 25 = .ok (.invokevirtual 223, 3) := by decide +kernel
theorem dX7_applyAhead_28 : decode cX7_applyAhead 28 = .ok (.goto (-28), 3) := by decide +kernel
theorem dX7_applyAhead_31 : decode cX7_applyAhead 31 = .ok (.return_, 1) := by decide +kernel
theorem dX7_readOne_0 : decode cX7_readOne 0 = .ok (.iload_n 1, 1) := by decide +kernel
theorem dX7_readOne_1 : decode cX7_readOne 1 = .ok (.invokestatic 203, 3) := by decide +kernel
theorem dX7_readOne_4 : decode cX7_readOne 4 = .ok (.ifCond .eq 53, 3) := by decide +kernel
theorem dX7_readOne_7 : decode cX7_readOne 7 = .ok (.aload_n 0, 1) := by decide +kernel
theorem dX7_readOne_8 : decode cX7_readOne 8 = .ok (.getfield 49, 3) := by decide +kernel
theorem dX7_readOne_11 : decode cX7_readOne 11 = .ok (.aload_n 0, 1) := by decide +kernel
theorem dX7_readOne_12 : decode cX7_readOne 12 = .ok (.getfield 217, 3) := by decide +kernel
theorem dX7_readOne_15 : decode cX7_readOne 15 = .ok (.iload_n 1, 1) := by decide +kernel
theorem dX7_readOne_16 : decode cX7_readOne 16 = .ok (.bipush 48, 2) := by decide +kernel
theorem dX7_readOne_18 : decode cX7_readOne 18 = .ok (.if_icmp .ne 7, 3) := by decide +kernel
theorem dX7_readOne_21 : decode cX7_readOne 21 = .ok (.iconst 0, 1) := by decide +kernel
theorem dX7_readOne_22 : decode cX7_readOne 22 = .ok (.goto 19, 3) := by decide +kernel
theorem dX7_readOne_25 : decode cX7_readOne 25 = .ok (.iload_n 1, 1) := by decide +kernel
theorem dX7_readOne_26 : decode cX7_readOne 26 = .ok (.bipush 49, 2) := by decide +kernel
theorem dX7_readOne_28 : decode cX7_readOne 28 = .ok (.if_icmp .ne 7, 3) := by decide +kernel
theorem dX7_readOne_31 : decode cX7_readOne 31 = .ok (.iconst 1, 1) := by decide +kernel
theorem dX7_readOne_32 : decode cX7_readOne 32 = .ok (.goto 9, 3) := by decide +kernel
theorem dX7_readOne_35 : decode cX7_readOne 35 = .ok (.iconst 4, 1) := by decide +kernel
theorem dX7_readOne_36 : decode cX7_readOne 36 = .ok (.iload_n 1, 1) := by decide +kernel
theorem dX7_readOne_37 : decode cX7_readOne 37 = .ok (.iadd, 1) := by decide +kernel
theorem dX7_readOne_38 : decode cX7_readOne 38 = .ok (.bipush 97, 2) := by decide +kernel
theorem dX7_readOne_40 : decode cX7_readOne 40 = .ok (.isub, 1) := by decide +kernel
theorem dX7_readOne_41 : decode cX7_readOne 41 = .ok (.iastore, 1) := by decide +kernel
theorem dX7_readOne_42 : decode cX7_readOne 42 = .ok (.aload_n 0, 1) := by decide +kernel
theorem dX7_readOne_43 : decode cX7_readOne 43 = .ok (.dup, 1) := by decide +kernel
theorem dX7_readOne_44 : decode cX7_readOne 44 = .ok (.getfield 217, 3) := by decide +kernel
theorem dX7_readOne_47 : decode cX7_readOne 47 = .ok (.iconst 1, 1) := by decide +kernel
theorem dX7_readOne_48 : decode cX7_readOne 48 = .ok (.iadd, 1) := by decide +kernel
theorem dX7_readOne_49 : decode cX7_readOne 49 = .ok (.putfield 217, 3) := by decide +kernel
theorem dX7_readOne_52 : decode cX7_readOne 52 = .ok (.aload_n 0, 1) := by decide +kernel
theorem dX7_readOne_53 : decode cX7_readOne 53 = .ok (.invokevirtual 226, 3) := by decide +kernel
theorem dX7_readOne_56 : decode cX7_readOne 56 = .ok (.return_, 1) := by decide +kernel
theorem dX7_readOne_57 : decode cX7_readOne 57 = .ok (.iload_n 1, 1) := by decide +kernel
theorem dX7_readOne_58 : decode cX7_readOne 58 = .ok (.bipush 41, 2) := by decide +kernel
theorem dX7_readOne_60 : decode cX7_readOne 60 = .ok (.if_icmp .ne 41, 3) := by decide +kernel
theorem dX7_readOne_63 : decode cX7_readOne 63 = .ok (.aload_n 0, 1) := by decide +kernel
theorem dX7_readOne_64 : decode cX7_readOne 64 = .ok (.getfield 52, 3) := by decide +kernel
theorem dX7_readOne_67 : decode cX7_readOne 67 = .ok (.aload_n 0, 1) := by decide +kernel
theorem dX7_readOne_68 : decode cX7_readOne 68 = .ok (.getfield 214, 3) := by decide +kernel
theorem dX7_readOne_71 : decode cX7_readOne 71 = .ok (.iconst 1, 1) := by decide +kernel
theorem dX7_readOne_72 : decode cX7_readOne 72 = .ok (.isub, 1) := by decide +kernel
theorem dX7_readOne_73 : decode cX7_readOne 73 = .ok (.caload, 1) := by decide +kernel
theorem dX7_readOne_74 : decode cX7_readOne 74 = .ok (.bipush 40, 2) := by decide +kernel
theorem dX7_readOne_76 : decode cX7_readOne 76 = .ok (.if_icmp .eq 10, 3) := by decide +kernel
theorem dX7_readOne_79 : decode cX7_readOne 79 = .ok (.aload_n 0, 1) := by decide +kernel
theorem dX7_readOne_80 : decode cX7_readOne 80 = .ok (.invokevirtual 223, 3) := by decide +kernel
theorem dX7_readOne_83 : decode cX7_readOne 83 = .ok (.goto (-20), 3) := by decide +kernel
theorem dX7_readOne_86 : decode cX7_readOne 86 = .ok (.aload_n 0, 1) := by decide +kernel
theorem dX7_readOne_87 : decode cX7_readOne 87 = .ok (.dup, 1) := by decide +kernel
theorem dX7_readOne_88 : decode cX7_readOne 88 = .ok (.getfield 214, 3) := by decide +kernel
theorem dX7_readOne_91 : decode cX7_readOne 91 = .ok (.iconst 1, 1) := by decide +kernel
theorem dX7_readOne_92 : decode cX7_readOne 92 = .ok (.isub, 1) := by decide +kernel
theorem dX7_readOne_93 : decode cX7_readOne 93 = .ok (.putfield 214, 3) := by decide +kernel
theorem dX7_readOne_96 : decode cX7_readOne 96 = .ok (.aload_n 0, 1) := by decide +kernel
theorem dX7_readOne_97 : decode cX7_readOne 97 = .ok (.invokevirtual 226, 3) := by decide +kernel
theorem dX7_readOne_100 : decode cX7_readOne 100 = .ok (.return_, 1) := by decide +kernel
theorem dX7_readOne_101 : decode cX7_readOne 101 = .ok (.iload_n 1, 1) := by decide +kernel
theorem dX7_readOne_102 : decode cX7_readOne 102 = .ok (.invokestatic 210, 3) := by decide +kernel
theorem dX7_readOne_105 : decode cX7_readOne 105 = .ok (.ifCond .le 67, 3) := by decide +kernel
theorem dX7_readOne_108 : decode cX7_readOne 108 = .ok (.aload_n 0, 1) := by decide +kernel
theorem dX7_readOne_109 : decode cX7_readOne 109 = .ok (.getfield 214, 3) := by decide +kernel
theorem dX7_readOne_112 : decode cX7_readOne 112 = .ok (.ifCond .le 60, 3) := by decide +kernel
theorem dX7_readOne_115 : decode cX7_readOne 115 = .ok (.aload_n 0, 1) := by decide +kernel
theorem dX7_readOne_116 : decode cX7_readOne 116 = .ok (.getfield 52, 3) := by decide +kernel
theorem dX7_readOne_119 : decode cX7_readOne 119 = .ok (.aload_n 0, 1) := by decide +kernel
theorem dX7_readOne_120 : decode cX7_readOne 120 = .ok (.getfield 214, 3) := by decide +kernel
theorem dX7_readOne_123 : decode cX7_readOne 123 = .ok (.iconst 1, 1) := by decide +kernel
theorem dX7_readOne_124 : decode cX7_readOne 124 = .ok (.isub, 1) := by decide +kernel
theorem dX7_readOne_125 : decode cX7_readOne 125 = .ok (.caload, 1) := by decide +kernel
theorem dX7_readOne_126 : decode cX7_readOne 126 = .ok (.invokestatic 210, 3) := by decide +kernel
theorem dX7_readOne_129 : decode cX7_readOne 129 = .ok (.iload_n 1, 1) := by decide +kernel
theorem dX7_readOne_130 : decode cX7_readOne 130 = .ok (.invokestatic 210, 3) := by decide +kernel
theorem dX7_readOne_133 : decode cX7_readOne 133 = .ok (.if_icmp .gt 32, 3) := by decide +kernel
theorem dX7_readOne_136 : decode cX7_readOne 136 = .ok (.aload_n 0, 1) := by decide +kernel
theorem dX7_readOne_137 : decode cX7_readOne 137 = .ok (.getfield 52, 3) := by decide +kernel
theorem dX7_readOne_140 : decode cX7_readOne 140 = .ok (.aload_n 0, 1) := by decide +kernel
theorem dX7_readOne_141 : decode cX7_readOne 141 = .ok (.getfield 214, 3) := by decide +kernel
theorem dX7_readOne_144 : decode cX7_readOne 144 = .ok (.iconst 1, 1) := by decide +kernel
theorem dX7_readOne_145 : decode cX7_readOne 145 = .ok (.isub, 1) := by decide +kernel
theorem dX7_readOne_146 : decode cX7_readOne 146 = .ok (.caload, 1) := by decide +kernel
theorem dX7_readOne_147 : decode cX7_readOne 147 = .ok (.invokestatic 210, 3) := by decide +kernel
theorem dX7_readOne_150 : decode cX7_readOne 150 = .ok (.iload_n 1, 1) := by decide +kernel
theorem dX7_readOne_151 : decode cX7_readOne 151 = .ok (.invokestatic 210, 3) := by decide +kernel
theorem dX7_readOne_154 : decode cX7_readOne 154 = .ok (.if_icmp .ne 18, 3) := by decide +kernel
theorem dX7_readOne_157 : decode cX7_readOne 157 = .ok (.iload_n 1, 1) := by decide +kernel
theorem dX7_readOne_158 : decode cX7_readOne 158 = .ok (.invokestatic 210, 3) := by decide +kernel
theorem dX7_readOne_161 : decode cX7_readOne 161 = .ok (.iconst 3, 1) := by decide +kernel
theorem dX7_readOne_162 : decode cX7_readOne 162 = .ok (.if_icmp .ge 10, 3) := by decide +kernel
theorem dX7_readOne_165 : decode cX7_readOne 165 = .ok (.aload_n 0, 1) := by decide +kernel
theorem dX7_readOne_166 : decode cX7_readOne 166 = .ok (.invokevirtual 223, 3) := by decide +kernel
theorem dX7_readOne_169 : decode cX7_readOne 169 = .ok (.goto (-68), 3) := by decide +kernel
theorem dX7_readOne_172 : decode cX7_readOne 172 = .ok (.aload_n 0, 1) := by decide +kernel
theorem dX7_readOne_173 : decode cX7_readOne 173 = .ok (.getfield 52, 3) := by decide +kernel
theorem dX7_readOne_176 : decode cX7_readOne 176 = .ok (.aload_n 0, 1) := by decide +kernel
theorem dX7_readOne_177 : decode cX7_readOne 177 = .ok (.getfield 214, 3) := by decide +kernel
theorem dX7_readOne_180 : decode cX7_readOne 180 = .ok (.iload_n 1, 1) := by decide +kernel
theorem dX7_readOne_181 : decode cX7_readOne 181 = .ok (.castore, 1) := by decide +kernel
theorem dX7_readOne_182 : decode cX7_readOne 182 = .ok (.aload_n 0, 1) := by decide +kernel
theorem dX7_readOne_183 : decode cX7_readOne 183 = .ok (.dup, 1) := by decide +kernel
theorem dX7_readOne_184 : decode cX7_readOne 184 = .ok (.getfield 214, 3) := by decide +kernel
theorem dX7_readOne_187 : decode cX7_readOne 187 = .ok (.iconst 1, 1) := by decide +kernel
theorem dX7_readOne_188 : decode cX7_readOne 188 = .ok (.iadd, 1) := by decide +kernel
theorem dX7_readOne_189 : decode cX7_readOne 189 = .ok (.putfield 214, 3) := by decide +kernel
theorem dX7_readOne_192 : decode cX7_readOne 192 = .ok (.return_, 1) := by decide +kernel
theorem dX7_read_0 : decode cX7_read 0 = .ok (.aload_n 0, 1) := by decide +kernel
theorem dX7_read_1 : decode cX7_read 1 = .ok (.invokevirtual 62, 3) := by decide +kernel
theorem dX7_read_4 : decode cX7_read 4 = .ok (.aload_n 0, 1) := by decide +kernel
theorem dX7_read_5 : decode cX7_read 5 = .ok (.iconst 0, 1) := by decide +kernel
theorem dX7_read_6 : decode cX7_read 6 = .ok (.putfield 217, 3) := by decide +kernel
theorem dX7_read_9 : decode cX7_read 9 = .ok (.aload_n 0, 1) := by decide +kernel
theorem dX7_read_10 : decode cX7_read 10 = .ok (.iconst 0, 1) := by decide +kernel
theorem dX7_read_11 : decode cX7_read 11 = .ok (.putfield 214, 3) := by decide +kernel
theorem dX7_read_14 : decode cX7_read 14 = .ok (.iconst 0, 1) := by decide +kernel
theorem dX7_read_15 : decode cX7_read 15 = .ok (.istore_n 1, 1) := by decide +kernel
theorem dX7_read_16 : decode cX7_read 16 = .ok (.iload_n 1, 1) := by decide +kernel
theorem dX7_read_17 : decode cX7_read 17 = .ok (.aload_n 0, 1) := by decide +kernel
theorem dX7_read_18 : decode cX7_read 18 = .ok (.getfield 200, 3) := by decide +kernel
theorem dX7_read_21 : decode cX7_read 21 = .ok (.if_icmp .ge 19, 3) := by decide +kernel
theorem dX7_read_24 : decode cX7_read 24 = .ok (.aload_n 0, 1) := by decide +kernel
theorem dX7_read_25 : decode cX7_read 25 = .ok (.aload_n 0, 1) := by decide +kernel
theorem dX7_read_26 : decode cX7_read 26 = .ok (.getfield 59, 3) := by decide +kernel
theorem dX7_read_29 : decode cX7_read 29 = .ok (.iload_n 1, 1) := by decide +kernel
theorem dX7_read_30 : decode cX7_read 30 = .ok (.caload, 1) := by decide +kernel
theorem dX7_read_31 : decode cX7_read 31 = .ok (.invokevirtual 229, 3) := by decide +kernel
theorem dX7_read_34 : decode cX7_read 34 = .ok (.iinc 1 1, 3) := by decide +kernel
theorem dX7_read_37 : decode cX7_read 37 = .ok (.goto (-21), 3) := by decide +kernel
theorem dX7_read_40 : decode cX7_read 40 = .ok (.aload_n 0, 1) := by decide +kernel
theorem dX7_read_41 : decode cX7_read 41 = .ok (.getfield 214, 3) := by decide +kernel
theorem dX7_read_44 : decode cX7_read 44 = .ok (.ifCond .le 10, 3) := by decide +kernel
theorem dX7_read_47 : decode cX7_read 47 = .ok (.aload_n 0, 1) := by decide +kernel
theorem dX7_read_48 : decode cX7_read 48 = .ok (.invokevirtual 223, 3) := by decide +kernel
theorem dX7_read_51 : decode cX7_read 51 = .ok (.goto (-11), 3) := by decide +kernel
theorem dX7_read_54 : decode cX7_read 54 = .ok (.aload_n 0, 1) := by decide +kernel
theorem dX7_read_55 : decode cX7_read 55 = .ok (.getfield 49, 3) := by decide +kernel
theorem dX7_read_58 : decode cX7_read 58 = .ok (.iconst 0, 1) := by decide +kernel
theorem dX7_read_59 : decode cX7_read 59 = .ok (.iaload, 1) := by decide +kernel
theorem dX7_read_60 : decode cX7_read 60 = .ok (.ireturn, 1) := by decide +kernel
theorem dX7_partMany_0 : decode cX7_partMany 0 = .ok (.iload_n 1, 1) := by decide +kernel
theorem dX7_partMany_1 : decode cX7_partMany 1 = .ok (.bipush 16, 2) := by decide +kernel
theorem dX7_partMany_3 : decode cX7_partMany 3 = .ok (.if_icmp .lt 22, 3) := by decide +kernel
theorem dX7_partMany_6 : decode cX7_partMany 6 = .ok (.aload_n 0, 1) := by decide +kernel
theorem dX7_partMany_7 : decode cX7_partMany 7 = .ok (.getfield 20, 3) := by decide +kernel
theorem dX7_partMany_10 : decode cX7_partMany 10 = .ok (.iload_n 1, 1) := by decide +kernel
theorem dX7_partMany_11 : decode cX7_partMany 11 = .ok (.iaload, 1) := by decide +kernel
theorem dX7_partMany_12 : decode cX7_partMany 12 = .ok (.iconst 5, 1) := by decide +kernel
theorem dX7_partMany_13 : decode cX7_partMany 13 = .ok (.if_icmp .ne 12, 3) := by decide +kernel
theorem dX7_partMany_16 : decode cX7_partMany 16 = .ok (.aload_n 0, 1) := by decide +kernel
theorem dX7_partMany_17 : decode cX7_partMany 17 = .ok (.getfield 26, 3) := by decide +kernel
theorem dX7_partMany_20 : decode cX7_partMany 20 = .ok (.iload_n 1, 1) := by decide +kernel
theorem dX7_partMany_21 : decode cX7_partMany 21 = .ok (.iaload, 1) := by decide +kernel
theorem dX7_partMany_22 : decode cX7_partMany 22 = .ok (.goto 4, 3) := by decide +kernel
theorem dX7_partMany_25 : decode cX7_partMany 25 = .ok (.iconst 1, 1) := by decide +kernel
theorem dX7_partMany_26 : decode cX7_partMany 26 = .ok (.ireturn, 1) := by decide +kernel
theorem dX7_partForm_0 : decode cX7_partForm 0 = .ok (.iload_n 1, 1) := by decide +kernel
theorem dX7_partForm_1 : decode cX7_partForm 1 = .ok (.bipush 16, 2) := by decide +kernel
theorem dX7_partForm_3 : decode cX7_partForm 3 = .ok (.if_icmp .lt 29, 3) := by decide +kernel
theorem dX7_partForm_6 : decode cX7_partForm 6 = .ok (.aload_n 0, 1) := by decide +kernel
theorem dX7_partForm_7 : decode cX7_partForm 7 = .ok (.getfield 20, 3) := by decide +kernel
theorem dX7_partForm_10 : decode cX7_partForm 10 = .ok (.iload_n 1, 1) := by decide +kernel
theorem dX7_partForm_11 : decode cX7_partForm 11 = .ok (.iaload, 1) := by decide +kernel
theorem dX7_partForm_12 : decode cX7_partForm 12 = .ok (.iconst 5, 1) := by decide +kernel
theorem dX7_partForm_13 : decode cX7_partForm 13 = .ok (.if_icmp .ne 19, 3) := by decide +kernel
theorem dX7_partForm_16 : decode cX7_partForm 16 = .ok (.aload_n 0, 1) := by decide +kernel
theorem dX7_partForm_17 : decode cX7_partForm 17 = .ok (.getfield 43, 3) := by decide +kernel
theorem dX7_partForm_20 : decode cX7_partForm 20 = .ok (.aload_n 0, 1) := by decide +kernel
theorem dX7_partForm_21 : decode cX7_partForm 21 = .ok (.getfield 23, 3) := by decide +kernel
theorem dX7_partForm_24 : decode cX7_partForm 24 = .ok (.iload_n 1, 1) := by decide +kernel
theorem dX7_partForm_25 : decode cX7_partForm 25 = .ok (.iaload, 1) := by decide +kernel
theorem dX7_partForm_26 : decode cX7_partForm 26 = .ok (.iload_n 2, 1) := by decide +kernel
theorem dX7_partForm_27 : decode cX7_partForm 27 = .ok (.iadd, 1) := by decide +kernel
theorem dX7_partForm_28 : decode cX7_partForm 28 = .ok (.iaload, 1) := by decide +kernel
theorem dX7_partForm_29 : decode cX7_partForm 29 = .ok (.goto 4, 3) := by decide +kernel
theorem dX7_partForm_32 : decode cX7_partForm 32 = .ok (.iload_n 1, 1) := by decide +kernel
theorem dX7_partForm_33 : decode cX7_partForm 33 = .ok (.ireturn, 1) := by decide +kernel
theorem dX7_comes_0 : decode cX7_comes 0 = .ok (.aload_n 0, 1) := by decide +kernel
theorem dX7_comes_1 : decode cX7_comes 1 = .ok (.getfield 7, 3) := by decide +kernel
theorem dX7_comes_4 : decode cX7_comes 4 = .ok (.iconst 2, 1) := by decide +kernel
theorem dX7_comes_5 : decode cX7_comes 5 = .ok (.iaload, 1) := by decide +kernel
theorem dX7_comes_6 : decode cX7_comes 6 = .ok (.istore_n 2, 1) := by decide +kernel
theorem dX7_comes_7 : decode cX7_comes 7 = .ok (.iload_n 2, 1) := by decide +kernel
theorem dX7_comes_8 : decode cX7_comes 8 = .ok (.invokestatic 74, 3) := by decide +kernel
theorem dX7_comes_11 : decode cX7_comes 11 = .ok (.istore_n 3, 1) := by decide +kernel
theorem dX7_comes_12 : decode cX7_comes 12 = .ok (.aload_n 0, 1) := by decide +kernel
theorem dX7_comes_13 : decode cX7_comes 13 = .ok (.getfield 7, 3) := by decide +kernel
theorem dX7_comes_16 : decode cX7_comes 16 = .ok (.iload_n 3, 1) := by decide +kernel
theorem dX7_comes_17 : decode cX7_comes 17 = .ok (.iconst 0, 1) := by decide +kernel
theorem dX7_comes_18 : decode cX7_comes 18 = .ok (.iadd, 1) := by decide +kernel
theorem dX7_comes_19 : decode cX7_comes 19 = .ok (.iconst 1, 1) := by decide +kernel
theorem dX7_comes_20 : decode cX7_comes 20 = .ok (.iastore, 1) := by decide +kernel
theorem dX7_comes_21 : decode cX7_comes 21 = .ok (.aload_n 0, 1) := by decide +kernel
theorem dX7_comes_22 : decode cX7_comes 22 = .ok (.getfield 7, 3) := by decide +kernel
theorem dX7_comes_25 : decode cX7_comes 25 = .ok (.iload_n 3, 1) := by decide +kernel
theorem dX7_comes_26 : decode cX7_comes 26 = .ok (.iconst 2, 1) := by decide +kernel
theorem dX7_comes_27 : decode cX7_comes 27 = .ok (.iadd, 1) := by decide +kernel
theorem dX7_comes_28 : decode cX7_comes 28 = .ok (.bipush (-5), 2) := by decide +kernel
theorem dX7_comes_30 : decode cX7_comes 30 = .ok (.iastore, 1) := by decide +kernel
theorem dX7_comes_31 : decode cX7_comes 31 = .ok (.aload_n 0, 1) := by decide +kernel
theorem dX7_comes_32 : decode cX7_comes 32 = .ok (.getfield 7, 3) := by decide +kernel
theorem dX7_comes_35 : decode cX7_comes 35 = .ok (.iload_n 3, 1) := by decide +kernel
theorem dX7_comes_36 : decode cX7_comes 36 = .ok (.iconst 3, 1) := by decide +kernel
theorem dX7_comes_37 : decode cX7_comes 37 = .ok (.iadd, 1) := by decide +kernel
theorem dX7_comes_38 : decode cX7_comes 38 = .ok (.iconst 0, 1) := by decide +kernel
theorem dX7_comes_39 : decode cX7_comes 39 = .ok (.iastore, 1) := by decide +kernel
theorem dX7_comes_40 : decode cX7_comes 40 = .ok (.aload_n 0, 1) := by decide +kernel
theorem dX7_comes_41 : decode cX7_comes 41 = .ok (.getfield 7, 3) := by decide +kernel
theorem dX7_comes_44 : decode cX7_comes 44 = .ok (.iload_n 3, 1) := by decide +kernel
theorem dX7_comes_45 : decode cX7_comes 45 = .ok (.iconst 4, 1) := by decide +kernel
theorem dX7_comes_46 : decode cX7_comes 46 = .ok (.iadd, 1) := by decide +kernel
theorem dX7_comes_47 : decode cX7_comes 47 = .ok (.aload_n 0, 1) := by decide +kernel
theorem dX7_comes_48 : decode cX7_comes 48 = .ok (.getfield 7, 3) := by decide +kernel
theorem dX7_comes_51 : decode cX7_comes 51 = .ok (.iconst 0, 1) := by decide +kernel
theorem dX7_comes_52 : decode cX7_comes 52 = .ok (.iaload, 1) := by decide +kernel
theorem dX7_comes_53 : decode cX7_comes 53 = .ok (.iastore, 1) := by decide +kernel
theorem dX7_comes_54 : decode cX7_comes 54 = .ok (.aload_n 0, 1) := by decide +kernel
theorem dX7_comes_55 : decode cX7_comes 55 = .ok (.getfield 7, 3) := by decide +kernel
theorem dX7_comes_58 : decode cX7_comes 58 = .ok (.iload_n 3, 1) := by decide +kernel
theorem dX7_comes_59 : decode cX7_comes 59 = .ok (.iconst 5, 1) := by decide +kernel
theorem dX7_comes_60 : decode cX7_comes 60 = .ok (.iadd, 1) := by decide +kernel
theorem dX7_comes_61 : decode cX7_comes 61 = .ok (.aload_n 0, 1) := by decide +kernel
theorem dX7_comes_62 : decode cX7_comes 62 = .ok (.iload_n 1, 1) := by decide +kernel
theorem dX7_comes_63 : decode cX7_comes 63 = .ok (.invokevirtual 233, 3) := by decide +kernel
theorem dX7_comes_66 : decode cX7_comes 66 = .ok (.iastore, 1) := by decide +kernel
theorem dX7_comes_67 : decode cX7_comes 67 = .ok (.iconst 0, 1) := by decide +kernel
theorem dX7_comes_68 : decode cX7_comes 68 = .ok (.istore 4, 2) := by decide +kernel
theorem dX7_comes_70 : decode cX7_comes 70 = .ok (.iload 4, 2) := by decide +kernel
theorem dX7_comes_72 : decode cX7_comes 72 = .ok (.aload_n 0, 1) := by decide +kernel
theorem dX7_comes_73 : decode cX7_comes 73 = .ok (.getfield 7, 3) := by decide +kernel
theorem dX7_comes_76 : decode cX7_comes 76 = .ok (.iload_n 3, 1) := by decide +kernel
theorem dX7_comes_77 : decode cX7_comes 77 = .ok (.iconst 5, 1) := by decide +kernel
theorem dX7_comes_78 : decode cX7_comes 78 = .ok (.iadd, 1) := by decide +kernel
theorem dX7_comes_79 : decode cX7_comes 79 = .ok (.iaload, 1) := by decide +kernel
theorem dX7_comes_80 : decode cX7_comes 80 = .ok (.if_icmp .ge 23, 3) := by decide +kernel
theorem dX7_comes_83 : decode cX7_comes 83 = .ok (.aload_n 0, 1) := by decide +kernel
theorem dX7_comes_84 : decode cX7_comes 84 = .ok (.iload_n 2, 1) := by decide +kernel
theorem dX7_comes_85 : decode cX7_comes 85 = .ok (.iload 4, 2) := by decide +kernel
theorem dX7_comes_87 : decode cX7_comes 87 = .ok (.aload_n 0, 1) := by decide +kernel
theorem dX7_comes_88 : decode cX7_comes 88 = .ok (.iload_n 1, 1) := by decide +kernel
theorem dX7_comes_89 : decode cX7_comes 89 = .ok (.iload 4, 2) := by decide +kernel
theorem dX7_comes_91 : decode cX7_comes 91 = .ok (.invokevirtual 236, 3) := by decide +kernel
theorem dX7_comes_94 : decode cX7_comes 94 = .ok (.invokevirtual 181, 3) := by decide +kernel
theorem dX7_comes_97 : decode cX7_comes 97 = .ok (.iinc 4 1, 3) := by decide +kernel
theorem dX7_comes_100 : decode cX7_comes 100 = .ok (.goto (-30), 3) := by decide +kernel
theorem dX7_comes_103 : decode cX7_comes 103 = .ok (.aload_n 0, 1) := by decide +kernel
theorem dX7_comes_104 : decode cX7_comes 104 = .ok (.getfield 7, 3) := by decide +kernel
theorem dX7_comes_107 : decode cX7_comes 107 = .ok (.iload_n 3, 1) := by decide +kernel
theorem dX7_comes_108 : decode cX7_comes 108 = .ok (.iconst 1, 1) := by decide +kernel
theorem dX7_comes_109 : decode cX7_comes 109 = .ok (.iadd, 1) := by decide +kernel
theorem dX7_comes_110 : decode cX7_comes 110 = .ok (.aload_n 0, 1) := by decide +kernel
theorem dX7_comes_111 : decode cX7_comes 111 = .ok (.iload_n 2, 1) := by decide +kernel
theorem dX7_comes_112 : decode cX7_comes 112 = .ok (.invokevirtual 185, 3) := by decide +kernel
theorem dX7_comes_115 : decode cX7_comes 115 = .ok (.iastore, 1) := by decide +kernel
theorem dX7_comes_116 : decode cX7_comes 116 = .ok (.aload_n 0, 1) := by decide +kernel
theorem dX7_comes_117 : decode cX7_comes 117 = .ok (.getfield 7, 3) := by decide +kernel
theorem dX7_comes_120 : decode cX7_comes 120 = .ok (.iconst 2, 1) := by decide +kernel
theorem dX7_comes_121 : decode cX7_comes 121 = .ok (.dup2, 1) := by decide +kernel
theorem dX7_comes_122 : decode cX7_comes 122 = .ok (.iaload, 1) := by decide +kernel
theorem dX7_comes_123 : decode cX7_comes 123 = .ok (.iconst 1, 1) := by decide +kernel
theorem dX7_comes_124 : decode cX7_comes 124 = .ok (.iadd, 1) := by decide +kernel
theorem dX7_comes_125 : decode cX7_comes 125 = .ok (.iastore, 1) := by decide +kernel
theorem dX7_comes_126 : decode cX7_comes 126 = .ok (.iload_n 2, 1) := by decide +kernel
theorem dX7_comes_127 : decode cX7_comes 127 = .ok (.ireturn, 1) := by decide +kernel
theorem dX7_addWish_0 : decode cX7_addWish 0 = .ok (.aload_n 0, 1) := by decide +kernel
theorem dX7_addWish_1 : decode cX7_addWish 1 = .ok (.invokevirtual 239, 3) := by decide +kernel
theorem dX7_addWish_4 : decode cX7_addWish 4 = .ok (.istore_n 1, 1) := by decide +kernel
theorem dX7_addWish_5 : decode cX7_addWish 5 = .ok (.iload_n 1, 1) := by decide +kernel
theorem dX7_addWish_6 : decode cX7_addWish 6 = .ok (.ifCond .lt 8, 3) := by decide +kernel
theorem dX7_addWish_9 : decode cX7_addWish 9 = .ok (.bipush (-100), 2) := by decide +kernel
theorem dX7_addWish_11 : decode cX7_addWish 11 = .ok (.iload_n 1, 1) := by decide +kernel
theorem dX7_addWish_12 : decode cX7_addWish 12 = .ok (.isub, 1) := by decide +kernel
theorem dX7_addWish_13 : decode cX7_addWish 13 = .ok (.ireturn, 1) := by decide +kernel
theorem dX7_addWish_14 : decode cX7_addWish 14 = .ok (.aload_n 0, 1) := by decide +kernel
theorem dX7_addWish_15 : decode cX7_addWish 15 = .ok (.getfield 7, 3) := by decide +kernel
theorem dX7_addWish_18 : decode cX7_addWish 18 = .ok (.iconst 1, 1) := by decide +kernel
theorem dX7_addWish_19 : decode cX7_addWish 19 = .ok (.iaload, 1) := by decide +kernel
theorem dX7_addWish_20 : decode cX7_addWish 20 = .ok (.iconst 1, 1) := by decide +kernel
theorem dX7_addWish_21 : decode cX7_addWish 21 = .ok (.if_icmp .ne 6, 3) := by decide +kernel
theorem dX7_addWish_24 : decode cX7_addWish 24 = .ok (.bipush (-4), 2) := by decide +kernel
theorem dX7_addWish_26 : decode cX7_addWish 26 = .ok (.ireturn, 1) := by decide +kernel
theorem dX7_addWish_27 : decode cX7_addWish 27 = .ok (.aload_n 0, 1) := by decide +kernel
theorem dX7_addWish_28 : decode cX7_addWish 28 = .ok (.invokevirtual 243, 3) := by decide +kernel
theorem dX7_addWish_31 : decode cX7_addWish 31 = .ok (.istore_n 2, 1) := by decide +kernel
theorem dX7_addWish_32 : decode cX7_addWish 32 = .ok (.aload_n 0, 1) := by decide +kernel
theorem dX7_addWish_33 : decode cX7_addWish 33 = .ok (.getfield 7, 3) := by decide +kernel
theorem dX7_addWish_36 : decode cX7_addWish 36 = .ok (.iconst 2, 1) := by decide +kernel
theorem dX7_addWish_37 : decode cX7_addWish 37 = .ok (.iaload, 1) := by decide +kernel
theorem dX7_addWish_38 : decode cX7_addWish 38 = .ok (.bipush 8, 2) := by decide +kernel
theorem dX7_addWish_40 : decode cX7_addWish 40 = .ok (.if_icmp .eq 13, 3) := by decide +kernel
theorem dX7_addWish_43 : decode cX7_addWish 43 = .ok (.aload_n 0, 1) := by decide +kernel
theorem dX7_addWish_44 : decode cX7_addWish 44 = .ok (.iload_n 2, 1) := by decide +kernel
theorem dX7_addWish_45 : decode cX7_addWish 45 = .ok (.invokevirtual 233, 3) := by decide +kernel
theorem dX7_addWish_48 : decode cX7_addWish 48 = .ok (.bipush 8, 2) := by decide +kernel
theorem dX7_addWish_50 : decode cX7_addWish 50 = .ok (.if_icmp .le 6, 3) := by decide +kernel
theorem dX7_addWish_53 : decode cX7_addWish 53 = .ok (.bipush (-3), 2) := by decide +kernel
theorem dX7_addWish_55 : decode cX7_addWish 55 = .ok (.ireturn, 1) := by decide +kernel
theorem dX7_addWish_56 : decode cX7_addWish 56 = .ok (.aload_n 0, 1) := by decide +kernel
theorem dX7_addWish_57 : decode cX7_addWish 57 = .ok (.invokevirtual 191, 3) := by decide +kernel
theorem dX7_addWish_60 : decode cX7_addWish 60 = .ok (.aload_n 0, 1) := by decide +kernel
theorem dX7_addWish_61 : decode cX7_addWish 61 = .ok (.iload_n 2, 1) := by decide +kernel
theorem dX7_addWish_62 : decode cX7_addWish 62 = .ok (.invokevirtual 246, 3) := by decide +kernel
theorem dX7_addWish_65 : decode cX7_addWish 65 = .ok (.ireturn, 1) := by decide +kernel
theorem dX7_allOf_0 : decode cX7_allOf 0 = .ok (.aload_n 0, 1) := by decide +kernel
theorem dX7_allOf_1 : decode cX7_allOf 1 = .ok (.iconst 0, 1) := by decide +kernel
theorem dX7_allOf_2 : decode cX7_allOf 2 = .ok (.putfield 249, 3) := by decide +kernel
theorem dX7_allOf_5 : decode cX7_allOf 5 = .ok (.iconst 0, 1) := by decide +kernel
theorem dX7_allOf_6 : decode cX7_allOf 6 = .ok (.istore_n 2, 1) := by decide +kernel
theorem dX7_allOf_7 : decode cX7_allOf 7 = .ok (.iload_n 2, 1) := by decide +kernel
theorem dX7_allOf_8 : decode cX7_allOf 8 = .ok (.aload_n 0, 1) := by decide +kernel
theorem dX7_allOf_9 : decode cX7_allOf 9 = .ok (.getfield 7, 3) := by decide +kernel
theorem dX7_allOf_12 : decode cX7_allOf 12 = .ok (.iload_n 1, 1) := by decide +kernel
theorem dX7_allOf_13 : decode cX7_allOf 13 = .ok (.invokestatic 74, 3) := by decide +kernel
theorem dX7_allOf_16 : decode cX7_allOf 16 = .ok (.iconst 5, 1) := by decide +kernel
theorem dX7_allOf_17 : decode cX7_allOf 17 = .ok (.iadd, 1) := by decide +kernel
theorem dX7_allOf_18 : decode cX7_allOf 18 = .ok (.iaload, 1) := by decide +kernel
theorem dX7_allOf_19 : decode cX7_allOf 19 = .ok (.if_icmp .ge 31, 3) := by decide +kernel
theorem dX7_allOf_22 : decode cX7_allOf 22 = .ok (.aload_n 0, 1) := by decide +kernel
theorem dX7_allOf_23 : decode cX7_allOf 23 = .ok (.getfield 56, 3) := by decide +kernel
theorem dX7_allOf_26 : decode cX7_allOf 26 = .ok (.iload_n 2, 1) := by decide +kernel
theorem dX7_allOf_27 : decode cX7_allOf 27 = .ok (.aload_n 0, 1) := by decide +kernel
theorem dX7_allOf_28 : decode cX7_allOf 28 = .ok (.iload_n 1, 1) := by decide +kernel
theorem dX7_allOf_29 : decode cX7_allOf 29 = .ok (.iload_n 2, 1) := by decide +kernel
theorem dX7_allOf_30 : decode cX7_allOf 30 = .ok (.invokevirtual 153, 3) := by decide +kernel
theorem dX7_allOf_33 : decode cX7_allOf 33 = .ok (.iastore, 1) := by decide +kernel
theorem dX7_allOf_34 : decode cX7_allOf 34 = .ok (.aload_n 0, 1) := by decide +kernel
theorem dX7_allOf_35 : decode cX7_allOf 35 = .ok (.dup, 1) := by decide +kernel
theorem dX7_allOf_36 : decode cX7_allOf 36 = .ok (.getfield 249, 3) := by decide +kernel
theorem dX7_allOf_39 : decode cX7_allOf 39 = .ok (.iconst 1, 1) := by decide +kernel
theorem dX7_allOf_40 : decode cX7_allOf 40 = .ok (.iadd, 1) := by decide +kernel
theorem dX7_allOf_41 : decode cX7_allOf 41 = .ok (.putfield 249, 3) := by decide +kernel
theorem dX7_allOf_44 : decode cX7_allOf 44 = .ok (.iinc 2 1, 3) := by decide +kernel
theorem dX7_allOf_47 : decode cX7_allOf 47 = .ok (.goto (-40), 3) := by decide +kernel
theorem dX7_allOf_50 : decode cX7_allOf 50 = .ok (.aload_n 0, 1) := by decide +kernel
theorem dX7_allOf_51 : decode cX7_allOf 51 = .ok (.invokevirtual 121, 3) := by decide +kernel
theorem dX7_allOf_54 : decode cX7_allOf 54 = .ok (.iconst 0, 1) := by decide +kernel
theorem dX7_allOf_55 : decode cX7_allOf 55 = .ok (.istore_n 2, 1) := by decide +kernel
theorem dX7_allOf_56 : decode cX7_allOf 56 = .ok (.iload_n 2, 1) := by decide +kernel
theorem dX7_allOf_57 : decode cX7_allOf 57 = .ok (.aload_n 0, 1) := by decide +kernel
theorem dX7_allOf_58 : decode cX7_allOf 58 = .ok (.getfield 249, 3) := by decide +kernel
theorem dX7_allOf_61 : decode cX7_allOf 61 = .ok (.if_icmp .ge 20, 3) := by decide +kernel
theorem dX7_allOf_64 : decode cX7_allOf 64 = .ok (.aload_n 0, 1) := by decide +kernel
theorem dX7_allOf_65 : decode cX7_allOf 65 = .ok (.iconst 5, 1) := by decide +kernel
theorem dX7_allOf_66 : decode cX7_allOf 66 = .ok (.aload_n 0, 1) := by decide +kernel
theorem dX7_allOf_67 : decode cX7_allOf 67 = .ok (.getfield 56, 3) := by decide +kernel
theorem dX7_allOf_70 : decode cX7_allOf 70 = .ok (.iload_n 2, 1) := by decide +kernel
theorem dX7_allOf_71 : decode cX7_allOf 71 = .ok (.iaload, 1) := by decide +kernel
theorem dX7_allOf_72 : decode cX7_allOf 72 = .ok (.invokevirtual 124, 3) := by decide +kernel
theorem dX7_allOf_75 : decode cX7_allOf 75 = .ok (.iinc 2 1, 3) := by decide +kernel
theorem dX7_allOf_78 : decode cX7_allOf 78 = .ok (.goto (-22), 3) := by decide +kernel
theorem dX7_allOf_81 : decode cX7_allOf 81 = .ok (.aload_n 0, 1) := by decide +kernel
theorem dX7_allOf_82 : decode cX7_allOf 82 = .ok (.iconst 5, 1) := by decide +kernel
theorem dX7_allOf_83 : decode cX7_allOf 83 = .ok (.invokevirtual 127, 3) := by decide +kernel
theorem dX7_allOf_86 : decode cX7_allOf 86 = .ok (.ireturn, 1) := by decide +kernel
theorem dX7_join_0 : decode cX7_join 0 = .ok (.aload_n 0, 1) := by decide +kernel
theorem dX7_join_1 : decode cX7_join 1 = .ok (.iload_n 1, 1) := by decide +kernel
theorem dX7_join_2 : decode cX7_join 2 = .ok (.invokevirtual 174, 3) := by decide +kernel
theorem dX7_join_5 : decode cX7_join 5 = .ok (.ifCond .eq 11, 3) := by decide +kernel
theorem dX7_join_8 : decode cX7_join 8 = .ok (.aload_n 0, 1) := by decide +kernel
theorem dX7_join_9 : decode cX7_join 9 = .ok (.iload_n 2, 1) := by decide +kernel
theorem dX7_join_10 : decode cX7_join 10 = .ok (.invokevirtual 174, 3) := by decide +kernel
theorem dX7_join_13 : decode cX7_join 13 = .ok (.ifCond .ne 5, 3) := by decide +kernel
theorem dX7_join_16 : decode cX7_join 16 = .ok (.iconst (-1), 1) := by decide +kernel
theorem dX7_join_17 : decode cX7_join 17 = .ok (.ireturn, 1) := by decide +kernel
theorem dX7_join_18 : decode cX7_join 18 = .ok (.aload_n 0, 1) := by decide +kernel
theorem dX7_join_19 : decode cX7_join 19 = .ok (.getfield 7, 3) := by decide +kernel
theorem dX7_join_22 : decode cX7_join 22 = .ok (.iconst 1, 1) := by decide +kernel
theorem dX7_join_23 : decode cX7_join 23 = .ok (.iaload, 1) := by decide +kernel
theorem dX7_join_24 : decode cX7_join 24 = .ok (.iconst 1, 1) := by decide +kernel
theorem dX7_join_25 : decode cX7_join 25 = .ok (.if_icmp .ne 6, 3) := by decide +kernel
theorem dX7_join_28 : decode cX7_join 28 = .ok (.bipush (-4), 2) := by decide +kernel
theorem dX7_join_30 : decode cX7_join 30 = .ok (.ireturn, 1) := by decide +kernel
theorem dX7_join_31 : decode cX7_join 31 = .ok (.aload_n 0, 1) := by decide +kernel
theorem dX7_join_32 : decode cX7_join 32 = .ok (.invokevirtual 62, 3) := by decide +kernel
theorem dX7_join_35 : decode cX7_join 35 = .ok (.aload_n 0, 1) := by decide +kernel
theorem dX7_join_36 : decode cX7_join 36 = .ok (.iload_n 1, 1) := by decide +kernel
theorem dX7_join_37 : decode cX7_join 37 = .ok (.invokevirtual 252, 3) := by decide +kernel
theorem dX7_join_40 : decode cX7_join 40 = .ok (.istore 4, 2) := by decide +kernel
theorem dX7_join_42 : decode cX7_join 42 = .ok (.aload_n 0, 1) := by decide +kernel
theorem dX7_join_43 : decode cX7_join 43 = .ok (.iload_n 3, 1) := by decide +kernel
theorem dX7_join_44 : decode cX7_join 44 = .ok (.ifCond .eq 8, 3) := by decide +kernel
theorem dX7_join_47 : decode cX7_join 47 = .ok (.bipush 6, 2) := by decide +kernel
theorem dX7_join_49 : decode cX7_join 49 = .ok (.goto 4, 3) := by decide +kernel
theorem dX7_join_52 : decode cX7_join 52 = .ok (.iconst 5, 1) := by decide +kernel
theorem dX7_join_53 : decode cX7_join 53 = .ok (.iload 4, 2) := by decide +kernel
theorem dX7_join_55 : decode cX7_join 55 = .ok (.aload_n 0, 1) := by decide +kernel
theorem dX7_join_56 : decode cX7_join 56 = .ok (.iload_n 2, 1) := by decide +kernel
theorem dX7_join_57 : decode cX7_join 57 = .ok (.invokevirtual 252, 3) := by decide +kernel
theorem dX7_join_60 : decode cX7_join 60 = .ok (.invokevirtual 137, 3) := by decide +kernel
theorem dX7_join_63 : decode cX7_join 63 = .ok (.istore 5, 2) := by decide +kernel
theorem dX7_join_65 : decode cX7_join 65 = .ok (.aload_n 0, 1) := by decide +kernel
theorem dX7_join_66 : decode cX7_join 66 = .ok (.iload 5, 2) := by decide +kernel
theorem dX7_join_68 : decode cX7_join 68 = .ok (.invokevirtual 233, 3) := by decide +kernel
theorem dX7_join_71 : decode cX7_join 71 = .ok (.bipush 8, 2) := by decide +kernel
theorem dX7_join_73 : decode cX7_join 73 = .ok (.if_icmp .le 7, 3) := by decide +kernel
theorem dX7_join_76 : decode cX7_join 76 = .ok (.iconst 1, 1) := by decide +kernel
theorem dX7_join_77 : decode cX7_join 77 = .ok (.goto 4, 3) := by decide +kernel
theorem dX7_join_80 : decode cX7_join 80 = .ok (.iconst 0, 1) := by decide +kernel
theorem dX7_join_81 : decode cX7_join 81 = .ok (.istore 6, 2) := by decide +kernel
theorem dX7_join_83 : decode cX7_join 83 = .ok (.iconst 0, 1) := by decide +kernel
theorem dX7_join_84 : decode cX7_join 84 = .ok (.istore 7, 2) := by decide +kernel
theorem dX7_join_86 : decode cX7_join 86 = .ok (.iload 7, 2) := by decide +kernel
theorem dX7_join_88 : decode cX7_join 88 = .ok (.aload_n 0, 1) := by decide +kernel
theorem dX7_join_89 : decode cX7_join 89 = .ok (.iload 5, 2) := by decide +kernel
theorem dX7_join_91 : decode cX7_join 91 = .ok (.invokevirtual 233, 3) := by decide +kernel
theorem dX7_join_94 : decode cX7_join 94 = .ok (.if_icmp .ge 39, 3) := by decide +kernel
theorem dX7_join_97 : decode cX7_join 97 = .ok (.iload 6, 2) := by decide +kernel
theorem dX7_join_99 : decode cX7_join 99 = .ok (.ifCond .ne 21, 3) := by decide +kernel
theorem dX7_join_102 : decode cX7_join 102 = .ok (.aload_n 0, 1) := by decide +kernel
theorem dX7_join_103 : decode cX7_join 103 = .ok (.getfield 29, 3) := by decide +kernel
theorem dX7_join_106 : decode cX7_join 106 = .ok (.aload_n 0, 1) := by decide +kernel
theorem dX7_join_107 : decode cX7_join 107 = .ok (.iload 5, 2) := by decide +kernel
theorem dX7_join_109 : decode cX7_join 109 = .ok (.iload 7, 2) := by decide +kernel
theorem dX7_join_111 : decode cX7_join 111 = .ok (.invokevirtual 236, 3) := by decide +kernel
theorem dX7_join_114 : decode cX7_join 114 = .ok (.iaload, 1) := by decide +kernel
theorem dX7_join_115 : decode cX7_join 115 = .ok (.bipush 120, 2) := by decide +kernel
theorem dX7_join_117 : decode cX7_join 117 = .ok (.if_icmp .le 7, 3) := by decide +kernel
theorem dX7_join_120 : decode cX7_join 120 = .ok (.iconst 1, 1) := by decide +kernel
theorem dX7_join_121 : decode cX7_join 121 = .ok (.goto 4, 3) := by decide +kernel
theorem dX7_join_124 : decode cX7_join 124 = .ok (.iconst 0, 1) := by decide +kernel
theorem dX7_join_125 : decode cX7_join 125 = .ok (.istore 6, 2) := by decide +kernel
theorem dX7_join_127 : decode cX7_join 127 = .ok (.iinc 7 1, 3) := by decide +kernel
theorem dX7_join_130 : decode cX7_join 130 = .ok (.goto (-44), 3) := by decide +kernel
theorem dX7_join_133 : decode cX7_join 133 = .ok (.aload_n 0, 1) := by decide +kernel
theorem dX7_join_134 : decode cX7_join 134 = .ok (.getfield 7, 3) := by decide +kernel
theorem dX7_join_137 : decode cX7_join 137 = .ok (.iconst 2, 1) := by decide +kernel
theorem dX7_join_138 : decode cX7_join 138 = .ok (.iaload, 1) := by decide +kernel
theorem dX7_join_139 : decode cX7_join 139 = .ok (.bipush 8, 2) := by decide +kernel
theorem dX7_join_141 : decode cX7_join 141 = .ok (.if_icmp .eq 8, 3) := by decide +kernel
theorem dX7_join_144 : decode cX7_join 144 = .ok (.iload 6, 2) := by decide +kernel
theorem dX7_join_146 : decode cX7_join 146 = .ok (.ifCond .eq 6, 3) := by decide +kernel
theorem dX7_join_149 : decode cX7_join 149 = .ok (.bipush (-3), 2) := by decide +kernel
theorem dX7_join_151 : decode cX7_join 151 = .ok (.ireturn, 1) := by decide +kernel
theorem dX7_join_152 : decode cX7_join 152 = .ok (.aload_n 0, 1) := by decide +kernel
theorem dX7_join_153 : decode cX7_join 153 = .ok (.invokevirtual 191, 3) := by decide +kernel
theorem dX7_join_156 : decode cX7_join 156 = .ok (.aload_n 0, 1) := by decide +kernel
theorem dX7_join_157 : decode cX7_join 157 = .ok (.iload 5, 2) := by decide +kernel
theorem dX7_join_159 : decode cX7_join 159 = .ok (.invokevirtual 246, 3) := by decide +kernel
theorem dX7_join_162 : decode cX7_join 162 = .ok (.ireturn, 1) := by decide +kernel
theorem dX7_thereMany_0 : decode cX7_thereMany 0 = .ok (.iconst 0, 1) := by decide +kernel
theorem dX7_thereMany_1 : decode cX7_thereMany 1 = .ok (.istore_n 1, 1) := by decide +kernel
theorem dX7_thereMany_2 : decode cX7_thereMany 2 = .ok (.iconst 0, 1) := by decide +kernel
theorem dX7_thereMany_3 : decode cX7_thereMany 3 = .ok (.istore_n 2, 1) := by decide +kernel
theorem dX7_thereMany_4 : decode cX7_thereMany 4 = .ok (.iload_n 2, 1) := by decide +kernel
theorem dX7_thereMany_5 : decode cX7_thereMany 5 = .ok (.bipush 8, 2) := by decide +kernel
theorem dX7_thereMany_7 : decode cX7_thereMany 7 = .ok (.if_icmp .ge 25, 3) := by decide +kernel
theorem dX7_thereMany_10 : decode cX7_thereMany 10 = .ok (.iload_n 1, 1) := by decide +kernel
theorem dX7_thereMany_11 : decode cX7_thereMany 11 = .ok (.aload_n 0, 1) := by decide +kernel
theorem dX7_thereMany_12 : decode cX7_thereMany 12 = .ok (.iload_n 2, 1) := by decide +kernel
theorem dX7_thereMany_13 : decode cX7_thereMany 13 = .ok (.invokevirtual 174, 3) := by decide +kernel
theorem dX7_thereMany_16 : decode cX7_thereMany 16 = .ok (.ifCond .eq 7, 3) := by decide +kernel
theorem dX7_thereMany_19 : decode cX7_thereMany 19 = .ok (.iconst 1, 1) := by decide +kernel
theorem dX7_thereMany_20 : decode cX7_thereMany 20 = .ok (.goto 4, 3) := by decide +kernel
theorem dX7_thereMany_23 : decode cX7_thereMany 23 = .ok (.iconst 0, 1) := by decide +kernel
theorem dX7_thereMany_24 : decode cX7_thereMany 24 = .ok (.iadd, 1) := by decide +kernel
theorem dX7_thereMany_25 : decode cX7_thereMany 25 = .ok (.istore_n 1, 1) := by decide +kernel
theorem dX7_thereMany_26 : decode cX7_thereMany 26 = .ok (.iinc 2 1, 3) := by decide +kernel
theorem dX7_thereMany_29 : decode cX7_thereMany 29 = .ok (.goto (-25), 3) := by decide +kernel
theorem dX7_thereMany_32 : decode cX7_thereMany 32 = .ok (.iload_n 1, 1) := by decide +kernel
theorem dX7_thereMany_33 : decode cX7_thereMany 33 = .ok (.ireturn, 1) := by decide +kernel
theorem dX7_removeWish_0 : decode cX7_removeWish 0 = .ok (.aload_n 0, 1) := by decide +kernel
theorem dX7_removeWish_1 : decode cX7_removeWish 1 = .ok (.iload_n 1, 1) := by decide +kernel
theorem dX7_removeWish_2 : decode cX7_removeWish 2 = .ok (.invokevirtual 174, 3) := by decide +kernel
theorem dX7_removeWish_5 : decode cX7_removeWish 5 = .ok (.ifCond .ne 5, 3) := by decide +kernel
theorem dX7_removeWish_8 : decode cX7_removeWish 8 = .ok (.iconst (-1), 1) := by decide +kernel
theorem dX7_removeWish_9 : decode cX7_removeWish 9 = .ok (.ireturn, 1) := by decide +kernel
theorem dX7_removeWish_10 : decode cX7_removeWish 10 = .ok (.aload_n 0, 1) := by decide +kernel
theorem dX7_removeWish_11 : decode cX7_removeWish 11 = .ok (.invokevirtual 191, 3) := by decide +kernel
theorem dX7_removeWish_14 : decode cX7_removeWish 14 = .ok (.aload_n 0, 1) := by decide +kernel
theorem dX7_removeWish_15 : decode cX7_removeWish 15 = .ok (.getfield 7, 3) := by decide +kernel
theorem dX7_removeWish_18 : decode cX7_removeWish 18 = .ok (.iload_n 1, 1) := by decide +kernel
theorem dX7_removeWish_19 : decode cX7_removeWish 19 = .ok (.invokestatic 74, 3) := by decide +kernel
theorem dX7_removeWish_22 : decode cX7_removeWish 22 = .ok (.iconst 0, 1) := by decide +kernel
theorem dX7_removeWish_23 : decode cX7_removeWish 23 = .ok (.iadd, 1) := by decide +kernel
theorem dX7_removeWish_24 : decode cX7_removeWish 24 = .ok (.iconst 0, 1) := by decide +kernel
theorem dX7_removeWish_25 : decode cX7_removeWish 25 = .ok (.iastore, 1) := by decide +kernel
theorem dX7_removeWish_26 : decode cX7_removeWish 26 = .ok (.aload_n 0, 1) := by decide +kernel
theorem dX7_removeWish_27 : decode cX7_removeWish 27 = .ok (.invokevirtual 255, 3) := by decide +kernel
theorem dX7_removeWish_30 : decode cX7_removeWish 30 = .ok (.ireturn, 1) := by decide +kernel
theorem dX7_type_0 : decode cX7_type 0 = .ok (.aload_n 0, 1) := by decide +kernel
theorem dX7_type_1 : decode cX7_type 1 = .ok (.getfield 200, 3) := by decide +kernel
theorem dX7_type_4 : decode cX7_type 4 = .ok (.bipush 60, 2) := by decide +kernel
theorem dX7_type_6 : decode cX7_type 6 = .ok (.if_icmp .ne 6, 3) := by decide +kernel
theorem dX7_type_9 : decode cX7_type 9 = .ok (.bipush (-3), 2) := by decide +kernel
theorem dX7_type_11 : decode cX7_type 11 = .ok (.ireturn, 1) := by decide +kernel
theorem dX7_type_12 : decode cX7_type 12 = .ok (.aload_n 0, 1) := by decide +kernel
theorem dX7_type_13 : decode cX7_type 13 = .ok (.getfield 59, 3) := by decide +kernel
theorem dX7_type_16 : decode cX7_type 16 = .ok (.aload_n 0, 1) := by decide +kernel
theorem dX7_type_17 : decode cX7_type 17 = .ok (.getfield 200, 3) := by decide +kernel
theorem dX7_type_20 : decode cX7_type 20 = .ok (.iload_n 1, 1) := by decide +kernel
theorem dX7_type_21 : decode cX7_type 21 = .ok (.castore, 1) := by decide +kernel
theorem dX7_type_22 : decode cX7_type 22 = .ok (.aload_n 0, 1) := by decide +kernel
theorem dX7_type_23 : decode cX7_type 23 = .ok (.dup, 1) := by decide +kernel
theorem dX7_type_24 : decode cX7_type 24 = .ok (.getfield 200, 3) := by decide +kernel
theorem dX7_type_27 : decode cX7_type 27 = .ok (.iconst 1, 1) := by decide +kernel
theorem dX7_type_28 : decode cX7_type 28 = .ok (.iadd, 1) := by decide +kernel
theorem dX7_type_29 : decode cX7_type 29 = .ok (.putfield 200, 3) := by decide +kernel
theorem dX7_type_32 : decode cX7_type 32 = .ok (.aload_n 0, 1) := by decide +kernel
theorem dX7_type_33 : decode cX7_type 33 = .ok (.getfield 200, 3) := by decide +kernel
theorem dX7_type_36 : decode cX7_type 36 = .ok (.ireturn, 1) := by decide +kernel
theorem dX7_clearText_0 : decode cX7_clearText 0 = .ok (.aload_n 0, 1) := by decide +kernel
theorem dX7_clearText_1 : decode cX7_clearText 1 = .ok (.getfield 200, 3) := by decide +kernel
theorem dX7_clearText_4 : decode cX7_clearText 4 = .ok (.istore_n 1, 1) := by decide +kernel
theorem dX7_clearText_5 : decode cX7_clearText 5 = .ok (.aload_n 0, 1) := by decide +kernel
theorem dX7_clearText_6 : decode cX7_clearText 6 = .ok (.iconst 0, 1) := by decide +kernel
theorem dX7_clearText_7 : decode cX7_clearText 7 = .ok (.putfield 200, 3) := by decide +kernel
theorem dX7_clearText_10 : decode cX7_clearText 10 = .ok (.iload_n 1, 1) := by decide +kernel
theorem dX7_clearText_11 : decode cX7_clearText 11 = .ok (.ireturn, 1) := by decide +kernel
theorem dX7_undo_0 : decode cX7_undo 0 = .ok (.aload_n 0, 1) := by decide +kernel
theorem dX7_undo_1 : decode cX7_undo 1 = .ok (.getfield 65, 3) := by decide +kernel
theorem dX7_undo_4 : decode cX7_undo 4 = .ok (.ifCond .ne 6, 3) := by decide +kernel
theorem dX7_undo_7 : decode cX7_undo 7 = .ok (.bipush (-5), 2) := by decide +kernel
theorem dX7_undo_9 : decode cX7_undo 9 = .ok (.ireturn, 1) := by decide +kernel
theorem dX7_undo_10 : decode cX7_undo 10 = .ok (.aload_n 0, 1) := by decide +kernel
theorem dX7_undo_11 : decode cX7_undo 11 = .ok (.dup, 1) := by decide +kernel
theorem dX7_undo_12 : decode cX7_undo 12 = .ok (.getfield 65, 3) := by decide +kernel
theorem dX7_undo_15 : decode cX7_undo 15 = .ok (.iconst 1, 1) := by decide +kernel
theorem dX7_undo_16 : decode cX7_undo 16 = .ok (.isub, 1) := by decide +kernel
theorem dX7_undo_17 : decode cX7_undo 17 = .ok (.putfield 65, 3) := by decide +kernel
theorem dX7_undo_20 : decode cX7_undo 20 = .ok (.iconst 0, 1) := by decide +kernel
theorem dX7_undo_21 : decode cX7_undo 21 = .ok (.istore_n 1, 1) := by decide +kernel
theorem dX7_undo_22 : decode cX7_undo 22 = .ok (.iload_n 1, 1) := by decide +kernel
theorem dX7_undo_23 : decode cX7_undo 23 = .ok (.sipush 31088, 3) := by decide +kernel
theorem dX7_undo_26 : decode cX7_undo 26 = .ok (.if_icmp .ge 30, 3) := by decide +kernel
theorem dX7_undo_29 : decode cX7_undo 29 = .ok (.aload_n 0, 1) := by decide +kernel
theorem dX7_undo_30 : decode cX7_undo 30 = .ok (.getfield 7, 3) := by decide +kernel
theorem dX7_undo_33 : decode cX7_undo 33 = .ok (.iload_n 1, 1) := by decide +kernel
theorem dX7_undo_34 : decode cX7_undo 34 = .ok (.aload_n 0, 1) := by decide +kernel
theorem dX7_undo_35 : decode cX7_undo 35 = .ok (.getfield 14, 3) := by decide +kernel
theorem dX7_undo_38 : decode cX7_undo 38 = .ok (.sipush 31088, 3) := by decide +kernel
theorem dX7_undo_41 : decode cX7_undo 41 = .ok (.aload_n 0, 1) := by decide +kernel
theorem dX7_undo_42 : decode cX7_undo 42 = .ok (.getfield 65, 3) := by decide +kernel
theorem dX7_undo_45 : decode cX7_undo 45 = .ok (.imul, 1) := by decide +kernel
theorem dX7_undo_46 : decode cX7_undo 46 = .ok (.iload_n 1, 1) := by decide +kernel
theorem dX7_undo_47 : decode cX7_undo 47 = .ok (.iadd, 1) := by decide +kernel
theorem dX7_undo_48 : decode cX7_undo 48 = .ok (.iaload, 1) := by decide +kernel
theorem dX7_undo_49 : decode cX7_undo 49 = .ok (.iastore, 1) := by decide +kernel
theorem dX7_undo_50 : decode cX7_undo 50 = .ok (.iinc 1 1, 3) := by decide +kernel
theorem dX7_undo_53 : decode cX7_undo 53 = .ok (.goto (-31), 3) := by decide +kernel
theorem dX7_undo_56 : decode cX7_undo 56 = .ok (.aload_n 0, 1) := by decide +kernel
theorem dX7_undo_57 : decode cX7_undo 57 = .ok (.getfield 65, 3) := by decide +kernel
theorem dX7_undo_60 : decode cX7_undo 60 = .ok (.ireturn, 1) := by decide +kernel
theorem dX7_keep_0 : decode cX7_keep 0 = .ok (.iconst 0, 1) := by decide +kernel
theorem dX7_keep_1 : decode cX7_keep 1 = .ok (.istore_n 1, 1) := by decide +kernel
theorem dX7_keep_2 : decode cX7_keep 2 = .ok (.iload_n 1, 1) := by decide +kernel
theorem dX7_keep_3 : decode cX7_keep 3 = .ok (.sipush 31088, 3) := by decide +kernel
theorem dX7_keep_6 : decode cX7_keep 6 = .ok (.if_icmp .ge 21, 3) := by decide +kernel
theorem dX7_keep_9 : decode cX7_keep 9 = .ok (.aload_n 0, 1) := by decide +kernel
theorem dX7_keep_10 : decode cX7_keep 10 = .ok (.getfield 17, 3) := by decide +kernel
theorem dX7_keep_13 : decode cX7_keep 13 = .ok (.iload_n 1, 1) := by decide +kernel
theorem dX7_keep_14 : decode cX7_keep 14 = .ok (.aload_n 0, 1) := by decide +kernel
theorem dX7_keep_15 : decode cX7_keep 15 = .ok (.getfield 7, 3) := by decide +kernel
theorem dX7_keep_18 : decode cX7_keep 18 = .ok (.iload_n 1, 1) := by decide +kernel
theorem dX7_keep_19 : decode cX7_keep 19 = .ok (.iaload, 1) := by decide +kernel
theorem dX7_keep_20 : decode cX7_keep 20 = .ok (.iastore, 1) := by decide +kernel
theorem dX7_keep_21 : decode cX7_keep 21 = .ok (.iinc 1 1, 3) := by decide +kernel
theorem dX7_keep_24 : decode cX7_keep 24 = .ok (.goto (-22), 3) := by decide +kernel
theorem dX7_keep_27 : decode cX7_keep 27 = .ok (.aload_n 0, 1) := by decide +kernel
theorem dX7_keep_28 : decode cX7_keep 28 = .ok (.iconst 1, 1) := by decide +kernel
theorem dX7_keep_29 : decode cX7_keep 29 = .ok (.putfield 258, 3) := by decide +kernel
theorem dX7_keep_32 : decode cX7_keep 32 = .ok (.aload_n 0, 1) := by decide +kernel
theorem dX7_keep_33 : decode cX7_keep 33 = .ok (.getfield 7, 3) := by decide +kernel
theorem dX7_keep_36 : decode cX7_keep 36 = .ok (.iconst 0, 1) := by decide +kernel
theorem dX7_keep_37 : decode cX7_keep 37 = .ok (.iaload, 1) := by decide +kernel
theorem dX7_keep_38 : decode cX7_keep 38 = .ok (.ireturn, 1) := by decide +kernel
theorem dX7_restore_0 : decode cX7_restore 0 = .ok (.aload_n 0, 1) := by decide +kernel
theorem dX7_restore_1 : decode cX7_restore 1 = .ok (.getfield 258, 3) := by decide +kernel
theorem dX7_restore_4 : decode cX7_restore 4 = .ok (.ifCond .ne 6, 3) := by decide +kernel
theorem dX7_restore_7 : decode cX7_restore 7 = .ok (.bipush (-5), 2) := by decide +kernel
theorem dX7_restore_9 : decode cX7_restore 9 = .ok (.ireturn, 1) := by decide +kernel
theorem dX7_restore_10 : decode cX7_restore 10 = .ok (.aload_n 0, 1) := by decide +kernel
theorem dX7_restore_11 : decode cX7_restore 11 = .ok (.invokevirtual 191, 3) := by decide +kernel
theorem dX7_restore_14 : decode cX7_restore 14 = .ok (.iconst 0, 1) := by decide +kernel
theorem dX7_restore_15 : decode cX7_restore 15 = .ok (.istore_n 1, 1) := by decide +kernel
theorem dX7_restore_16 : decode cX7_restore 16 = .ok (.iload_n 1, 1) := by decide +kernel
theorem dX7_restore_17 : decode cX7_restore 17 = .ok (.sipush 31088, 3) := by decide +kernel
theorem dX7_restore_20 : decode cX7_restore 20 = .ok (.if_icmp .ge 21, 3) := by decide +kernel
theorem dX7_restore_23 : decode cX7_restore 23 = .ok (.aload_n 0, 1) := by decide +kernel
theorem dX7_restore_24 : decode cX7_restore 24 = .ok (.getfield 7, 3) := by decide +kernel
theorem dX7_restore_27 : decode cX7_restore 27 = .ok (.iload_n 1, 1) := by decide +kernel
theorem dX7_restore_28 : decode cX7_restore 28 = .ok (.aload_n 0, 1) := by decide +kernel
theorem dX7_restore_29 : decode cX7_restore 29 = .ok (.getfield 17, 3) := by decide +kernel
theorem dX7_restore_32 : decode cX7_restore 32 = .ok (.iload_n 1, 1) := by decide +kernel
theorem dX7_restore_33 : decode cX7_restore 33 = .ok (.iaload, 1) := by decide +kernel
theorem dX7_restore_34 : decode cX7_restore 34 = .ok (.iastore, 1) := by decide +kernel
theorem dX7_restore_35 : decode cX7_restore 35 = .ok (.iinc 1 1, 3) := by decide +kernel
theorem dX7_restore_38 : decode cX7_restore 38 = .ok (.goto (-22), 3) := by decide +kernel
theorem dX7_restore_41 : decode cX7_restore 41 = .ok (.aload_n 0, 1) := by decide +kernel
theorem dX7_restore_42 : decode cX7_restore 42 = .ok (.getfield 7, 3) := by decide +kernel
theorem dX7_restore_45 : decode cX7_restore 45 = .ok (.iconst 0, 1) := by decide +kernel
theorem dX7_restore_46 : decode cX7_restore 46 = .ok (.iaload, 1) := by decide +kernel
theorem dX7_restore_47 : decode cX7_restore 47 = .ok (.ireturn, 1) := by decide +kernel
theorem dX7_areTrue_0 : decode cX7_areTrue 0 = .ok (.iconst 1, 1) := by decide +kernel
theorem dX7_areTrue_1 : decode cX7_areTrue 1 = .ok (.istore_n 2, 1) := by decide +kernel
theorem dX7_areTrue_2 : decode cX7_areTrue 2 = .ok (.iconst 0, 1) := by decide +kernel
theorem dX7_areTrue_3 : decode cX7_areTrue 3 = .ok (.istore_n 3, 1) := by decide +kernel
theorem dX7_areTrue_4 : decode cX7_areTrue 4 = .ok (.iload_n 3, 1) := by decide +kernel
theorem dX7_areTrue_5 : decode cX7_areTrue 5 = .ok (.aload_n 0, 1) := by decide +kernel
theorem dX7_areTrue_6 : decode cX7_areTrue 6 = .ok (.getfield 7, 3) := by decide +kernel
theorem dX7_areTrue_9 : decode cX7_areTrue 9 = .ok (.iload_n 1, 1) := by decide +kernel
theorem dX7_areTrue_10 : decode cX7_areTrue 10 = .ok (.invokestatic 74, 3) := by decide +kernel
theorem dX7_areTrue_13 : decode cX7_areTrue 13 = .ok (.iconst 5, 1) := by decide +kernel
theorem dX7_areTrue_14 : decode cX7_areTrue 14 = .ok (.iadd, 1) := by decide +kernel
theorem dX7_areTrue_15 : decode cX7_areTrue 15 = .ok (.iaload, 1) := by decide +kernel
theorem dX7_areTrue_16 : decode cX7_areTrue 16 = .ok (.if_icmp .ge 32, 3) := by decide +kernel
theorem dX7_areTrue_19 : decode cX7_areTrue 19 = .ok (.iload_n 2, 1) := by decide +kernel
theorem dX7_areTrue_20 : decode cX7_areTrue 20 = .ok (.ifCond .eq 20, 3) := by decide +kernel
theorem dX7_areTrue_23 : decode cX7_areTrue 23 = .ok (.aload_n 0, 1) := by decide +kernel
theorem dX7_areTrue_24 : decode cX7_areTrue 24 = .ok (.aload_n 0, 1) := by decide +kernel
theorem dX7_areTrue_25 : decode cX7_areTrue 25 = .ok (.iload_n 1, 1) := by decide +kernel
theorem dX7_areTrue_26 : decode cX7_areTrue 26 = .ok (.iload_n 3, 1) := by decide +kernel
theorem dX7_areTrue_27 : decode cX7_areTrue 27 = .ok (.invokevirtual 165, 3) := by decide +kernel
theorem dX7_areTrue_30 : decode cX7_areTrue 30 = .ok (.invokevirtual 197, 3) := by decide +kernel
theorem dX7_areTrue_33 : decode cX7_areTrue 33 = .ok (.ifCond .eq 7, 3) := by decide +kernel
theorem dX7_areTrue_36 : decode cX7_areTrue 36 = .ok (.iconst 1, 1) := by decide +kernel
theorem dX7_areTrue_37 : decode cX7_areTrue 37 = .ok (.goto 4, 3) := by decide +kernel
theorem dX7_areTrue_40 : decode cX7_areTrue 40 = .ok (.iconst 0, 1) := by decide +kernel
theorem dX7_areTrue_41 : decode cX7_areTrue 41 = .ok (.istore_n 2, 1) := by decide +kernel
theorem dX7_areTrue_42 : decode cX7_areTrue 42 = .ok (.iinc 3 1, 3) := by decide +kernel
theorem dX7_areTrue_45 : decode cX7_areTrue 45 = .ok (.goto (-41), 3) := by decide +kernel
theorem dX7_areTrue_48 : decode cX7_areTrue 48 = .ok (.iload_n 2, 1) := by decide +kernel
theorem dX7_areTrue_49 : decode cX7_areTrue 49 = .ok (.ireturn, 1) := by decide +kernel
theorem dX7_sizes_0 : decode cX7_sizes 0 = .ok (.iconst 0, 1) := by decide +kernel
theorem dX7_sizes_1 : decode cX7_sizes 1 = .ok (.istore_n 2, 1) := by decide +kernel
theorem dX7_sizes_2 : decode cX7_sizes 2 = .ok (.iconst 0, 1) := by decide +kernel
theorem dX7_sizes_3 : decode cX7_sizes 3 = .ok (.istore_n 3, 1) := by decide +kernel
theorem dX7_sizes_4 : decode cX7_sizes 4 = .ok (.iload_n 3, 1) := by decide +kernel
theorem dX7_sizes_5 : decode cX7_sizes 5 = .ok (.aload_n 0, 1) := by decide +kernel
theorem dX7_sizes_6 : decode cX7_sizes 6 = .ok (.getfield 7, 3) := by decide +kernel
theorem dX7_sizes_9 : decode cX7_sizes 9 = .ok (.iload_n 1, 1) := by decide +kernel
theorem dX7_sizes_10 : decode cX7_sizes 10 = .ok (.invokestatic 74, 3) := by decide +kernel
theorem dX7_sizes_13 : decode cX7_sizes 13 = .ok (.iconst 5, 1) := by decide +kernel
theorem dX7_sizes_14 : decode cX7_sizes 14 = .ok (.iadd, 1) := by decide +kernel
theorem dX7_sizes_15 : decode cX7_sizes 15 = .ok (.iaload, 1) := by decide +kernel
theorem dX7_sizes_16 : decode cX7_sizes 16 = .ok (.if_icmp .ge 23, 3) := by decide +kernel
theorem dX7_sizes_19 : decode cX7_sizes 19 = .ok (.iload_n 2, 1) := by decide +kernel
theorem dX7_sizes_20 : decode cX7_sizes 20 = .ok (.aload_n 0, 1) := by decide +kernel
theorem dX7_sizes_21 : decode cX7_sizes 21 = .ok (.getfield 29, 3) := by decide +kernel
theorem dX7_sizes_24 : decode cX7_sizes 24 = .ok (.aload_n 0, 1) := by decide +kernel
theorem dX7_sizes_25 : decode cX7_sizes 25 = .ok (.iload_n 1, 1) := by decide +kernel
theorem dX7_sizes_26 : decode cX7_sizes 26 = .ok (.iload_n 3, 1) := by decide +kernel
theorem dX7_sizes_27 : decode cX7_sizes 27 = .ok (.invokevirtual 165, 3) := by decide +kernel
theorem dX7_sizes_30 : decode cX7_sizes 30 = .ok (.iaload, 1) := by decide +kernel
theorem dX7_sizes_31 : decode cX7_sizes 31 = .ok (.iadd, 1) := by decide +kernel
theorem dX7_sizes_32 : decode cX7_sizes 32 = .ok (.istore_n 2, 1) := by decide +kernel
theorem dX7_sizes_33 : decode cX7_sizes 33 = .ok (.iinc 3 1, 3) := by decide +kernel
theorem dX7_sizes_36 : decode cX7_sizes 36 = .ok (.goto (-32), 3) := by decide +kernel
theorem dX7_sizes_39 : decode cX7_sizes 39 = .ok (.iload_n 2, 1) := by decide +kernel
theorem dX7_sizes_40 : decode cX7_sizes 40 = .ok (.ireturn, 1) := by decide +kernel
theorem dX7_wish_0 : decode cX7_wish 0 = .ok (.aload_n 0, 1) := by decide +kernel
theorem dX7_wish_1 : decode cX7_wish 1 = .ok (.iload_n 1, 1) := by decide +kernel
theorem dX7_wish_2 : decode cX7_wish 2 = .ok (.invokevirtual 174, 3) := by decide +kernel
theorem dX7_wish_5 : decode cX7_wish 5 = .ok (.ifCond .ne 5, 3) := by decide +kernel
theorem dX7_wish_8 : decode cX7_wish 8 = .ok (.iconst (-1), 1) := by decide +kernel
theorem dX7_wish_9 : decode cX7_wish 9 = .ok (.ireturn, 1) := by decide +kernel
theorem dX7_wish_10 : decode cX7_wish 10 = .ok (.iload_n 1, 1) := by decide +kernel
theorem dX7_wish_11 : decode cX7_wish 11 = .ok (.invokestatic 74, 3) := by decide +kernel
theorem dX7_wish_14 : decode cX7_wish 14 = .ok (.istore_n 3, 1) := by decide +kernel
theorem dX7_wish_15 : decode cX7_wish 15 = .ok (.iload_n 2, 1) := by decide +kernel
theorem dX7_wish_16 : decode cX7_wish 16 = .ok (.tableswitch 148 0 8 #[52, 61, 70, 77, 84, 93, 102, 133, 139], 52) := by decide +kernel
theorem dX7_wish_68 : decode cX7_wish 68 = .ok (.aload_n 0, 1) := by decide +kernel
theorem dX7_wish_69 : decode cX7_wish 69 = .ok (.getfield 7, 3) := by decide +kernel
theorem dX7_wish_72 : decode cX7_wish 72 = .ok (.iload_n 3, 1) := by decide +kernel
theorem dX7_wish_73 : decode cX7_wish 73 = .ok (.iconst 1, 1) := by decide +kernel
theorem dX7_wish_74 : decode cX7_wish 74 = .ok (.iadd, 1) := by decide +kernel
theorem dX7_wish_75 : decode cX7_wish 75 = .ok (.iaload, 1) := by decide +kernel
theorem dX7_wish_76 : decode cX7_wish 76 = .ok (.ireturn, 1) := by decide +kernel
theorem dX7_wish_77 : decode cX7_wish 77 = .ok (.aload_n 0, 1) := by decide +kernel
theorem dX7_wish_78 : decode cX7_wish 78 = .ok (.getfield 7, 3) := by decide +kernel
theorem dX7_wish_81 : decode cX7_wish 81 = .ok (.iload_n 3, 1) := by decide +kernel
theorem dX7_wish_82 : decode cX7_wish 82 = .ok (.iconst 5, 1) := by decide +kernel
theorem dX7_wish_83 : decode cX7_wish 83 = .ok (.iadd, 1) := by decide +kernel
theorem dX7_wish_84 : decode cX7_wish 84 = .ok (.iaload, 1) := by decide +kernel
theorem dX7_wish_85 : decode cX7_wish 85 = .ok (.ireturn, 1) := by decide +kernel
theorem dX7_wish_86 : decode cX7_wish 86 = .ok (.aload_n 0, 1) := by decide +kernel
theorem dX7_wish_87 : decode cX7_wish 87 = .ok (.iload_n 1, 1) := by decide +kernel
theorem dX7_wish_88 : decode cX7_wish 88 = .ok (.iconst 0, 1) := by decide +kernel
theorem dX7_wish_89 : decode cX7_wish 89 = .ok (.invokevirtual 159, 3) := by decide +kernel
theorem dX7_wish_92 : decode cX7_wish 92 = .ok (.ireturn, 1) := by decide +kernel
theorem dX7_wish_93 : decode cX7_wish 93 = .ok (.aload_n 0, 1) := by decide +kernel
theorem dX7_wish_94 : decode cX7_wish 94 = .ok (.iload_n 1, 1) := by decide +kernel
theorem dX7_wish_95 : decode cX7_wish 95 = .ok (.iconst 1, 1) := by decide +kernel
theorem dX7_wish_96 : decode cX7_wish 96 = .ok (.invokevirtual 159, 3) := by decide +kernel
theorem dX7_wish_99 : decode cX7_wish 99 = .ok (.ireturn, 1) := by decide +kernel
theorem dX7_wish_100 : decode cX7_wish 100 = .ok (.aload_n 0, 1) := by decide +kernel
theorem dX7_wish_101 : decode cX7_wish 101 = .ok (.getfield 7, 3) := by decide +kernel
theorem dX7_wish_104 : decode cX7_wish 104 = .ok (.iload_n 3, 1) := by decide +kernel
theorem dX7_wish_105 : decode cX7_wish 105 = .ok (.iconst 2, 1) := by decide +kernel
theorem dX7_wish_106 : decode cX7_wish 106 = .ok (.iadd, 1) := by decide +kernel
theorem dX7_wish_107 : decode cX7_wish 107 = .ok (.iaload, 1) := by decide +kernel
theorem dX7_wish_108 : decode cX7_wish 108 = .ok (.ireturn, 1) := by decide +kernel
theorem dX7_wish_109 : decode cX7_wish 109 = .ok (.aload_n 0, 1) := by decide +kernel
theorem dX7_wish_110 : decode cX7_wish 110 = .ok (.getfield 7, 3) := by decide +kernel
theorem dX7_wish_113 : decode cX7_wish 113 = .ok (.iload_n 3, 1) := by decide +kernel
theorem dX7_wish_114 : decode cX7_wish 114 = .ok (.iconst 3, 1) := by decide +kernel
theorem dX7_wish_115 : decode cX7_wish 115 = .ok (.iadd, 1) := by decide +kernel
theorem dX7_wish_116 : decode cX7_wish 116 = .ok (.iaload, 1) := by decide +kernel
theorem dX7_wish_117 : decode cX7_wish 117 = .ok (.ireturn, 1) := by decide +kernel
theorem dX7_wish_118 : decode cX7_wish 118 = .ok (.aload_n 0, 1) := by decide +kernel
theorem dX7_wish_119 : decode cX7_wish 119 = .ok (.iload_n 1, 1) := by decide +kernel
theorem dX7_wish_120 : decode cX7_wish 120 = .ok (.invokevirtual 162, 3) := by decide +kernel
theorem dX7_wish_123 : decode cX7_wish 123 = .ok (.iconst 2, 1) := by decide +kernel
theorem dX7_wish_124 : decode cX7_wish 124 = .ok (.if_icmp .ge 11, 3) := by decide +kernel
theorem dX7_wish_127 : decode cX7_wish 127 = .ok (.aload_n 0, 1) := by decide +kernel
theorem dX7_wish_128 : decode cX7_wish 128 = .ok (.iload_n 1, 1) := by decide +kernel
theorem dX7_wish_129 : decode cX7_wish 129 = .ok (.invokevirtual 162, 3) := by decide +kernel
theorem dX7_wish_132 : decode cX7_wish 132 = .ok (.goto 16, 3) := by decide +kernel
theorem dX7_wish_135 : decode cX7_wish 135 = .ok (.aload_n 0, 1) := by decide +kernel
theorem dX7_wish_136 : decode cX7_wish 136 = .ok (.iload_n 1, 1) := by decide +kernel
theorem dX7_wish_137 : decode cX7_wish 137 = .ok (.invokevirtual 261, 3) := by decide +kernel
theorem dX7_wish_140 : decode cX7_wish 140 = .ok (.ifCond .eq 7, 3) := by decide +kernel
theorem dX7_wish_143 : decode cX7_wish 143 = .ok (.iconst 1, 1) := by decide +kernel
theorem dX7_wish_144 : decode cX7_wish 144 = .ok (.goto 4, 3) := by decide +kernel
theorem dX7_wish_147 : decode cX7_wish 147 = .ok (.iconst 0, 1) := by decide +kernel
theorem dX7_wish_148 : decode cX7_wish 148 = .ok (.ireturn, 1) := by decide +kernel
theorem dX7_wish_149 : decode cX7_wish 149 = .ok (.aload_n 0, 1) := by decide +kernel
theorem dX7_wish_150 : decode cX7_wish 150 = .ok (.iload_n 1, 1) := by decide +kernel
theorem dX7_wish_151 : decode cX7_wish 151 = .ok (.invokevirtual 264, 3) := by decide +kernel
theorem dX7_wish_154 : decode cX7_wish 154 = .ok (.ireturn, 1) := by decide +kernel
theorem dX7_wish_155 : decode cX7_wish 155 = .ok (.aload_n 0, 1) := by decide +kernel
theorem dX7_wish_156 : decode cX7_wish 156 = .ok (.getfield 7, 3) := by decide +kernel
theorem dX7_wish_159 : decode cX7_wish 159 = .ok (.iload_n 3, 1) := by decide +kernel
theorem dX7_wish_160 : decode cX7_wish 160 = .ok (.iconst 4, 1) := by decide +kernel
theorem dX7_wish_161 : decode cX7_wish 161 = .ok (.iadd, 1) := by decide +kernel
theorem dX7_wish_162 : decode cX7_wish 162 = .ok (.iaload, 1) := by decide +kernel
theorem dX7_wish_163 : decode cX7_wish 163 = .ok (.ireturn, 1) := by decide +kernel
theorem dX7_wish_164 : decode cX7_wish 164 = .ok (.bipush (-2), 2) := by decide +kernel
theorem dX7_wish_166 : decode cX7_wish 166 = .ok (.ireturn, 1) := by decide +kernel
theorem dX7_isPart_0 : decode cX7_isPart 0 = .ok (.aload_n 0, 1) := by decide +kernel
theorem dX7_isPart_1 : decode cX7_isPart 1 = .ok (.iload_n 1, 1) := by decide +kernel
theorem dX7_isPart_2 : decode cX7_isPart 2 = .ok (.invokevirtual 174, 3) := by decide +kernel
theorem dX7_isPart_5 : decode cX7_isPart 5 = .ok (.ifCond .eq 28, 3) := by decide +kernel
theorem dX7_isPart_8 : decode cX7_isPart 8 = .ok (.iload_n 2, 1) := by decide +kernel
theorem dX7_isPart_9 : decode cX7_isPart 9 = .ok (.iconst 0, 1) := by decide +kernel
theorem dX7_isPart_10 : decode cX7_isPart 10 = .ok (.aload_n 0, 1) := by decide +kernel
theorem dX7_isPart_11 : decode cX7_isPart 11 = .ok (.getfield 7, 3) := by decide +kernel
theorem dX7_isPart_14 : decode cX7_isPart 14 = .ok (.iload_n 1, 1) := by decide +kernel
theorem dX7_isPart_15 : decode cX7_isPart 15 = .ok (.invokestatic 74, 3) := by decide +kernel
theorem dX7_isPart_18 : decode cX7_isPart 18 = .ok (.iconst 5, 1) := by decide +kernel
theorem dX7_isPart_19 : decode cX7_isPart 19 = .ok (.iadd, 1) := by decide +kernel
theorem dX7_isPart_20 : decode cX7_isPart 20 = .ok (.iaload, 1) := by decide +kernel
theorem dX7_isPart_21 : decode cX7_isPart 21 = .ok (.iconst 1, 1) := by decide +kernel
theorem dX7_isPart_22 : decode cX7_isPart 22 = .ok (.isub, 1) := by decide +kernel
theorem dX7_isPart_23 : decode cX7_isPart 23 = .ok (.invokestatic 70, 3) := by decide +kernel
theorem dX7_isPart_26 : decode cX7_isPart 26 = .ok (.ifCond .eq 7, 3) := by decide +kernel
theorem dX7_isPart_29 : decode cX7_isPart 29 = .ok (.iconst 1, 1) := by decide +kernel
theorem dX7_isPart_30 : decode cX7_isPart 30 = .ok (.goto 4, 3) := by decide +kernel
theorem dX7_isPart_33 : decode cX7_isPart 33 = .ok (.iconst 0, 1) := by decide +kernel
theorem dX7_isPart_34 : decode cX7_isPart 34 = .ok (.ireturn, 1) := by decide +kernel
theorem dX7_letterOf_0 : decode cX7_letterOf 0 = .ok (.iload_n 1, 1) := by decide +kernel
theorem dX7_letterOf_1 : decode cX7_letterOf 1 = .ok (.istore_n 3, 1) := by decide +kernel
theorem dX7_letterOf_2 : decode cX7_letterOf 2 = .ok (.iload_n 2, 1) := by decide +kernel
theorem dX7_letterOf_3 : decode cX7_letterOf 3 = .ok (.istore 4, 2) := by decide +kernel
theorem dX7_letterOf_5 : decode cX7_letterOf 5 = .ok (.iload 4, 2) := by decide +kernel
theorem dX7_letterOf_7 : decode cX7_letterOf 7 = .ok (.ifCond .le 121, 3) := by decide +kernel
theorem dX7_letterOf_10 : decode cX7_letterOf 10 = .ok (.iload_n 3, 1) := by decide +kernel
theorem dX7_letterOf_11 : decode cX7_letterOf 11 = .ok (.bipush 16, 2) := by decide +kernel
theorem dX7_letterOf_13 : decode cX7_letterOf 13 = .ok (.if_icmp .ge 11, 3) := by decide +kernel
theorem dX7_letterOf_16 : decode cX7_letterOf 16 = .ok (.bipush 97, 2) := by decide +kernel
theorem dX7_letterOf_18 : decode cX7_letterOf 18 = .ok (.iload_n 3, 1) := by decide +kernel
theorem dX7_letterOf_19 : decode cX7_letterOf 19 = .ok (.iadd, 1) := by decide +kernel
theorem dX7_letterOf_20 : decode cX7_letterOf 20 = .ok (.bipush 10, 2) := by decide +kernel
theorem dX7_letterOf_22 : decode cX7_letterOf 22 = .ok (.isub, 1) := by decide +kernel
theorem dX7_letterOf_23 : decode cX7_letterOf 23 = .ok (.ireturn, 1) := by decide +kernel
theorem dX7_letterOf_24 : decode cX7_letterOf 24 = .ok (.iinc 4 (-1), 3) := by decide +kernel
theorem dX7_letterOf_27 : decode cX7_letterOf 27 = .ok (.iconst 0, 1) := by decide +kernel
theorem dX7_letterOf_28 : decode cX7_letterOf 28 = .ok (.istore 5, 2) := by decide +kernel
theorem dX7_letterOf_30 : decode cX7_letterOf 30 = .ok (.aload_n 0, 1) := by decide +kernel
theorem dX7_letterOf_31 : decode cX7_letterOf 31 = .ok (.iload_n 3, 1) := by decide +kernel
theorem dX7_letterOf_32 : decode cX7_letterOf 32 = .ok (.invokevirtual 94, 3) := by decide +kernel
theorem dX7_letterOf_35 : decode cX7_letterOf 35 = .ok (.bipush 40, 2) := by decide +kernel
theorem dX7_letterOf_37 : decode cX7_letterOf 37 = .ok (.if_icmp .ne 45, 3) := by decide +kernel
theorem dX7_letterOf_40 : decode cX7_letterOf 40 = .ok (.iload 4, 2) := by decide +kernel
theorem dX7_letterOf_42 : decode cX7_letterOf 42 = .ok (.aload_n 0, 1) := by decide +kernel
theorem dX7_letterOf_43 : decode cX7_letterOf 43 = .ok (.getfield 32, 3) := by decide +kernel
theorem dX7_letterOf_46 : decode cX7_letterOf 46 = .ok (.aload_n 0, 1) := by decide +kernel
theorem dX7_letterOf_47 : decode cX7_letterOf 47 = .ok (.iload_n 3, 1) := by decide +kernel
theorem dX7_letterOf_48 : decode cX7_letterOf 48 = .ok (.iload 5, 2) := by decide +kernel
theorem dX7_letterOf_50 : decode cX7_letterOf 50 = .ok (.invokevirtual 97, 3) := by decide +kernel
theorem dX7_letterOf_53 : decode cX7_letterOf 53 = .ok (.iaload, 1) := by decide +kernel
theorem dX7_letterOf_54 : decode cX7_letterOf 54 = .ok (.if_icmp .le 28, 3) := by decide +kernel
theorem dX7_letterOf_57 : decode cX7_letterOf 57 = .ok (.iload 4, 2) := by decide +kernel
theorem dX7_letterOf_59 : decode cX7_letterOf 59 = .ok (.aload_n 0, 1) := by decide +kernel
theorem dX7_letterOf_60 : decode cX7_letterOf 60 = .ok (.getfield 32, 3) := by decide +kernel
theorem dX7_letterOf_63 : decode cX7_letterOf 63 = .ok (.aload_n 0, 1) := by decide +kernel
theorem dX7_letterOf_64 : decode cX7_letterOf 64 = .ok (.iload_n 3, 1) := by decide +kernel
theorem dX7_letterOf_65 : decode cX7_letterOf 65 = .ok (.iload 5, 2) := by decide +kernel
theorem dX7_letterOf_67 : decode cX7_letterOf 67 = .ok (.invokevirtual 97, 3) := by decide +kernel
theorem dX7_letterOf_70 : decode cX7_letterOf 70 = .ok (.iaload, 1) := by decide +kernel
theorem dX7_letterOf_71 : decode cX7_letterOf 71 = .ok (.iconst 1, 1) := by decide +kernel
theorem dX7_letterOf_72 : decode cX7_letterOf 72 = .ok (.iadd, 1) := by decide +kernel
theorem dX7_letterOf_73 : decode cX7_letterOf 73 = .ok (.isub, 1) := by decide +kernel
theorem dX7_letterOf_74 : decode cX7_letterOf 74 = .ok (.istore 4, 2) := by decide +kernel
theorem dX7_letterOf_76 : decode cX7_letterOf 76 = .ok (.iinc 5 1, 3) := by decide +kernel
theorem dX7_letterOf_79 : decode cX7_letterOf 79 = .ok (.goto (-49), 3) := by decide +kernel
theorem dX7_letterOf_82 : decode cX7_letterOf 82 = .ok (.aload_n 0, 1) := by decide +kernel
theorem dX7_letterOf_83 : decode cX7_letterOf 83 = .ok (.iload_n 3, 1) := by decide +kernel
theorem dX7_letterOf_84 : decode cX7_letterOf 84 = .ok (.invokevirtual 94, 3) := by decide +kernel
theorem dX7_letterOf_87 : decode cX7_letterOf 87 = .ok (.bipush 40, 2) := by decide +kernel
theorem dX7_letterOf_89 : decode cX7_letterOf 89 = .ok (.if_icmp .ne 28, 3) := by decide +kernel
theorem dX7_letterOf_92 : decode cX7_letterOf 92 = .ok (.iload 4, 2) := by decide +kernel
theorem dX7_letterOf_94 : decode cX7_letterOf 94 = .ok (.aload_n 0, 1) := by decide +kernel
theorem dX7_letterOf_95 : decode cX7_letterOf 95 = .ok (.getfield 32, 3) := by decide +kernel
theorem dX7_letterOf_98 : decode cX7_letterOf 98 = .ok (.aload_n 0, 1) := by decide +kernel
theorem dX7_letterOf_99 : decode cX7_letterOf 99 = .ok (.iload_n 3, 1) := by decide +kernel
theorem dX7_letterOf_100 : decode cX7_letterOf 100 = .ok (.iload 5, 2) := by decide +kernel
theorem dX7_letterOf_102 : decode cX7_letterOf 102 = .ok (.invokevirtual 97, 3) := by decide +kernel
theorem dX7_letterOf_105 : decode cX7_letterOf 105 = .ok (.iaload, 1) := by decide +kernel
theorem dX7_letterOf_106 : decode cX7_letterOf 106 = .ok (.if_icmp .ne 11, 3) := by decide +kernel
theorem dX7_letterOf_109 : decode cX7_letterOf 109 = .ok (.aload_n 0, 1) := by decide +kernel
theorem dX7_letterOf_110 : decode cX7_letterOf 110 = .ok (.iload_n 3, 1) := by decide +kernel
theorem dX7_letterOf_111 : decode cX7_letterOf 111 = .ok (.iload 5, 2) := by decide +kernel
theorem dX7_letterOf_113 : decode cX7_letterOf 113 = .ok (.invokevirtual 101, 3) := by decide +kernel
theorem dX7_letterOf_116 : decode cX7_letterOf 116 = .ok (.ireturn, 1) := by decide +kernel
theorem dX7_letterOf_117 : decode cX7_letterOf 117 = .ok (.aload_n 0, 1) := by decide +kernel
theorem dX7_letterOf_118 : decode cX7_letterOf 118 = .ok (.iload_n 3, 1) := by decide +kernel
theorem dX7_letterOf_119 : decode cX7_letterOf 119 = .ok (.iload 5, 2) := by decide +kernel
theorem dX7_letterOf_121 : decode cX7_letterOf 121 = .ok (.invokevirtual 97, 3) := by decide +kernel
theorem dX7_letterOf_124 : decode cX7_letterOf 124 = .ok (.istore_n 3, 1) := by decide +kernel
theorem dX7_letterOf_125 : decode cX7_letterOf 125 = .ok (.goto (-120), 3) := by decide +kernel
theorem dX7_letterOf_128 : decode cX7_letterOf 128 = .ok (.aload_n 0, 1) := by decide +kernel
theorem dX7_letterOf_129 : decode cX7_letterOf 129 = .ok (.iload_n 3, 1) := by decide +kernel
theorem dX7_letterOf_130 : decode cX7_letterOf 130 = .ok (.invokevirtual 94, 3) := by decide +kernel
theorem dX7_letterOf_133 : decode cX7_letterOf 133 = .ok (.ireturn, 1) := by decide +kernel
theorem dX7_letter_0 : decode cX7_letter 0 = .ok (.aload_n 0, 1) := by decide +kernel
theorem dX7_letter_1 : decode cX7_letter 1 = .ok (.iload_n 1, 1) := by decide +kernel
theorem dX7_letter_2 : decode cX7_letter 2 = .ok (.iload_n 2, 1) := by decide +kernel
theorem dX7_letter_3 : decode cX7_letter 3 = .ok (.invokevirtual 267, 3) := by decide +kernel
theorem dX7_letter_6 : decode cX7_letter 6 = .ok (.ifCond .ne 5, 3) := by decide +kernel
theorem dX7_letter_9 : decode cX7_letter 9 = .ok (.iconst (-1), 1) := by decide +kernel
theorem dX7_letter_10 : decode cX7_letter 10 = .ok (.ireturn, 1) := by decide +kernel
theorem dX7_letter_11 : decode cX7_letter 11 = .ok (.iload_n 3, 1) := by decide +kernel
theorem dX7_letter_12 : decode cX7_letter 12 = .ok (.ifCond .ge 6, 3) := by decide +kernel
theorem dX7_letter_15 : decode cX7_letter 15 = .ok (.bipush (-2), 2) := by decide +kernel
theorem dX7_letter_17 : decode cX7_letter 17 = .ok (.ireturn, 1) := by decide +kernel
theorem dX7_letter_18 : decode cX7_letter 18 = .ok (.aload_n 0, 1) := by decide +kernel
theorem dX7_letter_19 : decode cX7_letter 19 = .ok (.iload_n 1, 1) := by decide +kernel
theorem dX7_letter_20 : decode cX7_letter 20 = .ok (.iload_n 2, 1) := by decide +kernel
theorem dX7_letter_21 : decode cX7_letter 21 = .ok (.invokevirtual 165, 3) := by decide +kernel
theorem dX7_letter_24 : decode cX7_letter 24 = .ok (.istore 4, 2) := by decide +kernel
theorem dX7_letter_26 : decode cX7_letter 26 = .ok (.iload_n 3, 1) := by decide +kernel
theorem dX7_letter_27 : decode cX7_letter 27 = .ok (.aload_n 0, 1) := by decide +kernel
theorem dX7_letter_28 : decode cX7_letter 28 = .ok (.getfield 32, 3) := by decide +kernel
theorem dX7_letter_31 : decode cX7_letter 31 = .ok (.iload 4, 2) := by decide +kernel
theorem dX7_letter_33 : decode cX7_letter 33 = .ok (.iaload, 1) := by decide +kernel
theorem dX7_letter_34 : decode cX7_letter 34 = .ok (.if_icmp .ge 13, 3) := by decide +kernel
theorem dX7_letter_37 : decode cX7_letter 37 = .ok (.aload_n 0, 1) := by decide +kernel
theorem dX7_letter_38 : decode cX7_letter 38 = .ok (.iload 4, 2) := by decide +kernel
theorem dX7_letter_40 : decode cX7_letter 40 = .ok (.iload_n 3, 1) := by decide +kernel
theorem dX7_letter_41 : decode cX7_letter 41 = .ok (.invokevirtual 270, 3) := by decide +kernel
theorem dX7_letter_44 : decode cX7_letter 44 = .ok (.goto 5, 3) := by decide +kernel
theorem dX7_letter_47 : decode cX7_letter 47 = .ok (.bipush (-5), 2) := by decide +kernel
theorem dX7_letter_49 : decode cX7_letter 49 = .ok (.ireturn, 1) := by decide +kernel
theorem dX7_signs_0 : decode cX7_signs 0 = .ok (.aload_n 0, 1) := by decide +kernel
theorem dX7_signs_1 : decode cX7_signs 1 = .ok (.iload_n 1, 1) := by decide +kernel
theorem dX7_signs_2 : decode cX7_signs 2 = .ok (.invokevirtual 130, 3) := by decide +kernel
theorem dX7_signs_5 : decode cX7_signs 5 = .ok (.iconst 0, 1) := by decide +kernel
theorem dX7_signs_6 : decode cX7_signs 6 = .ok (.istore_n 2, 1) := by decide +kernel
theorem dX7_signs_7 : decode cX7_signs 7 = .ok (.iconst 0, 1) := by decide +kernel
theorem dX7_signs_8 : decode cX7_signs 8 = .ok (.istore_n 3, 1) := by decide +kernel
theorem dX7_signs_9 : decode cX7_signs 9 = .ok (.iload_n 3, 1) := by decide +kernel
theorem dX7_signs_10 : decode cX7_signs 10 = .ok (.bipush 6, 2) := by decide +kernel
theorem dX7_signs_12 : decode cX7_signs 12 = .ok (.if_icmp .ge 42, 3) := by decide +kernel
theorem dX7_signs_15 : decode cX7_signs 15 = .ok (.iload_n 2, 1) := by decide +kernel
theorem dX7_signs_16 : decode cX7_signs 16 = .ok (.aload_n 0, 1) := by decide +kernel
theorem dX7_signs_17 : decode cX7_signs 17 = .ok (.getfield 38, 3) := by decide +kernel
theorem dX7_signs_20 : decode cX7_signs 20 = .ok (.iconst 4, 1) := by decide +kernel
theorem dX7_signs_21 : decode cX7_signs 21 = .ok (.iload_n 3, 1) := by decide +kernel
theorem dX7_signs_22 : decode cX7_signs 22 = .ok (.iadd, 1) := by decide +kernel
theorem dX7_signs_23 : decode cX7_signs 23 = .ok (.baload, 1) := by decide +kernel
theorem dX7_signs_24 : decode cX7_signs 24 = .ok (.ifCond .ne 15, 3) := by decide +kernel
theorem dX7_signs_27 : decode cX7_signs 27 = .ok (.aload_n 0, 1) := by decide +kernel
theorem dX7_signs_28 : decode cX7_signs 28 = .ok (.getfield 38, 3) := by decide +kernel
theorem dX7_signs_31 : decode cX7_signs 31 = .ok (.bipush 10, 2) := by decide +kernel
theorem dX7_signs_33 : decode cX7_signs 33 = .ok (.iload_n 3, 1) := by decide +kernel
theorem dX7_signs_34 : decode cX7_signs 34 = .ok (.iadd, 1) := by decide +kernel
theorem dX7_signs_35 : decode cX7_signs 35 = .ok (.baload, 1) := by decide +kernel
theorem dX7_signs_36 : decode cX7_signs 36 = .ok (.ifCond .eq 9, 3) := by decide +kernel
theorem dX7_signs_39 : decode cX7_signs 39 = .ok (.iconst 1, 1) := by decide +kernel
theorem dX7_signs_40 : decode cX7_signs 40 = .ok (.iload_n 3, 1) := by decide +kernel
theorem dX7_signs_41 : decode cX7_signs 41 = .ok (.ishl, 1) := by decide +kernel
theorem dX7_signs_42 : decode cX7_signs 42 = .ok (.goto 4, 3) := by decide +kernel
theorem dX7_signs_45 : decode cX7_signs 45 = .ok (.iconst 0, 1) := by decide +kernel
theorem dX7_signs_46 : decode cX7_signs 46 = .ok (.ior, 1) := by decide +kernel
theorem dX7_signs_47 : decode cX7_signs 47 = .ok (.istore_n 2, 1) := by decide +kernel
theorem dX7_signs_48 : decode cX7_signs 48 = .ok (.iinc 3 1, 3) := by decide +kernel
theorem dX7_signs_51 : decode cX7_signs 51 = .ok (.goto (-42), 3) := by decide +kernel
theorem dX7_signs_54 : decode cX7_signs 54 = .ok (.iload_n 2, 1) := by decide +kernel
theorem dX7_signs_55 : decode cX7_signs 55 = .ok (.ireturn, 1) := by decide +kernel
theorem dX7_part_0 : decode cX7_part 0 = .ok (.aload_n 0, 1) := by decide +kernel
theorem dX7_part_1 : decode cX7_part 1 = .ok (.iload_n 1, 1) := by decide +kernel
theorem dX7_part_2 : decode cX7_part 2 = .ok (.iload_n 2, 1) := by decide +kernel
theorem dX7_part_3 : decode cX7_part 3 = .ok (.invokevirtual 267, 3) := by decide +kernel
theorem dX7_part_6 : decode cX7_part 6 = .ok (.ifCond .ne 5, 3) := by decide +kernel
theorem dX7_part_9 : decode cX7_part 9 = .ok (.iconst (-1), 1) := by decide +kernel
theorem dX7_part_10 : decode cX7_part 10 = .ok (.ireturn, 1) := by decide +kernel
theorem dX7_part_11 : decode cX7_part 11 = .ok (.aload_n 0, 1) := by decide +kernel
theorem dX7_part_12 : decode cX7_part 12 = .ok (.iload_n 1, 1) := by decide +kernel
theorem dX7_part_13 : decode cX7_part 13 = .ok (.iload_n 2, 1) := by decide +kernel
theorem dX7_part_14 : decode cX7_part 14 = .ok (.invokevirtual 165, 3) := by decide +kernel
theorem dX7_part_17 : decode cX7_part 17 = .ok (.istore 4, 2) := by decide +kernel
theorem dX7_part_19 : decode cX7_part 19 = .ok (.iload_n 3, 1) := by decide +kernel
theorem dX7_part_20 : decode cX7_part 20 = .ok (.tableswitch 70 0 3 #[32, 40, 48, 55], 32) := by decide +kernel
theorem dX7_part_52 : decode cX7_part 52 = .ok (.aload_n 0, 1) := by decide +kernel
theorem dX7_part_53 : decode cX7_part 53 = .ok (.getfield 29, 3) := by decide +kernel
theorem dX7_part_56 : decode cX7_part 56 = .ok (.iload 4, 2) := by decide +kernel
theorem dX7_part_58 : decode cX7_part 58 = .ok (.iaload, 1) := by decide +kernel
theorem dX7_part_59 : decode cX7_part 59 = .ok (.ireturn, 1) := by decide +kernel
theorem dX7_part_60 : decode cX7_part 60 = .ok (.aload_n 0, 1) := by decide +kernel
theorem dX7_part_61 : decode cX7_part 61 = .ok (.getfield 32, 3) := by decide +kernel
theorem dX7_part_64 : decode cX7_part 64 = .ok (.iload 4, 2) := by decide +kernel
theorem dX7_part_66 : decode cX7_part 66 = .ok (.iaload, 1) := by decide +kernel
theorem dX7_part_67 : decode cX7_part 67 = .ok (.ireturn, 1) := by decide +kernel
theorem dX7_part_68 : decode cX7_part 68 = .ok (.aload_n 0, 1) := by decide +kernel
theorem dX7_part_69 : decode cX7_part 69 = .ok (.iload 4, 2) := by decide +kernel
theorem dX7_part_71 : decode cX7_part 71 = .ok (.invokevirtual 273, 3) := by decide +kernel
theorem dX7_part_74 : decode cX7_part 74 = .ok (.ireturn, 1) := by decide +kernel
theorem dX7_part_75 : decode cX7_part 75 = .ok (.aload_n 0, 1) := by decide +kernel
theorem dX7_part_76 : decode cX7_part 76 = .ok (.iload 4, 2) := by decide +kernel
theorem dX7_part_78 : decode cX7_part 78 = .ok (.invokevirtual 197, 3) := by decide +kernel
theorem dX7_part_81 : decode cX7_part 81 = .ok (.ifCond .eq 7, 3) := by decide +kernel
theorem dX7_part_84 : decode cX7_part 84 = .ok (.iconst 1, 1) := by decide +kernel
theorem dX7_part_85 : decode cX7_part 85 = .ok (.goto 4, 3) := by decide +kernel
theorem dX7_part_88 : decode cX7_part 88 = .ok (.iconst 0, 1) := by decide +kernel
theorem dX7_part_89 : decode cX7_part 89 = .ok (.ireturn, 1) := by decide +kernel
theorem dX7_part_90 : decode cX7_part 90 = .ok (.bipush (-2), 2) := by decide +kernel
theorem dX7_part_92 : decode cX7_part 92 = .ok (.ireturn, 1) := by decide +kernel
theorem dX7_would_0 : decode cX7_would 0 = .ok (.aload_n 0, 1) := by decide +kernel
theorem dX7_would_1 : decode cX7_would 1 = .ok (.iload_n 1, 1) := by decide +kernel
theorem dX7_would_2 : decode cX7_would 2 = .ok (.invokevirtual 174, 3) := by decide +kernel
theorem dX7_would_5 : decode cX7_would 5 = .ok (.ifCond .ne 5, 3) := by decide +kernel
theorem dX7_would_8 : decode cX7_would 8 = .ok (.iconst (-1), 1) := by decide +kernel
theorem dX7_would_9 : decode cX7_would 9 = .ok (.ireturn, 1) := by decide +kernel
theorem dX7_would_10 : decode cX7_would 10 = .ok (.iload_n 2, 1) := by decide +kernel
theorem dX7_would_11 : decode cX7_would 11 = .ok (.iconst 0, 1) := by decide +kernel
theorem dX7_would_12 : decode cX7_would 12 = .ok (.bipush 63, 2) := by decide +kernel
theorem dX7_would_14 : decode cX7_would 14 = .ok (.invokestatic 70, 3) := by decide +kernel
theorem dX7_would_17 : decode cX7_would 17 = .ok (.ifCond .ne 6, 3) := by decide +kernel
theorem dX7_would_20 : decode cX7_would 20 = .ok (.bipush (-2), 2) := by decide +kernel
theorem dX7_would_22 : decode cX7_would 22 = .ok (.ireturn, 1) := by decide +kernel
theorem dX7_would_23 : decode cX7_would 23 = .ok (.aload_n 0, 1) := by decide +kernel
theorem dX7_would_24 : decode cX7_would 24 = .ok (.getfield 7, 3) := by decide +kernel
theorem dX7_would_27 : decode cX7_would 27 = .ok (.iconst 1, 1) := by decide +kernel
theorem dX7_would_28 : decode cX7_would 28 = .ok (.iaload, 1) := by decide +kernel
theorem dX7_would_29 : decode cX7_would 29 = .ok (.iconst 1, 1) := by decide +kernel
theorem dX7_would_30 : decode cX7_would 30 = .ok (.if_icmp .ne 8, 3) := by decide +kernel
theorem dX7_would_33 : decode cX7_would 33 = .ok (.bipush (-4), 2) := by decide +kernel
theorem dX7_would_35 : decode cX7_would 35 = .ok (.goto 9, 3) := by decide +kernel
theorem dX7_would_38 : decode cX7_would 38 = .ok (.aload_n 0, 1) := by decide +kernel
theorem dX7_would_39 : decode cX7_would 39 = .ok (.iload_n 1, 1) := by decide +kernel
theorem dX7_would_40 : decode cX7_would 40 = .ok (.iload_n 2, 1) := by decide +kernel
theorem dX7_would_41 : decode cX7_would 41 = .ok (.invokevirtual 171, 3) := by decide +kernel
theorem dX7_would_44 : decode cX7_would 44 = .ok (.ireturn, 1) := by decide +kernel
theorem dX7_bears_0 : decode cX7_bears 0 = .ok (.aload_n 0, 1) := by decide +kernel
theorem dX7_bears_1 : decode cX7_bears 1 = .ok (.iload_n 1, 1) := by decide +kernel
theorem dX7_bears_2 : decode cX7_bears 2 = .ok (.invokevirtual 174, 3) := by decide +kernel
theorem dX7_bears_5 : decode cX7_bears 5 = .ok (.ifCond .ne 5, 3) := by decide +kernel
theorem dX7_bears_8 : decode cX7_bears 8 = .ok (.iconst (-1), 1) := by decide +kernel
theorem dX7_bears_9 : decode cX7_bears 9 = .ok (.ireturn, 1) := by decide +kernel
theorem dX7_bears_10 : decode cX7_bears 10 = .ok (.iload_n 2, 1) := by decide +kernel
theorem dX7_bears_11 : decode cX7_bears 11 = .ok (.iconst 0, 1) := by decide +kernel
theorem dX7_bears_12 : decode cX7_bears 12 = .ok (.iconst 3, 1) := by decide +kernel
theorem dX7_bears_13 : decode cX7_bears 13 = .ok (.invokestatic 70, 3) := by decide +kernel
theorem dX7_bears_16 : decode cX7_bears 16 = .ok (.ifCond .ne 6, 3) := by decide +kernel
theorem dX7_bears_19 : decode cX7_bears 19 = .ok (.bipush (-2), 2) := by decide +kernel
theorem dX7_bears_21 : decode cX7_bears 21 = .ok (.ireturn, 1) := by decide +kernel
theorem dX7_bears_22 : decode cX7_bears 22 = .ok (.aload_n 0, 1) := by decide +kernel
theorem dX7_bears_23 : decode cX7_bears 23 = .ok (.getfield 7, 3) := by decide +kernel
theorem dX7_bears_26 : decode cX7_bears 26 = .ok (.iconst 1, 1) := by decide +kernel
theorem dX7_bears_27 : decode cX7_bears 27 = .ok (.iaload, 1) := by decide +kernel
theorem dX7_bears_28 : decode cX7_bears 28 = .ok (.iconst 1, 1) := by decide +kernel
theorem dX7_bears_29 : decode cX7_bears 29 = .ok (.if_icmp .ne 6, 3) := by decide +kernel
theorem dX7_bears_32 : decode cX7_bears 32 = .ok (.bipush (-4), 2) := by decide +kernel
theorem dX7_bears_34 : decode cX7_bears 34 = .ok (.ireturn, 1) := by decide +kernel
theorem dX7_bears_35 : decode cX7_bears 35 = .ok (.iconst 0, 1) := by decide +kernel
theorem dX7_bears_36 : decode cX7_bears 36 = .ok (.istore_n 3, 1) := by decide +kernel
theorem dX7_bears_37 : decode cX7_bears 37 = .ok (.bipush (-5), 2) := by decide +kernel
theorem dX7_bears_39 : decode cX7_bears 39 = .ok (.istore 4, 2) := by decide +kernel
theorem dX7_bears_41 : decode cX7_bears 41 = .ok (.bipush 63, 2) := by decide +kernel
theorem dX7_bears_43 : decode cX7_bears 43 = .ok (.istore 5, 2) := by decide +kernel
theorem dX7_bears_45 : decode cX7_bears 45 = .ok (.iload 5, 2) := by decide +kernel
theorem dX7_bears_47 : decode cX7_bears 47 = .ok (.ifCond .lt 76, 3) := by decide +kernel
theorem dX7_bears_50 : decode cX7_bears 50 = .ok (.aload_n 0, 1) := by decide +kernel
theorem dX7_bears_51 : decode cX7_bears 51 = .ok (.iload_n 1, 1) := by decide +kernel
theorem dX7_bears_52 : decode cX7_bears 52 = .ok (.iload 5, 2) := by decide +kernel
theorem dX7_bears_54 : decode cX7_bears 54 = .ok (.invokevirtual 171, 3) := by decide +kernel
theorem dX7_bears_57 : decode cX7_bears 57 = .ok (.istore 6, 2) := by decide +kernel
theorem dX7_bears_59 : decode cX7_bears 59 = .ok (.iload_n 2, 1) := by decide +kernel
theorem dX7_bears_60 : decode cX7_bears 60 = .ok (.iconst 2, 1) := by decide +kernel
theorem dX7_bears_61 : decode cX7_bears 61 = .ok (.if_icmp .ge 16, 3) := by decide +kernel
theorem dX7_bears_64 : decode cX7_bears 64 = .ok (.iload 6, 2) := by decide +kernel
theorem dX7_bears_66 : decode cX7_bears 66 = .ok (.ifCond .eq 7, 3) := by decide +kernel
theorem dX7_bears_69 : decode cX7_bears 69 = .ok (.iconst 1, 1) := by decide +kernel
theorem dX7_bears_70 : decode cX7_bears 70 = .ok (.goto 18, 3) := by decide +kernel
theorem dX7_bears_73 : decode cX7_bears 73 = .ok (.iconst 0, 1) := by decide +kernel
theorem dX7_bears_74 : decode cX7_bears 74 = .ok (.goto 14, 3) := by decide +kernel
theorem dX7_bears_77 : decode cX7_bears 77 = .ok (.iload 6, 2) := by decide +kernel
theorem dX7_bears_79 : decode cX7_bears 79 = .ok (.iconst 1, 1) := by decide +kernel
theorem dX7_bears_80 : decode cX7_bears 80 = .ok (.if_icmp .ne 7, 3) := by decide +kernel
theorem dX7_bears_83 : decode cX7_bears 83 = .ok (.iconst 1, 1) := by decide +kernel
theorem dX7_bears_84 : decode cX7_bears 84 = .ok (.goto 4, 3) := by decide +kernel
theorem dX7_bears_87 : decode cX7_bears 87 = .ok (.iconst 0, 1) := by decide +kernel
theorem dX7_bears_88 : decode cX7_bears 88 = .ok (.istore 7, 2) := by decide +kernel
theorem dX7_bears_90 : decode cX7_bears 90 = .ok (.iload_n 3, 1) := by decide +kernel
theorem dX7_bears_91 : decode cX7_bears 91 = .ok (.iload 7, 2) := by decide +kernel
theorem dX7_bears_93 : decode cX7_bears 93 = .ok (.ifCond .eq 7, 3) := by decide +kernel
theorem dX7_bears_96 : decode cX7_bears 96 = .ok (.iconst 1, 1) := by decide +kernel
theorem dX7_bears_97 : decode cX7_bears 97 = .ok (.goto 4, 3) := by decide +kernel
theorem dX7_bears_100 : decode cX7_bears 100 = .ok (.iconst 0, 1) := by decide +kernel
theorem dX7_bears_101 : decode cX7_bears 101 = .ok (.iadd, 1) := by decide +kernel
theorem dX7_bears_102 : decode cX7_bears 102 = .ok (.istore_n 3, 1) := by decide +kernel
theorem dX7_bears_103 : decode cX7_bears 103 = .ok (.iload 7, 2) := by decide +kernel
theorem dX7_bears_105 : decode cX7_bears 105 = .ok (.ifCond .eq 8, 3) := by decide +kernel
theorem dX7_bears_108 : decode cX7_bears 108 = .ok (.iload 5, 2) := by decide +kernel
theorem dX7_bears_110 : decode cX7_bears 110 = .ok (.goto 5, 3) := by decide +kernel
theorem dX7_bears_113 : decode cX7_bears 113 = .ok (.iload 4, 2) := by decide +kernel
theorem dX7_bears_115 : decode cX7_bears 115 = .ok (.istore 4, 2) := by decide +kernel
theorem dX7_bears_117 : decode cX7_bears 117 = .ok (.iinc 5 (-1), 3) := by decide +kernel
theorem dX7_bears_120 : decode cX7_bears 120 = .ok (.goto (-75), 3) := by decide +kernel
theorem dX7_bears_123 : decode cX7_bears 123 = .ok (.iload_n 2, 1) := by decide +kernel
theorem dX7_bears_124 : decode cX7_bears 124 = .ok (.iconst 2, 1) := by decide +kernel
theorem dX7_bears_125 : decode cX7_bears 125 = .ok (.irem, 1) := by decide +kernel
theorem dX7_bears_126 : decode cX7_bears 126 = .ok (.ifCond .ne 7, 3) := by decide +kernel
theorem dX7_bears_129 : decode cX7_bears 129 = .ok (.iload_n 3, 1) := by decide +kernel
theorem dX7_bears_130 : decode cX7_bears 130 = .ok (.goto 5, 3) := by decide +kernel
theorem dX7_bears_133 : decode cX7_bears 133 = .ok (.iload 4, 2) := by decide +kernel
theorem dX7_bears_135 : decode cX7_bears 135 = .ok (.ireturn, 1) := by decide +kernel
theorem dX7_isOpen_0 : decode cX7_isOpen 0 = .ok (.aload_n 0, 1) := by decide +kernel
theorem dX7_isOpen_1 : decode cX7_isOpen 1 = .ok (.iload_n 1, 1) := by decide +kernel
theorem dX7_isOpen_2 : decode cX7_isOpen 2 = .ok (.invokevirtual 174, 3) := by decide +kernel
theorem dX7_isOpen_5 : decode cX7_isOpen 5 = .ok (.ifCond .eq 16, 3) := by decide +kernel
theorem dX7_isOpen_8 : decode cX7_isOpen 8 = .ok (.aload_n 0, 1) := by decide +kernel
theorem dX7_isOpen_9 : decode cX7_isOpen 9 = .ok (.iload_n 1, 1) := by decide +kernel
theorem dX7_isOpen_10 : decode cX7_isOpen 10 = .ok (.invokevirtual 162, 3) := by decide +kernel
theorem dX7_isOpen_13 : decode cX7_isOpen 13 = .ok (.iconst 2, 1) := by decide +kernel
theorem dX7_isOpen_14 : decode cX7_isOpen 14 = .ok (.if_icmp .ne 7, 3) := by decide +kernel
theorem dX7_isOpen_17 : decode cX7_isOpen 17 = .ok (.iconst 1, 1) := by decide +kernel
theorem dX7_isOpen_18 : decode cX7_isOpen 18 = .ok (.goto 4, 3) := by decide +kernel
theorem dX7_isOpen_21 : decode cX7_isOpen 21 = .ok (.iconst 0, 1) := by decide +kernel
theorem dX7_isOpen_22 : decode cX7_isOpen 22 = .ok (.ireturn, 1) := by decide +kernel
theorem dX7_open_0 : decode cX7_open 0 = .ok (.iload_n 1, 1) := by decide +kernel
theorem dX7_open_1 : decode cX7_open 1 = .ok (.ifCond .ge 6, 3) := by decide +kernel
theorem dX7_open_4 : decode cX7_open 4 = .ok (.bipush (-2), 2) := by decide +kernel
theorem dX7_open_6 : decode cX7_open 6 = .ok (.ireturn, 1) := by decide +kernel
theorem dX7_open_7 : decode cX7_open 7 = .ok (.iconst 0, 1) := by decide +kernel
theorem dX7_open_8 : decode cX7_open 8 = .ok (.istore_n 2, 1) := by decide +kernel
theorem dX7_open_9 : decode cX7_open 9 = .ok (.iload_n 2, 1) := by decide +kernel
theorem dX7_open_10 : decode cX7_open 10 = .ok (.bipush 8, 2) := by decide +kernel
theorem dX7_open_12 : decode cX7_open 12 = .ok (.if_icmp .ge 28, 3) := by decide +kernel
theorem dX7_open_15 : decode cX7_open 15 = .ok (.aload_n 0, 1) := by decide +kernel
theorem dX7_open_16 : decode cX7_open 16 = .ok (.iload_n 2, 1) := by decide +kernel
theorem dX7_open_17 : decode cX7_open 17 = .ok (.invokevirtual 276, 3) := by decide +kernel
theorem dX7_open_20 : decode cX7_open 20 = .ok (.ifCond .eq 14, 3) := by decide +kernel
theorem dX7_open_23 : decode cX7_open 23 = .ok (.aload_n 0, 1) := by decide +kernel
theorem dX7_open_24 : decode cX7_open 24 = .ok (.getfield 49, 3) := by decide +kernel
theorem dX7_open_27 : decode cX7_open 27 = .ok (.iload_n 2, 1) := by decide +kernel
theorem dX7_open_28 : decode cX7_open 28 = .ok (.aload_n 0, 1) := by decide +kernel
theorem dX7_open_29 : decode cX7_open 29 = .ok (.iload_n 2, 1) := by decide +kernel
theorem dX7_open_30 : decode cX7_open 30 = .ok (.invokevirtual 264, 3) := by decide +kernel
theorem dX7_open_33 : decode cX7_open 33 = .ok (.iastore, 1) := by decide +kernel
theorem dX7_open_34 : decode cX7_open 34 = .ok (.iinc 2 1, 3) := by decide +kernel
theorem dX7_open_37 : decode cX7_open 37 = .ok (.goto (-28), 3) := by decide +kernel
theorem dX7_open_40 : decode cX7_open 40 = .ok (.bipush (-5), 2) := by decide +kernel
theorem dX7_open_42 : decode cX7_open 42 = .ok (.istore_n 2, 1) := by decide +kernel
theorem dX7_open_43 : decode cX7_open 43 = .ok (.iconst 0, 1) := by decide +kernel
theorem dX7_open_44 : decode cX7_open 44 = .ok (.istore_n 3, 1) := by decide +kernel
theorem dX7_open_45 : decode cX7_open 45 = .ok (.iload_n 3, 1) := by decide +kernel
theorem dX7_open_46 : decode cX7_open 46 = .ok (.bipush 8, 2) := by decide +kernel
theorem dX7_open_48 : decode cX7_open 48 = .ok (.if_icmp .ge 113, 3) := by decide +kernel
theorem dX7_open_51 : decode cX7_open 51 = .ok (.iconst 0, 1) := by decide +kernel
theorem dX7_open_52 : decode cX7_open 52 = .ok (.istore 4, 2) := by decide +kernel
theorem dX7_open_54 : decode cX7_open 54 = .ok (.iconst 0, 1) := by decide +kernel
theorem dX7_open_55 : decode cX7_open 55 = .ok (.istore 5, 2) := by decide +kernel
theorem dX7_open_57 : decode cX7_open 57 = .ok (.iload 5, 2) := by decide +kernel
theorem dX7_open_59 : decode cX7_open 59 = .ok (.bipush 8, 2) := by decide +kernel
theorem dX7_open_61 : decode cX7_open 61 = .ok (.if_icmp .ge 74, 3) := by decide +kernel
theorem dX7_open_64 : decode cX7_open 64 = .ok (.aload_n 0, 1) := by decide +kernel
theorem dX7_open_65 : decode cX7_open 65 = .ok (.iload_n 3, 1) := by decide +kernel
theorem dX7_open_66 : decode cX7_open 66 = .ok (.invokevirtual 276, 3) := by decide +kernel
theorem dX7_open_69 : decode cX7_open 69 = .ok (.ifCond .eq 66, 3) := by decide +kernel
theorem dX7_open_72 : decode cX7_open 72 = .ok (.iload 4, 2) := by decide +kernel
theorem dX7_open_74 : decode cX7_open 74 = .ok (.aload_n 0, 1) := by decide +kernel
theorem dX7_open_75 : decode cX7_open 75 = .ok (.iload 5, 2) := by decide +kernel
theorem dX7_open_77 : decode cX7_open 77 = .ok (.invokevirtual 276, 3) := by decide +kernel
theorem dX7_open_80 : decode cX7_open 80 = .ok (.ifCond .eq 45, 3) := by decide +kernel
theorem dX7_open_83 : decode cX7_open 83 = .ok (.aload_n 0, 1) := by decide +kernel
theorem dX7_open_84 : decode cX7_open 84 = .ok (.getfield 49, 3) := by decide +kernel
theorem dX7_open_87 : decode cX7_open 87 = .ok (.iload 5, 2) := by decide +kernel
theorem dX7_open_89 : decode cX7_open 89 = .ok (.iaload, 1) := by decide +kernel
theorem dX7_open_90 : decode cX7_open 90 = .ok (.aload_n 0, 1) := by decide +kernel
theorem dX7_open_91 : decode cX7_open 91 = .ok (.getfield 49, 3) := by decide +kernel
theorem dX7_open_94 : decode cX7_open 94 = .ok (.iload_n 3, 1) := by decide +kernel
theorem dX7_open_95 : decode cX7_open 95 = .ok (.iaload, 1) := by decide +kernel
theorem dX7_open_96 : decode cX7_open 96 = .ok (.if_icmp .gt 25, 3) := by decide +kernel
theorem dX7_open_99 : decode cX7_open 99 = .ok (.aload_n 0, 1) := by decide +kernel
theorem dX7_open_100 : decode cX7_open 100 = .ok (.getfield 49, 3) := by decide +kernel
theorem dX7_open_103 : decode cX7_open 103 = .ok (.iload 5, 2) := by decide +kernel
theorem dX7_open_105 : decode cX7_open 105 = .ok (.iaload, 1) := by decide +kernel
theorem dX7_open_106 : decode cX7_open 106 = .ok (.aload_n 0, 1) := by decide +kernel
theorem dX7_open_107 : decode cX7_open 107 = .ok (.getfield 49, 3) := by decide +kernel
theorem dX7_open_110 : decode cX7_open 110 = .ok (.iload_n 3, 1) := by decide +kernel
theorem dX7_open_111 : decode cX7_open 111 = .ok (.iaload, 1) := by decide +kernel
theorem dX7_open_112 : decode cX7_open 112 = .ok (.if_icmp .ne 13, 3) := by decide +kernel
theorem dX7_open_115 : decode cX7_open 115 = .ok (.iload 5, 2) := by decide +kernel
theorem dX7_open_117 : decode cX7_open 117 = .ok (.iload_n 3, 1) := by decide +kernel
theorem dX7_open_118 : decode cX7_open 118 = .ok (.if_icmp .ge 7, 3) := by decide +kernel
theorem dX7_open_121 : decode cX7_open 121 = .ok (.iconst 1, 1) := by decide +kernel
theorem dX7_open_122 : decode cX7_open 122 = .ok (.goto 4, 3) := by decide +kernel
theorem dX7_open_125 : decode cX7_open 125 = .ok (.iconst 0, 1) := by decide +kernel
theorem dX7_open_126 : decode cX7_open 126 = .ok (.iadd, 1) := by decide +kernel
theorem dX7_open_127 : decode cX7_open 127 = .ok (.istore 4, 2) := by decide +kernel
theorem dX7_open_129 : decode cX7_open 129 = .ok (.iinc 5 1, 3) := by decide +kernel
theorem dX7_open_132 : decode cX7_open 132 = .ok (.goto (-75), 3) := by decide +kernel
theorem dX7_open_135 : decode cX7_open 135 = .ok (.aload_n 0, 1) := by decide +kernel
theorem dX7_open_136 : decode cX7_open 136 = .ok (.iload_n 3, 1) := by decide +kernel
theorem dX7_open_137 : decode cX7_open 137 = .ok (.invokevirtual 276, 3) := by decide +kernel
theorem dX7_open_140 : decode cX7_open 140 = .ok (.ifCond .eq 13, 3) := by decide +kernel
theorem dX7_open_143 : decode cX7_open 143 = .ok (.iload 4, 2) := by decide +kernel
theorem dX7_open_145 : decode cX7_open 145 = .ok (.iload_n 1, 1) := by decide +kernel
theorem dX7_open_146 : decode cX7_open 146 = .ok (.if_icmp .ne 7, 3) := by decide +kernel
theorem dX7_open_149 : decode cX7_open 149 = .ok (.iload_n 3, 1) := by decide +kernel
theorem dX7_open_150 : decode cX7_open 150 = .ok (.goto 4, 3) := by decide +kernel
theorem dX7_open_153 : decode cX7_open 153 = .ok (.iload_n 2, 1) := by decide +kernel
theorem dX7_open_154 : decode cX7_open 154 = .ok (.istore_n 2, 1) := by decide +kernel
theorem dX7_open_155 : decode cX7_open 155 = .ok (.iinc 3 1, 3) := by decide +kernel
theorem dX7_open_158 : decode cX7_open 158 = .ok (.goto (-113), 3) := by decide +kernel
theorem dX7_open_161 : decode cX7_open 161 = .ok (.iload_n 2, 1) := by decide +kernel
theorem dX7_open_162 : decode cX7_open 162 = .ok (.ireturn, 1) := by decide +kernel
theorem dX7_at_0 : decode cX7_at 0 = .ok (.iload_n 1, 1) := by decide +kernel
theorem dX7_at_1 : decode cX7_at 1 = .ok (.ifCond .ge 8, 3) := by decide +kernel
theorem dX7_at_4 : decode cX7_at 4 = .ok (.bipush (-2), 2) := by decide +kernel
theorem dX7_at_6 : decode cX7_at 6 = .ok (.goto 26, 3) := by decide +kernel
theorem dX7_at_9 : decode cX7_at 9 = .ok (.iload_n 1, 1) := by decide +kernel
theorem dX7_at_10 : decode cX7_at 10 = .ok (.aload_n 0, 1) := by decide +kernel
theorem dX7_at_11 : decode cX7_at 11 = .ok (.getfield 7, 3) := by decide +kernel
theorem dX7_at_14 : decode cX7_at 14 = .ok (.iconst 0, 1) := by decide +kernel
theorem dX7_at_15 : decode cX7_at 15 = .ok (.iaload, 1) := by decide +kernel
theorem dX7_at_16 : decode cX7_at 16 = .ok (.if_icmp .ge 14, 3) := by decide +kernel
theorem dX7_at_19 : decode cX7_at 19 = .ok (.aload_n 0, 1) := by decide +kernel
theorem dX7_at_20 : decode cX7_at 20 = .ok (.getfield 7, 3) := by decide +kernel
theorem dX7_at_23 : decode cX7_at 23 = .ok (.iconst 4, 1) := by decide +kernel
theorem dX7_at_24 : decode cX7_at 24 = .ok (.iload_n 1, 1) := by decide +kernel
theorem dX7_at_25 : decode cX7_at 25 = .ok (.iadd, 1) := by decide +kernel
theorem dX7_at_26 : decode cX7_at 26 = .ok (.iaload, 1) := by decide +kernel
theorem dX7_at_27 : decode cX7_at 27 = .ok (.goto 5, 3) := by decide +kernel
theorem dX7_at_30 : decode cX7_at 30 = .ok (.bipush (-5), 2) := by decide +kernel
theorem dX7_at_32 : decode cX7_at 32 = .ok (.ireturn, 1) := by decide +kernel
theorem dX7_wishesThat_0 : decode cX7_wishesThat 0 = .ok (.iconst 0, 1) := by decide +kernel
theorem dX7_wishesThat_1 : decode cX7_wishesThat 1 = .ok (.istore_n 2, 1) := by decide +kernel
theorem dX7_wishesThat_2 : decode cX7_wishesThat 2 = .ok (.iconst 0, 1) := by decide +kernel
theorem dX7_wishesThat_3 : decode cX7_wishesThat 3 = .ok (.istore_n 3, 1) := by decide +kernel
theorem dX7_wishesThat_4 : decode cX7_wishesThat 4 = .ok (.iload_n 3, 1) := by decide +kernel
theorem dX7_wishesThat_5 : decode cX7_wishesThat 5 = .ok (.bipush 8, 2) := by decide +kernel
theorem dX7_wishesThat_7 : decode cX7_wishesThat 7 = .ok (.if_icmp .ge 34, 3) := by decide +kernel
theorem dX7_wishesThat_10 : decode cX7_wishesThat 10 = .ok (.iload_n 2, 1) := by decide +kernel
theorem dX7_wishesThat_11 : decode cX7_wishesThat 11 = .ok (.aload_n 0, 1) := by decide +kernel
theorem dX7_wishesThat_12 : decode cX7_wishesThat 12 = .ok (.iload_n 3, 1) := by decide +kernel
theorem dX7_wishesThat_13 : decode cX7_wishesThat 13 = .ok (.invokevirtual 174, 3) := by decide +kernel
theorem dX7_wishesThat_16 : decode cX7_wishesThat 16 = .ok (.ifCond .eq 16, 3) := by decide +kernel
theorem dX7_wishesThat_19 : decode cX7_wishesThat 19 = .ok (.aload_n 0, 1) := by decide +kernel
theorem dX7_wishesThat_20 : decode cX7_wishesThat 20 = .ok (.iload_n 3, 1) := by decide +kernel
theorem dX7_wishesThat_21 : decode cX7_wishesThat 21 = .ok (.invokevirtual 162, 3) := by decide +kernel
theorem dX7_wishesThat_24 : decode cX7_wishesThat 24 = .ok (.iload_n 1, 1) := by decide +kernel
theorem dX7_wishesThat_25 : decode cX7_wishesThat 25 = .ok (.if_icmp .ne 7, 3) := by decide +kernel
theorem dX7_wishesThat_28 : decode cX7_wishesThat 28 = .ok (.iconst 1, 1) := by decide +kernel
theorem dX7_wishesThat_29 : decode cX7_wishesThat 29 = .ok (.goto 4, 3) := by decide +kernel
theorem dX7_wishesThat_32 : decode cX7_wishesThat 32 = .ok (.iconst 0, 1) := by decide +kernel
theorem dX7_wishesThat_33 : decode cX7_wishesThat 33 = .ok (.iadd, 1) := by decide +kernel
theorem dX7_wishesThat_34 : decode cX7_wishesThat 34 = .ok (.istore_n 2, 1) := by decide +kernel
theorem dX7_wishesThat_35 : decode cX7_wishesThat 35 = .ok (.iinc 3 1, 3) := by decide +kernel
theorem dX7_wishesThat_38 : decode cX7_wishesThat 38 = .ok (.goto (-34), 3) := by decide +kernel
theorem dX7_wishesThat_41 : decode cX7_wishesThat 41 = .ok (.iload_n 2, 1) := by decide +kernel
theorem dX7_wishesThat_42 : decode cX7_wishesThat 42 = .ok (.ireturn, 1) := by decide +kernel
theorem dX7_count_0 : decode cX7_count 0 = .ok (.iload_n 1, 1) := by decide +kernel
theorem dX7_count_1 : decode cX7_count 1 = .ok (.tableswitch 105 0 8 #[51, 58, 65, 70, 77, 83, 89, 95, 100], 51) := by decide +kernel
theorem dX7_count_52 : decode cX7_count 52 = .ok (.aload_n 0, 1) := by decide +kernel
theorem dX7_count_53 : decode cX7_count 53 = .ok (.getfield 7, 3) := by decide +kernel
theorem dX7_count_56 : decode cX7_count 56 = .ok (.iconst 0, 1) := by decide +kernel
theorem dX7_count_57 : decode cX7_count 57 = .ok (.iaload, 1) := by decide +kernel
theorem dX7_count_58 : decode cX7_count 58 = .ok (.ireturn, 1) := by decide +kernel
theorem dX7_count_59 : decode cX7_count 59 = .ok (.aload_n 0, 1) := by decide +kernel
theorem dX7_count_60 : decode cX7_count 60 = .ok (.getfield 7, 3) := by decide +kernel
theorem dX7_count_63 : decode cX7_count 63 = .ok (.iconst 1, 1) := by decide +kernel
theorem dX7_count_64 : decode cX7_count 64 = .ok (.iaload, 1) := by decide +kernel
theorem dX7_count_65 : decode cX7_count 65 = .ok (.ireturn, 1) := by decide +kernel
theorem dX7_count_66 : decode cX7_count 66 = .ok (.aload_n 0, 1) := by decide +kernel
theorem dX7_count_67 : decode cX7_count 67 = .ok (.invokevirtual 255, 3) := by decide +kernel
theorem dX7_count_70 : decode cX7_count 70 = .ok (.ireturn, 1) := by decide +kernel
theorem dX7_count_71 : decode cX7_count 71 = .ok (.aload_n 0, 1) := by decide +kernel
theorem dX7_count_72 : decode cX7_count 72 = .ok (.getfield 7, 3) := by decide +kernel
theorem dX7_count_75 : decode cX7_count 75 = .ok (.iconst 2, 1) := by decide +kernel
theorem dX7_count_76 : decode cX7_count 76 = .ok (.iaload, 1) := by decide +kernel
theorem dX7_count_77 : decode cX7_count 77 = .ok (.ireturn, 1) := by decide +kernel
theorem dX7_count_78 : decode cX7_count 78 = .ok (.aload_n 0, 1) := by decide +kernel
theorem dX7_count_79 : decode cX7_count 79 = .ok (.iconst 2, 1) := by decide +kernel
theorem dX7_count_80 : decode cX7_count 80 = .ok (.invokevirtual 279, 3) := by decide +kernel
theorem dX7_count_83 : decode cX7_count 83 = .ok (.ireturn, 1) := by decide +kernel
theorem dX7_count_84 : decode cX7_count 84 = .ok (.aload_n 0, 1) := by decide +kernel
theorem dX7_count_85 : decode cX7_count 85 = .ok (.iconst 0, 1) := by decide +kernel
theorem dX7_count_86 : decode cX7_count 86 = .ok (.invokevirtual 279, 3) := by decide +kernel
theorem dX7_count_89 : decode cX7_count 89 = .ok (.ireturn, 1) := by decide +kernel
theorem dX7_count_90 : decode cX7_count 90 = .ok (.aload_n 0, 1) := by decide +kernel
theorem dX7_count_91 : decode cX7_count 91 = .ok (.iconst 1, 1) := by decide +kernel
theorem dX7_count_92 : decode cX7_count 92 = .ok (.invokevirtual 279, 3) := by decide +kernel
theorem dX7_count_95 : decode cX7_count 95 = .ok (.ireturn, 1) := by decide +kernel
theorem dX7_count_96 : decode cX7_count 96 = .ok (.aload_n 0, 1) := by decide +kernel
theorem dX7_count_97 : decode cX7_count 97 = .ok (.getfield 65, 3) := by decide +kernel
theorem dX7_count_100 : decode cX7_count 100 = .ok (.ireturn, 1) := by decide +kernel
theorem dX7_count_101 : decode cX7_count 101 = .ok (.aload_n 0, 1) := by decide +kernel
theorem dX7_count_102 : decode cX7_count 102 = .ok (.getfield 200, 3) := by decide +kernel
theorem dX7_count_105 : decode cX7_count 105 = .ok (.ireturn, 1) := by decide +kernel
theorem dX7_count_106 : decode cX7_count 106 = .ok (.bipush (-2), 2) := by decide +kernel
theorem dX7_count_108 : decode cX7_count 108 = .ok (.ireturn, 1) := by decide +kernel
