/-! ===== the law's rows and cases ===== -/
theorem dL_law_0 : decode code 0 = .ok (.new 7, 3) := by decide +kernel
theorem dL_law_3 : decode code 3 = .ok (.dup, 1) := by decide +kernel
theorem dL_law_4 : decode code 4 = .ok (.invokespecial 9, 3) := by decide +kernel
theorem dL_law_7 : decode code 7 = .ok (.astore_n 1, 1) := by decide +kernel
theorem dL_law_8 : decode code 8 = .ok (.new 10, 3) := by decide +kernel
theorem dL_law_11 : decode code 11 = .ok (.dup, 1) := by decide +kernel
theorem dL_law_12 : decode code 12 = .ok (.invokespecial 12, 3) := by decide +kernel
theorem dL_law_15 : decode code 15 = .ok (.astore_n 2, 1) := by decide +kernel
theorem dL_law_16 : decode code 16 = .ok (.iconst 0, 1) := by decide +kernel
theorem dL_law_17 : decode code 17 = .ok (.istore_n 3, 1) := by decide +kernel
theorem dL_law_18 : decode code 18 = .ok (.iload_n 3, 1) := by decide +kernel
theorem dL_law_19 : decode code 19 = .ok (.aload_n 0, 1) := by decide +kernel
theorem dL_law_20 : decode code 20 = .ok (.arraylength, 1) := by decide +kernel
theorem dL_law_21 : decode code 21 = .ok (.iconst 5, 1) := by decide +kernel
theorem dL_law_22 : decode code 22 = .ok (.isub, 1) := by decide +kernel
theorem dL_law_23 : decode code 23 = .ok (.if_icmp .gt 944, 3) := by decide +kernel
theorem dL_law_26 : decode code 26 = .ok (.aload_n 0, 1) := by decide +kernel
theorem dL_law_27 : decode code 27 = .ok (.iload_n 3, 1) := by decide +kernel
theorem dL_law_28 : decode code 28 = .ok (.iaload, 1) := by decide +kernel
theorem dL_law_29 : decode code 29 = .ok (.bipush 31, 2) := by decide +kernel
theorem dL_law_31 : decode code 31 = .ok (.iand, 1) := by decide +kernel
theorem dL_law_32 : decode code 32 = .ok (.tableswitch 929 0 23 #[112, 155, 214, 237, 296, 329, 362, 395, 445, 494, 527, 550, 583, 616, 649, 682, 705, 728, 781, 804, 827, 840, 873, 906], 112) := by decide +kernel
theorem dL_law_144 : decode code 144 = .ok (.aload_n 1, 1) := by decide +kernel
theorem dL_law_145 : decode code 145 = .ok (.aload_n 0, 1) := by decide +kernel
theorem dL_law_146 : decode code 146 = .ok (.iload_n 3, 1) := by decide +kernel
theorem dL_law_147 : decode code 147 = .ok (.iconst 1, 1) := by decide +kernel
theorem dL_law_148 : decode code 148 = .ok (.iadd, 1) := by decide +kernel
theorem dL_law_149 : decode code 149 = .ok (.iaload, 1) := by decide +kernel
theorem dL_law_150 : decode code 150 = .ok (.aload_n 0, 1) := by decide +kernel
theorem dL_law_151 : decode code 151 = .ok (.iload_n 3, 1) := by decide +kernel
theorem dL_law_152 : decode code 152 = .ok (.iconst 2, 1) := by decide +kernel
theorem dL_law_153 : decode code 153 = .ok (.iadd, 1) := by decide +kernel
theorem dL_law_154 : decode code 154 = .ok (.iaload, 1) := by decide +kernel
theorem dL_law_155 : decode code 155 = .ok (.aload_n 0, 1) := by decide +kernel
theorem dL_law_156 : decode code 156 = .ok (.iload_n 3, 1) := by decide +kernel
theorem dL_law_157 : decode code 157 = .ok (.iconst 3, 1) := by decide +kernel
theorem dL_law_158 : decode code 158 = .ok (.iadd, 1) := by decide +kernel
theorem dL_law_159 : decode code 159 = .ok (.iaload, 1) := by decide +kernel
theorem dL_law_160 : decode code 160 = .ok (.invokevirtual 13, 3) := by decide +kernel
theorem dL_law_163 : decode code 163 = .ok (.aload_n 2, 1) := by decide +kernel
theorem dL_law_164 : decode code 164 = .ok (.aload_n 0, 1) := by decide +kernel
theorem dL_law_165 : decode code 165 = .ok (.iload_n 3, 1) := by decide +kernel
theorem dL_law_166 : decode code 166 = .ok (.iconst 1, 1) := by decide +kernel
theorem dL_law_167 : decode code 167 = .ok (.iadd, 1) := by decide +kernel
theorem dL_law_168 : decode code 168 = .ok (.iaload, 1) := by decide +kernel
theorem dL_law_169 : decode code 169 = .ok (.aload_n 0, 1) := by decide +kernel
theorem dL_law_170 : decode code 170 = .ok (.iload_n 3, 1) := by decide +kernel
theorem dL_law_171 : decode code 171 = .ok (.iconst 2, 1) := by decide +kernel
theorem dL_law_172 : decode code 172 = .ok (.iadd, 1) := by decide +kernel
theorem dL_law_173 : decode code 173 = .ok (.iaload, 1) := by decide +kernel
theorem dL_law_174 : decode code 174 = .ok (.aload_n 0, 1) := by decide +kernel
theorem dL_law_175 : decode code 175 = .ok (.iload_n 3, 1) := by decide +kernel
theorem dL_law_176 : decode code 176 = .ok (.iconst 3, 1) := by decide +kernel
theorem dL_law_177 : decode code 177 = .ok (.iadd, 1) := by decide +kernel
theorem dL_law_178 : decode code 178 = .ok (.iaload, 1) := by decide +kernel
theorem dL_law_179 : decode code 179 = .ok (.invokevirtual 17, 3) := by decide +kernel
theorem dL_law_182 : decode code 182 = .ok (.if_icmp .eq 779, 3) := by decide +kernel
theorem dL_law_185 : decode code 185 = .ok (.iconst 0, 1) := by decide +kernel
theorem dL_law_186 : decode code 186 = .ok (.ireturn, 1) := by decide +kernel
theorem dL_law_187 : decode code 187 = .ok (.aload_n 1, 1) := by decide +kernel
theorem dL_law_188 : decode code 188 = .ok (.aload_n 0, 1) := by decide +kernel
theorem dL_law_189 : decode code 189 = .ok (.iload_n 3, 1) := by decide +kernel
theorem dL_law_190 : decode code 190 = .ok (.iconst 1, 1) := by decide +kernel
theorem dL_law_191 : decode code 191 = .ok (.iadd, 1) := by decide +kernel
theorem dL_law_192 : decode code 192 = .ok (.iaload, 1) := by decide +kernel
theorem dL_law_193 : decode code 193 = .ok (.aload_n 0, 1) := by decide +kernel
theorem dL_law_194 : decode code 194 = .ok (.iload_n 3, 1) := by decide +kernel
theorem dL_law_195 : decode code 195 = .ok (.iconst 2, 1) := by decide +kernel
theorem dL_law_196 : decode code 196 = .ok (.iadd, 1) := by decide +kernel
theorem dL_law_197 : decode code 197 = .ok (.iaload, 1) := by decide +kernel
theorem dL_law_198 : decode code 198 = .ok (.aload_n 0, 1) := by decide +kernel
theorem dL_law_199 : decode code 199 = .ok (.iload_n 3, 1) := by decide +kernel
theorem dL_law_200 : decode code 200 = .ok (.iconst 3, 1) := by decide +kernel
theorem dL_law_201 : decode code 201 = .ok (.iadd, 1) := by decide +kernel
theorem dL_law_202 : decode code 202 = .ok (.iaload, 1) := by decide +kernel
theorem dL_law_203 : decode code 203 = .ok (.ifCond .eq 7, 3) := by decide +kernel
theorem dL_law_206 : decode code 206 = .ok (.iconst 1, 1) := by decide +kernel
theorem dL_law_207 : decode code 207 = .ok (.goto 4, 3) := by decide +kernel
theorem dL_law_210 : decode code 210 = .ok (.iconst 0, 1) := by decide +kernel
theorem dL_law_211 : decode code 211 = .ok (.invokevirtual 18, 3) := by decide +kernel
theorem dL_law_214 : decode code 214 = .ok (.aload_n 2, 1) := by decide +kernel
theorem dL_law_215 : decode code 215 = .ok (.aload_n 0, 1) := by decide +kernel
theorem dL_law_216 : decode code 216 = .ok (.iload_n 3, 1) := by decide +kernel
theorem dL_law_217 : decode code 217 = .ok (.iconst 1, 1) := by decide +kernel
theorem dL_law_218 : decode code 218 = .ok (.iadd, 1) := by decide +kernel
theorem dL_law_219 : decode code 219 = .ok (.iaload, 1) := by decide +kernel
theorem dL_law_220 : decode code 220 = .ok (.aload_n 0, 1) := by decide +kernel
theorem dL_law_221 : decode code 221 = .ok (.iload_n 3, 1) := by decide +kernel
theorem dL_law_222 : decode code 222 = .ok (.iconst 2, 1) := by decide +kernel
theorem dL_law_223 : decode code 223 = .ok (.iadd, 1) := by decide +kernel
theorem dL_law_224 : decode code 224 = .ok (.iaload, 1) := by decide +kernel
theorem dL_law_225 : decode code 225 = .ok (.aload_n 0, 1) := by decide +kernel
theorem dL_law_226 : decode code 226 = .ok (.iload_n 3, 1) := by decide +kernel
theorem dL_law_227 : decode code 227 = .ok (.iconst 3, 1) := by decide +kernel
theorem dL_law_228 : decode code 228 = .ok (.iadd, 1) := by decide +kernel
theorem dL_law_229 : decode code 229 = .ok (.iaload, 1) := by decide +kernel
theorem dL_law_230 : decode code 230 = .ok (.ifCond .eq 7, 3) := by decide +kernel
theorem dL_law_233 : decode code 233 = .ok (.iconst 1, 1) := by decide +kernel
theorem dL_law_234 : decode code 234 = .ok (.goto 4, 3) := by decide +kernel
theorem dL_law_237 : decode code 237 = .ok (.iconst 0, 1) := by decide +kernel
theorem dL_law_238 : decode code 238 = .ok (.invokevirtual 22, 3) := by decide +kernel
theorem dL_law_241 : decode code 241 = .ok (.if_icmp .eq 720, 3) := by decide +kernel
theorem dL_law_244 : decode code 244 = .ok (.iconst 0, 1) := by decide +kernel
theorem dL_law_245 : decode code 245 = .ok (.ireturn, 1) := by decide +kernel
theorem dL_law_246 : decode code 246 = .ok (.aload_n 1, 1) := by decide +kernel
theorem dL_law_247 : decode code 247 = .ok (.aload_n 0, 1) := by decide +kernel
theorem dL_law_248 : decode code 248 = .ok (.iload_n 3, 1) := by decide +kernel
theorem dL_law_249 : decode code 249 = .ok (.iconst 1, 1) := by decide +kernel
theorem dL_law_250 : decode code 250 = .ok (.iadd, 1) := by decide +kernel
theorem dL_law_251 : decode code 251 = .ok (.iaload, 1) := by decide +kernel
theorem dL_law_252 : decode code 252 = .ok (.invokevirtual 23, 3) := by decide +kernel
theorem dL_law_255 : decode code 255 = .ok (.aload_n 2, 1) := by decide +kernel
theorem dL_law_256 : decode code 256 = .ok (.aload_n 0, 1) := by decide +kernel
theorem dL_law_257 : decode code 257 = .ok (.iload_n 3, 1) := by decide +kernel
theorem dL_law_258 : decode code 258 = .ok (.iconst 1, 1) := by decide +kernel
theorem dL_law_259 : decode code 259 = .ok (.iadd, 1) := by decide +kernel
theorem dL_law_260 : decode code 260 = .ok (.iaload, 1) := by decide +kernel
theorem dL_law_261 : decode code 261 = .ok (.invokevirtual 27, 3) := by decide +kernel
theorem dL_law_264 : decode code 264 = .ok (.if_icmp .eq 697, 3) := by decide +kernel
theorem dL_law_267 : decode code 267 = .ok (.iconst 0, 1) := by decide +kernel
theorem dL_law_268 : decode code 268 = .ok (.ireturn, 1) := by decide +kernel
theorem dL_law_269 : decode code 269 = .ok (.aload_n 1, 1) := by decide +kernel
theorem dL_law_270 : decode code 270 = .ok (.aload_n 0, 1) := by decide +kernel
theorem dL_law_271 : decode code 271 = .ok (.iload_n 3, 1) := by decide +kernel
theorem dL_law_272 : decode code 272 = .ok (.iconst 1, 1) := by decide +kernel
theorem dL_law_273 : decode code 273 = .ok (.iadd, 1) := by decide +kernel
theorem dL_law_274 : decode code 274 = .ok (.iaload, 1) := by decide +kernel
theorem dL_law_275 : decode code 275 = .ok (.aload_n 0, 1) := by decide +kernel
theorem dL_law_276 : decode code 276 = .ok (.iload_n 3, 1) := by decide +kernel
theorem dL_law_277 : decode code 277 = .ok (.iconst 2, 1) := by decide +kernel
theorem dL_law_278 : decode code 278 = .ok (.iadd, 1) := by decide +kernel
theorem dL_law_279 : decode code 279 = .ok (.iaload, 1) := by decide +kernel
theorem dL_law_280 : decode code 280 = .ok (.aload_n 0, 1) := by decide +kernel
theorem dL_law_281 : decode code 281 = .ok (.iload_n 3, 1) := by decide +kernel
theorem dL_law_282 : decode code 282 = .ok (.iconst 3, 1) := by decide +kernel
theorem dL_law_283 : decode code 283 = .ok (.iadd, 1) := by decide +kernel
theorem dL_law_284 : decode code 284 = .ok (.iaload, 1) := by decide +kernel
theorem dL_law_285 : decode code 285 = .ok (.ifCond .eq 7, 3) := by decide +kernel
theorem dL_law_288 : decode code 288 = .ok (.iconst 1, 1) := by decide +kernel
theorem dL_law_289 : decode code 289 = .ok (.goto 4, 3) := by decide +kernel
theorem dL_law_292 : decode code 292 = .ok (.iconst 0, 1) := by decide +kernel
theorem dL_law_293 : decode code 293 = .ok (.invokevirtual 28, 3) := by decide +kernel
theorem dL_law_296 : decode code 296 = .ok (.aload_n 2, 1) := by decide +kernel
theorem dL_law_297 : decode code 297 = .ok (.aload_n 0, 1) := by decide +kernel
theorem dL_law_298 : decode code 298 = .ok (.iload_n 3, 1) := by decide +kernel
theorem dL_law_299 : decode code 299 = .ok (.iconst 1, 1) := by decide +kernel
theorem dL_law_300 : decode code 300 = .ok (.iadd, 1) := by decide +kernel
theorem dL_law_301 : decode code 301 = .ok (.iaload, 1) := by decide +kernel
theorem dL_law_302 : decode code 302 = .ok (.aload_n 0, 1) := by decide +kernel
theorem dL_law_303 : decode code 303 = .ok (.iload_n 3, 1) := by decide +kernel
theorem dL_law_304 : decode code 304 = .ok (.iconst 2, 1) := by decide +kernel
theorem dL_law_305 : decode code 305 = .ok (.iadd, 1) := by decide +kernel
theorem dL_law_306 : decode code 306 = .ok (.iaload, 1) := by decide +kernel
theorem dL_law_307 : decode code 307 = .ok (.aload_n 0, 1) := by decide +kernel
theorem dL_law_308 : decode code 308 = .ok (.iload_n 3, 1) := by decide +kernel
theorem dL_law_309 : decode code 309 = .ok (.iconst 3, 1) := by decide +kernel
theorem dL_law_310 : decode code 310 = .ok (.iadd, 1) := by decide +kernel
theorem dL_law_311 : decode code 311 = .ok (.iaload, 1) := by decide +kernel
theorem dL_law_312 : decode code 312 = .ok (.ifCond .eq 7, 3) := by decide +kernel
theorem dL_law_315 : decode code 315 = .ok (.iconst 1, 1) := by decide +kernel
theorem dL_law_316 : decode code 316 = .ok (.goto 4, 3) := by decide +kernel
theorem dL_law_319 : decode code 319 = .ok (.iconst 0, 1) := by decide +kernel
theorem dL_law_320 : decode code 320 = .ok (.invokevirtual 31, 3) := by decide +kernel
theorem dL_law_323 : decode code 323 = .ok (.if_icmp .eq 638, 3) := by decide +kernel
theorem dL_law_326 : decode code 326 = .ok (.iconst 0, 1) := by decide +kernel
theorem dL_law_327 : decode code 327 = .ok (.ireturn, 1) := by decide +kernel
theorem dL_law_328 : decode code 328 = .ok (.aload_n 1, 1) := by decide +kernel
theorem dL_law_329 : decode code 329 = .ok (.aload_n 0, 1) := by decide +kernel
theorem dL_law_330 : decode code 330 = .ok (.iload_n 3, 1) := by decide +kernel
theorem dL_law_331 : decode code 331 = .ok (.iconst 1, 1) := by decide +kernel
theorem dL_law_332 : decode code 332 = .ok (.iadd, 1) := by decide +kernel
theorem dL_law_333 : decode code 333 = .ok (.iaload, 1) := by decide +kernel
theorem dL_law_334 : decode code 334 = .ok (.aload_n 0, 1) := by decide +kernel
theorem dL_law_335 : decode code 335 = .ok (.iload_n 3, 1) := by decide +kernel
theorem dL_law_336 : decode code 336 = .ok (.iconst 2, 1) := by decide +kernel
theorem dL_law_337 : decode code 337 = .ok (.iadd, 1) := by decide +kernel
theorem dL_law_338 : decode code 338 = .ok (.iaload, 1) := by decide +kernel
theorem dL_law_339 : decode code 339 = .ok (.invokevirtual 32, 3) := by decide +kernel
theorem dL_law_342 : decode code 342 = .ok (.aload_n 2, 1) := by decide +kernel
theorem dL_law_343 : decode code 343 = .ok (.aload_n 0, 1) := by decide +kernel
theorem dL_law_344 : decode code 344 = .ok (.iload_n 3, 1) := by decide +kernel
theorem dL_law_345 : decode code 345 = .ok (.iconst 1, 1) := by decide +kernel
theorem dL_law_346 : decode code 346 = .ok (.iadd, 1) := by decide +kernel
theorem dL_law_347 : decode code 347 = .ok (.iaload, 1) := by decide +kernel
theorem dL_law_348 : decode code 348 = .ok (.aload_n 0, 1) := by decide +kernel
theorem dL_law_349 : decode code 349 = .ok (.iload_n 3, 1) := by decide +kernel
theorem dL_law_350 : decode code 350 = .ok (.iconst 2, 1) := by decide +kernel
theorem dL_law_351 : decode code 351 = .ok (.iadd, 1) := by decide +kernel
theorem dL_law_352 : decode code 352 = .ok (.iaload, 1) := by decide +kernel
theorem dL_law_353 : decode code 353 = .ok (.invokevirtual 36, 3) := by decide +kernel
theorem dL_law_356 : decode code 356 = .ok (.if_icmp .eq 605, 3) := by decide +kernel
theorem dL_law_359 : decode code 359 = .ok (.iconst 0, 1) := by decide +kernel
theorem dL_law_360 : decode code 360 = .ok (.ireturn, 1) := by decide +kernel
theorem dL_law_361 : decode code 361 = .ok (.aload_n 1, 1) := by decide +kernel
theorem dL_law_362 : decode code 362 = .ok (.aload_n 0, 1) := by decide +kernel
theorem dL_law_363 : decode code 363 = .ok (.iload_n 3, 1) := by decide +kernel
theorem dL_law_364 : decode code 364 = .ok (.iconst 1, 1) := by decide +kernel
theorem dL_law_365 : decode code 365 = .ok (.iadd, 1) := by decide +kernel
theorem dL_law_366 : decode code 366 = .ok (.iaload, 1) := by decide +kernel
theorem dL_law_367 : decode code 367 = .ok (.aload_n 0, 1) := by decide +kernel
theorem dL_law_368 : decode code 368 = .ok (.iload_n 3, 1) := by decide +kernel
theorem dL_law_369 : decode code 369 = .ok (.iconst 2, 1) := by decide +kernel
theorem dL_law_370 : decode code 370 = .ok (.iadd, 1) := by decide +kernel
theorem dL_law_371 : decode code 371 = .ok (.iaload, 1) := by decide +kernel
theorem dL_law_372 : decode code 372 = .ok (.invokevirtual 37, 3) := by decide +kernel
theorem dL_law_375 : decode code 375 = .ok (.aload_n 2, 1) := by decide +kernel
theorem dL_law_376 : decode code 376 = .ok (.aload_n 0, 1) := by decide +kernel
theorem dL_law_377 : decode code 377 = .ok (.iload_n 3, 1) := by decide +kernel
theorem dL_law_378 : decode code 378 = .ok (.iconst 1, 1) := by decide +kernel
theorem dL_law_379 : decode code 379 = .ok (.iadd, 1) := by decide +kernel
theorem dL_law_380 : decode code 380 = .ok (.iaload, 1) := by decide +kernel
theorem dL_law_381 : decode code 381 = .ok (.aload_n 0, 1) := by decide +kernel
theorem dL_law_382 : decode code 382 = .ok (.iload_n 3, 1) := by decide +kernel
theorem dL_law_383 : decode code 383 = .ok (.iconst 2, 1) := by decide +kernel
theorem dL_law_384 : decode code 384 = .ok (.iadd, 1) := by decide +kernel
theorem dL_law_385 : decode code 385 = .ok (.iaload, 1) := by decide +kernel
theorem dL_law_386 : decode code 386 = .ok (.invokevirtual 40, 3) := by decide +kernel
theorem dL_law_389 : decode code 389 = .ok (.if_icmp .eq 572, 3) := by decide +kernel
theorem dL_law_392 : decode code 392 = .ok (.iconst 0, 1) := by decide +kernel
theorem dL_law_393 : decode code 393 = .ok (.ireturn, 1) := by decide +kernel
theorem dL_law_394 : decode code 394 = .ok (.aload_n 1, 1) := by decide +kernel
theorem dL_law_395 : decode code 395 = .ok (.aload_n 0, 1) := by decide +kernel
theorem dL_law_396 : decode code 396 = .ok (.iload_n 3, 1) := by decide +kernel
theorem dL_law_397 : decode code 397 = .ok (.iconst 1, 1) := by decide +kernel
theorem dL_law_398 : decode code 398 = .ok (.iadd, 1) := by decide +kernel
theorem dL_law_399 : decode code 399 = .ok (.iaload, 1) := by decide +kernel
theorem dL_law_400 : decode code 400 = .ok (.aload_n 0, 1) := by decide +kernel
theorem dL_law_401 : decode code 401 = .ok (.iload_n 3, 1) := by decide +kernel
theorem dL_law_402 : decode code 402 = .ok (.iconst 2, 1) := by decide +kernel
theorem dL_law_403 : decode code 403 = .ok (.iadd, 1) := by decide +kernel
theorem dL_law_404 : decode code 404 = .ok (.iaload, 1) := by decide +kernel
theorem dL_law_405 : decode code 405 = .ok (.invokevirtual 41, 3) := by decide +kernel
theorem dL_law_408 : decode code 408 = .ok (.aload_n 2, 1) := by decide +kernel
theorem dL_law_409 : decode code 409 = .ok (.aload_n 0, 1) := by decide +kernel
theorem dL_law_410 : decode code 410 = .ok (.iload_n 3, 1) := by decide +kernel
theorem dL_law_411 : decode code 411 = .ok (.iconst 1, 1) := by decide +kernel
theorem dL_law_412 : decode code 412 = .ok (.iadd, 1) := by decide +kernel
theorem dL_law_413 : decode code 413 = .ok (.iaload, 1) := by decide +kernel
theorem dL_law_414 : decode code 414 = .ok (.aload_n 0, 1) := by decide +kernel
theorem dL_law_415 : decode code 415 = .ok (.iload_n 3, 1) := by decide +kernel
theorem dL_law_416 : decode code 416 = .ok (.iconst 2, 1) := by decide +kernel
theorem dL_law_417 : decode code 417 = .ok (.iadd, 1) := by decide +kernel
theorem dL_law_418 : decode code 418 = .ok (.iaload, 1) := by decide +kernel
theorem dL_law_419 : decode code 419 = .ok (.invokevirtual 44, 3) := by decide +kernel
theorem dL_law_422 : decode code 422 = .ok (.if_icmp .eq 539, 3) := by decide +kernel
theorem dL_law_425 : decode code 425 = .ok (.iconst 0, 1) := by decide +kernel
theorem dL_law_426 : decode code 426 = .ok (.ireturn, 1) := by decide +kernel
theorem dL_law_427 : decode code 427 = .ok (.aload_n 1, 1) := by decide +kernel
theorem dL_law_428 : decode code 428 = .ok (.aload_n 0, 1) := by decide +kernel
theorem dL_law_429 : decode code 429 = .ok (.iload_n 3, 1) := by decide +kernel
theorem dL_law_430 : decode code 430 = .ok (.iconst 1, 1) := by decide +kernel
theorem dL_law_431 : decode code 431 = .ok (.iadd, 1) := by decide +kernel
theorem dL_law_432 : decode code 432 = .ok (.iaload, 1) := by decide +kernel
theorem dL_law_433 : decode code 433 = .ok (.aload_n 0, 1) := by decide +kernel
theorem dL_law_434 : decode code 434 = .ok (.iload_n 3, 1) := by decide +kernel
theorem dL_law_435 : decode code 435 = .ok (.iconst 2, 1) := by decide +kernel
theorem dL_law_436 : decode code 436 = .ok (.iadd, 1) := by decide +kernel
theorem dL_law_437 : decode code 437 = .ok (.iaload, 1) := by decide +kernel
theorem dL_law_438 : decode code 438 = .ok (.ifCond .eq 7, 3) := by decide +kernel
theorem dL_law_441 : decode code 441 = .ok (.iconst 1, 1) := by decide +kernel
theorem dL_law_442 : decode code 442 = .ok (.goto 4, 3) := by decide +kernel
theorem dL_law_445 : decode code 445 = .ok (.iconst 0, 1) := by decide +kernel
theorem dL_law_446 : decode code 446 = .ok (.invokevirtual 45, 3) := by decide +kernel
theorem dL_law_449 : decode code 449 = .ok (.aload_n 2, 1) := by decide +kernel
theorem dL_law_450 : decode code 450 = .ok (.aload_n 0, 1) := by decide +kernel
theorem dL_law_451 : decode code 451 = .ok (.iload_n 3, 1) := by decide +kernel
theorem dL_law_452 : decode code 452 = .ok (.iconst 1, 1) := by decide +kernel
theorem dL_law_453 : decode code 453 = .ok (.iadd, 1) := by decide +kernel
theorem dL_law_454 : decode code 454 = .ok (.iaload, 1) := by decide +kernel
theorem dL_law_455 : decode code 455 = .ok (.aload_n 0, 1) := by decide +kernel
theorem dL_law_456 : decode code 456 = .ok (.iload_n 3, 1) := by decide +kernel
theorem dL_law_457 : decode code 457 = .ok (.iconst 2, 1) := by decide +kernel
theorem dL_law_458 : decode code 458 = .ok (.iadd, 1) := by decide +kernel
theorem dL_law_459 : decode code 459 = .ok (.iaload, 1) := by decide +kernel
theorem dL_law_460 : decode code 460 = .ok (.ifCond .eq 7, 3) := by decide +kernel
theorem dL_law_463 : decode code 463 = .ok (.iconst 1, 1) := by decide +kernel
theorem dL_law_464 : decode code 464 = .ok (.goto 4, 3) := by decide +kernel
theorem dL_law_467 : decode code 467 = .ok (.iconst 0, 1) := by decide +kernel
theorem dL_law_468 : decode code 468 = .ok (.invokevirtual 49, 3) := by decide +kernel
theorem dL_law_471 : decode code 471 = .ok (.lcmp, 1) := by decide +kernel
theorem dL_law_472 : decode code 472 = .ok (.ifCond .eq 489, 3) := by decide +kernel
theorem dL_law_475 : decode code 475 = .ok (.iconst 0, 1) := by decide +kernel
theorem dL_law_476 : decode code 476 = .ok (.ireturn, 1) := by decide +kernel
theorem dL_law_477 : decode code 477 = .ok (.aload_n 1, 1) := by decide +kernel
theorem dL_law_478 : decode code 478 = .ok (.aload_n 0, 1) := by decide +kernel
theorem dL_law_479 : decode code 479 = .ok (.iload_n 3, 1) := by decide +kernel
theorem dL_law_480 : decode code 480 = .ok (.iconst 1, 1) := by decide +kernel
theorem dL_law_481 : decode code 481 = .ok (.iadd, 1) := by decide +kernel
theorem dL_law_482 : decode code 482 = .ok (.iaload, 1) := by decide +kernel
theorem dL_law_483 : decode code 483 = .ok (.aload_n 0, 1) := by decide +kernel
theorem dL_law_484 : decode code 484 = .ok (.iload_n 3, 1) := by decide +kernel
theorem dL_law_485 : decode code 485 = .ok (.iconst 2, 1) := by decide +kernel
theorem dL_law_486 : decode code 486 = .ok (.iadd, 1) := by decide +kernel
theorem dL_law_487 : decode code 487 = .ok (.iaload, 1) := by decide +kernel
theorem dL_law_488 : decode code 488 = .ok (.ifCond .eq 7, 3) := by decide +kernel
theorem dL_law_491 : decode code 491 = .ok (.iconst 1, 1) := by decide +kernel
theorem dL_law_492 : decode code 492 = .ok (.goto 4, 3) := by decide +kernel
theorem dL_law_495 : decode code 495 = .ok (.iconst 0, 1) := by decide +kernel
theorem dL_law_496 : decode code 496 = .ok (.invokevirtual 50, 3) := by decide +kernel
theorem dL_law_499 : decode code 499 = .ok (.aload_n 2, 1) := by decide +kernel
theorem dL_law_500 : decode code 500 = .ok (.aload_n 0, 1) := by decide +kernel
theorem dL_law_501 : decode code 501 = .ok (.iload_n 3, 1) := by decide +kernel
theorem dL_law_502 : decode code 502 = .ok (.iconst 1, 1) := by decide +kernel
theorem dL_law_503 : decode code 503 = .ok (.iadd, 1) := by decide +kernel
theorem dL_law_504 : decode code 504 = .ok (.iaload, 1) := by decide +kernel
theorem dL_law_505 : decode code 505 = .ok (.aload_n 0, 1) := by decide +kernel
theorem dL_law_506 : decode code 506 = .ok (.iload_n 3, 1) := by decide +kernel
theorem dL_law_507 : decode code 507 = .ok (.iconst 2, 1) := by decide +kernel
theorem dL_law_508 : decode code 508 = .ok (.iadd, 1) := by decide +kernel
theorem dL_law_509 : decode code 509 = .ok (.iaload, 1) := by decide +kernel
theorem dL_law_510 : decode code 510 = .ok (.ifCond .eq 7, 3) := by decide +kernel
theorem dL_law_513 : decode code 513 = .ok (.iconst 1, 1) := by decide +kernel
theorem dL_law_514 : decode code 514 = .ok (.goto 4, 3) := by decide +kernel
theorem dL_law_517 : decode code 517 = .ok (.iconst 0, 1) := by decide +kernel
theorem dL_law_518 : decode code 518 = .ok (.invokevirtual 54, 3) := by decide +kernel
theorem dL_law_521 : decode code 521 = .ok (.if_icmp .eq 440, 3) := by decide +kernel
theorem dL_law_524 : decode code 524 = .ok (.iconst 0, 1) := by decide +kernel
theorem dL_law_525 : decode code 525 = .ok (.ireturn, 1) := by decide +kernel
theorem dL_law_526 : decode code 526 = .ok (.aload_n 1, 1) := by decide +kernel
theorem dL_law_527 : decode code 527 = .ok (.aload_n 0, 1) := by decide +kernel
theorem dL_law_528 : decode code 528 = .ok (.iload_n 3, 1) := by decide +kernel
theorem dL_law_529 : decode code 529 = .ok (.iconst 1, 1) := by decide +kernel
theorem dL_law_530 : decode code 530 = .ok (.iadd, 1) := by decide +kernel
theorem dL_law_531 : decode code 531 = .ok (.iaload, 1) := by decide +kernel
theorem dL_law_532 : decode code 532 = .ok (.aload_n 0, 1) := by decide +kernel
theorem dL_law_533 : decode code 533 = .ok (.iload_n 3, 1) := by decide +kernel
theorem dL_law_534 : decode code 534 = .ok (.iconst 2, 1) := by decide +kernel
theorem dL_law_535 : decode code 535 = .ok (.iadd, 1) := by decide +kernel
theorem dL_law_536 : decode code 536 = .ok (.iaload, 1) := by decide +kernel
theorem dL_law_537 : decode code 537 = .ok (.invokevirtual 55, 3) := by decide +kernel
theorem dL_law_540 : decode code 540 = .ok (.aload_n 2, 1) := by decide +kernel
theorem dL_law_541 : decode code 541 = .ok (.aload_n 0, 1) := by decide +kernel
theorem dL_law_542 : decode code 542 = .ok (.iload_n 3, 1) := by decide +kernel
theorem dL_law_543 : decode code 543 = .ok (.iconst 1, 1) := by decide +kernel
theorem dL_law_544 : decode code 544 = .ok (.iadd, 1) := by decide +kernel
theorem dL_law_545 : decode code 545 = .ok (.iaload, 1) := by decide +kernel
theorem dL_law_546 : decode code 546 = .ok (.aload_n 0, 1) := by decide +kernel
theorem dL_law_547 : decode code 547 = .ok (.iload_n 3, 1) := by decide +kernel
theorem dL_law_548 : decode code 548 = .ok (.iconst 2, 1) := by decide +kernel
theorem dL_law_549 : decode code 549 = .ok (.iadd, 1) := by decide +kernel
theorem dL_law_550 : decode code 550 = .ok (.iaload, 1) := by decide +kernel
theorem dL_law_551 : decode code 551 = .ok (.invokevirtual 58, 3) := by decide +kernel
theorem dL_law_554 : decode code 554 = .ok (.if_icmp .eq 407, 3) := by decide +kernel
theorem dL_law_557 : decode code 557 = .ok (.iconst 0, 1) := by decide +kernel
theorem dL_law_558 : decode code 558 = .ok (.ireturn, 1) := by decide +kernel
theorem dL_law_559 : decode code 559 = .ok (.aload_n 1, 1) := by decide +kernel
theorem dL_law_560 : decode code 560 = .ok (.aload_n 0, 1) := by decide +kernel
theorem dL_law_561 : decode code 561 = .ok (.iload_n 3, 1) := by decide +kernel
theorem dL_law_562 : decode code 562 = .ok (.iconst 1, 1) := by decide +kernel
theorem dL_law_563 : decode code 563 = .ok (.iadd, 1) := by decide +kernel
theorem dL_law_564 : decode code 564 = .ok (.iaload, 1) := by decide +kernel
theorem dL_law_565 : decode code 565 = .ok (.invokevirtual 59, 3) := by decide +kernel
theorem dL_law_568 : decode code 568 = .ok (.aload_n 2, 1) := by decide +kernel
theorem dL_law_569 : decode code 569 = .ok (.aload_n 0, 1) := by decide +kernel
theorem dL_law_570 : decode code 570 = .ok (.iload_n 3, 1) := by decide +kernel
theorem dL_law_571 : decode code 571 = .ok (.iconst 1, 1) := by decide +kernel
theorem dL_law_572 : decode code 572 = .ok (.iadd, 1) := by decide +kernel
theorem dL_law_573 : decode code 573 = .ok (.iaload, 1) := by decide +kernel
theorem dL_law_574 : decode code 574 = .ok (.invokevirtual 62, 3) := by decide +kernel
theorem dL_law_577 : decode code 577 = .ok (.if_icmp .eq 384, 3) := by decide +kernel
theorem dL_law_580 : decode code 580 = .ok (.iconst 0, 1) := by decide +kernel
theorem dL_law_581 : decode code 581 = .ok (.ireturn, 1) := by decide +kernel
theorem dL_law_582 : decode code 582 = .ok (.aload_n 1, 1) := by decide +kernel
theorem dL_law_583 : decode code 583 = .ok (.aload_n 0, 1) := by decide +kernel
theorem dL_law_584 : decode code 584 = .ok (.iload_n 3, 1) := by decide +kernel
theorem dL_law_585 : decode code 585 = .ok (.iconst 1, 1) := by decide +kernel
theorem dL_law_586 : decode code 586 = .ok (.iadd, 1) := by decide +kernel
theorem dL_law_587 : decode code 587 = .ok (.iaload, 1) := by decide +kernel
theorem dL_law_588 : decode code 588 = .ok (.aload_n 0, 1) := by decide +kernel
theorem dL_law_589 : decode code 589 = .ok (.iload_n 3, 1) := by decide +kernel
theorem dL_law_590 : decode code 590 = .ok (.iconst 2, 1) := by decide +kernel
theorem dL_law_591 : decode code 591 = .ok (.iadd, 1) := by decide +kernel
theorem dL_law_592 : decode code 592 = .ok (.iaload, 1) := by decide +kernel
theorem dL_law_593 : decode code 593 = .ok (.invokevirtual 63, 3) := by decide +kernel
theorem dL_law_596 : decode code 596 = .ok (.aload_n 2, 1) := by decide +kernel
theorem dL_law_597 : decode code 597 = .ok (.aload_n 0, 1) := by decide +kernel
theorem dL_law_598 : decode code 598 = .ok (.iload_n 3, 1) := by decide +kernel
theorem dL_law_599 : decode code 599 = .ok (.iconst 1, 1) := by decide +kernel
theorem dL_law_600 : decode code 600 = .ok (.iadd, 1) := by decide +kernel
theorem dL_law_601 : decode code 601 = .ok (.iaload, 1) := by decide +kernel
theorem dL_law_602 : decode code 602 = .ok (.aload_n 0, 1) := by decide +kernel
theorem dL_law_603 : decode code 603 = .ok (.iload_n 3, 1) := by decide +kernel
theorem dL_law_604 : decode code 604 = .ok (.iconst 2, 1) := by decide +kernel
theorem dL_law_605 : decode code 605 = .ok (.iadd, 1) := by decide +kernel
theorem dL_law_606 : decode code 606 = .ok (.iaload, 1) := by decide +kernel
theorem dL_law_607 : decode code 607 = .ok (.invokevirtual 66, 3) := by decide +kernel
theorem dL_law_610 : decode code 610 = .ok (.if_icmp .eq 351, 3) := by decide +kernel
theorem dL_law_613 : decode code 613 = .ok (.iconst 0, 1) := by decide +kernel
theorem dL_law_614 : decode code 614 = .ok (.ireturn, 1) := by decide +kernel
theorem dL_law_615 : decode code 615 = .ok (.aload_n 1, 1) := by decide +kernel
theorem dL_law_616 : decode code 616 = .ok (.aload_n 0, 1) := by decide +kernel
theorem dL_law_617 : decode code 617 = .ok (.iload_n 3, 1) := by decide +kernel
theorem dL_law_618 : decode code 618 = .ok (.iconst 1, 1) := by decide +kernel
theorem dL_law_619 : decode code 619 = .ok (.iadd, 1) := by decide +kernel
theorem dL_law_620 : decode code 620 = .ok (.iaload, 1) := by decide +kernel
theorem dL_law_621 : decode code 621 = .ok (.aload_n 0, 1) := by decide +kernel
theorem dL_law_622 : decode code 622 = .ok (.iload_n 3, 1) := by decide +kernel
theorem dL_law_623 : decode code 623 = .ok (.iconst 2, 1) := by decide +kernel
theorem dL_law_624 : decode code 624 = .ok (.iadd, 1) := by decide +kernel
theorem dL_law_625 : decode code 625 = .ok (.iaload, 1) := by decide +kernel
theorem dL_law_626 : decode code 626 = .ok (.invokevirtual 67, 3) := by decide +kernel
theorem dL_law_629 : decode code 629 = .ok (.aload_n 2, 1) := by decide +kernel
theorem dL_law_630 : decode code 630 = .ok (.aload_n 0, 1) := by decide +kernel
theorem dL_law_631 : decode code 631 = .ok (.iload_n 3, 1) := by decide +kernel
theorem dL_law_632 : decode code 632 = .ok (.iconst 1, 1) := by decide +kernel
theorem dL_law_633 : decode code 633 = .ok (.iadd, 1) := by decide +kernel
theorem dL_law_634 : decode code 634 = .ok (.iaload, 1) := by decide +kernel
theorem dL_law_635 : decode code 635 = .ok (.aload_n 0, 1) := by decide +kernel
theorem dL_law_636 : decode code 636 = .ok (.iload_n 3, 1) := by decide +kernel
theorem dL_law_637 : decode code 637 = .ok (.iconst 2, 1) := by decide +kernel
theorem dL_law_638 : decode code 638 = .ok (.iadd, 1) := by decide +kernel
theorem dL_law_639 : decode code 639 = .ok (.iaload, 1) := by decide +kernel
theorem dL_law_640 : decode code 640 = .ok (.invokevirtual 70, 3) := by decide +kernel
theorem dL_law_643 : decode code 643 = .ok (.if_icmp .eq 318, 3) := by decide +kernel
theorem dL_law_646 : decode code 646 = .ok (.iconst 0, 1) := by decide +kernel
theorem dL_law_647 : decode code 647 = .ok (.ireturn, 1) := by decide +kernel
theorem dL_law_648 : decode code 648 = .ok (.aload_n 1, 1) := by decide +kernel
theorem dL_law_649 : decode code 649 = .ok (.aload_n 0, 1) := by decide +kernel
theorem dL_law_650 : decode code 650 = .ok (.iload_n 3, 1) := by decide +kernel
theorem dL_law_651 : decode code 651 = .ok (.iconst 1, 1) := by decide +kernel
theorem dL_law_652 : decode code 652 = .ok (.iadd, 1) := by decide +kernel
theorem dL_law_653 : decode code 653 = .ok (.iaload, 1) := by decide +kernel
theorem dL_law_654 : decode code 654 = .ok (.aload_n 0, 1) := by decide +kernel
theorem dL_law_655 : decode code 655 = .ok (.iload_n 3, 1) := by decide +kernel
theorem dL_law_656 : decode code 656 = .ok (.iconst 2, 1) := by decide +kernel
theorem dL_law_657 : decode code 657 = .ok (.iadd, 1) := by decide +kernel
theorem dL_law_658 : decode code 658 = .ok (.iaload, 1) := by decide +kernel
theorem dL_law_659 : decode code 659 = .ok (.invokevirtual 71, 3) := by decide +kernel
theorem dL_law_662 : decode code 662 = .ok (.aload_n 2, 1) := by decide +kernel
theorem dL_law_663 : decode code 663 = .ok (.aload_n 0, 1) := by decide +kernel
theorem dL_law_664 : decode code 664 = .ok (.iload_n 3, 1) := by decide +kernel
theorem dL_law_665 : decode code 665 = .ok (.iconst 1, 1) := by decide +kernel
theorem dL_law_666 : decode code 666 = .ok (.iadd, 1) := by decide +kernel
theorem dL_law_667 : decode code 667 = .ok (.iaload, 1) := by decide +kernel
theorem dL_law_668 : decode code 668 = .ok (.aload_n 0, 1) := by decide +kernel
theorem dL_law_669 : decode code 669 = .ok (.iload_n 3, 1) := by decide +kernel
theorem dL_law_670 : decode code 670 = .ok (.iconst 2, 1) := by decide +kernel
theorem dL_law_671 : decode code 671 = .ok (.iadd, 1) := by decide +kernel
theorem dL_law_672 : decode code 672 = .ok (.iaload, 1) := by decide +kernel
theorem dL_law_673 : decode code 673 = .ok (.invokevirtual 74, 3) := by decide +kernel
theorem dL_law_676 : decode code 676 = .ok (.if_icmp .eq 285, 3) := by decide +kernel
theorem dL_law_679 : decode code 679 = .ok (.iconst 0, 1) := by decide +kernel
theorem dL_law_680 : decode code 680 = .ok (.ireturn, 1) := by decide +kernel
theorem dL_law_681 : decode code 681 = .ok (.aload_n 1, 1) := by decide +kernel
theorem dL_law_682 : decode code 682 = .ok (.aload_n 0, 1) := by decide +kernel
theorem dL_law_683 : decode code 683 = .ok (.iload_n 3, 1) := by decide +kernel
theorem dL_law_684 : decode code 684 = .ok (.iconst 1, 1) := by decide +kernel
theorem dL_law_685 : decode code 685 = .ok (.iadd, 1) := by decide +kernel
theorem dL_law_686 : decode code 686 = .ok (.iaload, 1) := by decide +kernel
theorem dL_law_687 : decode code 687 = .ok (.aload_n 0, 1) := by decide +kernel
theorem dL_law_688 : decode code 688 = .ok (.iload_n 3, 1) := by decide +kernel
theorem dL_law_689 : decode code 689 = .ok (.iconst 2, 1) := by decide +kernel
theorem dL_law_690 : decode code 690 = .ok (.iadd, 1) := by decide +kernel
theorem dL_law_691 : decode code 691 = .ok (.iaload, 1) := by decide +kernel
theorem dL_law_692 : decode code 692 = .ok (.invokevirtual 75, 3) := by decide +kernel
theorem dL_law_695 : decode code 695 = .ok (.aload_n 2, 1) := by decide +kernel
theorem dL_law_696 : decode code 696 = .ok (.aload_n 0, 1) := by decide +kernel
theorem dL_law_697 : decode code 697 = .ok (.iload_n 3, 1) := by decide +kernel
theorem dL_law_698 : decode code 698 = .ok (.iconst 1, 1) := by decide +kernel
theorem dL_law_699 : decode code 699 = .ok (.iadd, 1) := by decide +kernel
theorem dL_law_700 : decode code 700 = .ok (.iaload, 1) := by decide +kernel
theorem dL_law_701 : decode code 701 = .ok (.aload_n 0, 1) := by decide +kernel
theorem dL_law_702 : decode code 702 = .ok (.iload_n 3, 1) := by decide +kernel
theorem dL_law_703 : decode code 703 = .ok (.iconst 2, 1) := by decide +kernel
theorem dL_law_704 : decode code 704 = .ok (.iadd, 1) := by decide +kernel
theorem dL_law_705 : decode code 705 = .ok (.iaload, 1) := by decide +kernel
theorem dL_law_706 : decode code 706 = .ok (.invokevirtual 78, 3) := by decide +kernel
theorem dL_law_709 : decode code 709 = .ok (.if_icmp .eq 252, 3) := by decide +kernel
theorem dL_law_712 : decode code 712 = .ok (.iconst 0, 1) := by decide +kernel
theorem dL_law_713 : decode code 713 = .ok (.ireturn, 1) := by decide +kernel
theorem dL_law_714 : decode code 714 = .ok (.aload_n 1, 1) := by decide +kernel
theorem dL_law_715 : decode code 715 = .ok (.aload_n 0, 1) := by decide +kernel
theorem dL_law_716 : decode code 716 = .ok (.iload_n 3, 1) := by decide +kernel
theorem dL_law_717 : decode code 717 = .ok (.iconst 1, 1) := by decide +kernel
theorem dL_law_718 : decode code 718 = .ok (.iadd, 1) := by decide +kernel
theorem dL_law_719 : decode code 719 = .ok (.iaload, 1) := by decide +kernel
theorem dL_law_720 : decode code 720 = .ok (.invokevirtual 79, 3) := by decide +kernel
theorem dL_law_723 : decode code 723 = .ok (.aload_n 2, 1) := by decide +kernel
theorem dL_law_724 : decode code 724 = .ok (.aload_n 0, 1) := by decide +kernel
theorem dL_law_725 : decode code 725 = .ok (.iload_n 3, 1) := by decide +kernel
theorem dL_law_726 : decode code 726 = .ok (.iconst 1, 1) := by decide +kernel
theorem dL_law_727 : decode code 727 = .ok (.iadd, 1) := by decide +kernel
theorem dL_law_728 : decode code 728 = .ok (.iaload, 1) := by decide +kernel
theorem dL_law_729 : decode code 729 = .ok (.invokevirtual 82, 3) := by decide +kernel
theorem dL_law_732 : decode code 732 = .ok (.if_icmp .eq 229, 3) := by decide +kernel
theorem dL_law_735 : decode code 735 = .ok (.iconst 0, 1) := by decide +kernel
theorem dL_law_736 : decode code 736 = .ok (.ireturn, 1) := by decide +kernel
theorem dL_law_737 : decode code 737 = .ok (.aload_n 1, 1) := by decide +kernel
theorem dL_law_738 : decode code 738 = .ok (.aload_n 0, 1) := by decide +kernel
theorem dL_law_739 : decode code 739 = .ok (.iload_n 3, 1) := by decide +kernel
theorem dL_law_740 : decode code 740 = .ok (.iconst 1, 1) := by decide +kernel
theorem dL_law_741 : decode code 741 = .ok (.iadd, 1) := by decide +kernel
theorem dL_law_742 : decode code 742 = .ok (.iaload, 1) := by decide +kernel
theorem dL_law_743 : decode code 743 = .ok (.invokevirtual 83, 3) := by decide +kernel
theorem dL_law_746 : decode code 746 = .ok (.aload_n 2, 1) := by decide +kernel
theorem dL_law_747 : decode code 747 = .ok (.aload_n 0, 1) := by decide +kernel
theorem dL_law_748 : decode code 748 = .ok (.iload_n 3, 1) := by decide +kernel
theorem dL_law_749 : decode code 749 = .ok (.iconst 1, 1) := by decide +kernel
theorem dL_law_750 : decode code 750 = .ok (.iadd, 1) := by decide +kernel
theorem dL_law_751 : decode code 751 = .ok (.iaload, 1) := by decide +kernel
theorem dL_law_752 : decode code 752 = .ok (.invokevirtual 86, 3) := by decide +kernel
theorem dL_law_755 : decode code 755 = .ok (.if_icmp .eq 206, 3) := by decide +kernel
theorem dL_law_758 : decode code 758 = .ok (.iconst 0, 1) := by decide +kernel
theorem dL_law_759 : decode code 759 = .ok (.ireturn, 1) := by decide +kernel
theorem dL_law_760 : decode code 760 = .ok (.aload_n 1, 1) := by decide +kernel
theorem dL_law_761 : decode code 761 = .ok (.aload_n 0, 1) := by decide +kernel
theorem dL_law_762 : decode code 762 = .ok (.iload_n 3, 1) := by decide +kernel
theorem dL_law_763 : decode code 763 = .ok (.iconst 1, 1) := by decide +kernel
theorem dL_law_764 : decode code 764 = .ok (.iadd, 1) := by decide +kernel
theorem dL_law_765 : decode code 765 = .ok (.iaload, 1) := by decide +kernel
theorem dL_law_766 : decode code 766 = .ok (.aload_n 0, 1) := by decide +kernel
theorem dL_law_767 : decode code 767 = .ok (.iload_n 3, 1) := by decide +kernel
theorem dL_law_768 : decode code 768 = .ok (.iconst 2, 1) := by decide +kernel
theorem dL_law_769 : decode code 769 = .ok (.iadd, 1) := by decide +kernel
theorem dL_law_770 : decode code 770 = .ok (.iaload, 1) := by decide +kernel
theorem dL_law_771 : decode code 771 = .ok (.aload_n 0, 1) := by decide +kernel
theorem dL_law_772 : decode code 772 = .ok (.iload_n 3, 1) := by decide +kernel
theorem dL_law_773 : decode code 773 = .ok (.iconst 3, 1) := by decide +kernel
theorem dL_law_774 : decode code 774 = .ok (.iadd, 1) := by decide +kernel
theorem dL_law_775 : decode code 775 = .ok (.iaload, 1) := by decide +kernel
theorem dL_law_776 : decode code 776 = .ok (.aload_n 0, 1) := by decide +kernel
theorem dL_law_777 : decode code 777 = .ok (.iload_n 3, 1) := by decide +kernel
theorem dL_law_778 : decode code 778 = .ok (.iconst 4, 1) := by decide +kernel
theorem dL_law_779 : decode code 779 = .ok (.iadd, 1) := by decide +kernel
theorem dL_law_780 : decode code 780 = .ok (.iaload, 1) := by decide +kernel
theorem dL_law_781 : decode code 781 = .ok (.invokevirtual 87, 3) := by decide +kernel
theorem dL_law_784 : decode code 784 = .ok (.aload_n 2, 1) := by decide +kernel
theorem dL_law_785 : decode code 785 = .ok (.aload_n 0, 1) := by decide +kernel
theorem dL_law_786 : decode code 786 = .ok (.iload_n 3, 1) := by decide +kernel
theorem dL_law_787 : decode code 787 = .ok (.iconst 1, 1) := by decide +kernel
theorem dL_law_788 : decode code 788 = .ok (.iadd, 1) := by decide +kernel
theorem dL_law_789 : decode code 789 = .ok (.iaload, 1) := by decide +kernel
theorem dL_law_790 : decode code 790 = .ok (.aload_n 0, 1) := by decide +kernel
theorem dL_law_791 : decode code 791 = .ok (.iload_n 3, 1) := by decide +kernel
theorem dL_law_792 : decode code 792 = .ok (.iconst 2, 1) := by decide +kernel
theorem dL_law_793 : decode code 793 = .ok (.iadd, 1) := by decide +kernel
theorem dL_law_794 : decode code 794 = .ok (.iaload, 1) := by decide +kernel
theorem dL_law_795 : decode code 795 = .ok (.aload_n 0, 1) := by decide +kernel
theorem dL_law_796 : decode code 796 = .ok (.iload_n 3, 1) := by decide +kernel
theorem dL_law_797 : decode code 797 = .ok (.iconst 3, 1) := by decide +kernel
theorem dL_law_798 : decode code 798 = .ok (.iadd, 1) := by decide +kernel
theorem dL_law_799 : decode code 799 = .ok (.iaload, 1) := by decide +kernel
theorem dL_law_800 : decode code 800 = .ok (.aload_n 0, 1) := by decide +kernel
theorem dL_law_801 : decode code 801 = .ok (.iload_n 3, 1) := by decide +kernel
theorem dL_law_802 : decode code 802 = .ok (.iconst 4, 1) := by decide +kernel
theorem dL_law_803 : decode code 803 = .ok (.iadd, 1) := by decide +kernel
theorem dL_law_804 : decode code 804 = .ok (.iaload, 1) := by decide +kernel
theorem dL_law_805 : decode code 805 = .ok (.invokevirtual 91, 3) := by decide +kernel
theorem dL_law_808 : decode code 808 = .ok (.if_icmp .eq 153, 3) := by decide +kernel
theorem dL_law_811 : decode code 811 = .ok (.iconst 0, 1) := by decide +kernel
theorem dL_law_812 : decode code 812 = .ok (.ireturn, 1) := by decide +kernel
theorem dL_law_813 : decode code 813 = .ok (.aload_n 1, 1) := by decide +kernel
theorem dL_law_814 : decode code 814 = .ok (.aload_n 0, 1) := by decide +kernel
theorem dL_law_815 : decode code 815 = .ok (.iload_n 3, 1) := by decide +kernel
theorem dL_law_816 : decode code 816 = .ok (.iconst 1, 1) := by decide +kernel
theorem dL_law_817 : decode code 817 = .ok (.iadd, 1) := by decide +kernel
theorem dL_law_818 : decode code 818 = .ok (.iaload, 1) := by decide +kernel
theorem dL_law_819 : decode code 819 = .ok (.invokevirtual 92, 3) := by decide +kernel
theorem dL_law_822 : decode code 822 = .ok (.aload_n 2, 1) := by decide +kernel
theorem dL_law_823 : decode code 823 = .ok (.aload_n 0, 1) := by decide +kernel
theorem dL_law_824 : decode code 824 = .ok (.iload_n 3, 1) := by decide +kernel
theorem dL_law_825 : decode code 825 = .ok (.iconst 1, 1) := by decide +kernel
theorem dL_law_826 : decode code 826 = .ok (.iadd, 1) := by decide +kernel
theorem dL_law_827 : decode code 827 = .ok (.iaload, 1) := by decide +kernel
theorem dL_law_828 : decode code 828 = .ok (.invokevirtual 95, 3) := by decide +kernel
theorem dL_law_831 : decode code 831 = .ok (.if_icmp .eq 130, 3) := by decide +kernel
theorem dL_law_834 : decode code 834 = .ok (.iconst 0, 1) := by decide +kernel
theorem dL_law_835 : decode code 835 = .ok (.ireturn, 1) := by decide +kernel
theorem dL_law_836 : decode code 836 = .ok (.aload_n 1, 1) := by decide +kernel
theorem dL_law_837 : decode code 837 = .ok (.aload_n 0, 1) := by decide +kernel
theorem dL_law_838 : decode code 838 = .ok (.iload_n 3, 1) := by decide +kernel
theorem dL_law_839 : decode code 839 = .ok (.iconst 1, 1) := by decide +kernel
theorem dL_law_840 : decode code 840 = .ok (.iadd, 1) := by decide +kernel
theorem dL_law_841 : decode code 841 = .ok (.iaload, 1) := by decide +kernel
theorem dL_law_842 : decode code 842 = .ok (.invokevirtual 96, 3) := by decide +kernel
theorem dL_law_845 : decode code 845 = .ok (.aload_n 2, 1) := by decide +kernel
theorem dL_law_846 : decode code 846 = .ok (.aload_n 0, 1) := by decide +kernel
theorem dL_law_847 : decode code 847 = .ok (.iload_n 3, 1) := by decide +kernel
theorem dL_law_848 : decode code 848 = .ok (.iconst 1, 1) := by decide +kernel
theorem dL_law_849 : decode code 849 = .ok (.iadd, 1) := by decide +kernel
theorem dL_law_850 : decode code 850 = .ok (.iaload, 1) := by decide +kernel
theorem dL_law_851 : decode code 851 = .ok (.invokevirtual 99, 3) := by decide +kernel
theorem dL_law_854 : decode code 854 = .ok (.if_icmp .eq 107, 3) := by decide +kernel
theorem dL_law_857 : decode code 857 = .ok (.iconst 0, 1) := by decide +kernel
theorem dL_law_858 : decode code 858 = .ok (.ireturn, 1) := by decide +kernel
theorem dL_law_859 : decode code 859 = .ok (.aload_n 1, 1) := by decide +kernel
theorem dL_law_860 : decode code 860 = .ok (.invokevirtual 100, 3) := by decide +kernel
theorem dL_law_863 : decode code 863 = .ok (.aload_n 2, 1) := by decide +kernel
theorem dL_law_864 : decode code 864 = .ok (.invokevirtual 104, 3) := by decide +kernel
theorem dL_law_867 : decode code 867 = .ok (.if_icmp .eq 94, 3) := by decide +kernel
theorem dL_law_870 : decode code 870 = .ok (.iconst 0, 1) := by decide +kernel
theorem dL_law_871 : decode code 871 = .ok (.ireturn, 1) := by decide +kernel
theorem dL_law_872 : decode code 872 = .ok (.aload_n 1, 1) := by decide +kernel
theorem dL_law_873 : decode code 873 = .ok (.aload_n 0, 1) := by decide +kernel
theorem dL_law_874 : decode code 874 = .ok (.iload_n 3, 1) := by decide +kernel
theorem dL_law_875 : decode code 875 = .ok (.iconst 1, 1) := by decide +kernel
theorem dL_law_876 : decode code 876 = .ok (.iadd, 1) := by decide +kernel
theorem dL_law_877 : decode code 877 = .ok (.iaload, 1) := by decide +kernel
theorem dL_law_878 : decode code 878 = .ok (.aload_n 0, 1) := by decide +kernel
theorem dL_law_879 : decode code 879 = .ok (.iload_n 3, 1) := by decide +kernel
theorem dL_law_880 : decode code 880 = .ok (.iconst 2, 1) := by decide +kernel
theorem dL_law_881 : decode code 881 = .ok (.iadd, 1) := by decide +kernel
theorem dL_law_882 : decode code 882 = .ok (.iaload, 1) := by decide +kernel
theorem dL_law_883 : decode code 883 = .ok (.invokevirtual 105, 3) := by decide +kernel
theorem dL_law_886 : decode code 886 = .ok (.aload_n 2, 1) := by decide +kernel
theorem dL_law_887 : decode code 887 = .ok (.aload_n 0, 1) := by decide +kernel
theorem dL_law_888 : decode code 888 = .ok (.iload_n 3, 1) := by decide +kernel
theorem dL_law_889 : decode code 889 = .ok (.iconst 1, 1) := by decide +kernel
theorem dL_law_890 : decode code 890 = .ok (.iadd, 1) := by decide +kernel
theorem dL_law_891 : decode code 891 = .ok (.iaload, 1) := by decide +kernel
theorem dL_law_892 : decode code 892 = .ok (.aload_n 0, 1) := by decide +kernel
theorem dL_law_893 : decode code 893 = .ok (.iload_n 3, 1) := by decide +kernel
theorem dL_law_894 : decode code 894 = .ok (.iconst 2, 1) := by decide +kernel
theorem dL_law_895 : decode code 895 = .ok (.iadd, 1) := by decide +kernel
theorem dL_law_896 : decode code 896 = .ok (.iaload, 1) := by decide +kernel
theorem dL_law_897 : decode code 897 = .ok (.invokevirtual 108, 3) := by decide +kernel
theorem dL_law_900 : decode code 900 = .ok (.if_icmp .eq 61, 3) := by decide +kernel
theorem dL_law_903 : decode code 903 = .ok (.iconst 0, 1) := by decide +kernel
theorem dL_law_904 : decode code 904 = .ok (.ireturn, 1) := by decide +kernel
theorem dL_law_905 : decode code 905 = .ok (.aload_n 1, 1) := by decide +kernel
theorem dL_law_906 : decode code 906 = .ok (.aload_n 0, 1) := by decide +kernel
theorem dL_law_907 : decode code 907 = .ok (.iload_n 3, 1) := by decide +kernel
theorem dL_law_908 : decode code 908 = .ok (.iconst 1, 1) := by decide +kernel
theorem dL_law_909 : decode code 909 = .ok (.iadd, 1) := by decide +kernel
theorem dL_law_910 : decode code 910 = .ok (.iaload, 1) := by decide +kernel
theorem dL_law_911 : decode code 911 = .ok (.aload_n 0, 1) := by decide +kernel
theorem dL_law_912 : decode code 912 = .ok (.iload_n 3, 1) := by decide +kernel
theorem dL_law_913 : decode code 913 = .ok (.iconst 2, 1) := by decide +kernel
theorem dL_law_914 : decode code 914 = .ok (.iadd, 1) := by decide +kernel
theorem dL_law_915 : decode code 915 = .ok (.iaload, 1) := by decide +kernel
theorem dL_law_916 : decode code 916 = .ok (.invokevirtual 109, 3) := by decide +kernel
theorem dL_law_919 : decode code 919 = .ok (.aload_n 2, 1) := by decide +kernel
theorem dL_law_920 : decode code 920 = .ok (.aload_n 0, 1) := by decide +kernel
theorem dL_law_921 : decode code 921 = .ok (.iload_n 3, 1) := by decide +kernel
theorem dL_law_922 : decode code 922 = .ok (.iconst 1, 1) := by decide +kernel
theorem dL_law_923 : decode code 923 = .ok (.iadd, 1) := by decide +kernel
theorem dL_law_924 : decode code 924 = .ok (.iaload, 1) := by decide +kernel
theorem dL_law_925 : decode code 925 = .ok (.aload_n 0, 1) := by decide +kernel
theorem dL_law_926 : decode code 926 = .ok (.iload_n 3, 1) := by decide +kernel
theorem dL_law_927 : decode code 927 = .ok (.iconst 2, 1) := by decide +kernel
theorem dL_law_928 : decode code 928 = .ok (.iadd, 1) := by decide +kernel
theorem dL_law_929 : decode code 929 = .ok (.iaload, 1) := by decide +kernel
theorem dL_law_930 : decode code 930 = .ok (.invokevirtual 112, 3) := by decide +kernel
theorem dL_law_933 : decode code 933 = .ok (.if_icmp .eq 28, 3) := by decide +kernel
theorem dL_law_936 : decode code 936 = .ok (.iconst 0, 1) := by decide +kernel
theorem dL_law_937 : decode code 937 = .ok (.ireturn, 1) := by decide +kernel
theorem dL_law_938 : decode code 938 = .ok (.aload_n 1, 1) := by decide +kernel
theorem dL_law_939 : decode code 939 = .ok (.aload_n 0, 1) := by decide +kernel
theorem dL_law_940 : decode code 940 = .ok (.iload_n 3, 1) := by decide +kernel
theorem dL_law_941 : decode code 941 = .ok (.iconst 1, 1) := by decide +kernel
theorem dL_law_942 : decode code 942 = .ok (.iadd, 1) := by decide +kernel
theorem dL_law_943 : decode code 943 = .ok (.iaload, 1) := by decide +kernel
theorem dL_law_944 : decode code 944 = .ok (.invokevirtual 113, 3) := by decide +kernel
theorem dL_law_947 : decode code 947 = .ok (.aload_n 2, 1) := by decide +kernel
theorem dL_law_948 : decode code 948 = .ok (.aload_n 0, 1) := by decide +kernel
theorem dL_law_949 : decode code 949 = .ok (.iload_n 3, 1) := by decide +kernel
theorem dL_law_950 : decode code 950 = .ok (.iconst 1, 1) := by decide +kernel
theorem dL_law_951 : decode code 951 = .ok (.iadd, 1) := by decide +kernel
theorem dL_law_952 : decode code 952 = .ok (.iaload, 1) := by decide +kernel
theorem dL_law_953 : decode code 953 = .ok (.invokevirtual 116, 3) := by decide +kernel
theorem dL_law_956 : decode code 956 = .ok (.if_icmp .eq 5, 3) := by decide +kernel
theorem dL_law_959 : decode code 959 = .ok (.iconst 0, 1) := by decide +kernel
theorem dL_law_960 : decode code 960 = .ok (.ireturn, 1) := by decide +kernel
theorem dL_law_961 : decode code 961 = .ok (.iinc 3 5, 3) := by decide +kernel
theorem dL_law_964 : decode code 964 = .ok (.goto (-946), 3) := by decide +kernel
theorem dL_law_967 : decode code 967 = .ok (.iconst 1, 1) := by decide +kernel
theorem dL_law_968 : decode code 968 = .ok (.ireturn, 1) := by decide +kernel
set_option maxHeartbeats 4000000 in
set_option maxRecDepth 100000 in
theorem law_c0 {p : Program} {l : Launch} {e : Env} {s : State} {m : MethodId} {below : List Frame} {meth : Method} {c : Code} {G : GX} {ad am : Nat → Nat} {b L : Nat} {xs : Nat → Int32} {x3 : Int32} {Rl : HS → MS → Prop} (hs : Sp_row Rl) (C0 : lw_At p s m meth c b L xs) (i1 : vp_in (x3 + 1) L) (i2 : vp_in (x3 + 2) L) (i3 : vp_in (x3 + 3) L) (i4 : vp_in (x3 + 4) L) (hk : ∀ (u : HS) (v : MS) (H : Heap) (locs : List Loc) (ls : Array Slot), Rl u v → WD G (fun q : Nat => s.heap.size ≤ q) s (LW G ad am u v) H locs → lv_has ls 4 [(0, .ref b), (1, .ref (ad 0)), (2, .ref (am 0)), (3, .int x3)] → W p l e room_1 s m #[Value.ref b] below meth c H locs 600000 7302250 (lw_Z below #[Value.ref b] s) (F0 m 961 ls [])) (u : HS) (v : MS) (H : Heap) (locs : List Loc) (ls : Array Slot) (hr : Rl u v) (hw : WD G (fun q : Nat => s.heap.size ≤ q) s (LW G ad am u v) H locs) (hl : lv_has ls 4 [(0, .ref b), (1, .ref (ad 0)), (2, .ref (am 0)), (3, .int x3)]) : W p l e room_1 s m #[Value.ref b] below meth c H locs 600000 7302250 (lw_Z below #[Value.ref b] s) (F0 m 144 ls []) := by
  obtain ⟨hx, hb, hrt, hml, hown, hts, hX, hbl, hlocks, hgv⟩ := C0
  have hbA : ¬ (fun q : Nat => s.heap.size ≤ q) b := Nat.not_le.mpr hbl
  have S : CallFix p m c code 4 s #[Value.ref b] lw_tbl RL := ⟨hx, hb, hml, hown, hts⟩
  refine lv_aload_n hx hb dL_law_144 rfl (lv_at hl 1 rfl) ?_
  refine lv_aload_n hx hb dL_law_145 rfl (lv_at hl 0 rfl) ?_
  refine lv_iload_n hx hb dL_law_146 rfl (lv_at hl 3 rfl) ?_
  refine lv_iconst (v := 1) hx hb dL_law_147 rfl ?_
  refine lv_iadd hx hb dL_law_148 ?_
  refine va_sld hx hb hX hbl hbA hw.2.2.2 i1 dL_law_149 ?_
  refine lv_aload_n hx hb dL_law_150 rfl (lv_at hl 0 rfl) ?_
  refine lv_iload_n hx hb dL_law_151 rfl (lv_at hl 3 rfl) ?_
  refine lv_iconst (v := 2) hx hb dL_law_152 rfl ?_
  refine lv_iadd hx hb dL_law_153 ?_
  refine va_sld hx hb hX hbl hbA hw.2.2.2 i2 dL_law_154 ?_
  refine lv_aload_n hx hb dL_law_155 rfl (lv_at hl 0 rfl) ?_
  refine lv_iload_n hx hb dL_law_156 rfl (lv_at hl 3 rfl) ?_
  refine lv_iconst (v := 3) hx hb dL_law_157 rfl ?_
  refine lv_iadd hx hb dL_law_158 ?_
  refine va_sld hx hb hX hbl hbA hw.2.2.2 i3 dL_law_159 ?_
  obtain ⟨z, w, e1, e2, e3, hr⟩ := hs u v (xs (x3 + 1).toNatClampNeg) (xs (x3 + 2).toNatClampNeg) (xs (x3 + 3).toNatClampNeg) hr
  refine lh_row S hw e1 ⟨Nat.le_refl _, Nat.le_refl _⟩ hl.1 (Nat.le_of_ble_eq_true rfl) dL_law_160 (fun H locs hw => ?_)
  refine lv_aload_n hx hb dL_law_163 rfl (lv_at hl 2 rfl) ?_
  refine lv_aload_n hx hb dL_law_164 rfl (lv_at hl 0 rfl) ?_
  refine lv_iload_n hx hb dL_law_165 rfl (lv_at hl 3 rfl) ?_
  refine lv_iconst (v := 1) hx hb dL_law_166 rfl ?_
  refine lv_iadd hx hb dL_law_167 ?_
  refine va_sld hx hb hX hbl hbA hw.2.2.2 i1 dL_law_168 ?_
  refine lv_aload_n hx hb dL_law_169 rfl (lv_at hl 0 rfl) ?_
  refine lv_iload_n hx hb dL_law_170 rfl (lv_at hl 3 rfl) ?_
  refine lv_iconst (v := 2) hx hb dL_law_171 rfl ?_
  refine lv_iadd hx hb dL_law_172 ?_
  refine va_sld hx hb hX hbl hbA hw.2.2.2 i2 dL_law_173 ?_
  refine lv_aload_n hx hb dL_law_174 rfl (lv_at hl 0 rfl) ?_
  refine lv_iload_n hx hb dL_law_175 rfl (lv_at hl 3 rfl) ?_
  refine lv_iconst (v := 3) hx hb dL_law_176 rfl ?_
  refine lv_iadd hx hb dL_law_177 ?_
  refine va_sld hx hb hX hbl hbA hw.2.2.2 i3 dL_law_178 ?_
  refine lm_row S hw e2 ⟨Nat.le_refl _, Nat.le_refl _⟩ hl.1 (Nat.le_of_ble_eq_true rfl) dL_law_179 (fun H locs hw => ?_)
  refine lv_icmp_eq (tgt := 961) hx hb dL_law_182 rfl (fun _ => ?_) (fun c9 => absurd e3 c9)
  exact hk _ _ _ _ _ hr hw hl
set_option maxHeartbeats 4000000 in
set_option maxRecDepth 100000 in
theorem law_c1 {p : Program} {l : Launch} {e : Env} {s : State} {m : MethodId} {below : List Frame} {meth : Method} {c : Code} {G : GX} {ad am : Nat → Nat} {b L : Nat} {xs : Nat → Int32} {x3 : Int32} {Rl : HS → MS → Prop} (hs : Sp_put Rl) (C0 : lw_At p s m meth c b L xs) (i1 : vp_in (x3 + 1) L) (i2 : vp_in (x3 + 2) L) (i3 : vp_in (x3 + 3) L) (i4 : vp_in (x3 + 4) L) (hk : ∀ (u : HS) (v : MS) (H : Heap) (locs : List Loc) (ls : Array Slot), Rl u v → WD G (fun q : Nat => s.heap.size ≤ q) s (LW G ad am u v) H locs → lv_has ls 4 [(0, .ref b), (1, .ref (ad 0)), (2, .ref (am 0)), (3, .int x3)] → W p l e room_1 s m #[Value.ref b] below meth c H locs 600000 7302250 (lw_Z below #[Value.ref b] s) (F0 m 961 ls [])) (u : HS) (v : MS) (H : Heap) (locs : List Loc) (ls : Array Slot) (hr : Rl u v) (hw : WD G (fun q : Nat => s.heap.size ≤ q) s (LW G ad am u v) H locs) (hl : lv_has ls 4 [(0, .ref b), (1, .ref (ad 0)), (2, .ref (am 0)), (3, .int x3)]) : W p l e room_1 s m #[Value.ref b] below meth c H locs 600000 7302250 (lw_Z below #[Value.ref b] s) (F0 m 187 ls []) := by
  obtain ⟨hx, hb, hrt, hml, hown, hts, hX, hbl, hlocks, hgv⟩ := C0
  have hbA : ¬ (fun q : Nat => s.heap.size ≤ q) b := Nat.not_le.mpr hbl
  have S : CallFix p m c code 4 s #[Value.ref b] lw_tbl RL := ⟨hx, hb, hml, hown, hts⟩
  refine lv_aload_n hx hb dL_law_187 rfl (lv_at hl 1 rfl) ?_
  refine lv_aload_n hx hb dL_law_188 rfl (lv_at hl 0 rfl) ?_
  refine lv_iload_n hx hb dL_law_189 rfl (lv_at hl 3 rfl) ?_
  refine lv_iconst (v := 1) hx hb dL_law_190 rfl ?_
  refine lv_iadd hx hb dL_law_191 ?_
  refine va_sld hx hb hX hbl hbA hw.2.2.2 i1 dL_law_192 ?_
  refine lv_aload_n hx hb dL_law_193 rfl (lv_at hl 0 rfl) ?_
  refine lv_iload_n hx hb dL_law_194 rfl (lv_at hl 3 rfl) ?_
  refine lv_iconst (v := 2) hx hb dL_law_195 rfl ?_
  refine lv_iadd hx hb dL_law_196 ?_
  refine va_sld hx hb hX hbl hbA hw.2.2.2 i2 dL_law_197 ?_
  refine lv_aload_n hx hb dL_law_198 rfl (lv_at hl 0 rfl) ?_
  refine lv_iload_n hx hb dL_law_199 rfl (lv_at hl 3 rfl) ?_
  refine lv_iconst (v := 3) hx hb dL_law_200 rfl ?_
  refine lv_iadd hx hb dL_law_201 ?_
  refine va_sld hx hb hX hbl hbA hw.2.2.2 i3 dL_law_202 ?_
  refine lv_if_eq (tgt := 210) hx hb dL_law_203 rfl (fun c0 => ?_) (fun c0 => ?_)
  · skip
    refine lv_iconst (v := 0) hx hb dL_law_210 rfl ?_
    obtain ⟨z, w, e1, e2, e3, hr⟩ := hs u v (xs (x3 + 1).toNatClampNeg) (xs (x3 + 2).toNatClampNeg) 0 hr (Or.inl rfl)
    refine lh_put S hw e1 ⟨Nat.le_refl _, Nat.le_refl _⟩ hl.1 (Nat.le_of_ble_eq_true rfl) dL_law_211 (fun H locs hw => ?_)
    refine lv_aload_n hx hb dL_law_214 rfl (lv_at hl 2 rfl) ?_
    refine lv_aload_n hx hb dL_law_215 rfl (lv_at hl 0 rfl) ?_
    refine lv_iload_n hx hb dL_law_216 rfl (lv_at hl 3 rfl) ?_
    refine lv_iconst (v := 1) hx hb dL_law_217 rfl ?_
    refine lv_iadd hx hb dL_law_218 ?_
    refine va_sld hx hb hX hbl hbA hw.2.2.2 i1 dL_law_219 ?_
    refine lv_aload_n hx hb dL_law_220 rfl (lv_at hl 0 rfl) ?_
    refine lv_iload_n hx hb dL_law_221 rfl (lv_at hl 3 rfl) ?_
    refine lv_iconst (v := 2) hx hb dL_law_222 rfl ?_
    refine lv_iadd hx hb dL_law_223 ?_
    refine va_sld hx hb hX hbl hbA hw.2.2.2 i2 dL_law_224 ?_
    refine lv_aload_n hx hb dL_law_225 rfl (lv_at hl 0 rfl) ?_
    refine lv_iload_n hx hb dL_law_226 rfl (lv_at hl 3 rfl) ?_
    refine lv_iconst (v := 3) hx hb dL_law_227 rfl ?_
    refine lv_iadd hx hb dL_law_228 ?_
    refine va_sld hx hb hX hbl hbA hw.2.2.2 i3 dL_law_229 ?_
    refine lv_if_eq (tgt := 237) hx hb dL_law_230 rfl (fun _ => ?_) (fun c1 => absurd c0 c1)
    refine lv_iconst (v := 0) hx hb dL_law_237 rfl ?_
    refine lm_put S hw e2 ⟨Nat.le_refl _, Nat.le_refl _⟩ hl.1 (Nat.le_of_ble_eq_true rfl) dL_law_238 (fun H locs hw => ?_)
    refine lv_icmp_eq (tgt := 961) hx hb dL_law_241 rfl (fun _ => ?_) (fun c9 => absurd e3 c9)
    exact hk _ _ _ _ _ hr hw hl
  · skip
    refine lv_iconst (v := 1) hx hb dL_law_206 rfl ?_
    refine lv_goto (tgt := 211) hx hb dL_law_207 rfl ?_
    obtain ⟨z, w, e1, e2, e3, hr⟩ := hs u v (xs (x3 + 1).toNatClampNeg) (xs (x3 + 2).toNatClampNeg) 1 hr (Or.inr rfl)
    refine lh_put S hw e1 ⟨Nat.le_refl _, Nat.le_refl _⟩ hl.1 (Nat.le_of_ble_eq_true rfl) dL_law_211 (fun H locs hw => ?_)
    refine lv_aload_n hx hb dL_law_214 rfl (lv_at hl 2 rfl) ?_
    refine lv_aload_n hx hb dL_law_215 rfl (lv_at hl 0 rfl) ?_
    refine lv_iload_n hx hb dL_law_216 rfl (lv_at hl 3 rfl) ?_
    refine lv_iconst (v := 1) hx hb dL_law_217 rfl ?_
    refine lv_iadd hx hb dL_law_218 ?_
    refine va_sld hx hb hX hbl hbA hw.2.2.2 i1 dL_law_219 ?_
    refine lv_aload_n hx hb dL_law_220 rfl (lv_at hl 0 rfl) ?_
    refine lv_iload_n hx hb dL_law_221 rfl (lv_at hl 3 rfl) ?_
    refine lv_iconst (v := 2) hx hb dL_law_222 rfl ?_
    refine lv_iadd hx hb dL_law_223 ?_
    refine va_sld hx hb hX hbl hbA hw.2.2.2 i2 dL_law_224 ?_
    refine lv_aload_n hx hb dL_law_225 rfl (lv_at hl 0 rfl) ?_
    refine lv_iload_n hx hb dL_law_226 rfl (lv_at hl 3 rfl) ?_
    refine lv_iconst (v := 3) hx hb dL_law_227 rfl ?_
    refine lv_iadd hx hb dL_law_228 ?_
    refine va_sld hx hb hX hbl hbA hw.2.2.2 i3 dL_law_229 ?_
    refine lv_if_eq (tgt := 237) hx hb dL_law_230 rfl (fun c1 => absurd c1 c0) (fun _ => ?_)
    refine lv_iconst (v := 1) hx hb dL_law_233 rfl ?_
    refine lv_goto (tgt := 238) hx hb dL_law_234 rfl ?_
    refine lm_put S hw e2 ⟨Nat.le_refl _, Nat.le_refl _⟩ hl.1 (Nat.le_of_ble_eq_true rfl) dL_law_238 (fun H locs hw => ?_)
    refine lv_icmp_eq (tgt := 961) hx hb dL_law_241 rfl (fun _ => ?_) (fun c9 => absurd e3 c9)
    exact hk _ _ _ _ _ hr hw hl
set_option maxHeartbeats 4000000 in
set_option maxRecDepth 100000 in
theorem law_c2 {p : Program} {l : Launch} {e : Env} {s : State} {m : MethodId} {below : List Frame} {meth : Method} {c : Code} {G : GX} {ad am : Nat → Nat} {b L : Nat} {xs : Nat → Int32} {x3 : Int32} {Rl : HS → MS → Prop} (hs : Sp_drop Rl) (C0 : lw_At p s m meth c b L xs) (i1 : vp_in (x3 + 1) L) (i2 : vp_in (x3 + 2) L) (i3 : vp_in (x3 + 3) L) (i4 : vp_in (x3 + 4) L) (hk : ∀ (u : HS) (v : MS) (H : Heap) (locs : List Loc) (ls : Array Slot), Rl u v → WD G (fun q : Nat => s.heap.size ≤ q) s (LW G ad am u v) H locs → lv_has ls 4 [(0, .ref b), (1, .ref (ad 0)), (2, .ref (am 0)), (3, .int x3)] → W p l e room_1 s m #[Value.ref b] below meth c H locs 600000 7302250 (lw_Z below #[Value.ref b] s) (F0 m 961 ls [])) (u : HS) (v : MS) (H : Heap) (locs : List Loc) (ls : Array Slot) (hr : Rl u v) (hw : WD G (fun q : Nat => s.heap.size ≤ q) s (LW G ad am u v) H locs) (hl : lv_has ls 4 [(0, .ref b), (1, .ref (ad 0)), (2, .ref (am 0)), (3, .int x3)]) : W p l e room_1 s m #[Value.ref b] below meth c H locs 600000 7302250 (lw_Z below #[Value.ref b] s) (F0 m 246 ls []) := by
  obtain ⟨hx, hb, hrt, hml, hown, hts, hX, hbl, hlocks, hgv⟩ := C0
  have hbA : ¬ (fun q : Nat => s.heap.size ≤ q) b := Nat.not_le.mpr hbl
  have S : CallFix p m c code 4 s #[Value.ref b] lw_tbl RL := ⟨hx, hb, hml, hown, hts⟩
  refine lv_aload_n hx hb dL_law_246 rfl (lv_at hl 1 rfl) ?_
  refine lv_aload_n hx hb dL_law_247 rfl (lv_at hl 0 rfl) ?_
  refine lv_iload_n hx hb dL_law_248 rfl (lv_at hl 3 rfl) ?_
  refine lv_iconst (v := 1) hx hb dL_law_249 rfl ?_
  refine lv_iadd hx hb dL_law_250 ?_
  refine va_sld hx hb hX hbl hbA hw.2.2.2 i1 dL_law_251 ?_
  obtain ⟨z, w, e1, e2, e3, hr⟩ := hs u v (xs (x3 + 1).toNatClampNeg) hr
  refine lh_drop S hw e1 ⟨Nat.le_refl _, Nat.le_refl _⟩ hl.1 (Nat.le_of_ble_eq_true rfl) dL_law_252 (fun H locs hw => ?_)
  refine lv_aload_n hx hb dL_law_255 rfl (lv_at hl 2 rfl) ?_
  refine lv_aload_n hx hb dL_law_256 rfl (lv_at hl 0 rfl) ?_
  refine lv_iload_n hx hb dL_law_257 rfl (lv_at hl 3 rfl) ?_
  refine lv_iconst (v := 1) hx hb dL_law_258 rfl ?_
  refine lv_iadd hx hb dL_law_259 ?_
  refine va_sld hx hb hX hbl hbA hw.2.2.2 i1 dL_law_260 ?_
  refine lm_drop S hw e2 ⟨Nat.le_refl _, Nat.le_refl _⟩ hl.1 (Nat.le_of_ble_eq_true rfl) dL_law_261 (fun H locs hw => ?_)
  refine lv_icmp_eq (tgt := 961) hx hb dL_law_264 rfl (fun _ => ?_) (fun c9 => absurd e3 c9)
  exact hk _ _ _ _ _ hr hw hl
set_option maxHeartbeats 4000000 in
set_option maxRecDepth 100000 in
theorem law_c3 {p : Program} {l : Launch} {e : Env} {s : State} {m : MethodId} {below : List Frame} {meth : Method} {c : Code} {G : GX} {ad am : Nat → Nat} {b L : Nat} {xs : Nat → Int32} {x3 : Int32} {Rl : HS → MS → Prop} (hs : Sp_move Rl) (C0 : lw_At p s m meth c b L xs) (i1 : vp_in (x3 + 1) L) (i2 : vp_in (x3 + 2) L) (i3 : vp_in (x3 + 3) L) (i4 : vp_in (x3 + 4) L) (hk : ∀ (u : HS) (v : MS) (H : Heap) (locs : List Loc) (ls : Array Slot), Rl u v → WD G (fun q : Nat => s.heap.size ≤ q) s (LW G ad am u v) H locs → lv_has ls 4 [(0, .ref b), (1, .ref (ad 0)), (2, .ref (am 0)), (3, .int x3)] → W p l e room_1 s m #[Value.ref b] below meth c H locs 600000 7302250 (lw_Z below #[Value.ref b] s) (F0 m 961 ls [])) (u : HS) (v : MS) (H : Heap) (locs : List Loc) (ls : Array Slot) (hr : Rl u v) (hw : WD G (fun q : Nat => s.heap.size ≤ q) s (LW G ad am u v) H locs) (hl : lv_has ls 4 [(0, .ref b), (1, .ref (ad 0)), (2, .ref (am 0)), (3, .int x3)]) : W p l e room_1 s m #[Value.ref b] below meth c H locs 600000 7302250 (lw_Z below #[Value.ref b] s) (F0 m 269 ls []) := by
  obtain ⟨hx, hb, hrt, hml, hown, hts, hX, hbl, hlocks, hgv⟩ := C0
  have hbA : ¬ (fun q : Nat => s.heap.size ≤ q) b := Nat.not_le.mpr hbl
  have S : CallFix p m c code 4 s #[Value.ref b] lw_tbl RL := ⟨hx, hb, hml, hown, hts⟩
  refine lv_aload_n hx hb dL_law_269 rfl (lv_at hl 1 rfl) ?_
  refine lv_aload_n hx hb dL_law_270 rfl (lv_at hl 0 rfl) ?_
  refine lv_iload_n hx hb dL_law_271 rfl (lv_at hl 3 rfl) ?_
  refine lv_iconst (v := 1) hx hb dL_law_272 rfl ?_
  refine lv_iadd hx hb dL_law_273 ?_
  refine va_sld hx hb hX hbl hbA hw.2.2.2 i1 dL_law_274 ?_
  refine lv_aload_n hx hb dL_law_275 rfl (lv_at hl 0 rfl) ?_
  refine lv_iload_n hx hb dL_law_276 rfl (lv_at hl 3 rfl) ?_
  refine lv_iconst (v := 2) hx hb dL_law_277 rfl ?_
  refine lv_iadd hx hb dL_law_278 ?_
  refine va_sld hx hb hX hbl hbA hw.2.2.2 i2 dL_law_279 ?_
  refine lv_aload_n hx hb dL_law_280 rfl (lv_at hl 0 rfl) ?_
  refine lv_iload_n hx hb dL_law_281 rfl (lv_at hl 3 rfl) ?_
  refine lv_iconst (v := 3) hx hb dL_law_282 rfl ?_
  refine lv_iadd hx hb dL_law_283 ?_
  refine va_sld hx hb hX hbl hbA hw.2.2.2 i3 dL_law_284 ?_
  refine lv_if_eq (tgt := 292) hx hb dL_law_285 rfl (fun c0 => ?_) (fun c0 => ?_)
  · skip
    refine lv_iconst (v := 0) hx hb dL_law_292 rfl ?_
    obtain ⟨z, w, e1, e2, e3, hr⟩ := hs u v (xs (x3 + 1).toNatClampNeg) (xs (x3 + 2).toNatClampNeg) 0 hr (Or.inl rfl)
    refine lh_move S hw e1 ⟨Nat.le_refl _, Nat.le_refl _⟩ hl.1 (Nat.le_of_ble_eq_true rfl) dL_law_293 (fun H locs hw => ?_)
    refine lv_aload_n hx hb dL_law_296 rfl (lv_at hl 2 rfl) ?_
    refine lv_aload_n hx hb dL_law_297 rfl (lv_at hl 0 rfl) ?_
    refine lv_iload_n hx hb dL_law_298 rfl (lv_at hl 3 rfl) ?_
    refine lv_iconst (v := 1) hx hb dL_law_299 rfl ?_
    refine lv_iadd hx hb dL_law_300 ?_
    refine va_sld hx hb hX hbl hbA hw.2.2.2 i1 dL_law_301 ?_
    refine lv_aload_n hx hb dL_law_302 rfl (lv_at hl 0 rfl) ?_
    refine lv_iload_n hx hb dL_law_303 rfl (lv_at hl 3 rfl) ?_
    refine lv_iconst (v := 2) hx hb dL_law_304 rfl ?_
    refine lv_iadd hx hb dL_law_305 ?_
    refine va_sld hx hb hX hbl hbA hw.2.2.2 i2 dL_law_306 ?_
    refine lv_aload_n hx hb dL_law_307 rfl (lv_at hl 0 rfl) ?_
    refine lv_iload_n hx hb dL_law_308 rfl (lv_at hl 3 rfl) ?_
    refine lv_iconst (v := 3) hx hb dL_law_309 rfl ?_
    refine lv_iadd hx hb dL_law_310 ?_
    refine va_sld hx hb hX hbl hbA hw.2.2.2 i3 dL_law_311 ?_
    refine lv_if_eq (tgt := 319) hx hb dL_law_312 rfl (fun _ => ?_) (fun c1 => absurd c0 c1)
    refine lv_iconst (v := 0) hx hb dL_law_319 rfl ?_
    refine lm_move S hw e2 ⟨Nat.le_refl _, Nat.le_refl _⟩ hl.1 (Nat.le_of_ble_eq_true rfl) dL_law_320 (fun H locs hw => ?_)
    refine lv_icmp_eq (tgt := 961) hx hb dL_law_323 rfl (fun _ => ?_) (fun c9 => absurd e3 c9)
    exact hk _ _ _ _ _ hr hw hl
  · skip
    refine lv_iconst (v := 1) hx hb dL_law_288 rfl ?_
    refine lv_goto (tgt := 293) hx hb dL_law_289 rfl ?_
    obtain ⟨z, w, e1, e2, e3, hr⟩ := hs u v (xs (x3 + 1).toNatClampNeg) (xs (x3 + 2).toNatClampNeg) 1 hr (Or.inr rfl)
    refine lh_move S hw e1 ⟨Nat.le_refl _, Nat.le_refl _⟩ hl.1 (Nat.le_of_ble_eq_true rfl) dL_law_293 (fun H locs hw => ?_)
    refine lv_aload_n hx hb dL_law_296 rfl (lv_at hl 2 rfl) ?_
    refine lv_aload_n hx hb dL_law_297 rfl (lv_at hl 0 rfl) ?_
    refine lv_iload_n hx hb dL_law_298 rfl (lv_at hl 3 rfl) ?_
    refine lv_iconst (v := 1) hx hb dL_law_299 rfl ?_
    refine lv_iadd hx hb dL_law_300 ?_
    refine va_sld hx hb hX hbl hbA hw.2.2.2 i1 dL_law_301 ?_
    refine lv_aload_n hx hb dL_law_302 rfl (lv_at hl 0 rfl) ?_
    refine lv_iload_n hx hb dL_law_303 rfl (lv_at hl 3 rfl) ?_
    refine lv_iconst (v := 2) hx hb dL_law_304 rfl ?_
    refine lv_iadd hx hb dL_law_305 ?_
    refine va_sld hx hb hX hbl hbA hw.2.2.2 i2 dL_law_306 ?_
    refine lv_aload_n hx hb dL_law_307 rfl (lv_at hl 0 rfl) ?_
    refine lv_iload_n hx hb dL_law_308 rfl (lv_at hl 3 rfl) ?_
    refine lv_iconst (v := 3) hx hb dL_law_309 rfl ?_
    refine lv_iadd hx hb dL_law_310 ?_
    refine va_sld hx hb hX hbl hbA hw.2.2.2 i3 dL_law_311 ?_
    refine lv_if_eq (tgt := 319) hx hb dL_law_312 rfl (fun c1 => absurd c1 c0) (fun _ => ?_)
    refine lv_iconst (v := 1) hx hb dL_law_315 rfl ?_
    refine lv_goto (tgt := 320) hx hb dL_law_316 rfl ?_
    refine lm_move S hw e2 ⟨Nat.le_refl _, Nat.le_refl _⟩ hl.1 (Nat.le_of_ble_eq_true rfl) dL_law_320 (fun H locs hw => ?_)
    refine lv_icmp_eq (tgt := 961) hx hb dL_law_323 rfl (fun _ => ?_) (fun c9 => absurd e3 c9)
    exact hk _ _ _ _ _ hr hw hl
set_option maxHeartbeats 4000000 in
set_option maxRecDepth 100000 in
theorem law_c4 {p : Program} {l : Launch} {e : Env} {s : State} {m : MethodId} {below : List Frame} {meth : Method} {c : Code} {G : GX} {ad am : Nat → Nat} {b L : Nat} {xs : Nat → Int32} {x3 : Int32} {Rl : HS → MS → Prop} (hs : Sp_join Rl) (C0 : lw_At p s m meth c b L xs) (i1 : vp_in (x3 + 1) L) (i2 : vp_in (x3 + 2) L) (i3 : vp_in (x3 + 3) L) (i4 : vp_in (x3 + 4) L) (hk : ∀ (u : HS) (v : MS) (H : Heap) (locs : List Loc) (ls : Array Slot), Rl u v → WD G (fun q : Nat => s.heap.size ≤ q) s (LW G ad am u v) H locs → lv_has ls 4 [(0, .ref b), (1, .ref (ad 0)), (2, .ref (am 0)), (3, .int x3)] → W p l e room_1 s m #[Value.ref b] below meth c H locs 600000 7302250 (lw_Z below #[Value.ref b] s) (F0 m 961 ls [])) (u : HS) (v : MS) (H : Heap) (locs : List Loc) (ls : Array Slot) (hr : Rl u v) (hw : WD G (fun q : Nat => s.heap.size ≤ q) s (LW G ad am u v) H locs) (hl : lv_has ls 4 [(0, .ref b), (1, .ref (ad 0)), (2, .ref (am 0)), (3, .int x3)]) : W p l e room_1 s m #[Value.ref b] below meth c H locs 600000 7302250 (lw_Z below #[Value.ref b] s) (F0 m 328 ls []) := by
  obtain ⟨hx, hb, hrt, hml, hown, hts, hX, hbl, hlocks, hgv⟩ := C0
  have hbA : ¬ (fun q : Nat => s.heap.size ≤ q) b := Nat.not_le.mpr hbl
  have S : CallFix p m c code 4 s #[Value.ref b] lw_tbl RL := ⟨hx, hb, hml, hown, hts⟩
  refine lv_aload_n hx hb dL_law_328 rfl (lv_at hl 1 rfl) ?_
  refine lv_aload_n hx hb dL_law_329 rfl (lv_at hl 0 rfl) ?_
  refine lv_iload_n hx hb dL_law_330 rfl (lv_at hl 3 rfl) ?_
  refine lv_iconst (v := 1) hx hb dL_law_331 rfl ?_
  refine lv_iadd hx hb dL_law_332 ?_
  refine va_sld hx hb hX hbl hbA hw.2.2.2 i1 dL_law_333 ?_
  refine lv_aload_n hx hb dL_law_334 rfl (lv_at hl 0 rfl) ?_
  refine lv_iload_n hx hb dL_law_335 rfl (lv_at hl 3 rfl) ?_
  refine lv_iconst (v := 2) hx hb dL_law_336 rfl ?_
  refine lv_iadd hx hb dL_law_337 ?_
  refine va_sld hx hb hX hbl hbA hw.2.2.2 i2 dL_law_338 ?_
  obtain ⟨z, w, e1, e2, e3, hr⟩ := hs u v (xs (x3 + 1).toNatClampNeg) (xs (x3 + 2).toNatClampNeg) hr
  refine lh_join S hw e1 ⟨Nat.le_refl _, Nat.le_refl _⟩ hl.1 (Nat.le_of_ble_eq_true rfl) dL_law_339 (fun H locs hw => ?_)
  refine lv_aload_n hx hb dL_law_342 rfl (lv_at hl 2 rfl) ?_
  refine lv_aload_n hx hb dL_law_343 rfl (lv_at hl 0 rfl) ?_
  refine lv_iload_n hx hb dL_law_344 rfl (lv_at hl 3 rfl) ?_
  refine lv_iconst (v := 1) hx hb dL_law_345 rfl ?_
  refine lv_iadd hx hb dL_law_346 ?_
  refine va_sld hx hb hX hbl hbA hw.2.2.2 i1 dL_law_347 ?_
  refine lv_aload_n hx hb dL_law_348 rfl (lv_at hl 0 rfl) ?_
  refine lv_iload_n hx hb dL_law_349 rfl (lv_at hl 3 rfl) ?_
  refine lv_iconst (v := 2) hx hb dL_law_350 rfl ?_
  refine lv_iadd hx hb dL_law_351 ?_
  refine va_sld hx hb hX hbl hbA hw.2.2.2 i2 dL_law_352 ?_
  refine lm_join S hw e2 ⟨Nat.le_refl _, Nat.le_refl _⟩ hl.1 (Nat.le_of_ble_eq_true rfl) dL_law_353 (fun H locs hw => ?_)
  refine lv_icmp_eq (tgt := 961) hx hb dL_law_356 rfl (fun _ => ?_) (fun c9 => absurd e3 c9)
  exact hk _ _ _ _ _ hr hw hl
set_option maxHeartbeats 4000000 in
set_option maxRecDepth 100000 in
theorem law_c5 {p : Program} {l : Launch} {e : Env} {s : State} {m : MethodId} {below : List Frame} {meth : Method} {c : Code} {G : GX} {ad am : Nat → Nat} {b L : Nat} {xs : Nat → Int32} {x3 : Int32} {Rl : HS → MS → Prop} (hs : Sp_split Rl) (C0 : lw_At p s m meth c b L xs) (i1 : vp_in (x3 + 1) L) (i2 : vp_in (x3 + 2) L) (i3 : vp_in (x3 + 3) L) (i4 : vp_in (x3 + 4) L) (hk : ∀ (u : HS) (v : MS) (H : Heap) (locs : List Loc) (ls : Array Slot), Rl u v → WD G (fun q : Nat => s.heap.size ≤ q) s (LW G ad am u v) H locs → lv_has ls 4 [(0, .ref b), (1, .ref (ad 0)), (2, .ref (am 0)), (3, .int x3)] → W p l e room_1 s m #[Value.ref b] below meth c H locs 600000 7302250 (lw_Z below #[Value.ref b] s) (F0 m 961 ls [])) (u : HS) (v : MS) (H : Heap) (locs : List Loc) (ls : Array Slot) (hr : Rl u v) (hw : WD G (fun q : Nat => s.heap.size ≤ q) s (LW G ad am u v) H locs) (hl : lv_has ls 4 [(0, .ref b), (1, .ref (ad 0)), (2, .ref (am 0)), (3, .int x3)]) : W p l e room_1 s m #[Value.ref b] below meth c H locs 600000 7302250 (lw_Z below #[Value.ref b] s) (F0 m 361 ls []) := by
  obtain ⟨hx, hb, hrt, hml, hown, hts, hX, hbl, hlocks, hgv⟩ := C0
  have hbA : ¬ (fun q : Nat => s.heap.size ≤ q) b := Nat.not_le.mpr hbl
  have S : CallFix p m c code 4 s #[Value.ref b] lw_tbl RL := ⟨hx, hb, hml, hown, hts⟩
  refine lv_aload_n hx hb dL_law_361 rfl (lv_at hl 1 rfl) ?_
  refine lv_aload_n hx hb dL_law_362 rfl (lv_at hl 0 rfl) ?_
  refine lv_iload_n hx hb dL_law_363 rfl (lv_at hl 3 rfl) ?_
  refine lv_iconst (v := 1) hx hb dL_law_364 rfl ?_
  refine lv_iadd hx hb dL_law_365 ?_
  refine va_sld hx hb hX hbl hbA hw.2.2.2 i1 dL_law_366 ?_
  refine lv_aload_n hx hb dL_law_367 rfl (lv_at hl 0 rfl) ?_
  refine lv_iload_n hx hb dL_law_368 rfl (lv_at hl 3 rfl) ?_
  refine lv_iconst (v := 2) hx hb dL_law_369 rfl ?_
  refine lv_iadd hx hb dL_law_370 ?_
  refine va_sld hx hb hX hbl hbA hw.2.2.2 i2 dL_law_371 ?_
  obtain ⟨z, w, e1, e2, e3, hr⟩ := hs u v (xs (x3 + 1).toNatClampNeg) (xs (x3 + 2).toNatClampNeg) hr
  refine lh_split S hw e1 ⟨Nat.le_refl _, Nat.le_refl _⟩ hl.1 (Nat.le_of_ble_eq_true rfl) dL_law_372 (fun H locs hw => ?_)
  refine lv_aload_n hx hb dL_law_375 rfl (lv_at hl 2 rfl) ?_
  refine lv_aload_n hx hb dL_law_376 rfl (lv_at hl 0 rfl) ?_
  refine lv_iload_n hx hb dL_law_377 rfl (lv_at hl 3 rfl) ?_
  refine lv_iconst (v := 1) hx hb dL_law_378 rfl ?_
  refine lv_iadd hx hb dL_law_379 ?_
  refine va_sld hx hb hX hbl hbA hw.2.2.2 i1 dL_law_380 ?_
  refine lv_aload_n hx hb dL_law_381 rfl (lv_at hl 0 rfl) ?_
  refine lv_iload_n hx hb dL_law_382 rfl (lv_at hl 3 rfl) ?_
  refine lv_iconst (v := 2) hx hb dL_law_383 rfl ?_
  refine lv_iadd hx hb dL_law_384 ?_
  refine va_sld hx hb hX hbl hbA hw.2.2.2 i2 dL_law_385 ?_
  refine lm_split S hw e2 ⟨Nat.le_refl _, Nat.le_refl _⟩ hl.1 (Nat.le_of_ble_eq_true rfl) dL_law_386 (fun H locs hw => ?_)
  refine lv_icmp_eq (tgt := 961) hx hb dL_law_389 rfl (fun _ => ?_) (fun c9 => absurd e3 c9)
  exact hk _ _ _ _ _ hr hw hl
set_option maxHeartbeats 4000000 in
set_option maxRecDepth 100000 in
theorem law_c6 {p : Program} {l : Launch} {e : Env} {s : State} {m : MethodId} {below : List Frame} {meth : Method} {c : Code} {G : GX} {ad am : Nat → Nat} {b L : Nat} {xs : Nat → Int32} {x3 : Int32} {Rl : HS → MS → Prop} (hs : Sp_less Rl) (C0 : lw_At p s m meth c b L xs) (i1 : vp_in (x3 + 1) L) (i2 : vp_in (x3 + 2) L) (i3 : vp_in (x3 + 3) L) (i4 : vp_in (x3 + 4) L) (hk : ∀ (u : HS) (v : MS) (H : Heap) (locs : List Loc) (ls : Array Slot), Rl u v → WD G (fun q : Nat => s.heap.size ≤ q) s (LW G ad am u v) H locs → lv_has ls 4 [(0, .ref b), (1, .ref (ad 0)), (2, .ref (am 0)), (3, .int x3)] → W p l e room_1 s m #[Value.ref b] below meth c H locs 600000 7302250 (lw_Z below #[Value.ref b] s) (F0 m 961 ls [])) (u : HS) (v : MS) (H : Heap) (locs : List Loc) (ls : Array Slot) (hr : Rl u v) (hw : WD G (fun q : Nat => s.heap.size ≤ q) s (LW G ad am u v) H locs) (hl : lv_has ls 4 [(0, .ref b), (1, .ref (ad 0)), (2, .ref (am 0)), (3, .int x3)]) : W p l e room_1 s m #[Value.ref b] below meth c H locs 600000 7302250 (lw_Z below #[Value.ref b] s) (F0 m 394 ls []) := by
  obtain ⟨hx, hb, hrt, hml, hown, hts, hX, hbl, hlocks, hgv⟩ := C0
  have hbA : ¬ (fun q : Nat => s.heap.size ≤ q) b := Nat.not_le.mpr hbl
  have S : CallFix p m c code 4 s #[Value.ref b] lw_tbl RL := ⟨hx, hb, hml, hown, hts⟩
  refine lv_aload_n hx hb dL_law_394 rfl (lv_at hl 1 rfl) ?_
  refine lv_aload_n hx hb dL_law_395 rfl (lv_at hl 0 rfl) ?_
  refine lv_iload_n hx hb dL_law_396 rfl (lv_at hl 3 rfl) ?_
  refine lv_iconst (v := 1) hx hb dL_law_397 rfl ?_
  refine lv_iadd hx hb dL_law_398 ?_
  refine va_sld hx hb hX hbl hbA hw.2.2.2 i1 dL_law_399 ?_
  refine lv_aload_n hx hb dL_law_400 rfl (lv_at hl 0 rfl) ?_
  refine lv_iload_n hx hb dL_law_401 rfl (lv_at hl 3 rfl) ?_
  refine lv_iconst (v := 2) hx hb dL_law_402 rfl ?_
  refine lv_iadd hx hb dL_law_403 ?_
  refine va_sld hx hb hX hbl hbA hw.2.2.2 i2 dL_law_404 ?_
  obtain ⟨z, w, e1, e2, e3, hr⟩ := hs u v (xs (x3 + 1).toNatClampNeg) (xs (x3 + 2).toNatClampNeg) hr
  refine lh_less S hw e1 ⟨Nat.le_refl _, Nat.le_refl _⟩ hl.1 (Nat.le_of_ble_eq_true rfl) dL_law_405 ?_
  refine lv_aload_n hx hb dL_law_408 rfl (lv_at hl 2 rfl) ?_
  refine lv_aload_n hx hb dL_law_409 rfl (lv_at hl 0 rfl) ?_
  refine lv_iload_n hx hb dL_law_410 rfl (lv_at hl 3 rfl) ?_
  refine lv_iconst (v := 1) hx hb dL_law_411 rfl ?_
  refine lv_iadd hx hb dL_law_412 ?_
  refine va_sld hx hb hX hbl hbA hw.2.2.2 i1 dL_law_413 ?_
  refine lv_aload_n hx hb dL_law_414 rfl (lv_at hl 0 rfl) ?_
  refine lv_iload_n hx hb dL_law_415 rfl (lv_at hl 3 rfl) ?_
  refine lv_iconst (v := 2) hx hb dL_law_416 rfl ?_
  refine lv_iadd hx hb dL_law_417 ?_
  refine va_sld hx hb hX hbl hbA hw.2.2.2 i2 dL_law_418 ?_
  refine lm_less S hw e2 ⟨Nat.le_refl _, Nat.le_refl _⟩ hl.1 (Nat.le_of_ble_eq_true rfl) dL_law_419 (fun H locs hw => ?_)
  refine lv_icmp_eq (tgt := 961) hx hb dL_law_422 rfl (fun _ => ?_) (fun c9 => absurd e3 c9)
  exact hk _ _ _ _ _ hr hw hl
set_option maxHeartbeats 4000000 in
set_option maxRecDepth 100000 in
theorem law_c7 {p : Program} {l : Launch} {e : Env} {s : State} {m : MethodId} {below : List Frame} {meth : Method} {c : Code} {G : GX} {ad am : Nat → Nat} {b L : Nat} {xs : Nat → Int32} {x3 : Int32} {Rl : HS → MS → Prop} (hs : Sp_label Rl) (C0 : lw_At p s m meth c b L xs) (i1 : vp_in (x3 + 1) L) (i2 : vp_in (x3 + 2) L) (i3 : vp_in (x3 + 3) L) (i4 : vp_in (x3 + 4) L) (hk : ∀ (u : HS) (v : MS) (H : Heap) (locs : List Loc) (ls : Array Slot), Rl u v → WD G (fun q : Nat => s.heap.size ≤ q) s (LW G ad am u v) H locs → lv_has ls 4 [(0, .ref b), (1, .ref (ad 0)), (2, .ref (am 0)), (3, .int x3)] → W p l e room_1 s m #[Value.ref b] below meth c H locs 600000 7302250 (lw_Z below #[Value.ref b] s) (F0 m 961 ls [])) (u : HS) (v : MS) (H : Heap) (locs : List Loc) (ls : Array Slot) (hr : Rl u v) (hw : WD G (fun q : Nat => s.heap.size ≤ q) s (LW G ad am u v) H locs) (hl : lv_has ls 4 [(0, .ref b), (1, .ref (ad 0)), (2, .ref (am 0)), (3, .int x3)]) : W p l e room_1 s m #[Value.ref b] below meth c H locs 600000 7302250 (lw_Z below #[Value.ref b] s) (F0 m 427 ls []) := by
  obtain ⟨hx, hb, hrt, hml, hown, hts, hX, hbl, hlocks, hgv⟩ := C0
  have hbA : ¬ (fun q : Nat => s.heap.size ≤ q) b := Nat.not_le.mpr hbl
  have S : CallFix p m c code 4 s #[Value.ref b] lw_tbl RL := ⟨hx, hb, hml, hown, hts⟩
  refine lv_aload_n hx hb dL_law_427 rfl (lv_at hl 1 rfl) ?_
  refine lv_aload_n hx hb dL_law_428 rfl (lv_at hl 0 rfl) ?_
  refine lv_iload_n hx hb dL_law_429 rfl (lv_at hl 3 rfl) ?_
  refine lv_iconst (v := 1) hx hb dL_law_430 rfl ?_
  refine lv_iadd hx hb dL_law_431 ?_
  refine va_sld hx hb hX hbl hbA hw.2.2.2 i1 dL_law_432 ?_
  refine lv_aload_n hx hb dL_law_433 rfl (lv_at hl 0 rfl) ?_
  refine lv_iload_n hx hb dL_law_434 rfl (lv_at hl 3 rfl) ?_
  refine lv_iconst (v := 2) hx hb dL_law_435 rfl ?_
  refine lv_iadd hx hb dL_law_436 ?_
  refine va_sld hx hb hX hbl hbA hw.2.2.2 i2 dL_law_437 ?_
  refine lv_if_eq (tgt := 445) hx hb dL_law_438 rfl (fun c0 => ?_) (fun c0 => ?_)
  · skip
    refine lv_iconst (v := 0) hx hb dL_law_445 rfl ?_
    obtain ⟨z, w, e1, e2, e3, hr⟩ := hs u v (xs (x3 + 1).toNatClampNeg) 0 hr (Or.inl rfl)
    refine lh_label S hw e1 ⟨Nat.le_refl _, Nat.le_refl _⟩ hl.1 (Nat.le_of_ble_eq_true rfl) dL_law_446 ?_
    refine lv_aload_n hx hb dL_law_449 rfl (lv_at hl 2 rfl) ?_
    refine lv_aload_n hx hb dL_law_450 rfl (lv_at hl 0 rfl) ?_
    refine lv_iload_n hx hb dL_law_451 rfl (lv_at hl 3 rfl) ?_
    refine lv_iconst (v := 1) hx hb dL_law_452 rfl ?_
    refine lv_iadd hx hb dL_law_453 ?_
    refine va_sld hx hb hX hbl hbA hw.2.2.2 i1 dL_law_454 ?_
    refine lv_aload_n hx hb dL_law_455 rfl (lv_at hl 0 rfl) ?_
    refine lv_iload_n hx hb dL_law_456 rfl (lv_at hl 3 rfl) ?_
    refine lv_iconst (v := 2) hx hb dL_law_457 rfl ?_
    refine lv_iadd hx hb dL_law_458 ?_
    refine va_sld hx hb hX hbl hbA hw.2.2.2 i2 dL_law_459 ?_
    refine lv_if_eq (tgt := 467) hx hb dL_law_460 rfl (fun _ => ?_) (fun c1 => absurd c0 c1)
    refine lv_iconst (v := 0) hx hb dL_law_467 rfl ?_
    refine lm_label S hw e2 ⟨Nat.le_refl _, Nat.le_refl _⟩ hl.1 (Nat.le_of_ble_eq_true rfl) dL_law_468 (fun H locs hw => ?_)
    refine W.lcmp hx hb dL_law_471 ?_
    refine lv_if_eq (tgt := 961) hx hb dL_law_472 rfl (fun _ => ?_) (fun c9 => absurd (lcmp_same e3) c9)
    exact hk _ _ _ _ _ hr hw hl
  · skip
    refine lv_iconst (v := 1) hx hb dL_law_441 rfl ?_
    refine lv_goto (tgt := 446) hx hb dL_law_442 rfl ?_
    obtain ⟨z, w, e1, e2, e3, hr⟩ := hs u v (xs (x3 + 1).toNatClampNeg) 1 hr (Or.inr rfl)
    refine lh_label S hw e1 ⟨Nat.le_refl _, Nat.le_refl _⟩ hl.1 (Nat.le_of_ble_eq_true rfl) dL_law_446 ?_
    refine lv_aload_n hx hb dL_law_449 rfl (lv_at hl 2 rfl) ?_
    refine lv_aload_n hx hb dL_law_450 rfl (lv_at hl 0 rfl) ?_
    refine lv_iload_n hx hb dL_law_451 rfl (lv_at hl 3 rfl) ?_
    refine lv_iconst (v := 1) hx hb dL_law_452 rfl ?_
    refine lv_iadd hx hb dL_law_453 ?_
    refine va_sld hx hb hX hbl hbA hw.2.2.2 i1 dL_law_454 ?_
    refine lv_aload_n hx hb dL_law_455 rfl (lv_at hl 0 rfl) ?_
    refine lv_iload_n hx hb dL_law_456 rfl (lv_at hl 3 rfl) ?_
    refine lv_iconst (v := 2) hx hb dL_law_457 rfl ?_
    refine lv_iadd hx hb dL_law_458 ?_
    refine va_sld hx hb hX hbl hbA hw.2.2.2 i2 dL_law_459 ?_
    refine lv_if_eq (tgt := 467) hx hb dL_law_460 rfl (fun c1 => absurd c1 c0) (fun _ => ?_)
    refine lv_iconst (v := 1) hx hb dL_law_463 rfl ?_
    refine lv_goto (tgt := 468) hx hb dL_law_464 rfl ?_
    refine lm_label S hw e2 ⟨Nat.le_refl _, Nat.le_refl _⟩ hl.1 (Nat.le_of_ble_eq_true rfl) dL_law_468 (fun H locs hw => ?_)
    refine W.lcmp hx hb dL_law_471 ?_
    refine lv_if_eq (tgt := 961) hx hb dL_law_472 rfl (fun _ => ?_) (fun c9 => absurd (lcmp_same e3) c9)
    exact hk _ _ _ _ _ hr hw hl
set_option maxHeartbeats 4000000 in
set_option maxRecDepth 100000 in
theorem law_c8 {p : Program} {l : Launch} {e : Env} {s : State} {m : MethodId} {below : List Frame} {meth : Method} {c : Code} {G : GX} {ad am : Nat → Nat} {b L : Nat} {xs : Nat → Int32} {x3 : Int32} {Rl : HS → MS → Prop} (hs : Sp_inner Rl) (C0 : lw_At p s m meth c b L xs) (i1 : vp_in (x3 + 1) L) (i2 : vp_in (x3 + 2) L) (i3 : vp_in (x3 + 3) L) (i4 : vp_in (x3 + 4) L) (hk : ∀ (u : HS) (v : MS) (H : Heap) (locs : List Loc) (ls : Array Slot), Rl u v → WD G (fun q : Nat => s.heap.size ≤ q) s (LW G ad am u v) H locs → lv_has ls 4 [(0, .ref b), (1, .ref (ad 0)), (2, .ref (am 0)), (3, .int x3)] → W p l e room_1 s m #[Value.ref b] below meth c H locs 600000 7302250 (lw_Z below #[Value.ref b] s) (F0 m 961 ls [])) (u : HS) (v : MS) (H : Heap) (locs : List Loc) (ls : Array Slot) (hr : Rl u v) (hw : WD G (fun q : Nat => s.heap.size ≤ q) s (LW G ad am u v) H locs) (hl : lv_has ls 4 [(0, .ref b), (1, .ref (ad 0)), (2, .ref (am 0)), (3, .int x3)]) : W p l e room_1 s m #[Value.ref b] below meth c H locs 600000 7302250 (lw_Z below #[Value.ref b] s) (F0 m 477 ls []) := by
  obtain ⟨hx, hb, hrt, hml, hown, hts, hX, hbl, hlocks, hgv⟩ := C0
  have hbA : ¬ (fun q : Nat => s.heap.size ≤ q) b := Nat.not_le.mpr hbl
  have S : CallFix p m c code 4 s #[Value.ref b] lw_tbl RL := ⟨hx, hb, hml, hown, hts⟩
  refine lv_aload_n hx hb dL_law_477 rfl (lv_at hl 1 rfl) ?_
  refine lv_aload_n hx hb dL_law_478 rfl (lv_at hl 0 rfl) ?_
  refine lv_iload_n hx hb dL_law_479 rfl (lv_at hl 3 rfl) ?_
  refine lv_iconst (v := 1) hx hb dL_law_480 rfl ?_
  refine lv_iadd hx hb dL_law_481 ?_
  refine va_sld hx hb hX hbl hbA hw.2.2.2 i1 dL_law_482 ?_
  refine lv_aload_n hx hb dL_law_483 rfl (lv_at hl 0 rfl) ?_
  refine lv_iload_n hx hb dL_law_484 rfl (lv_at hl 3 rfl) ?_
  refine lv_iconst (v := 2) hx hb dL_law_485 rfl ?_
  refine lv_iadd hx hb dL_law_486 ?_
  refine va_sld hx hb hX hbl hbA hw.2.2.2 i2 dL_law_487 ?_
  refine lv_if_eq (tgt := 495) hx hb dL_law_488 rfl (fun c0 => ?_) (fun c0 => ?_)
  · skip
    refine lv_iconst (v := 0) hx hb dL_law_495 rfl ?_
    obtain ⟨z, w, e1, e2, e3, hr⟩ := hs u v (xs (x3 + 1).toNatClampNeg) 0 hr (Or.inl rfl)
    refine lh_inner S hw e1 ⟨Nat.le_refl _, Nat.le_refl _⟩ hl.1 (Nat.le_of_ble_eq_true rfl) dL_law_496 ?_
    refine lv_aload_n hx hb dL_law_499 rfl (lv_at hl 2 rfl) ?_
    refine lv_aload_n hx hb dL_law_500 rfl (lv_at hl 0 rfl) ?_
    refine lv_iload_n hx hb dL_law_501 rfl (lv_at hl 3 rfl) ?_
    refine lv_iconst (v := 1) hx hb dL_law_502 rfl ?_
    refine lv_iadd hx hb dL_law_503 ?_
    refine va_sld hx hb hX hbl hbA hw.2.2.2 i1 dL_law_504 ?_
    refine lv_aload_n hx hb dL_law_505 rfl (lv_at hl 0 rfl) ?_
    refine lv_iload_n hx hb dL_law_506 rfl (lv_at hl 3 rfl) ?_
    refine lv_iconst (v := 2) hx hb dL_law_507 rfl ?_
    refine lv_iadd hx hb dL_law_508 ?_
    refine va_sld hx hb hX hbl hbA hw.2.2.2 i2 dL_law_509 ?_
    refine lv_if_eq (tgt := 517) hx hb dL_law_510 rfl (fun _ => ?_) (fun c1 => absurd c0 c1)
    refine lv_iconst (v := 0) hx hb dL_law_517 rfl ?_
    refine lm_inner S hw e2 ⟨Nat.le_refl _, Nat.le_refl _⟩ hl.1 (Nat.le_of_ble_eq_true rfl) dL_law_518 (fun H locs hw => ?_)
    refine lv_icmp_eq (tgt := 961) hx hb dL_law_521 rfl (fun _ => ?_) (fun c9 => absurd e3 c9)
    exact hk _ _ _ _ _ hr hw hl
  · skip
    refine lv_iconst (v := 1) hx hb dL_law_491 rfl ?_
    refine lv_goto (tgt := 496) hx hb dL_law_492 rfl ?_
    obtain ⟨z, w, e1, e2, e3, hr⟩ := hs u v (xs (x3 + 1).toNatClampNeg) 1 hr (Or.inr rfl)
    refine lh_inner S hw e1 ⟨Nat.le_refl _, Nat.le_refl _⟩ hl.1 (Nat.le_of_ble_eq_true rfl) dL_law_496 ?_
    refine lv_aload_n hx hb dL_law_499 rfl (lv_at hl 2 rfl) ?_
    refine lv_aload_n hx hb dL_law_500 rfl (lv_at hl 0 rfl) ?_
    refine lv_iload_n hx hb dL_law_501 rfl (lv_at hl 3 rfl) ?_
    refine lv_iconst (v := 1) hx hb dL_law_502 rfl ?_
    refine lv_iadd hx hb dL_law_503 ?_
    refine va_sld hx hb hX hbl hbA hw.2.2.2 i1 dL_law_504 ?_
    refine lv_aload_n hx hb dL_law_505 rfl (lv_at hl 0 rfl) ?_
    refine lv_iload_n hx hb dL_law_506 rfl (lv_at hl 3 rfl) ?_
    refine lv_iconst (v := 2) hx hb dL_law_507 rfl ?_
    refine lv_iadd hx hb dL_law_508 ?_
    refine va_sld hx hb hX hbl hbA hw.2.2.2 i2 dL_law_509 ?_
    refine lv_if_eq (tgt := 517) hx hb dL_law_510 rfl (fun c1 => absurd c1 c0) (fun _ => ?_)
    refine lv_iconst (v := 1) hx hb dL_law_513 rfl ?_
    refine lv_goto (tgt := 518) hx hb dL_law_514 rfl ?_
    refine lm_inner S hw e2 ⟨Nat.le_refl _, Nat.le_refl _⟩ hl.1 (Nat.le_of_ble_eq_true rfl) dL_law_518 (fun H locs hw => ?_)
    refine lv_icmp_eq (tgt := 961) hx hb dL_law_521 rfl (fun _ => ?_) (fun c9 => absurd e3 c9)
    exact hk _ _ _ _ _ hr hw hl
set_option maxHeartbeats 4000000 in
set_option maxRecDepth 100000 in
theorem law_c9 {p : Program} {l : Launch} {e : Env} {s : State} {m : MethodId} {below : List Frame} {meth : Method} {c : Code} {G : GX} {ad am : Nat → Nat} {b L : Nat} {xs : Nat → Int32} {x3 : Int32} {Rl : HS → MS → Prop} (hs : Sp_near Rl) (C0 : lw_At p s m meth c b L xs) (i1 : vp_in (x3 + 1) L) (i2 : vp_in (x3 + 2) L) (i3 : vp_in (x3 + 3) L) (i4 : vp_in (x3 + 4) L) (hk : ∀ (u : HS) (v : MS) (H : Heap) (locs : List Loc) (ls : Array Slot), Rl u v → WD G (fun q : Nat => s.heap.size ≤ q) s (LW G ad am u v) H locs → lv_has ls 4 [(0, .ref b), (1, .ref (ad 0)), (2, .ref (am 0)), (3, .int x3)] → W p l e room_1 s m #[Value.ref b] below meth c H locs 600000 7302250 (lw_Z below #[Value.ref b] s) (F0 m 961 ls [])) (u : HS) (v : MS) (H : Heap) (locs : List Loc) (ls : Array Slot) (hr : Rl u v) (hw : WD G (fun q : Nat => s.heap.size ≤ q) s (LW G ad am u v) H locs) (hl : lv_has ls 4 [(0, .ref b), (1, .ref (ad 0)), (2, .ref (am 0)), (3, .int x3)]) : W p l e room_1 s m #[Value.ref b] below meth c H locs 600000 7302250 (lw_Z below #[Value.ref b] s) (F0 m 526 ls []) := by
  obtain ⟨hx, hb, hrt, hml, hown, hts, hX, hbl, hlocks, hgv⟩ := C0
  have hbA : ¬ (fun q : Nat => s.heap.size ≤ q) b := Nat.not_le.mpr hbl
  have S : CallFix p m c code 4 s #[Value.ref b] lw_tbl RL := ⟨hx, hb, hml, hown, hts⟩
  refine lv_aload_n hx hb dL_law_526 rfl (lv_at hl 1 rfl) ?_
  refine lv_aload_n hx hb dL_law_527 rfl (lv_at hl 0 rfl) ?_
  refine lv_iload_n hx hb dL_law_528 rfl (lv_at hl 3 rfl) ?_
  refine lv_iconst (v := 1) hx hb dL_law_529 rfl ?_
  refine lv_iadd hx hb dL_law_530 ?_
  refine va_sld hx hb hX hbl hbA hw.2.2.2 i1 dL_law_531 ?_
  refine lv_aload_n hx hb dL_law_532 rfl (lv_at hl 0 rfl) ?_
  refine lv_iload_n hx hb dL_law_533 rfl (lv_at hl 3 rfl) ?_
  refine lv_iconst (v := 2) hx hb dL_law_534 rfl ?_
  refine lv_iadd hx hb dL_law_535 ?_
  refine va_sld hx hb hX hbl hbA hw.2.2.2 i2 dL_law_536 ?_
  obtain ⟨z, w, e1, e2, e3, hr⟩ := hs u v (xs (x3 + 1).toNatClampNeg) (xs (x3 + 2).toNatClampNeg) hr
  refine lh_near S hw e1 ⟨Nat.le_refl _, Nat.le_refl _⟩ hl.1 (Nat.le_of_ble_eq_true rfl) dL_law_537 ?_
  refine lv_aload_n hx hb dL_law_540 rfl (lv_at hl 2 rfl) ?_
  refine lv_aload_n hx hb dL_law_541 rfl (lv_at hl 0 rfl) ?_
  refine lv_iload_n hx hb dL_law_542 rfl (lv_at hl 3 rfl) ?_
  refine lv_iconst (v := 1) hx hb dL_law_543 rfl ?_
  refine lv_iadd hx hb dL_law_544 ?_
  refine va_sld hx hb hX hbl hbA hw.2.2.2 i1 dL_law_545 ?_
  refine lv_aload_n hx hb dL_law_546 rfl (lv_at hl 0 rfl) ?_
  refine lv_iload_n hx hb dL_law_547 rfl (lv_at hl 3 rfl) ?_
  refine lv_iconst (v := 2) hx hb dL_law_548 rfl ?_
  refine lv_iadd hx hb dL_law_549 ?_
  refine va_sld hx hb hX hbl hbA hw.2.2.2 i2 dL_law_550 ?_
  refine lm_near S hw e2 ⟨Nat.le_refl _, Nat.le_refl _⟩ hl.1 (Nat.le_of_ble_eq_true rfl) dL_law_551 (fun H locs hw => ?_)
  refine lv_icmp_eq (tgt := 961) hx hb dL_law_554 rfl (fun _ => ?_) (fun c9 => absurd e3 c9)
  exact hk _ _ _ _ _ hr hw hl
set_option maxHeartbeats 4000000 in
set_option maxRecDepth 100000 in
theorem law_c10 {p : Program} {l : Launch} {e : Env} {s : State} {m : MethodId} {below : List Frame} {meth : Method} {c : Code} {G : GX} {ad am : Nat → Nat} {b L : Nat} {xs : Nat → Int32} {x3 : Int32} {Rl : HS → MS → Prop} (hs : Sp_index Rl) (C0 : lw_At p s m meth c b L xs) (i1 : vp_in (x3 + 1) L) (i2 : vp_in (x3 + 2) L) (i3 : vp_in (x3 + 3) L) (i4 : vp_in (x3 + 4) L) (hk : ∀ (u : HS) (v : MS) (H : Heap) (locs : List Loc) (ls : Array Slot), Rl u v → WD G (fun q : Nat => s.heap.size ≤ q) s (LW G ad am u v) H locs → lv_has ls 4 [(0, .ref b), (1, .ref (ad 0)), (2, .ref (am 0)), (3, .int x3)] → W p l e room_1 s m #[Value.ref b] below meth c H locs 600000 7302250 (lw_Z below #[Value.ref b] s) (F0 m 961 ls [])) (u : HS) (v : MS) (H : Heap) (locs : List Loc) (ls : Array Slot) (hr : Rl u v) (hw : WD G (fun q : Nat => s.heap.size ≤ q) s (LW G ad am u v) H locs) (hl : lv_has ls 4 [(0, .ref b), (1, .ref (ad 0)), (2, .ref (am 0)), (3, .int x3)]) : W p l e room_1 s m #[Value.ref b] below meth c H locs 600000 7302250 (lw_Z below #[Value.ref b] s) (F0 m 559 ls []) := by
  obtain ⟨hx, hb, hrt, hml, hown, hts, hX, hbl, hlocks, hgv⟩ := C0
  have hbA : ¬ (fun q : Nat => s.heap.size ≤ q) b := Nat.not_le.mpr hbl
  have S : CallFix p m c code 4 s #[Value.ref b] lw_tbl RL := ⟨hx, hb, hml, hown, hts⟩
  refine lv_aload_n hx hb dL_law_559 rfl (lv_at hl 1 rfl) ?_
  refine lv_aload_n hx hb dL_law_560 rfl (lv_at hl 0 rfl) ?_
  refine lv_iload_n hx hb dL_law_561 rfl (lv_at hl 3 rfl) ?_
  refine lv_iconst (v := 1) hx hb dL_law_562 rfl ?_
  refine lv_iadd hx hb dL_law_563 ?_
  refine va_sld hx hb hX hbl hbA hw.2.2.2 i1 dL_law_564 ?_
  obtain ⟨z, w, e1, e2, e3, hr⟩ := hs u v (xs (x3 + 1).toNatClampNeg) hr
  refine lh_index S hw e1 ⟨Nat.le_refl _, Nat.le_refl _⟩ hl.1 (Nat.le_of_ble_eq_true rfl) dL_law_565 ?_
  refine lv_aload_n hx hb dL_law_568 rfl (lv_at hl 2 rfl) ?_
  refine lv_aload_n hx hb dL_law_569 rfl (lv_at hl 0 rfl) ?_
  refine lv_iload_n hx hb dL_law_570 rfl (lv_at hl 3 rfl) ?_
  refine lv_iconst (v := 1) hx hb dL_law_571 rfl ?_
  refine lv_iadd hx hb dL_law_572 ?_
  refine va_sld hx hb hX hbl hbA hw.2.2.2 i1 dL_law_573 ?_
  refine lm_index S hw e2 ⟨Nat.le_refl _, Nat.le_refl _⟩ hl.1 (Nat.le_of_ble_eq_true rfl) dL_law_574 (fun H locs hw => ?_)
  refine lv_icmp_eq (tgt := 961) hx hb dL_law_577 rfl (fun _ => ?_) (fun c9 => absurd e3 c9)
  exact hk _ _ _ _ _ hr hw hl
set_option maxHeartbeats 4000000 in
set_option maxRecDepth 100000 in
theorem law_c11 {p : Program} {l : Launch} {e : Env} {s : State} {m : MethodId} {below : List Frame} {meth : Method} {c : Code} {G : GX} {ad am : Nat → Nat} {b L : Nat} {xs : Nat → Int32} {x3 : Int32} {Rl : HS → MS → Prop} (hs : Sp_at Rl) (C0 : lw_At p s m meth c b L xs) (i1 : vp_in (x3 + 1) L) (i2 : vp_in (x3 + 2) L) (i3 : vp_in (x3 + 3) L) (i4 : vp_in (x3 + 4) L) (hk : ∀ (u : HS) (v : MS) (H : Heap) (locs : List Loc) (ls : Array Slot), Rl u v → WD G (fun q : Nat => s.heap.size ≤ q) s (LW G ad am u v) H locs → lv_has ls 4 [(0, .ref b), (1, .ref (ad 0)), (2, .ref (am 0)), (3, .int x3)] → W p l e room_1 s m #[Value.ref b] below meth c H locs 600000 7302250 (lw_Z below #[Value.ref b] s) (F0 m 961 ls [])) (u : HS) (v : MS) (H : Heap) (locs : List Loc) (ls : Array Slot) (hr : Rl u v) (hw : WD G (fun q : Nat => s.heap.size ≤ q) s (LW G ad am u v) H locs) (hl : lv_has ls 4 [(0, .ref b), (1, .ref (ad 0)), (2, .ref (am 0)), (3, .int x3)]) : W p l e room_1 s m #[Value.ref b] below meth c H locs 600000 7302250 (lw_Z below #[Value.ref b] s) (F0 m 582 ls []) := by
  obtain ⟨hx, hb, hrt, hml, hown, hts, hX, hbl, hlocks, hgv⟩ := C0
  have hbA : ¬ (fun q : Nat => s.heap.size ≤ q) b := Nat.not_le.mpr hbl
  have S : CallFix p m c code 4 s #[Value.ref b] lw_tbl RL := ⟨hx, hb, hml, hown, hts⟩
  refine lv_aload_n hx hb dL_law_582 rfl (lv_at hl 1 rfl) ?_
  refine lv_aload_n hx hb dL_law_583 rfl (lv_at hl 0 rfl) ?_
  refine lv_iload_n hx hb dL_law_584 rfl (lv_at hl 3 rfl) ?_
  refine lv_iconst (v := 1) hx hb dL_law_585 rfl ?_
  refine lv_iadd hx hb dL_law_586 ?_
  refine va_sld hx hb hX hbl hbA hw.2.2.2 i1 dL_law_587 ?_
  refine lv_aload_n hx hb dL_law_588 rfl (lv_at hl 0 rfl) ?_
  refine lv_iload_n hx hb dL_law_589 rfl (lv_at hl 3 rfl) ?_
  refine lv_iconst (v := 2) hx hb dL_law_590 rfl ?_
  refine lv_iadd hx hb dL_law_591 ?_
  refine va_sld hx hb hX hbl hbA hw.2.2.2 i2 dL_law_592 ?_
  obtain ⟨z, w, e1, e2, e3, hr⟩ := hs u v (xs (x3 + 1).toNatClampNeg) (xs (x3 + 2).toNatClampNeg) hr
  refine lh_at S hw e1 ⟨Nat.le_refl _, Nat.le_refl _⟩ hl.1 (Nat.le_of_ble_eq_true rfl) dL_law_593 ?_
  refine lv_aload_n hx hb dL_law_596 rfl (lv_at hl 2 rfl) ?_
  refine lv_aload_n hx hb dL_law_597 rfl (lv_at hl 0 rfl) ?_
  refine lv_iload_n hx hb dL_law_598 rfl (lv_at hl 3 rfl) ?_
  refine lv_iconst (v := 1) hx hb dL_law_599 rfl ?_
  refine lv_iadd hx hb dL_law_600 ?_
  refine va_sld hx hb hX hbl hbA hw.2.2.2 i1 dL_law_601 ?_
  refine lv_aload_n hx hb dL_law_602 rfl (lv_at hl 0 rfl) ?_
  refine lv_iload_n hx hb dL_law_603 rfl (lv_at hl 3 rfl) ?_
  refine lv_iconst (v := 2) hx hb dL_law_604 rfl ?_
  refine lv_iadd hx hb dL_law_605 ?_
  refine va_sld hx hb hX hbl hbA hw.2.2.2 i2 dL_law_606 ?_
  refine lm_at S hw e2 ⟨Nat.le_refl _, Nat.le_refl _⟩ hl.1 (Nat.le_of_ble_eq_true rfl) dL_law_607 (fun H locs hw => ?_)
  refine lv_icmp_eq (tgt := 961) hx hb dL_law_610 rfl (fun _ => ?_) (fun c9 => absurd e3 c9)
  exact hk _ _ _ _ _ hr hw hl
set_option maxHeartbeats 4000000 in
set_option maxRecDepth 100000 in
theorem law_c12 {p : Program} {l : Launch} {e : Env} {s : State} {m : MethodId} {below : List Frame} {meth : Method} {c : Code} {G : GX} {ad am : Nat → Nat} {b L : Nat} {xs : Nat → Int32} {x3 : Int32} {Rl : HS → MS → Prop} (hs : Sp_between Rl) (C0 : lw_At p s m meth c b L xs) (i1 : vp_in (x3 + 1) L) (i2 : vp_in (x3 + 2) L) (i3 : vp_in (x3 + 3) L) (i4 : vp_in (x3 + 4) L) (hk : ∀ (u : HS) (v : MS) (H : Heap) (locs : List Loc) (ls : Array Slot), Rl u v → WD G (fun q : Nat => s.heap.size ≤ q) s (LW G ad am u v) H locs → lv_has ls 4 [(0, .ref b), (1, .ref (ad 0)), (2, .ref (am 0)), (3, .int x3)] → W p l e room_1 s m #[Value.ref b] below meth c H locs 600000 7302250 (lw_Z below #[Value.ref b] s) (F0 m 961 ls [])) (u : HS) (v : MS) (H : Heap) (locs : List Loc) (ls : Array Slot) (hr : Rl u v) (hw : WD G (fun q : Nat => s.heap.size ≤ q) s (LW G ad am u v) H locs) (hl : lv_has ls 4 [(0, .ref b), (1, .ref (ad 0)), (2, .ref (am 0)), (3, .int x3)]) : W p l e room_1 s m #[Value.ref b] below meth c H locs 600000 7302250 (lw_Z below #[Value.ref b] s) (F0 m 615 ls []) := by
  obtain ⟨hx, hb, hrt, hml, hown, hts, hX, hbl, hlocks, hgv⟩ := C0
  have hbA : ¬ (fun q : Nat => s.heap.size ≤ q) b := Nat.not_le.mpr hbl
  have S : CallFix p m c code 4 s #[Value.ref b] lw_tbl RL := ⟨hx, hb, hml, hown, hts⟩
  refine lv_aload_n hx hb dL_law_615 rfl (lv_at hl 1 rfl) ?_
  refine lv_aload_n hx hb dL_law_616 rfl (lv_at hl 0 rfl) ?_
  refine lv_iload_n hx hb dL_law_617 rfl (lv_at hl 3 rfl) ?_
  refine lv_iconst (v := 1) hx hb dL_law_618 rfl ?_
  refine lv_iadd hx hb dL_law_619 ?_
  refine va_sld hx hb hX hbl hbA hw.2.2.2 i1 dL_law_620 ?_
  refine lv_aload_n hx hb dL_law_621 rfl (lv_at hl 0 rfl) ?_
  refine lv_iload_n hx hb dL_law_622 rfl (lv_at hl 3 rfl) ?_
  refine lv_iconst (v := 2) hx hb dL_law_623 rfl ?_
  refine lv_iadd hx hb dL_law_624 ?_
  refine va_sld hx hb hX hbl hbA hw.2.2.2 i2 dL_law_625 ?_
  obtain ⟨z, w, e1, e2, e3, hr⟩ := hs u v (xs (x3 + 1).toNatClampNeg) (xs (x3 + 2).toNatClampNeg) hr
  refine lh_between S hw e1 ⟨Nat.le_refl _, Nat.le_refl _⟩ hl.1 (Nat.le_of_ble_eq_true rfl) dL_law_626 ?_
  refine lv_aload_n hx hb dL_law_629 rfl (lv_at hl 2 rfl) ?_
  refine lv_aload_n hx hb dL_law_630 rfl (lv_at hl 0 rfl) ?_
  refine lv_iload_n hx hb dL_law_631 rfl (lv_at hl 3 rfl) ?_
  refine lv_iconst (v := 1) hx hb dL_law_632 rfl ?_
  refine lv_iadd hx hb dL_law_633 ?_
  refine va_sld hx hb hX hbl hbA hw.2.2.2 i1 dL_law_634 ?_
  refine lv_aload_n hx hb dL_law_635 rfl (lv_at hl 0 rfl) ?_
  refine lv_iload_n hx hb dL_law_636 rfl (lv_at hl 3 rfl) ?_
  refine lv_iconst (v := 2) hx hb dL_law_637 rfl ?_
  refine lv_iadd hx hb dL_law_638 ?_
  refine va_sld hx hb hX hbl hbA hw.2.2.2 i2 dL_law_639 ?_
  refine lm_between S hw e2 ⟨Nat.le_refl _, Nat.le_refl _⟩ hl.1 (Nat.le_of_ble_eq_true rfl) dL_law_640 (fun H locs hw => ?_)
  refine lv_icmp_eq (tgt := 961) hx hb dL_law_643 rfl (fun _ => ?_) (fun c9 => absurd e3 c9)
  exact hk _ _ _ _ _ hr hw hl
set_option maxHeartbeats 4000000 in
set_option maxRecDepth 100000 in
theorem law_c13 {p : Program} {l : Launch} {e : Env} {s : State} {m : MethodId} {below : List Frame} {meth : Method} {c : Code} {G : GX} {ad am : Nat → Nat} {b L : Nat} {xs : Nat → Int32} {x3 : Int32} {Rl : HS → MS → Prop} (hs : Sp_holds Rl) (C0 : lw_At p s m meth c b L xs) (i1 : vp_in (x3 + 1) L) (i2 : vp_in (x3 + 2) L) (i3 : vp_in (x3 + 3) L) (i4 : vp_in (x3 + 4) L) (hk : ∀ (u : HS) (v : MS) (H : Heap) (locs : List Loc) (ls : Array Slot), Rl u v → WD G (fun q : Nat => s.heap.size ≤ q) s (LW G ad am u v) H locs → lv_has ls 4 [(0, .ref b), (1, .ref (ad 0)), (2, .ref (am 0)), (3, .int x3)] → W p l e room_1 s m #[Value.ref b] below meth c H locs 600000 7302250 (lw_Z below #[Value.ref b] s) (F0 m 961 ls [])) (u : HS) (v : MS) (H : Heap) (locs : List Loc) (ls : Array Slot) (hr : Rl u v) (hw : WD G (fun q : Nat => s.heap.size ≤ q) s (LW G ad am u v) H locs) (hl : lv_has ls 4 [(0, .ref b), (1, .ref (ad 0)), (2, .ref (am 0)), (3, .int x3)]) : W p l e room_1 s m #[Value.ref b] below meth c H locs 600000 7302250 (lw_Z below #[Value.ref b] s) (F0 m 648 ls []) := by
  obtain ⟨hx, hb, hrt, hml, hown, hts, hX, hbl, hlocks, hgv⟩ := C0
  have hbA : ¬ (fun q : Nat => s.heap.size ≤ q) b := Nat.not_le.mpr hbl
  have S : CallFix p m c code 4 s #[Value.ref b] lw_tbl RL := ⟨hx, hb, hml, hown, hts⟩
  refine lv_aload_n hx hb dL_law_648 rfl (lv_at hl 1 rfl) ?_
  refine lv_aload_n hx hb dL_law_649 rfl (lv_at hl 0 rfl) ?_
  refine lv_iload_n hx hb dL_law_650 rfl (lv_at hl 3 rfl) ?_
  refine lv_iconst (v := 1) hx hb dL_law_651 rfl ?_
  refine lv_iadd hx hb dL_law_652 ?_
  refine va_sld hx hb hX hbl hbA hw.2.2.2 i1 dL_law_653 ?_
  refine lv_aload_n hx hb dL_law_654 rfl (lv_at hl 0 rfl) ?_
  refine lv_iload_n hx hb dL_law_655 rfl (lv_at hl 3 rfl) ?_
  refine lv_iconst (v := 2) hx hb dL_law_656 rfl ?_
  refine lv_iadd hx hb dL_law_657 ?_
  refine va_sld hx hb hX hbl hbA hw.2.2.2 i2 dL_law_658 ?_
  obtain ⟨z, w, e1, e2, e3, hr⟩ := hs u v (xs (x3 + 1).toNatClampNeg) (xs (x3 + 2).toNatClampNeg) hr
  refine lh_holds S hw e1 ⟨Nat.le_refl _, Nat.le_refl _⟩ hl.1 (Nat.le_of_ble_eq_true rfl) dL_law_659 ?_
  refine lv_aload_n hx hb dL_law_662 rfl (lv_at hl 2 rfl) ?_
  refine lv_aload_n hx hb dL_law_663 rfl (lv_at hl 0 rfl) ?_
  refine lv_iload_n hx hb dL_law_664 rfl (lv_at hl 3 rfl) ?_
  refine lv_iconst (v := 1) hx hb dL_law_665 rfl ?_
  refine lv_iadd hx hb dL_law_666 ?_
  refine va_sld hx hb hX hbl hbA hw.2.2.2 i1 dL_law_667 ?_
  refine lv_aload_n hx hb dL_law_668 rfl (lv_at hl 0 rfl) ?_
  refine lv_iload_n hx hb dL_law_669 rfl (lv_at hl 3 rfl) ?_
  refine lv_iconst (v := 2) hx hb dL_law_670 rfl ?_
  refine lv_iadd hx hb dL_law_671 ?_
  refine va_sld hx hb hX hbl hbA hw.2.2.2 i2 dL_law_672 ?_
  refine lm_holds S hw e2 ⟨Nat.le_refl _, Nat.le_refl _⟩ hl.1 (Nat.le_of_ble_eq_true rfl) dL_law_673 (fun H locs hw => ?_)
  refine lv_icmp_eq (tgt := 961) hx hb dL_law_676 rfl (fun _ => ?_) (fun c9 => absurd e3 c9)
  exact hk _ _ _ _ _ hr hw hl
set_option maxHeartbeats 4000000 in
set_option maxRecDepth 100000 in
theorem law_c14 {p : Program} {l : Launch} {e : Env} {s : State} {m : MethodId} {below : List Frame} {meth : Method} {c : Code} {G : GX} {ad am : Nat → Nat} {b L : Nat} {xs : Nat → Int32} {x3 : Int32} {Rl : HS → MS → Prop} (hs : Sp_meet Rl) (C0 : lw_At p s m meth c b L xs) (i1 : vp_in (x3 + 1) L) (i2 : vp_in (x3 + 2) L) (i3 : vp_in (x3 + 3) L) (i4 : vp_in (x3 + 4) L) (hk : ∀ (u : HS) (v : MS) (H : Heap) (locs : List Loc) (ls : Array Slot), Rl u v → WD G (fun q : Nat => s.heap.size ≤ q) s (LW G ad am u v) H locs → lv_has ls 4 [(0, .ref b), (1, .ref (ad 0)), (2, .ref (am 0)), (3, .int x3)] → W p l e room_1 s m #[Value.ref b] below meth c H locs 600000 7302250 (lw_Z below #[Value.ref b] s) (F0 m 961 ls [])) (u : HS) (v : MS) (H : Heap) (locs : List Loc) (ls : Array Slot) (hr : Rl u v) (hw : WD G (fun q : Nat => s.heap.size ≤ q) s (LW G ad am u v) H locs) (hl : lv_has ls 4 [(0, .ref b), (1, .ref (ad 0)), (2, .ref (am 0)), (3, .int x3)]) : W p l e room_1 s m #[Value.ref b] below meth c H locs 600000 7302250 (lw_Z below #[Value.ref b] s) (F0 m 681 ls []) := by
  obtain ⟨hx, hb, hrt, hml, hown, hts, hX, hbl, hlocks, hgv⟩ := C0
  have hbA : ¬ (fun q : Nat => s.heap.size ≤ q) b := Nat.not_le.mpr hbl
  have S : CallFix p m c code 4 s #[Value.ref b] lw_tbl RL := ⟨hx, hb, hml, hown, hts⟩
  refine lv_aload_n hx hb dL_law_681 rfl (lv_at hl 1 rfl) ?_
  refine lv_aload_n hx hb dL_law_682 rfl (lv_at hl 0 rfl) ?_
  refine lv_iload_n hx hb dL_law_683 rfl (lv_at hl 3 rfl) ?_
  refine lv_iconst (v := 1) hx hb dL_law_684 rfl ?_
  refine lv_iadd hx hb dL_law_685 ?_
  refine va_sld hx hb hX hbl hbA hw.2.2.2 i1 dL_law_686 ?_
  refine lv_aload_n hx hb dL_law_687 rfl (lv_at hl 0 rfl) ?_
  refine lv_iload_n hx hb dL_law_688 rfl (lv_at hl 3 rfl) ?_
  refine lv_iconst (v := 2) hx hb dL_law_689 rfl ?_
  refine lv_iadd hx hb dL_law_690 ?_
  refine va_sld hx hb hX hbl hbA hw.2.2.2 i2 dL_law_691 ?_
  obtain ⟨z, w, e1, e2, e3, hr⟩ := hs u v (xs (x3 + 1).toNatClampNeg) (xs (x3 + 2).toNatClampNeg) hr
  refine lh_meet S hw e1 ⟨Nat.le_refl _, Nat.le_refl _⟩ hl.1 (Nat.le_of_ble_eq_true rfl) dL_law_692 ?_
  refine lv_aload_n hx hb dL_law_695 rfl (lv_at hl 2 rfl) ?_
  refine lv_aload_n hx hb dL_law_696 rfl (lv_at hl 0 rfl) ?_
  refine lv_iload_n hx hb dL_law_697 rfl (lv_at hl 3 rfl) ?_
  refine lv_iconst (v := 1) hx hb dL_law_698 rfl ?_
  refine lv_iadd hx hb dL_law_699 ?_
  refine va_sld hx hb hX hbl hbA hw.2.2.2 i1 dL_law_700 ?_
  refine lv_aload_n hx hb dL_law_701 rfl (lv_at hl 0 rfl) ?_
  refine lv_iload_n hx hb dL_law_702 rfl (lv_at hl 3 rfl) ?_
  refine lv_iconst (v := 2) hx hb dL_law_703 rfl ?_
  refine lv_iadd hx hb dL_law_704 ?_
  refine va_sld hx hb hX hbl hbA hw.2.2.2 i2 dL_law_705 ?_
  refine lm_meet S hw e2 ⟨Nat.le_refl _, Nat.le_refl _⟩ hl.1 (Nat.le_of_ble_eq_true rfl) dL_law_706 (fun H locs hw => ?_)
  refine lv_icmp_eq (tgt := 961) hx hb dL_law_709 rfl (fun _ => ?_) (fun c9 => absurd e3 c9)
  exact hk _ _ _ _ _ hr hw hl
set_option maxHeartbeats 4000000 in
set_option maxRecDepth 100000 in
theorem law_c15 {p : Program} {l : Launch} {e : Env} {s : State} {m : MethodId} {below : List Frame} {meth : Method} {c : Code} {G : GX} {ad am : Nat → Nat} {b L : Nat} {xs : Nat → Int32} {x3 : Int32} {Rl : HS → MS → Prop} (hs : Sp_depth Rl) (C0 : lw_At p s m meth c b L xs) (i1 : vp_in (x3 + 1) L) (i2 : vp_in (x3 + 2) L) (i3 : vp_in (x3 + 3) L) (i4 : vp_in (x3 + 4) L) (hk : ∀ (u : HS) (v : MS) (H : Heap) (locs : List Loc) (ls : Array Slot), Rl u v → WD G (fun q : Nat => s.heap.size ≤ q) s (LW G ad am u v) H locs → lv_has ls 4 [(0, .ref b), (1, .ref (ad 0)), (2, .ref (am 0)), (3, .int x3)] → W p l e room_1 s m #[Value.ref b] below meth c H locs 600000 7302250 (lw_Z below #[Value.ref b] s) (F0 m 961 ls [])) (u : HS) (v : MS) (H : Heap) (locs : List Loc) (ls : Array Slot) (hr : Rl u v) (hw : WD G (fun q : Nat => s.heap.size ≤ q) s (LW G ad am u v) H locs) (hl : lv_has ls 4 [(0, .ref b), (1, .ref (ad 0)), (2, .ref (am 0)), (3, .int x3)]) : W p l e room_1 s m #[Value.ref b] below meth c H locs 600000 7302250 (lw_Z below #[Value.ref b] s) (F0 m 714 ls []) := by
  obtain ⟨hx, hb, hrt, hml, hown, hts, hX, hbl, hlocks, hgv⟩ := C0
  have hbA : ¬ (fun q : Nat => s.heap.size ≤ q) b := Nat.not_le.mpr hbl
  have S : CallFix p m c code 4 s #[Value.ref b] lw_tbl RL := ⟨hx, hb, hml, hown, hts⟩
  refine lv_aload_n hx hb dL_law_714 rfl (lv_at hl 1 rfl) ?_
  refine lv_aload_n hx hb dL_law_715 rfl (lv_at hl 0 rfl) ?_
  refine lv_iload_n hx hb dL_law_716 rfl (lv_at hl 3 rfl) ?_
  refine lv_iconst (v := 1) hx hb dL_law_717 rfl ?_
  refine lv_iadd hx hb dL_law_718 ?_
  refine va_sld hx hb hX hbl hbA hw.2.2.2 i1 dL_law_719 ?_
  obtain ⟨z, w, e1, e2, e3, hr⟩ := hs u v (xs (x3 + 1).toNatClampNeg) hr
  refine lh_depth S hw e1 ⟨Nat.le_refl _, Nat.le_refl _⟩ hl.1 (Nat.le_of_ble_eq_true rfl) dL_law_720 ?_
  refine lv_aload_n hx hb dL_law_723 rfl (lv_at hl 2 rfl) ?_
  refine lv_aload_n hx hb dL_law_724 rfl (lv_at hl 0 rfl) ?_
  refine lv_iload_n hx hb dL_law_725 rfl (lv_at hl 3 rfl) ?_
  refine lv_iconst (v := 1) hx hb dL_law_726 rfl ?_
  refine lv_iadd hx hb dL_law_727 ?_
  refine va_sld hx hb hX hbl hbA hw.2.2.2 i1 dL_law_728 ?_
  refine lm_depth S hw e2 ⟨Nat.le_refl _, Nat.le_refl _⟩ hl.1 (Nat.le_of_ble_eq_true rfl) dL_law_729 (fun H locs hw => ?_)
  refine lv_icmp_eq (tgt := 961) hx hb dL_law_732 rfl (fun _ => ?_) (fun c9 => absurd e3 c9)
  exact hk _ _ _ _ _ hr hw hl
set_option maxHeartbeats 4000000 in
set_option maxRecDepth 100000 in
theorem law_c16 {p : Program} {l : Launch} {e : Env} {s : State} {m : MethodId} {below : List Frame} {meth : Method} {c : Code} {G : GX} {ad am : Nat → Nat} {b L : Nat} {xs : Nat → Int32} {x3 : Int32} {Rl : HS → MS → Prop} (hs : Sp_rowOf Rl) (C0 : lw_At p s m meth c b L xs) (i1 : vp_in (x3 + 1) L) (i2 : vp_in (x3 + 2) L) (i3 : vp_in (x3 + 3) L) (i4 : vp_in (x3 + 4) L) (hk : ∀ (u : HS) (v : MS) (H : Heap) (locs : List Loc) (ls : Array Slot), Rl u v → WD G (fun q : Nat => s.heap.size ≤ q) s (LW G ad am u v) H locs → lv_has ls 4 [(0, .ref b), (1, .ref (ad 0)), (2, .ref (am 0)), (3, .int x3)] → W p l e room_1 s m #[Value.ref b] below meth c H locs 600000 7302250 (lw_Z below #[Value.ref b] s) (F0 m 961 ls [])) (u : HS) (v : MS) (H : Heap) (locs : List Loc) (ls : Array Slot) (hr : Rl u v) (hw : WD G (fun q : Nat => s.heap.size ≤ q) s (LW G ad am u v) H locs) (hl : lv_has ls 4 [(0, .ref b), (1, .ref (ad 0)), (2, .ref (am 0)), (3, .int x3)]) : W p l e room_1 s m #[Value.ref b] below meth c H locs 600000 7302250 (lw_Z below #[Value.ref b] s) (F0 m 737 ls []) := by
  obtain ⟨hx, hb, hrt, hml, hown, hts, hX, hbl, hlocks, hgv⟩ := C0
  have hbA : ¬ (fun q : Nat => s.heap.size ≤ q) b := Nat.not_le.mpr hbl
  have S : CallFix p m c code 4 s #[Value.ref b] lw_tbl RL := ⟨hx, hb, hml, hown, hts⟩
  refine lv_aload_n hx hb dL_law_737 rfl (lv_at hl 1 rfl) ?_
  refine lv_aload_n hx hb dL_law_738 rfl (lv_at hl 0 rfl) ?_
  refine lv_iload_n hx hb dL_law_739 rfl (lv_at hl 3 rfl) ?_
  refine lv_iconst (v := 1) hx hb dL_law_740 rfl ?_
  refine lv_iadd hx hb dL_law_741 ?_
  refine va_sld hx hb hX hbl hbA hw.2.2.2 i1 dL_law_742 ?_
  obtain ⟨z, w, e1, e2, e3, hr⟩ := hs u v (xs (x3 + 1).toNatClampNeg) hr
  refine lh_rowOf S hw e1 ⟨Nat.le_refl _, Nat.le_refl _⟩ hl.1 (Nat.le_of_ble_eq_true rfl) dL_law_743 ?_
  refine lv_aload_n hx hb dL_law_746 rfl (lv_at hl 2 rfl) ?_
  refine lv_aload_n hx hb dL_law_747 rfl (lv_at hl 0 rfl) ?_
  refine lv_iload_n hx hb dL_law_748 rfl (lv_at hl 3 rfl) ?_
  refine lv_iconst (v := 1) hx hb dL_law_749 rfl ?_
  refine lv_iadd hx hb dL_law_750 ?_
  refine va_sld hx hb hX hbl hbA hw.2.2.2 i1 dL_law_751 ?_
  refine lm_rowOf S hw e2 ⟨Nat.le_refl _, Nat.le_refl _⟩ hl.1 (Nat.le_of_ble_eq_true rfl) dL_law_752 (fun H locs hw => ?_)
  refine lv_icmp_eq (tgt := 961) hx hb dL_law_755 rfl (fun _ => ?_) (fun c9 => absurd e3 c9)
  exact hk _ _ _ _ _ hr hw hl
set_option maxHeartbeats 4000000 in
set_option maxRecDepth 100000 in
theorem law_c17 {p : Program} {l : Launch} {e : Env} {s : State} {m : MethodId} {below : List Frame} {meth : Method} {c : Code} {G : GX} {ad am : Nat → Nat} {b L : Nat} {xs : Nat → Int32} {x3 : Int32} {Rl : HS → MS → Prop} (hs : Sp_mark Rl) (C0 : lw_At p s m meth c b L xs) (i1 : vp_in (x3 + 1) L) (i2 : vp_in (x3 + 2) L) (i3 : vp_in (x3 + 3) L) (i4 : vp_in (x3 + 4) L) (hk : ∀ (u : HS) (v : MS) (H : Heap) (locs : List Loc) (ls : Array Slot), Rl u v → WD G (fun q : Nat => s.heap.size ≤ q) s (LW G ad am u v) H locs → lv_has ls 4 [(0, .ref b), (1, .ref (ad 0)), (2, .ref (am 0)), (3, .int x3)] → W p l e room_1 s m #[Value.ref b] below meth c H locs 600000 7302250 (lw_Z below #[Value.ref b] s) (F0 m 961 ls [])) (u : HS) (v : MS) (H : Heap) (locs : List Loc) (ls : Array Slot) (hr : Rl u v) (hw : WD G (fun q : Nat => s.heap.size ≤ q) s (LW G ad am u v) H locs) (hl : lv_has ls 4 [(0, .ref b), (1, .ref (ad 0)), (2, .ref (am 0)), (3, .int x3)]) : W p l e room_1 s m #[Value.ref b] below meth c H locs 600000 7302250 (lw_Z below #[Value.ref b] s) (F0 m 760 ls []) := by
  obtain ⟨hx, hb, hrt, hml, hown, hts, hX, hbl, hlocks, hgv⟩ := C0
  have hbA : ¬ (fun q : Nat => s.heap.size ≤ q) b := Nat.not_le.mpr hbl
  have S : CallFix p m c code 4 s #[Value.ref b] lw_tbl RL := ⟨hx, hb, hml, hown, hts⟩
  refine lv_aload_n hx hb dL_law_760 rfl (lv_at hl 1 rfl) ?_
  refine lv_aload_n hx hb dL_law_761 rfl (lv_at hl 0 rfl) ?_
  refine lv_iload_n hx hb dL_law_762 rfl (lv_at hl 3 rfl) ?_
  refine lv_iconst (v := 1) hx hb dL_law_763 rfl ?_
  refine lv_iadd hx hb dL_law_764 ?_
  refine va_sld hx hb hX hbl hbA hw.2.2.2 i1 dL_law_765 ?_
  refine lv_aload_n hx hb dL_law_766 rfl (lv_at hl 0 rfl) ?_
  refine lv_iload_n hx hb dL_law_767 rfl (lv_at hl 3 rfl) ?_
  refine lv_iconst (v := 2) hx hb dL_law_768 rfl ?_
  refine lv_iadd hx hb dL_law_769 ?_
  refine va_sld hx hb hX hbl hbA hw.2.2.2 i2 dL_law_770 ?_
  refine lv_aload_n hx hb dL_law_771 rfl (lv_at hl 0 rfl) ?_
  refine lv_iload_n hx hb dL_law_772 rfl (lv_at hl 3 rfl) ?_
  refine lv_iconst (v := 3) hx hb dL_law_773 rfl ?_
  refine lv_iadd hx hb dL_law_774 ?_
  refine va_sld hx hb hX hbl hbA hw.2.2.2 i3 dL_law_775 ?_
  refine lv_aload_n hx hb dL_law_776 rfl (lv_at hl 0 rfl) ?_
  refine lv_iload_n hx hb dL_law_777 rfl (lv_at hl 3 rfl) ?_
  refine lv_iconst (v := 4) hx hb dL_law_778 rfl ?_
  refine lv_iadd hx hb dL_law_779 ?_
  refine va_sld hx hb hX hbl hbA hw.2.2.2 i4 dL_law_780 ?_
  obtain ⟨z, w, e1, e2, e3, hr⟩ := hs u v (xs (x3 + 1).toNatClampNeg) (xs (x3 + 2).toNatClampNeg) (xs (x3 + 3).toNatClampNeg) (xs (x3 + 4).toNatClampNeg) hr
  refine lh_mark S hw e1 ⟨Nat.le_refl _, Nat.le_refl _⟩ hl.1 (Nat.le_of_ble_eq_true rfl) dL_law_781 (fun H locs hw => ?_)
  refine lv_aload_n hx hb dL_law_784 rfl (lv_at hl 2 rfl) ?_
  refine lv_aload_n hx hb dL_law_785 rfl (lv_at hl 0 rfl) ?_
  refine lv_iload_n hx hb dL_law_786 rfl (lv_at hl 3 rfl) ?_
  refine lv_iconst (v := 1) hx hb dL_law_787 rfl ?_
  refine lv_iadd hx hb dL_law_788 ?_
  refine va_sld hx hb hX hbl hbA hw.2.2.2 i1 dL_law_789 ?_
  refine lv_aload_n hx hb dL_law_790 rfl (lv_at hl 0 rfl) ?_
  refine lv_iload_n hx hb dL_law_791 rfl (lv_at hl 3 rfl) ?_
  refine lv_iconst (v := 2) hx hb dL_law_792 rfl ?_
  refine lv_iadd hx hb dL_law_793 ?_
  refine va_sld hx hb hX hbl hbA hw.2.2.2 i2 dL_law_794 ?_
  refine lv_aload_n hx hb dL_law_795 rfl (lv_at hl 0 rfl) ?_
  refine lv_iload_n hx hb dL_law_796 rfl (lv_at hl 3 rfl) ?_
  refine lv_iconst (v := 3) hx hb dL_law_797 rfl ?_
  refine lv_iadd hx hb dL_law_798 ?_
  refine va_sld hx hb hX hbl hbA hw.2.2.2 i3 dL_law_799 ?_
  refine lv_aload_n hx hb dL_law_800 rfl (lv_at hl 0 rfl) ?_
  refine lv_iload_n hx hb dL_law_801 rfl (lv_at hl 3 rfl) ?_
  refine lv_iconst (v := 4) hx hb dL_law_802 rfl ?_
  refine lv_iadd hx hb dL_law_803 ?_
  refine va_sld hx hb hX hbl hbA hw.2.2.2 i4 dL_law_804 ?_
  refine lm_mark S hw e2 ⟨Nat.le_refl _, Nat.le_refl _⟩ hl.1 (Nat.le_of_ble_eq_true rfl) dL_law_805 (fun H locs hw => ?_)
  refine lv_icmp_eq (tgt := 961) hx hb dL_law_808 rfl (fun _ => ?_) (fun c9 => absurd e3 c9)
  exact hk _ _ _ _ _ hr hw hl
set_option maxHeartbeats 4000000 in
set_option maxRecDepth 100000 in
theorem law_c18 {p : Program} {l : Launch} {e : Env} {s : State} {m : MethodId} {below : List Frame} {meth : Method} {c : Code} {G : GX} {ad am : Nat → Nat} {b L : Nat} {xs : Nat → Int32} {x3 : Int32} {Rl : HS → MS → Prop} (hs : Sp_marked Rl) (C0 : lw_At p s m meth c b L xs) (i1 : vp_in (x3 + 1) L) (i2 : vp_in (x3 + 2) L) (i3 : vp_in (x3 + 3) L) (i4 : vp_in (x3 + 4) L) (hk : ∀ (u : HS) (v : MS) (H : Heap) (locs : List Loc) (ls : Array Slot), Rl u v → WD G (fun q : Nat => s.heap.size ≤ q) s (LW G ad am u v) H locs → lv_has ls 4 [(0, .ref b), (1, .ref (ad 0)), (2, .ref (am 0)), (3, .int x3)] → W p l e room_1 s m #[Value.ref b] below meth c H locs 600000 7302250 (lw_Z below #[Value.ref b] s) (F0 m 961 ls [])) (u : HS) (v : MS) (H : Heap) (locs : List Loc) (ls : Array Slot) (hr : Rl u v) (hw : WD G (fun q : Nat => s.heap.size ≤ q) s (LW G ad am u v) H locs) (hl : lv_has ls 4 [(0, .ref b), (1, .ref (ad 0)), (2, .ref (am 0)), (3, .int x3)]) : W p l e room_1 s m #[Value.ref b] below meth c H locs 600000 7302250 (lw_Z below #[Value.ref b] s) (F0 m 813 ls []) := by
  obtain ⟨hx, hb, hrt, hml, hown, hts, hX, hbl, hlocks, hgv⟩ := C0
  have hbA : ¬ (fun q : Nat => s.heap.size ≤ q) b := Nat.not_le.mpr hbl
  have S : CallFix p m c code 4 s #[Value.ref b] lw_tbl RL := ⟨hx, hb, hml, hown, hts⟩
  refine lv_aload_n hx hb dL_law_813 rfl (lv_at hl 1 rfl) ?_
  refine lv_aload_n hx hb dL_law_814 rfl (lv_at hl 0 rfl) ?_
  refine lv_iload_n hx hb dL_law_815 rfl (lv_at hl 3 rfl) ?_
  refine lv_iconst (v := 1) hx hb dL_law_816 rfl ?_
  refine lv_iadd hx hb dL_law_817 ?_
  refine va_sld hx hb hX hbl hbA hw.2.2.2 i1 dL_law_818 ?_
  obtain ⟨z, w, e1, e2, e3, hr⟩ := hs u v (xs (x3 + 1).toNatClampNeg) hr
  refine lh_marked S hw e1 ⟨Nat.le_refl _, Nat.le_refl _⟩ hl.1 (Nat.le_of_ble_eq_true rfl) dL_law_819 ?_
  refine lv_aload_n hx hb dL_law_822 rfl (lv_at hl 2 rfl) ?_
  refine lv_aload_n hx hb dL_law_823 rfl (lv_at hl 0 rfl) ?_
  refine lv_iload_n hx hb dL_law_824 rfl (lv_at hl 3 rfl) ?_
  refine lv_iconst (v := 1) hx hb dL_law_825 rfl ?_
  refine lv_iadd hx hb dL_law_826 ?_
  refine va_sld hx hb hX hbl hbA hw.2.2.2 i1 dL_law_827 ?_
  refine lm_marked S hw e2 ⟨Nat.le_refl _, Nat.le_refl _⟩ hl.1 (Nat.le_of_ble_eq_true rfl) dL_law_828 (fun H locs hw => ?_)
  refine lv_icmp_eq (tgt := 961) hx hb dL_law_831 rfl (fun _ => ?_) (fun c9 => absurd e3 c9)
  exact hk _ _ _ _ _ hr hw hl
set_option maxHeartbeats 4000000 in
set_option maxRecDepth 100000 in
theorem law_c19 {p : Program} {l : Launch} {e : Env} {s : State} {m : MethodId} {below : List Frame} {meth : Method} {c : Code} {G : GX} {ad am : Nat → Nat} {b L : Nat} {xs : Nat → Int32} {x3 : Int32} {Rl : HS → MS → Prop} (hs : Sp_putAt Rl) (C0 : lw_At p s m meth c b L xs) (i1 : vp_in (x3 + 1) L) (i2 : vp_in (x3 + 2) L) (i3 : vp_in (x3 + 3) L) (i4 : vp_in (x3 + 4) L) (hk : ∀ (u : HS) (v : MS) (H : Heap) (locs : List Loc) (ls : Array Slot), Rl u v → WD G (fun q : Nat => s.heap.size ≤ q) s (LW G ad am u v) H locs → lv_has ls 4 [(0, .ref b), (1, .ref (ad 0)), (2, .ref (am 0)), (3, .int x3)] → W p l e room_1 s m #[Value.ref b] below meth c H locs 600000 7302250 (lw_Z below #[Value.ref b] s) (F0 m 961 ls [])) (u : HS) (v : MS) (H : Heap) (locs : List Loc) (ls : Array Slot) (hr : Rl u v) (hw : WD G (fun q : Nat => s.heap.size ≤ q) s (LW G ad am u v) H locs) (hl : lv_has ls 4 [(0, .ref b), (1, .ref (ad 0)), (2, .ref (am 0)), (3, .int x3)]) : W p l e room_1 s m #[Value.ref b] below meth c H locs 600000 7302250 (lw_Z below #[Value.ref b] s) (F0 m 836 ls []) := by
  obtain ⟨hx, hb, hrt, hml, hown, hts, hX, hbl, hlocks, hgv⟩ := C0
  have hbA : ¬ (fun q : Nat => s.heap.size ≤ q) b := Nat.not_le.mpr hbl
  have S : CallFix p m c code 4 s #[Value.ref b] lw_tbl RL := ⟨hx, hb, hml, hown, hts⟩
  refine lv_aload_n hx hb dL_law_836 rfl (lv_at hl 1 rfl) ?_
  refine lv_aload_n hx hb dL_law_837 rfl (lv_at hl 0 rfl) ?_
  refine lv_iload_n hx hb dL_law_838 rfl (lv_at hl 3 rfl) ?_
  refine lv_iconst (v := 1) hx hb dL_law_839 rfl ?_
  refine lv_iadd hx hb dL_law_840 ?_
  refine va_sld hx hb hX hbl hbA hw.2.2.2 i1 dL_law_841 ?_
  obtain ⟨z, w, e1, e2, e3, hr⟩ := hs u v (xs (x3 + 1).toNatClampNeg) hr
  refine lh_putAt S hw e1 ⟨Nat.le_refl _, Nat.le_refl _⟩ hl.1 (Nat.le_of_ble_eq_true rfl) dL_law_842 (fun H locs hw => ?_)
  refine lv_aload_n hx hb dL_law_845 rfl (lv_at hl 2 rfl) ?_
  refine lv_aload_n hx hb dL_law_846 rfl (lv_at hl 0 rfl) ?_
  refine lv_iload_n hx hb dL_law_847 rfl (lv_at hl 3 rfl) ?_
  refine lv_iconst (v := 1) hx hb dL_law_848 rfl ?_
  refine lv_iadd hx hb dL_law_849 ?_
  refine va_sld hx hb hX hbl hbA hw.2.2.2 i1 dL_law_850 ?_
  refine lm_putAt S hw e2 ⟨Nat.le_refl _, Nat.le_refl _⟩ hl.1 (Nat.le_of_ble_eq_true rfl) dL_law_851 (fun H locs hw => ?_)
  refine lv_icmp_eq (tgt := 961) hx hb dL_law_854 rfl (fun _ => ?_) (fun c9 => absurd e3 c9)
  exact hk _ _ _ _ _ hr hw hl
set_option maxHeartbeats 4000000 in
set_option maxRecDepth 100000 in
theorem law_c20 {p : Program} {l : Launch} {e : Env} {s : State} {m : MethodId} {below : List Frame} {meth : Method} {c : Code} {G : GX} {ad am : Nat → Nat} {b L : Nat} {xs : Nat → Int32} {x3 : Int32} {Rl : HS → MS → Prop} (hs : Sp_undo Rl) (C0 : lw_At p s m meth c b L xs) (i1 : vp_in (x3 + 1) L) (i2 : vp_in (x3 + 2) L) (i3 : vp_in (x3 + 3) L) (i4 : vp_in (x3 + 4) L) (hk : ∀ (u : HS) (v : MS) (H : Heap) (locs : List Loc) (ls : Array Slot), Rl u v → WD G (fun q : Nat => s.heap.size ≤ q) s (LW G ad am u v) H locs → lv_has ls 4 [(0, .ref b), (1, .ref (ad 0)), (2, .ref (am 0)), (3, .int x3)] → W p l e room_1 s m #[Value.ref b] below meth c H locs 600000 7302250 (lw_Z below #[Value.ref b] s) (F0 m 961 ls [])) (u : HS) (v : MS) (H : Heap) (locs : List Loc) (ls : Array Slot) (hr : Rl u v) (hw : WD G (fun q : Nat => s.heap.size ≤ q) s (LW G ad am u v) H locs) (hl : lv_has ls 4 [(0, .ref b), (1, .ref (ad 0)), (2, .ref (am 0)), (3, .int x3)]) : W p l e room_1 s m #[Value.ref b] below meth c H locs 600000 7302250 (lw_Z below #[Value.ref b] s) (F0 m 859 ls []) := by
  obtain ⟨hx, hb, hrt, hml, hown, hts, hX, hbl, hlocks, hgv⟩ := C0
  have hbA : ¬ (fun q : Nat => s.heap.size ≤ q) b := Nat.not_le.mpr hbl
  have S : CallFix p m c code 4 s #[Value.ref b] lw_tbl RL := ⟨hx, hb, hml, hown, hts⟩
  refine lv_aload_n hx hb dL_law_859 rfl (lv_at hl 1 rfl) ?_
  obtain ⟨z, w, e1, e2, e3, hr⟩ := hs u v hr
  refine lh_undo S hw e1 ⟨Nat.le_refl _, Nat.le_refl _⟩ hl.1 (Nat.le_of_ble_eq_true rfl) dL_law_860 (fun H locs hw => ?_)
  refine lv_aload_n hx hb dL_law_863 rfl (lv_at hl 2 rfl) ?_
  refine lm_undo S hw e2 ⟨Nat.le_refl _, Nat.le_refl _⟩ hl.1 (Nat.le_of_ble_eq_true rfl) dL_law_864 (fun H locs hw => ?_)
  refine lv_icmp_eq (tgt := 961) hx hb dL_law_867 rfl (fun _ => ?_) (fun c9 => absurd e3 c9)
  exact hk _ _ _ _ _ hr hw hl
set_option maxHeartbeats 4000000 in
set_option maxRecDepth 100000 in
theorem law_c21 {p : Program} {l : Launch} {e : Env} {s : State} {m : MethodId} {below : List Frame} {meth : Method} {c : Code} {G : GX} {ad am : Nat → Nat} {b L : Nat} {xs : Nat → Int32} {x3 : Int32} {Rl : HS → MS → Prop} (hs : Sp_about Rl) (C0 : lw_At p s m meth c b L xs) (i1 : vp_in (x3 + 1) L) (i2 : vp_in (x3 + 2) L) (i3 : vp_in (x3 + 3) L) (i4 : vp_in (x3 + 4) L) (hk : ∀ (u : HS) (v : MS) (H : Heap) (locs : List Loc) (ls : Array Slot), Rl u v → WD G (fun q : Nat => s.heap.size ≤ q) s (LW G ad am u v) H locs → lv_has ls 4 [(0, .ref b), (1, .ref (ad 0)), (2, .ref (am 0)), (3, .int x3)] → W p l e room_1 s m #[Value.ref b] below meth c H locs 600000 7302250 (lw_Z below #[Value.ref b] s) (F0 m 961 ls [])) (u : HS) (v : MS) (H : Heap) (locs : List Loc) (ls : Array Slot) (hr : Rl u v) (hw : WD G (fun q : Nat => s.heap.size ≤ q) s (LW G ad am u v) H locs) (hl : lv_has ls 4 [(0, .ref b), (1, .ref (ad 0)), (2, .ref (am 0)), (3, .int x3)]) : W p l e room_1 s m #[Value.ref b] below meth c H locs 600000 7302250 (lw_Z below #[Value.ref b] s) (F0 m 872 ls []) := by
  obtain ⟨hx, hb, hrt, hml, hown, hts, hX, hbl, hlocks, hgv⟩ := C0
  have hbA : ¬ (fun q : Nat => s.heap.size ≤ q) b := Nat.not_le.mpr hbl
  have S : CallFix p m c code 4 s #[Value.ref b] lw_tbl RL := ⟨hx, hb, hml, hown, hts⟩
  refine lv_aload_n hx hb dL_law_872 rfl (lv_at hl 1 rfl) ?_
  refine lv_aload_n hx hb dL_law_873 rfl (lv_at hl 0 rfl) ?_
  refine lv_iload_n hx hb dL_law_874 rfl (lv_at hl 3 rfl) ?_
  refine lv_iconst (v := 1) hx hb dL_law_875 rfl ?_
  refine lv_iadd hx hb dL_law_876 ?_
  refine va_sld hx hb hX hbl hbA hw.2.2.2 i1 dL_law_877 ?_
  refine lv_aload_n hx hb dL_law_878 rfl (lv_at hl 0 rfl) ?_
  refine lv_iload_n hx hb dL_law_879 rfl (lv_at hl 3 rfl) ?_
  refine lv_iconst (v := 2) hx hb dL_law_880 rfl ?_
  refine lv_iadd hx hb dL_law_881 ?_
  refine va_sld hx hb hX hbl hbA hw.2.2.2 i2 dL_law_882 ?_
  obtain ⟨z, w, e1, e2, e3, hr⟩ := hs u v (xs (x3 + 1).toNatClampNeg) (xs (x3 + 2).toNatClampNeg) hr
  refine lh_about S hw e1 ⟨Nat.le_refl _, Nat.le_refl _⟩ hl.1 (Nat.le_of_ble_eq_true rfl) dL_law_883 ?_
  refine lv_aload_n hx hb dL_law_886 rfl (lv_at hl 2 rfl) ?_
  refine lv_aload_n hx hb dL_law_887 rfl (lv_at hl 0 rfl) ?_
  refine lv_iload_n hx hb dL_law_888 rfl (lv_at hl 3 rfl) ?_
  refine lv_iconst (v := 1) hx hb dL_law_889 rfl ?_
  refine lv_iadd hx hb dL_law_890 ?_
  refine va_sld hx hb hX hbl hbA hw.2.2.2 i1 dL_law_891 ?_
  refine lv_aload_n hx hb dL_law_892 rfl (lv_at hl 0 rfl) ?_
  refine lv_iload_n hx hb dL_law_893 rfl (lv_at hl 3 rfl) ?_
  refine lv_iconst (v := 2) hx hb dL_law_894 rfl ?_
  refine lv_iadd hx hb dL_law_895 ?_
  refine va_sld hx hb hX hbl hbA hw.2.2.2 i2 dL_law_896 ?_
  refine lm_about S hw e2 ⟨Nat.le_refl _, Nat.le_refl _⟩ hl.1 (Nat.le_of_ble_eq_true rfl) dL_law_897 (fun H locs hw => ?_)
  refine lv_icmp_eq (tgt := 961) hx hb dL_law_900 rfl (fun _ => ?_) (fun c9 => absurd e3 c9)
  exact hk _ _ _ _ _ hr hw hl
set_option maxHeartbeats 4000000 in
set_option maxRecDepth 100000 in
theorem law_c22 {p : Program} {l : Launch} {e : Env} {s : State} {m : MethodId} {below : List Frame} {meth : Method} {c : Code} {G : GX} {ad am : Nat → Nat} {b L : Nat} {xs : Nat → Int32} {x3 : Int32} {Rl : HS → MS → Prop} (hs : Sp_isOf Rl) (C0 : lw_At p s m meth c b L xs) (i1 : vp_in (x3 + 1) L) (i2 : vp_in (x3 + 2) L) (i3 : vp_in (x3 + 3) L) (i4 : vp_in (x3 + 4) L) (hk : ∀ (u : HS) (v : MS) (H : Heap) (locs : List Loc) (ls : Array Slot), Rl u v → WD G (fun q : Nat => s.heap.size ≤ q) s (LW G ad am u v) H locs → lv_has ls 4 [(0, .ref b), (1, .ref (ad 0)), (2, .ref (am 0)), (3, .int x3)] → W p l e room_1 s m #[Value.ref b] below meth c H locs 600000 7302250 (lw_Z below #[Value.ref b] s) (F0 m 961 ls [])) (u : HS) (v : MS) (H : Heap) (locs : List Loc) (ls : Array Slot) (hr : Rl u v) (hw : WD G (fun q : Nat => s.heap.size ≤ q) s (LW G ad am u v) H locs) (hl : lv_has ls 4 [(0, .ref b), (1, .ref (ad 0)), (2, .ref (am 0)), (3, .int x3)]) : W p l e room_1 s m #[Value.ref b] below meth c H locs 600000 7302250 (lw_Z below #[Value.ref b] s) (F0 m 905 ls []) := by
  obtain ⟨hx, hb, hrt, hml, hown, hts, hX, hbl, hlocks, hgv⟩ := C0
  have hbA : ¬ (fun q : Nat => s.heap.size ≤ q) b := Nat.not_le.mpr hbl
  have S : CallFix p m c code 4 s #[Value.ref b] lw_tbl RL := ⟨hx, hb, hml, hown, hts⟩
  refine lv_aload_n hx hb dL_law_905 rfl (lv_at hl 1 rfl) ?_
  refine lv_aload_n hx hb dL_law_906 rfl (lv_at hl 0 rfl) ?_
  refine lv_iload_n hx hb dL_law_907 rfl (lv_at hl 3 rfl) ?_
  refine lv_iconst (v := 1) hx hb dL_law_908 rfl ?_
  refine lv_iadd hx hb dL_law_909 ?_
  refine va_sld hx hb hX hbl hbA hw.2.2.2 i1 dL_law_910 ?_
  refine lv_aload_n hx hb dL_law_911 rfl (lv_at hl 0 rfl) ?_
  refine lv_iload_n hx hb dL_law_912 rfl (lv_at hl 3 rfl) ?_
  refine lv_iconst (v := 2) hx hb dL_law_913 rfl ?_
  refine lv_iadd hx hb dL_law_914 ?_
  refine va_sld hx hb hX hbl hbA hw.2.2.2 i2 dL_law_915 ?_
  obtain ⟨z, w, e1, e2, e3, hr⟩ := hs u v (xs (x3 + 1).toNatClampNeg) (xs (x3 + 2).toNatClampNeg) hr
  refine lh_isOf S hw e1 ⟨Nat.le_refl _, Nat.le_refl _⟩ hl.1 (Nat.le_of_ble_eq_true rfl) dL_law_916 ?_
  refine lv_aload_n hx hb dL_law_919 rfl (lv_at hl 2 rfl) ?_
  refine lv_aload_n hx hb dL_law_920 rfl (lv_at hl 0 rfl) ?_
  refine lv_iload_n hx hb dL_law_921 rfl (lv_at hl 3 rfl) ?_
  refine lv_iconst (v := 1) hx hb dL_law_922 rfl ?_
  refine lv_iadd hx hb dL_law_923 ?_
  refine va_sld hx hb hX hbl hbA hw.2.2.2 i1 dL_law_924 ?_
  refine lv_aload_n hx hb dL_law_925 rfl (lv_at hl 0 rfl) ?_
  refine lv_iload_n hx hb dL_law_926 rfl (lv_at hl 3 rfl) ?_
  refine lv_iconst (v := 2) hx hb dL_law_927 rfl ?_
  refine lv_iadd hx hb dL_law_928 ?_
  refine va_sld hx hb hX hbl hbA hw.2.2.2 i2 dL_law_929 ?_
  refine lm_isOf S hw e2 ⟨Nat.le_refl _, Nat.le_refl _⟩ hl.1 (Nat.le_of_ble_eq_true rfl) dL_law_930 (fun H locs hw => ?_)
  refine lv_icmp_eq (tgt := 961) hx hb dL_law_933 rfl (fun _ => ?_) (fun c9 => absurd e3 c9)
  exact hk _ _ _ _ _ hr hw hl
set_option maxHeartbeats 4000000 in
set_option maxRecDepth 100000 in
theorem law_c23 {p : Program} {l : Launch} {e : Env} {s : State} {m : MethodId} {below : List Frame} {meth : Method} {c : Code} {G : GX} {ad am : Nat → Nat} {b L : Nat} {xs : Nat → Int32} {x3 : Int32} {Rl : HS → MS → Prop} (hs : Sp_count Rl) (C0 : lw_At p s m meth c b L xs) (i1 : vp_in (x3 + 1) L) (i2 : vp_in (x3 + 2) L) (i3 : vp_in (x3 + 3) L) (i4 : vp_in (x3 + 4) L) (hk : ∀ (u : HS) (v : MS) (H : Heap) (locs : List Loc) (ls : Array Slot), Rl u v → WD G (fun q : Nat => s.heap.size ≤ q) s (LW G ad am u v) H locs → lv_has ls 4 [(0, .ref b), (1, .ref (ad 0)), (2, .ref (am 0)), (3, .int x3)] → W p l e room_1 s m #[Value.ref b] below meth c H locs 600000 7302250 (lw_Z below #[Value.ref b] s) (F0 m 961 ls [])) (u : HS) (v : MS) (H : Heap) (locs : List Loc) (ls : Array Slot) (hr : Rl u v) (hw : WD G (fun q : Nat => s.heap.size ≤ q) s (LW G ad am u v) H locs) (hl : lv_has ls 4 [(0, .ref b), (1, .ref (ad 0)), (2, .ref (am 0)), (3, .int x3)]) : W p l e room_1 s m #[Value.ref b] below meth c H locs 600000 7302250 (lw_Z below #[Value.ref b] s) (F0 m 938 ls []) := by
  obtain ⟨hx, hb, hrt, hml, hown, hts, hX, hbl, hlocks, hgv⟩ := C0
  have hbA : ¬ (fun q : Nat => s.heap.size ≤ q) b := Nat.not_le.mpr hbl
  have S : CallFix p m c code 4 s #[Value.ref b] lw_tbl RL := ⟨hx, hb, hml, hown, hts⟩
  refine lv_aload_n hx hb dL_law_938 rfl (lv_at hl 1 rfl) ?_
  refine lv_aload_n hx hb dL_law_939 rfl (lv_at hl 0 rfl) ?_
  refine lv_iload_n hx hb dL_law_940 rfl (lv_at hl 3 rfl) ?_
  refine lv_iconst (v := 1) hx hb dL_law_941 rfl ?_
  refine lv_iadd hx hb dL_law_942 ?_
  refine va_sld hx hb hX hbl hbA hw.2.2.2 i1 dL_law_943 ?_
  obtain ⟨z, w, e1, e2, e3, hr⟩ := hs u v (xs (x3 + 1).toNatClampNeg) hr
  refine lh_count S hw e1 ⟨Nat.le_refl _, Nat.le_refl _⟩ hl.1 (Nat.le_of_ble_eq_true rfl) dL_law_944 ?_
  refine lv_aload_n hx hb dL_law_947 rfl (lv_at hl 2 rfl) ?_
  refine lv_aload_n hx hb dL_law_948 rfl (lv_at hl 0 rfl) ?_
  refine lv_iload_n hx hb dL_law_949 rfl (lv_at hl 3 rfl) ?_
  refine lv_iconst (v := 1) hx hb dL_law_950 rfl ?_
  refine lv_iadd hx hb dL_law_951 ?_
  refine va_sld hx hb hX hbl hbA hw.2.2.2 i1 dL_law_952 ?_
  refine lm_count S hw e2 ⟨Nat.le_refl _, Nat.le_refl _⟩ hl.1 (Nat.le_of_ble_eq_true rfl) dL_law_953 (fun H locs hw => ?_)
  refine lv_icmp_eq (tgt := 961) hx hb dL_law_956 rfl (fun _ => ?_) (fun c9 => absurd e3 c9)
  exact hk _ _ _ _ _ hr hw hl
set_option maxHeartbeats 4000000 in
set_option maxRecDepth 100000 in
theorem law_loop {p : Program} {l : Launch} {e : Env} {s : State} {m : MethodId} {below : List Frame} {meth : Method} {c : Code} {G : GX} {ad am : Nat → Nat} {b L : Nat} {xs : Nat → Int32} {Rl : HS → MS → Prop} (s_row : Sp_row Rl) (s_put : Sp_put Rl) (s_drop : Sp_drop Rl) (s_move : Sp_move Rl) (s_join : Sp_join Rl) (s_split : Sp_split Rl) (s_less : Sp_less Rl) (s_label : Sp_label Rl) (s_inner : Sp_inner Rl) (s_near : Sp_near Rl) (s_index : Sp_index Rl) (s_at : Sp_at Rl) (s_between : Sp_between Rl) (s_holds : Sp_holds Rl) (s_meet : Sp_meet Rl) (s_depth : Sp_depth Rl) (s_rowOf : Sp_rowOf Rl) (s_mark : Sp_mark Rl) (s_marked : Sp_marked Rl) (s_putAt : Sp_putAt Rl) (s_undo : Sp_undo Rl) (s_about : Sp_about Rl) (s_isOf : Sp_isOf Rl) (s_count : Sp_count Rl) (hL : L ≤ 2560) (C0 : lw_At p s m meth c b L xs) : ∀ (n i : Nat) (x3 : Int32) (u : HS) (v : MS) (H : Heap) (locs : List Loc) (ls : Array Slot), i ≤ L → L + 1 ≤ i + n → x3 = nI i → Rl u v → WD G (fun q : Nat => s.heap.size ≤ q) s (LW G ad am u v) H locs → lv_has ls 4 [(0, .ref b), (1, .ref (ad 0)), (2, .ref (am 0)), (3, .int x3)] → W p l e room_1 s m #[Value.ref b] below meth c H locs 600000 7302250 (lw_Z below #[Value.ref b] s) (F0 m 18 ls []) := by
  obtain ⟨hx, hb, hrt, hml, hown, hts, hX, hbl, hlocks, hgv⟩ := id C0
  have hbA : ¬ (fun q : Nat => s.heap.size ≤ q) b := Nat.not_le.mpr hbl
  intro n
  induction n with
  | zero =>
    intro i x3 u v H locs ls h1 h2
    exact absurd h2 (by omega)
  | succ n ih =>
    intro i x3 u v H locs ls hi hin ex3 hr hw hl
    refine lv_iload_n hx hb dL_law_18 rfl (lv_at hl 3 rfl) ?_
    refine lv_aload_n hx hb dL_law_19 rfl (lv_at hl 0 rfl) ?_
    refine va_slen hx hb hX hbl hbA hw.2.2.2 dL_law_20 ?_
    refine lv_iconst (v := 5) hx hb dL_law_21 rfl ?_
    refine lv_isub hx hb dL_law_22 ?_
    refine lv_icmp_gt (tgt := 967) hx hb dL_law_23 rfl (fun c1 => ?_) (fun c1 => ?_)
    · refine lv_iconst (v := 1) hx hb dL_law_967 rfl ?_
      refine va_forget (fun q hq => hw.2.2.2.2.2 q hq) ?_
      exact lw_ret hx hb hrt hlocks dL_law_968
    · have hlt : i + 5 ≤ L := law_in hL hi (by rw [ex3] at c1; exact c1)
      have i0 : vp_in x3 L := by rw [ex3]; exact vp_in_nI (by omega) (by omega)
      have i1 : vp_in (x3 + 1) L := law_at ex3 1 (by omega) (by omega)
      have i2 : vp_in (x3 + 2) L := law_at ex3 2 (by omega) (by omega)
      have i3 : vp_in (x3 + 3) L := law_at ex3 3 (by omega) (by omega)
      have i4 : vp_in (x3 + 4) L := law_at ex3 4 (by omega) (by omega)
      have hk : ∀ (u : HS) (v : MS) (H : Heap) (locs : List Loc) (ls : Array Slot), Rl u v → WD G (fun q : Nat => s.heap.size ≤ q) s (LW G ad am u v) H locs → lv_has ls 4 [(0, .ref b), (1, .ref (ad 0)), (2, .ref (am 0)), (3, .int x3)] → W p l e room_1 s m #[Value.ref b] below meth c H locs 600000 7302250 (lw_Z below #[Value.ref b] s) (F0 m 961 ls []) := by
        intro u v H locs ls hr hw hl
        refine lv_iinc (v := (x3 + 5)) (lv' := [(3, .int (x3 + 5)), (0, .ref b), (1, .ref (ad 0)), (2, .ref (am 0))]) hx hb dL_law_961 hl (k := 3) rfl rfl (by decide) rfl (fun ls hl => ?_)
        refine lv_goto (tgt := 18) hx hb dL_law_964 rfl ?_
        exact ih (i + 5) (x3 + 5) u v H locs ls hlt (by omega) (by rw [ex3]; exact nI_add i 5) hr hw (lv_sub hl [1, 2, 3, 0] rfl)
      refine lv_aload_n hx hb dL_law_26 rfl (lv_at hl 0 rfl) ?_
      refine lv_iload_n hx hb dL_law_27 rfl (lv_at hl 3 rfl) ?_
      refine va_sld hx hb hX hbl hbA hw.2.2.2 i0 dL_law_28 ?_
      refine lv_bipush (v := 31) hx hb dL_law_29 rfl ?_
      refine lv_iand hx hb dL_law_31 ?_
      by_cases c0_ : (xs x3.toNatClampNeg &&& 31) = 0
      · refine lv_tableIn (tgt := 144) hx hb dL_law_32 (by rw [c0_]; decide) (by rw [c0_]; decide) (by rw [c0_]; rfl) rfl ?_
        exact law_c0 s_row C0 i1 i2 i3 i4 hk u v H locs ls hr hw hl
      by_cases c1_ : (xs x3.toNatClampNeg &&& 31) = 1
      · refine lv_tableIn (tgt := 187) hx hb dL_law_32 (by rw [c1_]; decide) (by rw [c1_]; decide) (by rw [c1_]; rfl) rfl ?_
        exact law_c1 s_put C0 i1 i2 i3 i4 hk u v H locs ls hr hw hl
      by_cases c2_ : (xs x3.toNatClampNeg &&& 31) = 2
      · refine lv_tableIn (tgt := 246) hx hb dL_law_32 (by rw [c2_]; decide) (by rw [c2_]; decide) (by rw [c2_]; rfl) rfl ?_
        exact law_c2 s_drop C0 i1 i2 i3 i4 hk u v H locs ls hr hw hl
      by_cases c3_ : (xs x3.toNatClampNeg &&& 31) = 3
      · refine lv_tableIn (tgt := 269) hx hb dL_law_32 (by rw [c3_]; decide) (by rw [c3_]; decide) (by rw [c3_]; rfl) rfl ?_
        exact law_c3 s_move C0 i1 i2 i3 i4 hk u v H locs ls hr hw hl
      by_cases c4_ : (xs x3.toNatClampNeg &&& 31) = 4
      · refine lv_tableIn (tgt := 328) hx hb dL_law_32 (by rw [c4_]; decide) (by rw [c4_]; decide) (by rw [c4_]; rfl) rfl ?_
        exact law_c4 s_join C0 i1 i2 i3 i4 hk u v H locs ls hr hw hl
      by_cases c5_ : (xs x3.toNatClampNeg &&& 31) = 5
      · refine lv_tableIn (tgt := 361) hx hb dL_law_32 (by rw [c5_]; decide) (by rw [c5_]; decide) (by rw [c5_]; rfl) rfl ?_
        exact law_c5 s_split C0 i1 i2 i3 i4 hk u v H locs ls hr hw hl
      by_cases c6_ : (xs x3.toNatClampNeg &&& 31) = 6
      · refine lv_tableIn (tgt := 394) hx hb dL_law_32 (by rw [c6_]; decide) (by rw [c6_]; decide) (by rw [c6_]; rfl) rfl ?_
        exact law_c6 s_less C0 i1 i2 i3 i4 hk u v H locs ls hr hw hl
      by_cases c7_ : (xs x3.toNatClampNeg &&& 31) = 7
      · refine lv_tableIn (tgt := 427) hx hb dL_law_32 (by rw [c7_]; decide) (by rw [c7_]; decide) (by rw [c7_]; rfl) rfl ?_
        exact law_c7 s_label C0 i1 i2 i3 i4 hk u v H locs ls hr hw hl
      by_cases c8_ : (xs x3.toNatClampNeg &&& 31) = 8
      · refine lv_tableIn (tgt := 477) hx hb dL_law_32 (by rw [c8_]; decide) (by rw [c8_]; decide) (by rw [c8_]; rfl) rfl ?_
        exact law_c8 s_inner C0 i1 i2 i3 i4 hk u v H locs ls hr hw hl
      by_cases c9_ : (xs x3.toNatClampNeg &&& 31) = 9
      · refine lv_tableIn (tgt := 526) hx hb dL_law_32 (by rw [c9_]; decide) (by rw [c9_]; decide) (by rw [c9_]; rfl) rfl ?_
        exact law_c9 s_near C0 i1 i2 i3 i4 hk u v H locs ls hr hw hl
      by_cases c10_ : (xs x3.toNatClampNeg &&& 31) = 10
      · refine lv_tableIn (tgt := 559) hx hb dL_law_32 (by rw [c10_]; decide) (by rw [c10_]; decide) (by rw [c10_]; rfl) rfl ?_
        exact law_c10 s_index C0 i1 i2 i3 i4 hk u v H locs ls hr hw hl
      by_cases c11_ : (xs x3.toNatClampNeg &&& 31) = 11
      · refine lv_tableIn (tgt := 582) hx hb dL_law_32 (by rw [c11_]; decide) (by rw [c11_]; decide) (by rw [c11_]; rfl) rfl ?_
        exact law_c11 s_at C0 i1 i2 i3 i4 hk u v H locs ls hr hw hl
      by_cases c12_ : (xs x3.toNatClampNeg &&& 31) = 12
      · refine lv_tableIn (tgt := 615) hx hb dL_law_32 (by rw [c12_]; decide) (by rw [c12_]; decide) (by rw [c12_]; rfl) rfl ?_
        exact law_c12 s_between C0 i1 i2 i3 i4 hk u v H locs ls hr hw hl
      by_cases c13_ : (xs x3.toNatClampNeg &&& 31) = 13
      · refine lv_tableIn (tgt := 648) hx hb dL_law_32 (by rw [c13_]; decide) (by rw [c13_]; decide) (by rw [c13_]; rfl) rfl ?_
        exact law_c13 s_holds C0 i1 i2 i3 i4 hk u v H locs ls hr hw hl
      by_cases c14_ : (xs x3.toNatClampNeg &&& 31) = 14
      · refine lv_tableIn (tgt := 681) hx hb dL_law_32 (by rw [c14_]; decide) (by rw [c14_]; decide) (by rw [c14_]; rfl) rfl ?_
        exact law_c14 s_meet C0 i1 i2 i3 i4 hk u v H locs ls hr hw hl
      by_cases c15_ : (xs x3.toNatClampNeg &&& 31) = 15
      · refine lv_tableIn (tgt := 714) hx hb dL_law_32 (by rw [c15_]; decide) (by rw [c15_]; decide) (by rw [c15_]; rfl) rfl ?_
        exact law_c15 s_depth C0 i1 i2 i3 i4 hk u v H locs ls hr hw hl
      by_cases c16_ : (xs x3.toNatClampNeg &&& 31) = 16
      · refine lv_tableIn (tgt := 737) hx hb dL_law_32 (by rw [c16_]; decide) (by rw [c16_]; decide) (by rw [c16_]; rfl) rfl ?_
        exact law_c16 s_rowOf C0 i1 i2 i3 i4 hk u v H locs ls hr hw hl
      by_cases c17_ : (xs x3.toNatClampNeg &&& 31) = 17
      · refine lv_tableIn (tgt := 760) hx hb dL_law_32 (by rw [c17_]; decide) (by rw [c17_]; decide) (by rw [c17_]; rfl) rfl ?_
        exact law_c17 s_mark C0 i1 i2 i3 i4 hk u v H locs ls hr hw hl
      by_cases c18_ : (xs x3.toNatClampNeg &&& 31) = 18
      · refine lv_tableIn (tgt := 813) hx hb dL_law_32 (by rw [c18_]; decide) (by rw [c18_]; decide) (by rw [c18_]; rfl) rfl ?_
        exact law_c18 s_marked C0 i1 i2 i3 i4 hk u v H locs ls hr hw hl
      by_cases c19_ : (xs x3.toNatClampNeg &&& 31) = 19
      · refine lv_tableIn (tgt := 836) hx hb dL_law_32 (by rw [c19_]; decide) (by rw [c19_]; decide) (by rw [c19_]; rfl) rfl ?_
        exact law_c19 s_putAt C0 i1 i2 i3 i4 hk u v H locs ls hr hw hl
      by_cases c20_ : (xs x3.toNatClampNeg &&& 31) = 20
      · refine lv_tableIn (tgt := 859) hx hb dL_law_32 (by rw [c20_]; decide) (by rw [c20_]; decide) (by rw [c20_]; rfl) rfl ?_
        exact law_c20 s_undo C0 i1 i2 i3 i4 hk u v H locs ls hr hw hl
      by_cases c21_ : (xs x3.toNatClampNeg &&& 31) = 21
      · refine lv_tableIn (tgt := 872) hx hb dL_law_32 (by rw [c21_]; decide) (by rw [c21_]; decide) (by rw [c21_]; rfl) rfl ?_
        exact law_c21 s_about C0 i1 i2 i3 i4 hk u v H locs ls hr hw hl
      by_cases c22_ : (xs x3.toNatClampNeg &&& 31) = 22
      · refine lv_tableIn (tgt := 905) hx hb dL_law_32 (by rw [c22_]; decide) (by rw [c22_]; decide) (by rw [c22_]; rfl) rfl ?_
        exact law_c22 s_isOf C0 i1 i2 i3 i4 hk u v H locs ls hr hw hl
      by_cases c23_ : (xs x3.toNatClampNeg &&& 31) = 23
      · refine lv_tableIn (tgt := 938) hx hb dL_law_32 (by rw [c23_]; decide) (by rw [c23_]; decide) (by rw [c23_]; rfl) rfl ?_
        exact law_c23 s_count C0 i1 i2 i3 i4 hk u v H locs ls hr hw hl
      refine lv_tableOut (tgt := 961) hx hb dL_law_32 (by have q0 : (xs x3.toNatClampNeg &&& 31).toInt ≠ 0 := fun z => c0_ (Int32.toInt_inj.mp (z.trans rfl)); have q1 : (xs x3.toNatClampNeg &&& 31).toInt ≠ 1 := fun z => c1_ (Int32.toInt_inj.mp (z.trans rfl)); have q2 : (xs x3.toNatClampNeg &&& 31).toInt ≠ 2 := fun z => c2_ (Int32.toInt_inj.mp (z.trans rfl)); have q3 : (xs x3.toNatClampNeg &&& 31).toInt ≠ 3 := fun z => c3_ (Int32.toInt_inj.mp (z.trans rfl)); have q4 : (xs x3.toNatClampNeg &&& 31).toInt ≠ 4 := fun z => c4_ (Int32.toInt_inj.mp (z.trans rfl)); have q5 : (xs x3.toNatClampNeg &&& 31).toInt ≠ 5 := fun z => c5_ (Int32.toInt_inj.mp (z.trans rfl)); have q6 : (xs x3.toNatClampNeg &&& 31).toInt ≠ 6 := fun z => c6_ (Int32.toInt_inj.mp (z.trans rfl)); have q7 : (xs x3.toNatClampNeg &&& 31).toInt ≠ 7 := fun z => c7_ (Int32.toInt_inj.mp (z.trans rfl)); have q8 : (xs x3.toNatClampNeg &&& 31).toInt ≠ 8 := fun z => c8_ (Int32.toInt_inj.mp (z.trans rfl)); have q9 : (xs x3.toNatClampNeg &&& 31).toInt ≠ 9 := fun z => c9_ (Int32.toInt_inj.mp (z.trans rfl)); have q10 : (xs x3.toNatClampNeg &&& 31).toInt ≠ 10 := fun z => c10_ (Int32.toInt_inj.mp (z.trans rfl)); have q11 : (xs x3.toNatClampNeg &&& 31).toInt ≠ 11 := fun z => c11_ (Int32.toInt_inj.mp (z.trans rfl)); have q12 : (xs x3.toNatClampNeg &&& 31).toInt ≠ 12 := fun z => c12_ (Int32.toInt_inj.mp (z.trans rfl)); have q13 : (xs x3.toNatClampNeg &&& 31).toInt ≠ 13 := fun z => c13_ (Int32.toInt_inj.mp (z.trans rfl)); have q14 : (xs x3.toNatClampNeg &&& 31).toInt ≠ 14 := fun z => c14_ (Int32.toInt_inj.mp (z.trans rfl)); have q15 : (xs x3.toNatClampNeg &&& 31).toInt ≠ 15 := fun z => c15_ (Int32.toInt_inj.mp (z.trans rfl)); have q16 : (xs x3.toNatClampNeg &&& 31).toInt ≠ 16 := fun z => c16_ (Int32.toInt_inj.mp (z.trans rfl)); have q17 : (xs x3.toNatClampNeg &&& 31).toInt ≠ 17 := fun z => c17_ (Int32.toInt_inj.mp (z.trans rfl)); have q18 : (xs x3.toNatClampNeg &&& 31).toInt ≠ 18 := fun z => c18_ (Int32.toInt_inj.mp (z.trans rfl)); have q19 : (xs x3.toNatClampNeg &&& 31).toInt ≠ 19 := fun z => c19_ (Int32.toInt_inj.mp (z.trans rfl)); have q20 : (xs x3.toNatClampNeg &&& 31).toInt ≠ 20 := fun z => c20_ (Int32.toInt_inj.mp (z.trans rfl)); have q21 : (xs x3.toNatClampNeg &&& 31).toInt ≠ 21 := fun z => c21_ (Int32.toInt_inj.mp (z.trans rfl)); have q22 : (xs x3.toNatClampNeg &&& 31).toInt ≠ 22 := fun z => c22_ (Int32.toInt_inj.mp (z.trans rfl)); have q23 : (xs x3.toNatClampNeg &&& 31).toInt ≠ 23 := fun z => c23_ (Int32.toInt_inj.mp (z.trans rfl)); omega) rfl ?_
      exact hk u v H locs ls hr hw hl
