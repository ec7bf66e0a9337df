-- written by wip/whole/gen2.py: the law
theorem dL_law_18 : decode cL_law 18 = .ok (.iload_n 3, 1) := by decide +kernel
theorem dL_law_19 : decode cL_law 19 = .ok (.aload_n 0, 1) := by decide +kernel
theorem dL_law_20 : decode cL_law 20 = .ok (.arraylength, 1) := by decide +kernel
theorem dL_law_21 : decode cL_law 21 = .ok (.iconst 4, 1) := by decide +kernel
theorem dL_law_22 : decode cL_law 22 = .ok (.isub, 1) := by decide +kernel
theorem dL_law_23 : decode cL_law 23 = .ok (.if_icmp .gt 689, 3) := by decide +kernel
theorem dL_law_26 : decode cL_law 26 = .ok (.aload_n 0, 1) := by decide +kernel
theorem dL_law_27 : decode cL_law 27 = .ok (.iload_n 3, 1) := by decide +kernel
theorem dL_law_28 : decode cL_law 28 = .ok (.iaload, 1) := by decide +kernel
theorem dL_law_29 : decode cL_law 29 = .ok (.bipush 31, 2) := by decide +kernel
theorem dL_law_31 : decode cL_law 31 = .ok (.iand, 1) := by decide +kernel
theorem dL_law_32 : decode cL_law 32 = .ok (.tableswitch 674 0 20 #[100, 133, 166, 179, 202, 215, 228, 261, 284, 317, 350, 373, 387, 430, 463, 486, 529, 562, 595, 628, 651], 100) := by decide +kernel
theorem dL_law_132 : decode cL_law 132 = .ok (.aload_n 1, 1) := by decide +kernel
theorem dL_law_133 : decode cL_law 133 = .ok (.aload_n 0, 1) := by decide +kernel
theorem dL_law_134 : decode cL_law 134 = .ok (.iload_n 3, 1) := by decide +kernel
theorem dL_law_135 : decode cL_law 135 = .ok (.iconst 1, 1) := by decide +kernel
theorem dL_law_136 : decode cL_law 136 = .ok (.iadd, 1) := by decide +kernel
theorem dL_law_137 : decode cL_law 137 = .ok (.iaload, 1) := by decide +kernel
theorem dL_law_138 : decode cL_law 138 = .ok (.aload_n 0, 1) := by decide +kernel
theorem dL_law_139 : decode cL_law 139 = .ok (.iload_n 3, 1) := by decide +kernel
theorem dL_law_140 : decode cL_law 140 = .ok (.iconst 2, 1) := by decide +kernel
theorem dL_law_141 : decode cL_law 141 = .ok (.iadd, 1) := by decide +kernel
theorem dL_law_142 : decode cL_law 142 = .ok (.iaload, 1) := by decide +kernel
theorem dL_law_143 : decode cL_law 143 = .ok (.invokevirtual 13, 3) := by decide +kernel
theorem dL_law_146 : decode cL_law 146 = .ok (.aload_n 2, 1) := by decide +kernel
theorem dL_law_147 : decode cL_law 147 = .ok (.aload_n 0, 1) := by decide +kernel
theorem dL_law_148 : decode cL_law 148 = .ok (.iload_n 3, 1) := by decide +kernel
theorem dL_law_149 : decode cL_law 149 = .ok (.iconst 1, 1) := by decide +kernel
theorem dL_law_150 : decode cL_law 150 = .ok (.iadd, 1) := by decide +kernel
theorem dL_law_151 : decode cL_law 151 = .ok (.iaload, 1) := by decide +kernel
theorem dL_law_152 : decode cL_law 152 = .ok (.aload_n 0, 1) := by decide +kernel
theorem dL_law_153 : decode cL_law 153 = .ok (.iload_n 3, 1) := by decide +kernel
theorem dL_law_154 : decode cL_law 154 = .ok (.iconst 2, 1) := by decide +kernel
theorem dL_law_155 : decode cL_law 155 = .ok (.iadd, 1) := by decide +kernel
theorem dL_law_156 : decode cL_law 156 = .ok (.iaload, 1) := by decide +kernel
theorem dL_law_157 : decode cL_law 157 = .ok (.invokevirtual 17, 3) := by decide +kernel
theorem dL_law_160 : decode cL_law 160 = .ok (.if_icmp .eq 546, 3) := by decide +kernel
theorem dL_law_163 : decode cL_law 163 = .ok (.iconst 0, 1) := by decide +kernel
theorem dL_law_164 : decode cL_law 164 = .ok (.ireturn, 1) := by decide +kernel
theorem dL_law_165 : decode cL_law 165 = .ok (.aload_n 1, 1) := by decide +kernel
theorem dL_law_166 : decode cL_law 166 = .ok (.aload_n 0, 1) := by decide +kernel
theorem dL_law_167 : decode cL_law 167 = .ok (.iload_n 3, 1) := by decide +kernel
theorem dL_law_168 : decode cL_law 168 = .ok (.iconst 1, 1) := by decide +kernel
theorem dL_law_169 : decode cL_law 169 = .ok (.iadd, 1) := by decide +kernel
theorem dL_law_170 : decode cL_law 170 = .ok (.iaload, 1) := by decide +kernel
theorem dL_law_171 : decode cL_law 171 = .ok (.aload_n 0, 1) := by decide +kernel
theorem dL_law_172 : decode cL_law 172 = .ok (.iload_n 3, 1) := by decide +kernel
theorem dL_law_173 : decode cL_law 173 = .ok (.iconst 2, 1) := by decide +kernel
theorem dL_law_174 : decode cL_law 174 = .ok (.iadd, 1) := by decide +kernel
theorem dL_law_175 : decode cL_law 175 = .ok (.iaload, 1) := by decide +kernel
theorem dL_law_176 : decode cL_law 176 = .ok (.invokevirtual 18, 3) := by decide +kernel
theorem dL_law_179 : decode cL_law 179 = .ok (.aload_n 2, 1) := by decide +kernel
theorem dL_law_180 : decode cL_law 180 = .ok (.aload_n 0, 1) := by decide +kernel
theorem dL_law_181 : decode cL_law 181 = .ok (.iload_n 3, 1) := by decide +kernel
theorem dL_law_182 : decode cL_law 182 = .ok (.iconst 1, 1) := by decide +kernel
theorem dL_law_183 : decode cL_law 183 = .ok (.iadd, 1) := by decide +kernel
theorem dL_law_184 : decode cL_law 184 = .ok (.iaload, 1) := by decide +kernel
theorem dL_law_185 : decode cL_law 185 = .ok (.aload_n 0, 1) := by decide +kernel
theorem dL_law_186 : decode cL_law 186 = .ok (.iload_n 3, 1) := by decide +kernel
theorem dL_law_187 : decode cL_law 187 = .ok (.iconst 2, 1) := by decide +kernel
theorem dL_law_188 : decode cL_law 188 = .ok (.iadd, 1) := by decide +kernel
theorem dL_law_189 : decode cL_law 189 = .ok (.iaload, 1) := by decide +kernel
theorem dL_law_190 : decode cL_law 190 = .ok (.invokevirtual 21, 3) := by decide +kernel
theorem dL_law_193 : decode cL_law 193 = .ok (.if_icmp .eq 513, 3) := by decide +kernel
theorem dL_law_196 : decode cL_law 196 = .ok (.iconst 0, 1) := by decide +kernel
theorem dL_law_197 : decode cL_law 197 = .ok (.ireturn, 1) := by decide +kernel
theorem dL_law_198 : decode cL_law 198 = .ok (.aload_n 1, 1) := by decide +kernel
theorem dL_law_199 : decode cL_law 199 = .ok (.invokevirtual 22, 3) := by decide +kernel
theorem dL_law_202 : decode cL_law 202 = .ok (.aload_n 2, 1) := by decide +kernel
theorem dL_law_203 : decode cL_law 203 = .ok (.invokevirtual 26, 3) := by decide +kernel
theorem dL_law_206 : decode cL_law 206 = .ok (.if_icmp .eq 500, 3) := by decide +kernel
theorem dL_law_209 : decode cL_law 209 = .ok (.iconst 0, 1) := by decide +kernel
theorem dL_law_210 : decode cL_law 210 = .ok (.ireturn, 1) := by decide +kernel
theorem dL_law_211 : decode cL_law 211 = .ok (.aload_n 1, 1) := by decide +kernel
theorem dL_law_212 : decode cL_law 212 = .ok (.aload_n 0, 1) := by decide +kernel
theorem dL_law_213 : decode cL_law 213 = .ok (.iload_n 3, 1) := by decide +kernel
theorem dL_law_214 : decode cL_law 214 = .ok (.iconst 1, 1) := by decide +kernel
theorem dL_law_215 : decode cL_law 215 = .ok (.iadd, 1) := by decide +kernel
theorem dL_law_216 : decode cL_law 216 = .ok (.iaload, 1) := by decide +kernel
theorem dL_law_217 : decode cL_law 217 = .ok (.invokevirtual 27, 3) := by decide +kernel
theorem dL_law_220 : decode cL_law 220 = .ok (.aload_n 2, 1) := by decide +kernel
theorem dL_law_221 : decode cL_law 221 = .ok (.aload_n 0, 1) := by decide +kernel
theorem dL_law_222 : decode cL_law 222 = .ok (.iload_n 3, 1) := by decide +kernel
theorem dL_law_223 : decode cL_law 223 = .ok (.iconst 1, 1) := by decide +kernel
theorem dL_law_224 : decode cL_law 224 = .ok (.iadd, 1) := by decide +kernel
theorem dL_law_225 : decode cL_law 225 = .ok (.iaload, 1) := by decide +kernel
theorem dL_law_226 : decode cL_law 226 = .ok (.invokevirtual 31, 3) := by decide +kernel
theorem dL_law_229 : decode cL_law 229 = .ok (.if_icmp .eq 477, 3) := by decide +kernel
theorem dL_law_232 : decode cL_law 232 = .ok (.iconst 0, 1) := by decide +kernel
theorem dL_law_233 : decode cL_law 233 = .ok (.ireturn, 1) := by decide +kernel
theorem dL_law_234 : decode cL_law 234 = .ok (.aload_n 1, 1) := by decide +kernel
theorem dL_law_235 : decode cL_law 235 = .ok (.invokevirtual 32, 3) := by decide +kernel
theorem dL_law_238 : decode cL_law 238 = .ok (.aload_n 2, 1) := by decide +kernel
theorem dL_law_239 : decode cL_law 239 = .ok (.invokevirtual 35, 3) := by decide +kernel
theorem dL_law_242 : decode cL_law 242 = .ok (.if_icmp .eq 464, 3) := by decide +kernel
theorem dL_law_245 : decode cL_law 245 = .ok (.iconst 0, 1) := by decide +kernel
theorem dL_law_246 : decode cL_law 246 = .ok (.ireturn, 1) := by decide +kernel
theorem dL_law_247 : decode cL_law 247 = .ok (.aload_n 1, 1) := by decide +kernel
theorem dL_law_248 : decode cL_law 248 = .ok (.invokevirtual 36, 3) := by decide +kernel
theorem dL_law_251 : decode cL_law 251 = .ok (.aload_n 2, 1) := by decide +kernel
theorem dL_law_252 : decode cL_law 252 = .ok (.invokevirtual 39, 3) := by decide +kernel
theorem dL_law_255 : decode cL_law 255 = .ok (.if_icmp .eq 451, 3) := by decide +kernel
theorem dL_law_258 : decode cL_law 258 = .ok (.iconst 0, 1) := by decide +kernel
theorem dL_law_259 : decode cL_law 259 = .ok (.ireturn, 1) := by decide +kernel
theorem dL_law_260 : decode cL_law 260 = .ok (.aload_n 1, 1) := by decide +kernel
theorem dL_law_261 : decode cL_law 261 = .ok (.aload_n 0, 1) := by decide +kernel
theorem dL_law_262 : decode cL_law 262 = .ok (.iload_n 3, 1) := by decide +kernel
theorem dL_law_263 : decode cL_law 263 = .ok (.iconst 1, 1) := by decide +kernel
theorem dL_law_264 : decode cL_law 264 = .ok (.iadd, 1) := by decide +kernel
theorem dL_law_265 : decode cL_law 265 = .ok (.iaload, 1) := by decide +kernel
theorem dL_law_266 : decode cL_law 266 = .ok (.aload_n 0, 1) := by decide +kernel
theorem dL_law_267 : decode cL_law 267 = .ok (.iload_n 3, 1) := by decide +kernel
theorem dL_law_268 : decode cL_law 268 = .ok (.iconst 2, 1) := by decide +kernel
theorem dL_law_269 : decode cL_law 269 = .ok (.iadd, 1) := by decide +kernel
theorem dL_law_270 : decode cL_law 270 = .ok (.iaload, 1) := by decide +kernel
theorem dL_law_271 : decode cL_law 271 = .ok (.invokevirtual 40, 3) := by decide +kernel
theorem dL_law_274 : decode cL_law 274 = .ok (.aload_n 2, 1) := by decide +kernel
theorem dL_law_275 : decode cL_law 275 = .ok (.aload_n 0, 1) := by decide +kernel
theorem dL_law_276 : decode cL_law 276 = .ok (.iload_n 3, 1) := by decide +kernel
theorem dL_law_277 : decode cL_law 277 = .ok (.iconst 1, 1) := by decide +kernel
theorem dL_law_278 : decode cL_law 278 = .ok (.iadd, 1) := by decide +kernel
theorem dL_law_279 : decode cL_law 279 = .ok (.iaload, 1) := by decide +kernel
theorem dL_law_280 : decode cL_law 280 = .ok (.aload_n 0, 1) := by decide +kernel
theorem dL_law_281 : decode cL_law 281 = .ok (.iload_n 3, 1) := by decide +kernel
theorem dL_law_282 : decode cL_law 282 = .ok (.iconst 2, 1) := by decide +kernel
theorem dL_law_283 : decode cL_law 283 = .ok (.iadd, 1) := by decide +kernel
theorem dL_law_284 : decode cL_law 284 = .ok (.iaload, 1) := by decide +kernel
theorem dL_law_285 : decode cL_law 285 = .ok (.invokevirtual 43, 3) := by decide +kernel
theorem dL_law_288 : decode cL_law 288 = .ok (.if_icmp .eq 418, 3) := by decide +kernel
theorem dL_law_291 : decode cL_law 291 = .ok (.iconst 0, 1) := by decide +kernel
theorem dL_law_292 : decode cL_law 292 = .ok (.ireturn, 1) := by decide +kernel
theorem dL_law_293 : decode cL_law 293 = .ok (.aload_n 1, 1) := by decide +kernel
theorem dL_law_294 : decode cL_law 294 = .ok (.aload_n 0, 1) := by decide +kernel
theorem dL_law_295 : decode cL_law 295 = .ok (.iload_n 3, 1) := by decide +kernel
theorem dL_law_296 : decode cL_law 296 = .ok (.iconst 1, 1) := by decide +kernel
theorem dL_law_297 : decode cL_law 297 = .ok (.iadd, 1) := by decide +kernel
theorem dL_law_298 : decode cL_law 298 = .ok (.iaload, 1) := by decide +kernel
theorem dL_law_299 : decode cL_law 299 = .ok (.invokevirtual 44, 3) := by decide +kernel
theorem dL_law_302 : decode cL_law 302 = .ok (.aload_n 2, 1) := by decide +kernel
theorem dL_law_303 : decode cL_law 303 = .ok (.aload_n 0, 1) := by decide +kernel
theorem dL_law_304 : decode cL_law 304 = .ok (.iload_n 3, 1) := by decide +kernel
theorem dL_law_305 : decode cL_law 305 = .ok (.iconst 1, 1) := by decide +kernel
theorem dL_law_306 : decode cL_law 306 = .ok (.iadd, 1) := by decide +kernel
theorem dL_law_307 : decode cL_law 307 = .ok (.iaload, 1) := by decide +kernel
theorem dL_law_308 : decode cL_law 308 = .ok (.invokevirtual 47, 3) := by decide +kernel
theorem dL_law_311 : decode cL_law 311 = .ok (.if_icmp .eq 395, 3) := by decide +kernel
theorem dL_law_314 : decode cL_law 314 = .ok (.iconst 0, 1) := by decide +kernel
theorem dL_law_315 : decode cL_law 315 = .ok (.ireturn, 1) := by decide +kernel
theorem dL_law_316 : decode cL_law 316 = .ok (.aload_n 1, 1) := by decide +kernel
theorem dL_law_317 : decode cL_law 317 = .ok (.aload_n 0, 1) := by decide +kernel
theorem dL_law_318 : decode cL_law 318 = .ok (.iload_n 3, 1) := by decide +kernel
theorem dL_law_319 : decode cL_law 319 = .ok (.iconst 1, 1) := by decide +kernel
theorem dL_law_320 : decode cL_law 320 = .ok (.iadd, 1) := by decide +kernel
theorem dL_law_321 : decode cL_law 321 = .ok (.iaload, 1) := by decide +kernel
theorem dL_law_322 : decode cL_law 322 = .ok (.aload_n 0, 1) := by decide +kernel
theorem dL_law_323 : decode cL_law 323 = .ok (.iload_n 3, 1) := by decide +kernel
theorem dL_law_324 : decode cL_law 324 = .ok (.iconst 2, 1) := by decide +kernel
theorem dL_law_325 : decode cL_law 325 = .ok (.iadd, 1) := by decide +kernel
theorem dL_law_326 : decode cL_law 326 = .ok (.iaload, 1) := by decide +kernel
theorem dL_law_327 : decode cL_law 327 = .ok (.invokevirtual 48, 3) := by decide +kernel
theorem dL_law_330 : decode cL_law 330 = .ok (.aload_n 2, 1) := by decide +kernel
theorem dL_law_331 : decode cL_law 331 = .ok (.aload_n 0, 1) := by decide +kernel
theorem dL_law_332 : decode cL_law 332 = .ok (.iload_n 3, 1) := by decide +kernel
theorem dL_law_333 : decode cL_law 333 = .ok (.iconst 1, 1) := by decide +kernel
theorem dL_law_334 : decode cL_law 334 = .ok (.iadd, 1) := by decide +kernel
theorem dL_law_335 : decode cL_law 335 = .ok (.iaload, 1) := by decide +kernel
theorem dL_law_336 : decode cL_law 336 = .ok (.aload_n 0, 1) := by decide +kernel
theorem dL_law_337 : decode cL_law 337 = .ok (.iload_n 3, 1) := by decide +kernel
theorem dL_law_338 : decode cL_law 338 = .ok (.iconst 2, 1) := by decide +kernel
theorem dL_law_339 : decode cL_law 339 = .ok (.iadd, 1) := by decide +kernel
theorem dL_law_340 : decode cL_law 340 = .ok (.iaload, 1) := by decide +kernel
theorem dL_law_341 : decode cL_law 341 = .ok (.invokevirtual 51, 3) := by decide +kernel
theorem dL_law_344 : decode cL_law 344 = .ok (.if_icmp .eq 362, 3) := by decide +kernel
theorem dL_law_347 : decode cL_law 347 = .ok (.iconst 0, 1) := by decide +kernel
theorem dL_law_348 : decode cL_law 348 = .ok (.ireturn, 1) := by decide +kernel
theorem dL_law_349 : decode cL_law 349 = .ok (.aload_n 1, 1) := by decide +kernel
theorem dL_law_350 : decode cL_law 350 = .ok (.aload_n 0, 1) := by decide +kernel
theorem dL_law_351 : decode cL_law 351 = .ok (.iload_n 3, 1) := by decide +kernel
theorem dL_law_352 : decode cL_law 352 = .ok (.iconst 1, 1) := by decide +kernel
theorem dL_law_353 : decode cL_law 353 = .ok (.iadd, 1) := by decide +kernel
theorem dL_law_354 : decode cL_law 354 = .ok (.iaload, 1) := by decide +kernel
theorem dL_law_355 : decode cL_law 355 = .ok (.aload_n 0, 1) := by decide +kernel
theorem dL_law_356 : decode cL_law 356 = .ok (.iload_n 3, 1) := by decide +kernel
theorem dL_law_357 : decode cL_law 357 = .ok (.iconst 2, 1) := by decide +kernel
theorem dL_law_358 : decode cL_law 358 = .ok (.iadd, 1) := by decide +kernel
theorem dL_law_359 : decode cL_law 359 = .ok (.iaload, 1) := by decide +kernel
theorem dL_law_360 : decode cL_law 360 = .ok (.invokevirtual 52, 3) := by decide +kernel
theorem dL_law_363 : decode cL_law 363 = .ok (.aload_n 2, 1) := by decide +kernel
theorem dL_law_364 : decode cL_law 364 = .ok (.aload_n 0, 1) := by decide +kernel
theorem dL_law_365 : decode cL_law 365 = .ok (.iload_n 3, 1) := by decide +kernel
theorem dL_law_366 : decode cL_law 366 = .ok (.iconst 1, 1) := by decide +kernel
theorem dL_law_367 : decode cL_law 367 = .ok (.iadd, 1) := by decide +kernel
theorem dL_law_368 : decode cL_law 368 = .ok (.iaload, 1) := by decide +kernel
theorem dL_law_369 : decode cL_law 369 = .ok (.aload_n 0, 1) := by decide +kernel
theorem dL_law_370 : decode cL_law 370 = .ok (.iload_n 3, 1) := by decide +kernel
theorem dL_law_371 : decode cL_law 371 = .ok (.iconst 2, 1) := by decide +kernel
theorem dL_law_372 : decode cL_law 372 = .ok (.iadd, 1) := by decide +kernel
theorem dL_law_373 : decode cL_law 373 = .ok (.iaload, 1) := by decide +kernel
theorem dL_law_374 : decode cL_law 374 = .ok (.invokevirtual 55, 3) := by decide +kernel
theorem dL_law_377 : decode cL_law 377 = .ok (.if_icmp .eq 329, 3) := by decide +kernel
theorem dL_law_380 : decode cL_law 380 = .ok (.iconst 0, 1) := by decide +kernel
theorem dL_law_381 : decode cL_law 381 = .ok (.ireturn, 1) := by decide +kernel
theorem dL_law_382 : decode cL_law 382 = .ok (.aload_n 1, 1) := by decide +kernel
theorem dL_law_383 : decode cL_law 383 = .ok (.aload_n 0, 1) := by decide +kernel
theorem dL_law_384 : decode cL_law 384 = .ok (.iload_n 3, 1) := by decide +kernel
theorem dL_law_385 : decode cL_law 385 = .ok (.iconst 1, 1) := by decide +kernel
theorem dL_law_386 : decode cL_law 386 = .ok (.iadd, 1) := by decide +kernel
theorem dL_law_387 : decode cL_law 387 = .ok (.iaload, 1) := by decide +kernel
theorem dL_law_388 : decode cL_law 388 = .ok (.invokevirtual 56, 3) := by decide +kernel
theorem dL_law_391 : decode cL_law 391 = .ok (.aload_n 2, 1) := by decide +kernel
theorem dL_law_392 : decode cL_law 392 = .ok (.aload_n 0, 1) := by decide +kernel
theorem dL_law_393 : decode cL_law 393 = .ok (.iload_n 3, 1) := by decide +kernel
theorem dL_law_394 : decode cL_law 394 = .ok (.iconst 1, 1) := by decide +kernel
theorem dL_law_395 : decode cL_law 395 = .ok (.iadd, 1) := by decide +kernel
theorem dL_law_396 : decode cL_law 396 = .ok (.iaload, 1) := by decide +kernel
theorem dL_law_397 : decode cL_law 397 = .ok (.invokevirtual 59, 3) := by decide +kernel
theorem dL_law_400 : decode cL_law 400 = .ok (.if_icmp .eq 306, 3) := by decide +kernel
theorem dL_law_403 : decode cL_law 403 = .ok (.iconst 0, 1) := by decide +kernel
theorem dL_law_404 : decode cL_law 404 = .ok (.ireturn, 1) := by decide +kernel
theorem dL_law_405 : decode cL_law 405 = .ok (.aload_n 1, 1) := by decide +kernel
theorem dL_law_406 : decode cL_law 406 = .ok (.invokevirtual 60, 3) := by decide +kernel
theorem dL_law_409 : decode cL_law 409 = .ok (.aload_n 2, 1) := by decide +kernel
theorem dL_law_410 : decode cL_law 410 = .ok (.invokevirtual 64, 3) := by decide +kernel
theorem dL_law_413 : decode cL_law 413 = .ok (.lcmp, 1) := by decide +kernel
theorem dL_law_414 : decode cL_law 414 = .ok (.ifCond .eq 292, 3) := by decide +kernel
theorem dL_law_417 : decode cL_law 417 = .ok (.iconst 0, 1) := by decide +kernel
theorem dL_law_418 : decode cL_law 418 = .ok (.ireturn, 1) := by decide +kernel
theorem dL_law_419 : decode cL_law 419 = .ok (.aload_n 1, 1) := by decide +kernel
theorem dL_law_420 : decode cL_law 420 = .ok (.aload_n 0, 1) := by decide +kernel
theorem dL_law_421 : decode cL_law 421 = .ok (.iload_n 3, 1) := by decide +kernel
theorem dL_law_422 : decode cL_law 422 = .ok (.iconst 1, 1) := by decide +kernel
theorem dL_law_423 : decode cL_law 423 = .ok (.iadd, 1) := by decide +kernel
theorem dL_law_424 : decode cL_law 424 = .ok (.iaload, 1) := by decide +kernel
theorem dL_law_425 : decode cL_law 425 = .ok (.aload_n 0, 1) := by decide +kernel
theorem dL_law_426 : decode cL_law 426 = .ok (.iload_n 3, 1) := by decide +kernel
theorem dL_law_427 : decode cL_law 427 = .ok (.iconst 2, 1) := by decide +kernel
theorem dL_law_428 : decode cL_law 428 = .ok (.iadd, 1) := by decide +kernel
theorem dL_law_429 : decode cL_law 429 = .ok (.iaload, 1) := by decide +kernel
theorem dL_law_430 : decode cL_law 430 = .ok (.aload_n 0, 1) := by decide +kernel
theorem dL_law_431 : decode cL_law 431 = .ok (.iload_n 3, 1) := by decide +kernel
theorem dL_law_432 : decode cL_law 432 = .ok (.iconst 3, 1) := by decide +kernel
theorem dL_law_433 : decode cL_law 433 = .ok (.iadd, 1) := by decide +kernel
theorem dL_law_434 : decode cL_law 434 = .ok (.iaload, 1) := by decide +kernel
theorem dL_law_435 : decode cL_law 435 = .ok (.invokevirtual 65, 3) := by decide +kernel
theorem dL_law_438 : decode cL_law 438 = .ok (.aload_n 2, 1) := by decide +kernel
theorem dL_law_439 : decode cL_law 439 = .ok (.aload_n 0, 1) := by decide +kernel
theorem dL_law_440 : decode cL_law 440 = .ok (.iload_n 3, 1) := by decide +kernel
theorem dL_law_441 : decode cL_law 441 = .ok (.iconst 1, 1) := by decide +kernel
theorem dL_law_442 : decode cL_law 442 = .ok (.iadd, 1) := by decide +kernel
theorem dL_law_443 : decode cL_law 443 = .ok (.iaload, 1) := by decide +kernel
theorem dL_law_444 : decode cL_law 444 = .ok (.aload_n 0, 1) := by decide +kernel
theorem dL_law_445 : decode cL_law 445 = .ok (.iload_n 3, 1) := by decide +kernel
theorem dL_law_446 : decode cL_law 446 = .ok (.iconst 2, 1) := by decide +kernel
theorem dL_law_447 : decode cL_law 447 = .ok (.iadd, 1) := by decide +kernel
theorem dL_law_448 : decode cL_law 448 = .ok (.iaload, 1) := by decide +kernel
theorem dL_law_449 : decode cL_law 449 = .ok (.aload_n 0, 1) := by decide +kernel
theorem dL_law_450 : decode cL_law 450 = .ok (.iload_n 3, 1) := by decide +kernel
theorem dL_law_451 : decode cL_law 451 = .ok (.iconst 3, 1) := by decide +kernel
theorem dL_law_452 : decode cL_law 452 = .ok (.iadd, 1) := by decide +kernel
theorem dL_law_453 : decode cL_law 453 = .ok (.iaload, 1) := by decide +kernel
theorem dL_law_454 : decode cL_law 454 = .ok (.invokevirtual 69, 3) := by decide +kernel
theorem dL_law_457 : decode cL_law 457 = .ok (.if_icmp .eq 249, 3) := by decide +kernel
theorem dL_law_460 : decode cL_law 460 = .ok (.iconst 0, 1) := by decide +kernel
theorem dL_law_461 : decode cL_law 461 = .ok (.ireturn, 1) := by decide +kernel
theorem dL_law_462 : decode cL_law 462 = .ok (.aload_n 1, 1) := by decide +kernel
theorem dL_law_463 : decode cL_law 463 = .ok (.aload_n 0, 1) := by decide +kernel
theorem dL_law_464 : decode cL_law 464 = .ok (.iload_n 3, 1) := by decide +kernel
theorem dL_law_465 : decode cL_law 465 = .ok (.iconst 1, 1) := by decide +kernel
theorem dL_law_466 : decode cL_law 466 = .ok (.iadd, 1) := by decide +kernel
theorem dL_law_467 : decode cL_law 467 = .ok (.iaload, 1) := by decide +kernel
theorem dL_law_468 : decode cL_law 468 = .ok (.aload_n 0, 1) := by decide +kernel
theorem dL_law_469 : decode cL_law 469 = .ok (.iload_n 3, 1) := by decide +kernel
theorem dL_law_470 : decode cL_law 470 = .ok (.iconst 2, 1) := by decide +kernel
theorem dL_law_471 : decode cL_law 471 = .ok (.iadd, 1) := by decide +kernel
theorem dL_law_472 : decode cL_law 472 = .ok (.iaload, 1) := by decide +kernel
theorem dL_law_473 : decode cL_law 473 = .ok (.invokevirtual 70, 3) := by decide +kernel
theorem dL_law_476 : decode cL_law 476 = .ok (.aload_n 2, 1) := by decide +kernel
theorem dL_law_477 : decode cL_law 477 = .ok (.aload_n 0, 1) := by decide +kernel
theorem dL_law_478 : decode cL_law 478 = .ok (.iload_n 3, 1) := by decide +kernel
theorem dL_law_479 : decode cL_law 479 = .ok (.iconst 1, 1) := by decide +kernel
theorem dL_law_480 : decode cL_law 480 = .ok (.iadd, 1) := by decide +kernel
theorem dL_law_481 : decode cL_law 481 = .ok (.iaload, 1) := by decide +kernel
theorem dL_law_482 : decode cL_law 482 = .ok (.aload_n 0, 1) := by decide +kernel
theorem dL_law_483 : decode cL_law 483 = .ok (.iload_n 3, 1) := by decide +kernel
theorem dL_law_484 : decode cL_law 484 = .ok (.iconst 2, 1) := by decide +kernel
theorem dL_law_485 : decode cL_law 485 = .ok (.iadd, 1) := by decide +kernel
theorem dL_law_486 : decode cL_law 486 = .ok (.iaload, 1) := by decide +kernel
theorem dL_law_487 : decode cL_law 487 = .ok (.invokevirtual 73, 3) := by decide +kernel
theorem dL_law_490 : decode cL_law 490 = .ok (.if_icmp .eq 216, 3) := by decide +kernel
theorem dL_law_493 : decode cL_law 493 = .ok (.iconst 0, 1) := by decide +kernel
theorem dL_law_494 : decode cL_law 494 = .ok (.ireturn, 1) := by decide +kernel
theorem dL_law_495 : decode cL_law 495 = .ok (.aload_n 1, 1) := by decide +kernel
theorem dL_law_496 : decode cL_law 496 = .ok (.aload_n 0, 1) := by decide +kernel
theorem dL_law_497 : decode cL_law 497 = .ok (.iload_n 3, 1) := by decide +kernel
theorem dL_law_498 : decode cL_law 498 = .ok (.iconst 1, 1) := by decide +kernel
theorem dL_law_499 : decode cL_law 499 = .ok (.iadd, 1) := by decide +kernel
theorem dL_law_500 : decode cL_law 500 = .ok (.iaload, 1) := by decide +kernel
theorem dL_law_501 : decode cL_law 501 = .ok (.invokevirtual 74, 3) := by decide +kernel
theorem dL_law_504 : decode cL_law 504 = .ok (.aload_n 2, 1) := by decide +kernel
theorem dL_law_505 : decode cL_law 505 = .ok (.aload_n 0, 1) := by decide +kernel
theorem dL_law_506 : decode cL_law 506 = .ok (.iload_n 3, 1) := by decide +kernel
theorem dL_law_507 : decode cL_law 507 = .ok (.iconst 1, 1) := by decide +kernel
theorem dL_law_508 : decode cL_law 508 = .ok (.iadd, 1) := by decide +kernel
theorem dL_law_509 : decode cL_law 509 = .ok (.iaload, 1) := by decide +kernel
theorem dL_law_510 : decode cL_law 510 = .ok (.invokevirtual 77, 3) := by decide +kernel
theorem dL_law_513 : decode cL_law 513 = .ok (.if_icmp .eq 193, 3) := by decide +kernel
theorem dL_law_516 : decode cL_law 516 = .ok (.iconst 0, 1) := by decide +kernel
theorem dL_law_517 : decode cL_law 517 = .ok (.ireturn, 1) := by decide +kernel
theorem dL_law_518 : decode cL_law 518 = .ok (.aload_n 1, 1) := by decide +kernel
theorem dL_law_519 : decode cL_law 519 = .ok (.aload_n 0, 1) := by decide +kernel
theorem dL_law_520 : decode cL_law 520 = .ok (.iload_n 3, 1) := by decide +kernel
theorem dL_law_521 : decode cL_law 521 = .ok (.iconst 1, 1) := by decide +kernel
theorem dL_law_522 : decode cL_law 522 = .ok (.iadd, 1) := by decide +kernel
theorem dL_law_523 : decode cL_law 523 = .ok (.iaload, 1) := by decide +kernel
theorem dL_law_524 : decode cL_law 524 = .ok (.aload_n 0, 1) := by decide +kernel
theorem dL_law_525 : decode cL_law 525 = .ok (.iload_n 3, 1) := by decide +kernel
theorem dL_law_526 : decode cL_law 526 = .ok (.iconst 2, 1) := by decide +kernel
theorem dL_law_527 : decode cL_law 527 = .ok (.iadd, 1) := by decide +kernel
theorem dL_law_528 : decode cL_law 528 = .ok (.iaload, 1) := by decide +kernel
theorem dL_law_529 : decode cL_law 529 = .ok (.aload_n 0, 1) := by decide +kernel
theorem dL_law_530 : decode cL_law 530 = .ok (.iload_n 3, 1) := by decide +kernel
theorem dL_law_531 : decode cL_law 531 = .ok (.iconst 3, 1) := by decide +kernel
theorem dL_law_532 : decode cL_law 532 = .ok (.iadd, 1) := by decide +kernel
theorem dL_law_533 : decode cL_law 533 = .ok (.iaload, 1) := by decide +kernel
theorem dL_law_534 : decode cL_law 534 = .ok (.invokevirtual 78, 3) := by decide +kernel
theorem dL_law_537 : decode cL_law 537 = .ok (.aload_n 2, 1) := by decide +kernel
theorem dL_law_538 : decode cL_law 538 = .ok (.aload_n 0, 1) := by decide +kernel
theorem dL_law_539 : decode cL_law 539 = .ok (.iload_n 3, 1) := by decide +kernel
theorem dL_law_540 : decode cL_law 540 = .ok (.iconst 1, 1) := by decide +kernel
theorem dL_law_541 : decode cL_law 541 = .ok (.iadd, 1) := by decide +kernel
theorem dL_law_542 : decode cL_law 542 = .ok (.iaload, 1) := by decide +kernel
theorem dL_law_543 : decode cL_law 543 = .ok (.aload_n 0, 1) := by decide +kernel
theorem dL_law_544 : decode cL_law 544 = .ok (.iload_n 3, 1) := by decide +kernel
theorem dL_law_545 : decode cL_law 545 = .ok (.iconst 2, 1) := by decide +kernel
theorem dL_law_546 : decode cL_law 546 = .ok (.iadd, 1) := by decide +kernel
theorem dL_law_547 : decode cL_law 547 = .ok (.iaload, 1) := by decide +kernel
theorem dL_law_548 : decode cL_law 548 = .ok (.aload_n 0, 1) := by decide +kernel
theorem dL_law_549 : decode cL_law 549 = .ok (.iload_n 3, 1) := by decide +kernel
theorem dL_law_550 : decode cL_law 550 = .ok (.iconst 3, 1) := by decide +kernel
theorem dL_law_551 : decode cL_law 551 = .ok (.iadd, 1) := by decide +kernel
theorem dL_law_552 : decode cL_law 552 = .ok (.iaload, 1) := by decide +kernel
theorem dL_law_553 : decode cL_law 553 = .ok (.invokevirtual 81, 3) := by decide +kernel
theorem dL_law_556 : decode cL_law 556 = .ok (.if_icmp .eq 150, 3) := by decide +kernel
theorem dL_law_559 : decode cL_law 559 = .ok (.iconst 0, 1) := by decide +kernel
theorem dL_law_560 : decode cL_law 560 = .ok (.ireturn, 1) := by decide +kernel
theorem dL_law_561 : decode cL_law 561 = .ok (.aload_n 1, 1) := by decide +kernel
theorem dL_law_562 : decode cL_law 562 = .ok (.aload_n 0, 1) := by decide +kernel
theorem dL_law_563 : decode cL_law 563 = .ok (.iload_n 3, 1) := by decide +kernel
theorem dL_law_564 : decode cL_law 564 = .ok (.iconst 1, 1) := by decide +kernel
theorem dL_law_565 : decode cL_law 565 = .ok (.iadd, 1) := by decide +kernel
theorem dL_law_566 : decode cL_law 566 = .ok (.iaload, 1) := by decide +kernel
theorem dL_law_567 : decode cL_law 567 = .ok (.aload_n 0, 1) := by decide +kernel
theorem dL_law_568 : decode cL_law 568 = .ok (.iload_n 3, 1) := by decide +kernel
theorem dL_law_569 : decode cL_law 569 = .ok (.iconst 2, 1) := by decide +kernel
theorem dL_law_570 : decode cL_law 570 = .ok (.iadd, 1) := by decide +kernel
theorem dL_law_571 : decode cL_law 571 = .ok (.iaload, 1) := by decide +kernel
theorem dL_law_572 : decode cL_law 572 = .ok (.invokevirtual 82, 3) := by decide +kernel
theorem dL_law_575 : decode cL_law 575 = .ok (.aload_n 2, 1) := by decide +kernel
theorem dL_law_576 : decode cL_law 576 = .ok (.aload_n 0, 1) := by decide +kernel
theorem dL_law_577 : decode cL_law 577 = .ok (.iload_n 3, 1) := by decide +kernel
theorem dL_law_578 : decode cL_law 578 = .ok (.iconst 1, 1) := by decide +kernel
theorem dL_law_579 : decode cL_law 579 = .ok (.iadd, 1) := by decide +kernel
theorem dL_law_580 : decode cL_law 580 = .ok (.iaload, 1) := by decide +kernel
theorem dL_law_581 : decode cL_law 581 = .ok (.aload_n 0, 1) := by decide +kernel
theorem dL_law_582 : decode cL_law 582 = .ok (.iload_n 3, 1) := by decide +kernel
theorem dL_law_583 : decode cL_law 583 = .ok (.iconst 2, 1) := by decide +kernel
theorem dL_law_584 : decode cL_law 584 = .ok (.iadd, 1) := by decide +kernel
theorem dL_law_585 : decode cL_law 585 = .ok (.iaload, 1) := by decide +kernel
theorem dL_law_586 : decode cL_law 586 = .ok (.invokevirtual 85, 3) := by decide +kernel
theorem dL_law_589 : decode cL_law 589 = .ok (.if_icmp .eq 117, 3) := by decide +kernel
theorem dL_law_592 : decode cL_law 592 = .ok (.iconst 0, 1) := by decide +kernel
theorem dL_law_593 : decode cL_law 593 = .ok (.ireturn, 1) := by decide +kernel
theorem dL_law_594 : decode cL_law 594 = .ok (.aload_n 1, 1) := by decide +kernel
theorem dL_law_595 : decode cL_law 595 = .ok (.aload_n 0, 1) := by decide +kernel
theorem dL_law_596 : decode cL_law 596 = .ok (.iload_n 3, 1) := by decide +kernel
theorem dL_law_597 : decode cL_law 597 = .ok (.iconst 1, 1) := by decide +kernel
theorem dL_law_598 : decode cL_law 598 = .ok (.iadd, 1) := by decide +kernel
theorem dL_law_599 : decode cL_law 599 = .ok (.iaload, 1) := by decide +kernel
theorem dL_law_600 : decode cL_law 600 = .ok (.aload_n 0, 1) := by decide +kernel
theorem dL_law_601 : decode cL_law 601 = .ok (.iload_n 3, 1) := by decide +kernel
theorem dL_law_602 : decode cL_law 602 = .ok (.iconst 2, 1) := by decide +kernel
theorem dL_law_603 : decode cL_law 603 = .ok (.iadd, 1) := by decide +kernel
theorem dL_law_604 : decode cL_law 604 = .ok (.iaload, 1) := by decide +kernel
theorem dL_law_605 : decode cL_law 605 = .ok (.invokevirtual 86, 3) := by decide +kernel
theorem dL_law_608 : decode cL_law 608 = .ok (.aload_n 2, 1) := by decide +kernel
theorem dL_law_609 : decode cL_law 609 = .ok (.aload_n 0, 1) := by decide +kernel
theorem dL_law_610 : decode cL_law 610 = .ok (.iload_n 3, 1) := by decide +kernel
theorem dL_law_611 : decode cL_law 611 = .ok (.iconst 1, 1) := by decide +kernel
theorem dL_law_612 : decode cL_law 612 = .ok (.iadd, 1) := by decide +kernel
theorem dL_law_613 : decode cL_law 613 = .ok (.iaload, 1) := by decide +kernel
theorem dL_law_614 : decode cL_law 614 = .ok (.aload_n 0, 1) := by decide +kernel
theorem dL_law_615 : decode cL_law 615 = .ok (.iload_n 3, 1) := by decide +kernel
theorem dL_law_616 : decode cL_law 616 = .ok (.iconst 2, 1) := by decide +kernel
theorem dL_law_617 : decode cL_law 617 = .ok (.iadd, 1) := by decide +kernel
theorem dL_law_618 : decode cL_law 618 = .ok (.iaload, 1) := by decide +kernel
theorem dL_law_619 : decode cL_law 619 = .ok (.invokevirtual 89, 3) := by decide +kernel
theorem dL_law_622 : decode cL_law 622 = .ok (.if_icmp .eq 84, 3) := by decide +kernel
theorem dL_law_625 : decode cL_law 625 = .ok (.iconst 0, 1) := by decide +kernel
theorem dL_law_626 : decode cL_law 626 = .ok (.ireturn, 1) := by decide +kernel
theorem dL_law_627 : decode cL_law 627 = .ok (.aload_n 1, 1) := by decide +kernel
theorem dL_law_628 : decode cL_law 628 = .ok (.aload_n 0, 1) := by decide +kernel
theorem dL_law_629 : decode cL_law 629 = .ok (.iload_n 3, 1) := by decide +kernel
theorem dL_law_630 : decode cL_law 630 = .ok (.iconst 1, 1) := by decide +kernel
theorem dL_law_631 : decode cL_law 631 = .ok (.iadd, 1) := by decide +kernel
theorem dL_law_632 : decode cL_law 632 = .ok (.iaload, 1) := by decide +kernel
theorem dL_law_633 : decode cL_law 633 = .ok (.aload_n 0, 1) := by decide +kernel
theorem dL_law_634 : decode cL_law 634 = .ok (.iload_n 3, 1) := by decide +kernel
theorem dL_law_635 : decode cL_law 635 = .ok (.iconst 2, 1) := by decide +kernel
theorem dL_law_636 : decode cL_law 636 = .ok (.iadd, 1) := by decide +kernel
theorem dL_law_637 : decode cL_law 637 = .ok (.iaload, 1) := by decide +kernel
theorem dL_law_638 : decode cL_law 638 = .ok (.invokevirtual 90, 3) := by decide +kernel
theorem dL_law_641 : decode cL_law 641 = .ok (.aload_n 2, 1) := by decide +kernel
theorem dL_law_642 : decode cL_law 642 = .ok (.aload_n 0, 1) := by decide +kernel
theorem dL_law_643 : decode cL_law 643 = .ok (.iload_n 3, 1) := by decide +kernel
theorem dL_law_644 : decode cL_law 644 = .ok (.iconst 1, 1) := by decide +kernel
theorem dL_law_645 : decode cL_law 645 = .ok (.iadd, 1) := by decide +kernel
theorem dL_law_646 : decode cL_law 646 = .ok (.iaload, 1) := by decide +kernel
theorem dL_law_647 : decode cL_law 647 = .ok (.aload_n 0, 1) := by decide +kernel
theorem dL_law_648 : decode cL_law 648 = .ok (.iload_n 3, 1) := by decide +kernel
theorem dL_law_649 : decode cL_law 649 = .ok (.iconst 2, 1) := by decide +kernel
theorem dL_law_650 : decode cL_law 650 = .ok (.iadd, 1) := by decide +kernel
theorem dL_law_651 : decode cL_law 651 = .ok (.iaload, 1) := by decide +kernel
theorem dL_law_652 : decode cL_law 652 = .ok (.invokevirtual 93, 3) := by decide +kernel
theorem dL_law_655 : decode cL_law 655 = .ok (.if_icmp .eq 51, 3) := by decide +kernel
theorem dL_law_658 : decode cL_law 658 = .ok (.iconst 0, 1) := by decide +kernel
theorem dL_law_659 : decode cL_law 659 = .ok (.ireturn, 1) := by decide +kernel
theorem dL_law_660 : decode cL_law 660 = .ok (.aload_n 1, 1) := by decide +kernel
theorem dL_law_661 : decode cL_law 661 = .ok (.aload_n 0, 1) := by decide +kernel
theorem dL_law_662 : decode cL_law 662 = .ok (.iload_n 3, 1) := by decide +kernel
theorem dL_law_663 : decode cL_law 663 = .ok (.iconst 1, 1) := by decide +kernel
theorem dL_law_664 : decode cL_law 664 = .ok (.iadd, 1) := by decide +kernel
theorem dL_law_665 : decode cL_law 665 = .ok (.iaload, 1) := by decide +kernel
theorem dL_law_666 : decode cL_law 666 = .ok (.invokevirtual 94, 3) := by decide +kernel
theorem dL_law_669 : decode cL_law 669 = .ok (.aload_n 2, 1) := by decide +kernel
theorem dL_law_670 : decode cL_law 670 = .ok (.aload_n 0, 1) := by decide +kernel
theorem dL_law_671 : decode cL_law 671 = .ok (.iload_n 3, 1) := by decide +kernel
theorem dL_law_672 : decode cL_law 672 = .ok (.iconst 1, 1) := by decide +kernel
theorem dL_law_673 : decode cL_law 673 = .ok (.iadd, 1) := by decide +kernel
theorem dL_law_674 : decode cL_law 674 = .ok (.iaload, 1) := by decide +kernel
theorem dL_law_675 : decode cL_law 675 = .ok (.invokevirtual 97, 3) := by decide +kernel
theorem dL_law_678 : decode cL_law 678 = .ok (.if_icmp .eq 28, 3) := by decide +kernel
theorem dL_law_681 : decode cL_law 681 = .ok (.iconst 0, 1) := by decide +kernel
theorem dL_law_682 : decode cL_law 682 = .ok (.ireturn, 1) := by decide +kernel
theorem dL_law_683 : decode cL_law 683 = .ok (.aload_n 1, 1) := by decide +kernel
theorem dL_law_684 : decode cL_law 684 = .ok (.aload_n 0, 1) := by decide +kernel
theorem dL_law_685 : decode cL_law 685 = .ok (.iload_n 3, 1) := by decide +kernel
theorem dL_law_686 : decode cL_law 686 = .ok (.iconst 1, 1) := by decide +kernel
theorem dL_law_687 : decode cL_law 687 = .ok (.iadd, 1) := by decide +kernel
theorem dL_law_688 : decode cL_law 688 = .ok (.iaload, 1) := by decide +kernel
theorem dL_law_689 : decode cL_law 689 = .ok (.invokevirtual 98, 3) := by decide +kernel
theorem dL_law_692 : decode cL_law 692 = .ok (.aload_n 2, 1) := by decide +kernel
theorem dL_law_693 : decode cL_law 693 = .ok (.aload_n 0, 1) := by decide +kernel
theorem dL_law_694 : decode cL_law 694 = .ok (.iload_n 3, 1) := by decide +kernel
theorem dL_law_695 : decode cL_law 695 = .ok (.iconst 1, 1) := by decide +kernel
theorem dL_law_696 : decode cL_law 696 = .ok (.iadd, 1) := by decide +kernel
theorem dL_law_697 : decode cL_law 697 = .ok (.iaload, 1) := by decide +kernel
theorem dL_law_698 : decode cL_law 698 = .ok (.invokevirtual 101, 3) := by decide +kernel
theorem dL_law_701 : decode cL_law 701 = .ok (.if_icmp .eq 5, 3) := by decide +kernel
theorem dL_law_704 : decode cL_law 704 = .ok (.iconst 0, 1) := by decide +kernel
theorem dL_law_705 : decode cL_law 705 = .ok (.ireturn, 1) := by decide +kernel
theorem dL_law_706 : decode cL_law 706 = .ok (.iinc 3 4, 3) := by decide +kernel
theorem dL_law_709 : decode cL_law 709 = .ok (.goto (-691), 3) := by decide +kernel
theorem dL_law_712 : decode cL_law 712 = .ok (.iconst 1, 1) := by decide +kernel
theorem dL_law_713 : decode cL_law 713 = .ok (.ireturn, 1) := by decide +kernel
def tb_law (sl : Nat) (xs : Nat → Int32) : List (Nat × Ins) := [
  (18, i_li 3 19), (19, i_la 0 20), (20, i_sn sl 21), (21, i_c 4 22),
  (22, i_sub 23), (23, i_ic_gt 712 26), (26, i_la 0 27), (27, i_li 3 28),
  (28, i_sl sl xs 29), (29, i_c 31 31), (31, i_and 32), (32, i_sw [(0, 132), (1, 165), (2, 198), (3, 211), (4, 234), (5, 247), (6, 260), (7, 293), (8, 316), (9, 349), (10, 382), (11, 405), (12, 419), (13, 462), (14, 495), (15, 518), (16, 561), (17, 594), (18, 627), (19, 660), (20, 683)] 706),
  (132, i_la 1 133), (133, i_la 0 134), (134, i_li 3 135), (135, i_c 1 136),
  (136, i_add 137), (137, i_sl sl xs 138), (138, i_la 0 139), (139, i_li 3 140),
  (140, i_c 2 141), (141, i_add 142), (142, i_sl sl xs 143), (143, i_cv n_X6_put 3 5 146),
  (146, i_la 2 147), (147, i_la 0 148), (148, i_li 3 149), (149, i_c 1 150),
  (150, i_add 151), (151, i_sl sl xs 152), (152, i_la 0 153), (153, i_li 3 154),
  (154, i_c 2 155), (155, i_add 156), (156, i_sl sl xs 157), (157, i_cv n_X7_put 3 6 160),
  (160, i_ic_eq 706 163), (163, i_c 0 164), (164, i_rz), (165, i_la 1 166),
  (166, i_la 0 167), (167, i_li 3 168), (168, i_c 1 169), (169, i_add 170),
  (170, i_sl sl xs 171), (171, i_la 0 172), (172, i_li 3 173), (173, i_c 2 174),
  (174, i_add 175), (175, i_sl sl xs 176), (176, i_cv n_X6_lower 3 5 179), (179, i_la 2 180),
  (180, i_la 0 181), (181, i_li 3 182), (182, i_c 1 183), (183, i_add 184),
  (184, i_sl sl xs 185), (185, i_la 0 186), (186, i_li 3 187), (187, i_c 2 188),
  (188, i_add 189), (189, i_sl sl xs 190), (190, i_cv n_X7_lower 3 6 193), (193, i_ic_eq 706 196),
  (196, i_c 0 197), (197, i_rz), (198, i_la 1 199), (199, i_cv n_X6_take 1 5 202),
  (202, i_la 2 203), (203, i_cv n_X7_take 1 6 206), (206, i_ic_eq 706 209), (209, i_c 0 210),
  (210, i_rz), (211, i_la 1 212), (212, i_la 0 213), (213, i_li 3 214),
  (214, i_c 1 215), (215, i_add 216), (216, i_sl sl xs 217), (217, i_cv n_X6_drop 2 5 220),
  (220, i_la 2 221), (221, i_la 0 222), (222, i_li 3 223), (223, i_c 1 224),
  (224, i_add 225), (225, i_sl sl xs 226), (226, i_cv n_X7_drop 2 6 229), (229, i_ic_eq 706 232),
  (232, i_c 0 233), (233, i_rz), (234, i_la 1 235), (235, i_cv n_X6_join 1 5 238),
  (238, i_la 2 239), (239, i_cv n_X7_join 1 6 242), (242, i_ic_eq 706 245), (245, i_c 0 246),
  (246, i_rz), (247, i_la 1 248), (248, i_cv n_X6_clear 1 5 251), (251, i_la 2 252),
  (252, i_cv n_X7_clear 1 6 255), (255, i_ic_eq 706 258), (258, i_c 0 259), (259, i_rz),
  (260, i_la 1 261), (261, i_la 0 262), (262, i_li 3 263), (263, i_c 1 264),
  (264, i_add 265), (265, i_sl sl xs 266), (266, i_la 0 267), (267, i_li 3 268),
  (268, i_c 2 269), (269, i_add 270), (270, i_sl sl xs 271), (271, i_cv n_X6_drift 3 5 274),
  (274, i_la 2 275), (275, i_la 0 276), (276, i_li 3 277), (277, i_c 1 278),
  (278, i_add 279), (279, i_sl sl xs 280), (280, i_la 0 281), (281, i_li 3 282),
  (282, i_c 2 283), (283, i_add 284), (284, i_sl sl xs 285), (285, i_cv n_X7_drift 3 6 288),
  (288, i_ic_eq 706 291), (291, i_c 0 292), (292, i_rz), (293, i_la 1 294),
  (294, i_la 0 295), (295, i_li 3 296), (296, i_c 1 297), (297, i_add 298),
  (298, i_sl sl xs 299), (299, i_cv n_X6_told 2 5 302), (302, i_la 2 303), (303, i_la 0 304),
  (304, i_li 3 305), (305, i_c 1 306), (306, i_add 307), (307, i_sl sl xs 308),
  (308, i_cv n_X7_told 2 6 311), (311, i_ic_eq 706 314), (314, i_c 0 315), (315, i_rz),
  (316, i_la 1 317), (317, i_la 0 318), (318, i_li 3 319), (319, i_c 1 320),
  (320, i_add 321), (321, i_sl sl xs 322), (322, i_la 0 323), (323, i_li 3 324),
  (324, i_c 2 325), (325, i_add 326), (326, i_sl sl xs 327), (327, i_cv n_X6_job 3 5 330),
  (330, i_la 2 331), (331, i_la 0 332), (332, i_li 3 333), (333, i_c 1 334),
  (334, i_add 335), (335, i_sl sl xs 336), (336, i_la 0 337), (337, i_li 3 338),
  (338, i_c 2 339), (339, i_add 340), (340, i_sl sl xs 341), (341, i_cv n_X7_job 3 6 344),
  (344, i_ic_eq 706 347), (347, i_c 0 348), (348, i_rz), (349, i_la 1 350),
  (350, i_la 0 351), (351, i_li 3 352), (352, i_c 1 353), (353, i_add 354),
  (354, i_sl sl xs 355), (355, i_la 0 356), (356, i_li 3 357), (357, i_c 2 358),
  (358, i_add 359), (359, i_sl sl xs 360), (360, i_cv n_X6_child 3 5 363), (363, i_la 2 364),
  (364, i_la 0 365), (365, i_li 3 366), (366, i_c 1 367), (367, i_add 368),
  (368, i_sl sl xs 369), (369, i_la 0 370), (370, i_li 3 371), (371, i_c 2 372),
  (372, i_add 373), (373, i_sl sl xs 374), (374, i_cv n_X7_child 3 6 377), (377, i_ic_eq 706 380),
  (380, i_c 0 381), (381, i_rz), (382, i_la 1 383), (383, i_la 0 384),
  (384, i_li 3 385), (385, i_c 1 386), (386, i_add 387), (387, i_sl sl xs 388),
  (388, i_cv n_X6_loose 2 5 391), (391, i_la 2 392), (392, i_la 0 393), (393, i_li 3 394),
  (394, i_c 1 395), (395, i_add 396), (396, i_sl sl xs 397), (397, i_cv n_X7_loose 2 6 400),
  (400, i_ic_eq 706 403), (403, i_c 0 404), (404, i_rz), (405, i_la 1 406),
  (406, i_cv n_X6_bits 1 5 409), (409, i_la 2 410), (410, i_cv n_X7_bits 1 6 413), (413, l_cmp 414),
  (414, i_if_eq 706 417), (417, i_c 0 418), (418, i_rz), (419, i_la 1 420),
  (420, i_la 0 421), (421, i_li 3 422), (422, i_c 1 423), (423, i_add 424),
  (424, i_sl sl xs 425), (425, i_la 0 426), (426, i_li 3 427), (427, i_c 2 428),
  (428, i_add 429), (429, i_sl sl xs 430), (430, i_la 0 431), (431, i_li 3 432),
  (432, i_c 3 433), (433, i_add 434), (434, i_sl sl xs 435), (435, i_cv n_X6_sit 4 5 438),
  (438, i_la 2 439), (439, i_la 0 440), (440, i_li 3 441), (441, i_c 1 442),
  (442, i_add 443), (443, i_sl sl xs 444), (444, i_la 0 445), (445, i_li 3 446),
  (446, i_c 2 447), (447, i_add 448), (448, i_sl sl xs 449), (449, i_la 0 450),
  (450, i_li 3 451), (451, i_c 3 452), (452, i_add 453), (453, i_sl sl xs 454),
  (454, i_cv n_X7_sit 4 6 457), (457, i_ic_eq 706 460), (460, i_c 0 461), (461, i_rz),
  (462, i_la 1 463), (463, i_la 0 464), (464, i_li 3 465), (465, i_c 1 466),
  (466, i_add 467), (467, i_sl sl xs 468), (468, i_la 0 469), (469, i_li 3 470),
  (470, i_c 2 471), (471, i_add 472), (472, i_sl sl xs 473), (473, i_cv n_X6_sits 3 5 476),
  (476, i_la 2 477), (477, i_la 0 478), (478, i_li 3 479), (479, i_c 1 480),
  (480, i_add 481), (481, i_sl sl xs 482), (482, i_la 0 483), (483, i_li 3 484),
  (484, i_c 2 485), (485, i_add 486), (486, i_sl sl xs 487), (487, i_cv n_X7_sits 3 6 490),
  (490, i_ic_eq 706 493), (493, i_c 0 494), (494, i_rz), (495, i_la 1 496),
  (496, i_la 0 497), (497, i_li 3 498), (498, i_c 1 499), (499, i_add 500),
  (500, i_sl sl xs 501), (501, i_cv n_X6_net 2 5 504), (504, i_la 2 505), (505, i_la 0 506),
  (506, i_li 3 507), (507, i_c 1 508), (508, i_add 509), (509, i_sl sl xs 510),
  (510, i_cv n_X7_net 2 6 513), (513, i_ic_eq 706 516), (516, i_c 0 517), (517, i_rz),
  (518, i_la 1 519), (519, i_la 0 520), (520, i_li 3 521), (521, i_c 1 522),
  (522, i_add 523), (523, i_sl sl xs 524), (524, i_la 0 525), (525, i_li 3 526),
  (526, i_c 2 527), (527, i_add 528), (528, i_sl sl xs 529), (529, i_la 0 530),
  (530, i_li 3 531), (531, i_c 3 532), (532, i_add 533), (533, i_sl sl xs 534),
  (534, i_cv n_X6_road 4 5 537), (537, i_la 2 538), (538, i_la 0 539), (539, i_li 3 540),
  (540, i_c 1 541), (541, i_add 542), (542, i_sl sl xs 543), (543, i_la 0 544),
  (544, i_li 3 545), (545, i_c 2 546), (546, i_add 547), (547, i_sl sl xs 548),
  (548, i_la 0 549), (549, i_li 3 550), (550, i_c 3 551), (551, i_add 552),
  (552, i_sl sl xs 553), (553, i_cv n_X7_road 4 6 556), (556, i_ic_eq 706 559), (559, i_c 0 560),
  (560, i_rz), (561, i_la 1 562), (562, i_la 0 563), (563, i_li 3 564),
  (564, i_c 1 565), (565, i_add 566), (566, i_sl sl xs 567), (567, i_la 0 568),
  (568, i_li 3 569), (569, i_c 2 570), (570, i_add 571), (571, i_sl sl xs 572),
  (572, i_cv n_X6_tree 3 5 575), (575, i_la 2 576), (576, i_la 0 577), (577, i_li 3 578),
  (578, i_c 1 579), (579, i_add 580), (580, i_sl sl xs 581), (581, i_la 0 582),
  (582, i_li 3 583), (583, i_c 2 584), (584, i_add 585), (585, i_sl sl xs 586),
  (586, i_cv n_X7_tree 3 6 589), (589, i_ic_eq 706 592), (592, i_c 0 593), (593, i_rz),
  (594, i_la 1 595), (595, i_la 0 596), (596, i_li 3 597), (597, i_c 1 598),
  (598, i_add 599), (599, i_sl sl xs 600), (600, i_la 0 601), (601, i_li 3 602),
  (602, i_c 2 603), (603, i_add 604), (604, i_sl sl xs 605), (605, i_cv n_X6_way 3 5 608),
  (608, i_la 2 609), (609, i_la 0 610), (610, i_li 3 611), (611, i_c 1 612),
  (612, i_add 613), (613, i_sl sl xs 614), (614, i_la 0 615), (615, i_li 3 616),
  (616, i_c 2 617), (617, i_add 618), (618, i_sl sl xs 619), (619, i_cv n_X7_way 3 6 622),
  (622, i_ic_eq 706 625), (625, i_c 0 626), (626, i_rz), (627, i_la 1 628),
  (628, i_la 0 629), (629, i_li 3 630), (630, i_c 1 631), (631, i_add 632),
  (632, i_sl sl xs 633), (633, i_la 0 634), (634, i_li 3 635), (635, i_c 2 636),
  (636, i_add 637), (637, i_sl sl xs 638), (638, i_cv n_X6_ways 3 5 641), (641, i_la 2 642),
  (642, i_la 0 643), (643, i_li 3 644), (644, i_c 1 645), (645, i_add 646),
  (646, i_sl sl xs 647), (647, i_la 0 648), (648, i_li 3 649), (649, i_c 2 650),
  (650, i_add 651), (651, i_sl sl xs 652), (652, i_cv n_X7_ways 3 6 655), (655, i_ic_eq 706 658),
  (658, i_c 0 659), (659, i_rz), (660, i_la 1 661), (661, i_la 0 662),
  (662, i_li 3 663), (663, i_c 1 664), (664, i_add 665), (665, i_sl sl xs 666),
  (666, i_cv n_X6_keep 2 5 669), (669, i_la 2 670), (670, i_la 0 671), (671, i_li 3 672),
  (672, i_c 1 673), (673, i_add 674), (674, i_sl sl xs 675), (675, i_cv n_X7_keep 2 6 678),
  (678, i_ic_eq 706 681), (681, i_c 0 682), (682, i_rz), (683, i_la 1 684),
  (684, i_la 0 685), (685, i_li 3 686), (686, i_c 1 687), (687, i_add 688),
  (688, i_sl sl xs 689), (689, i_cv n_X6_goBack 2 5 692), (692, i_la 2 693), (693, i_la 0 694),
  (694, i_li 3 695), (695, i_c 1 696), (696, i_add 697), (697, i_sl sl xs 698),
  (698, i_cv n_X7_goBack 2 6 701), (701, i_ic_eq 706 704), (704, i_c 0 705), (705, i_rz),
  (706, i_inc 3 4 709), (709, i_go 18), (712, i_c 1 713), (713, i_rz)]
set_option maxRecDepth 100000 in
theorem ok_law {G : GX} (hAp : Ap G) {sl : Nat} {xs : Nat → Int32} : ∀ d, ∀ e ∈ tb_law sl xs, Snd G mts RL code 4 (some .boolean) d (some (sl, xs)) e.1 e.2 := by
  intro d
  unfold tb_law
  refine fa_c (s_li_n dL_law_18 rfl) ?_
  refine fa_c (s_la_n dL_law_19 rfl) ?_
  refine fa_c (s_sn dL_law_20) ?_
  refine fa_c (s_iconst dL_law_21 (by decide)) ?_
  refine fa_c (s_i_sub dL_law_22) ?_
  refine fa_c (s_ic_gt dL_law_23 (by decide)) ?_
  refine fa_c (s_la_n dL_law_26 rfl) ?_
  refine fa_c (s_li_n dL_law_27 rfl) ?_
  refine fa_c (s_sl dL_law_28) ?_
  refine fa_c (s_bipush dL_law_29 (by decide)) ?_
  refine fa_c (s_i_and dL_law_31) ?_
  refine fa_c (s_sw (n := 21) dL_law_32 (by decide) (by decide +kernel) (by decide) (by decide +kernel)) ?_
  refine fa_c (s_la_n dL_law_132 rfl) ?_
  refine fa_c (s_la_n dL_law_133 rfl) ?_
  refine fa_c (s_li_n dL_law_134 rfl) ?_
  refine fa_c (s_iconst dL_law_135 (by decide)) ?_
  refine fa_c (s_i_add dL_law_136) ?_
  refine fa_c (s_sl dL_law_137) ?_
  refine fa_c (s_la_n dL_law_138 rfl) ?_
  refine fa_c (s_li_n dL_law_139 rfl) ?_
  refine fa_c (s_iconst dL_law_140 (by decide)) ?_
  refine fa_c (s_i_add dL_law_141) ?_
  refine fa_c (s_sl dL_law_142) ?_
  refine fa_c (s_cv mo_X6_put co_X6 (by decide) (fun _ _ => ⟨_, rfl⟩) dL_law_143 w_212 w_213 w_214 (by decide)) ?_
  refine fa_c (s_la_n dL_law_146 rfl) ?_
  refine fa_c (s_la_n dL_law_147 rfl) ?_
  refine fa_c (s_li_n dL_law_148 rfl) ?_
  refine fa_c (s_iconst dL_law_149 (by decide)) ?_
  refine fa_c (s_i_add dL_law_150) ?_
  refine fa_c (s_sl dL_law_151) ?_
  refine fa_c (s_la_n dL_law_152 rfl) ?_
  refine fa_c (s_li_n dL_law_153 rfl) ?_
  refine fa_c (s_iconst dL_law_154 (by decide)) ?_
  refine fa_c (s_i_add dL_law_155) ?_
  refine fa_c (s_sl dL_law_156) ?_
  refine fa_c (s_cv mo_X7_put co_X7 (by decide) (fun _ _ => ⟨_, rfl⟩) dL_law_157 w_709 w_710 w_711 (by decide)) ?_
  refine fa_c (s_ic_eq dL_law_160 (by decide)) ?_
  refine fa_c (s_iconst dL_law_163 (by decide)) ?_
  refine fa_c (s_rz dL_law_164 rfl) ?_
  refine fa_c (s_la_n dL_law_165 rfl) ?_
  refine fa_c (s_la_n dL_law_166 rfl) ?_
  refine fa_c (s_li_n dL_law_167 rfl) ?_
  refine fa_c (s_iconst dL_law_168 (by decide)) ?_
  refine fa_c (s_i_add dL_law_169) ?_
  refine fa_c (s_sl dL_law_170) ?_
  refine fa_c (s_la_n dL_law_171 rfl) ?_
  refine fa_c (s_li_n dL_law_172 rfl) ?_
  refine fa_c (s_iconst dL_law_173 (by decide)) ?_
  refine fa_c (s_i_add dL_law_174) ?_
  refine fa_c (s_sl dL_law_175) ?_
  refine fa_c (s_cv mo_X6_lower co_X6 (by decide) (fun _ _ => ⟨_, rfl⟩) dL_law_176 w_234 w_235 w_236 (by decide)) ?_
  refine fa_c (s_la_n dL_law_179 rfl) ?_
  refine fa_c (s_la_n dL_law_180 rfl) ?_
  refine fa_c (s_li_n dL_law_181 rfl) ?_
  refine fa_c (s_iconst dL_law_182 (by decide)) ?_
  refine fa_c (s_i_add dL_law_183) ?_
  refine fa_c (s_sl dL_law_184) ?_
  refine fa_c (s_la_n dL_law_185 rfl) ?_
  refine fa_c (s_li_n dL_law_186 rfl) ?_
  refine fa_c (s_iconst dL_law_187 (by decide)) ?_
  refine fa_c (s_i_add dL_law_188) ?_
  refine fa_c (s_sl dL_law_189) ?_
  refine fa_c (s_cv mo_X7_lower co_X7 (by decide) (fun _ _ => ⟨_, rfl⟩) dL_law_190 w_726 w_727 w_728 (by decide)) ?_
  refine fa_c (s_ic_eq dL_law_193 (by decide)) ?_
  refine fa_c (s_iconst dL_law_196 (by decide)) ?_
  refine fa_c (s_rz dL_law_197 rfl) ?_
  refine fa_c (s_la_n dL_law_198 rfl) ?_
  refine fa_c (s_cv mo_X6_take co_X6 (by decide) (fun _ _ => ⟨_, rfl⟩) dL_law_199 w_296 w_297 w_298 (by decide)) ?_
  refine fa_c (s_la_n dL_law_202 rfl) ?_
  refine fa_c (s_cv mo_X7_take co_X7 (by decide) (fun _ _ => ⟨_, rfl⟩) dL_law_203 w_772 w_773 w_774 (by decide)) ?_
  refine fa_c (s_ic_eq dL_law_206 (by decide)) ?_
  refine fa_c (s_iconst dL_law_209 (by decide)) ?_
  refine fa_c (s_rz dL_law_210 rfl) ?_
  refine fa_c (s_la_n dL_law_211 rfl) ?_
  refine fa_c (s_la_n dL_law_212 rfl) ?_
  refine fa_c (s_li_n dL_law_213 rfl) ?_
  refine fa_c (s_iconst dL_law_214 (by decide)) ?_
  refine fa_c (s_i_add dL_law_215) ?_
  refine fa_c (s_sl dL_law_216) ?_
  refine fa_c (s_cv mo_X6_drop co_X6 (by decide) (fun _ _ => ⟨_, rfl⟩) dL_law_217 w_316 w_317 w_318 (by decide)) ?_
  refine fa_c (s_la_n dL_law_220 rfl) ?_
  refine fa_c (s_la_n dL_law_221 rfl) ?_
  refine fa_c (s_li_n dL_law_222 rfl) ?_
  refine fa_c (s_iconst dL_law_223 (by decide)) ?_
  refine fa_c (s_i_add dL_law_224) ?_
  refine fa_c (s_sl dL_law_225) ?_
  refine fa_c (s_cv mo_X7_drop co_X7 (by decide) (fun _ _ => ⟨_, rfl⟩) dL_law_226 w_788 w_789 w_790 (by decide)) ?_
  refine fa_c (s_ic_eq dL_law_229 (by decide)) ?_
  refine fa_c (s_iconst dL_law_232 (by decide)) ?_
  refine fa_c (s_rz dL_law_233 rfl) ?_
  refine fa_c (s_la_n dL_law_234 rfl) ?_
  refine fa_c (s_cv mo_X6_join co_X6 (by decide) (fun _ _ => ⟨_, rfl⟩) dL_law_235 w_324 w_325 w_326 (by decide)) ?_
  refine fa_c (s_la_n dL_law_238 rfl) ?_
  refine fa_c (s_cv mo_X7_join co_X7 (by decide) (fun _ _ => ⟨_, rfl⟩) dL_law_239 w_796 w_797 w_798 (by decide)) ?_
  refine fa_c (s_ic_eq dL_law_242 (by decide)) ?_
  refine fa_c (s_iconst dL_law_245 (by decide)) ?_
  refine fa_c (s_rz dL_law_246 rfl) ?_
  refine fa_c (s_la_n dL_law_247 rfl) ?_
  refine fa_c (s_cv mo_X6_clear co_X6 (by decide) (fun _ _ => ⟨_, rfl⟩) dL_law_248 w_329 w_330 w_331 (by decide)) ?_
  refine fa_c (s_la_n dL_law_251 rfl) ?_
  refine fa_c (s_cv mo_X7_clear co_X7 (by decide) (fun _ _ => ⟨_, rfl⟩) dL_law_252 w_800 w_801 w_802 (by decide)) ?_
  refine fa_c (s_ic_eq dL_law_255 (by decide)) ?_
  refine fa_c (s_iconst dL_law_258 (by decide)) ?_
  refine fa_c (s_rz dL_law_259 rfl) ?_
  refine fa_c (s_la_n dL_law_260 rfl) ?_
  refine fa_c (s_la_n dL_law_261 rfl) ?_
  refine fa_c (s_li_n dL_law_262 rfl) ?_
  refine fa_c (s_iconst dL_law_263 (by decide)) ?_
  refine fa_c (s_i_add dL_law_264) ?_
  refine fa_c (s_sl dL_law_265) ?_
  refine fa_c (s_la_n dL_law_266 rfl) ?_
  refine fa_c (s_li_n dL_law_267 rfl) ?_
  refine fa_c (s_iconst dL_law_268 (by decide)) ?_
  refine fa_c (s_i_add dL_law_269) ?_
  refine fa_c (s_sl dL_law_270) ?_
  refine fa_c (s_cv mo_X6_drift co_X6 (by decide) (fun _ _ => ⟨_, rfl⟩) dL_law_271 w_345 w_346 w_347 (by decide)) ?_
  refine fa_c (s_la_n dL_law_274 rfl) ?_
  refine fa_c (s_la_n dL_law_275 rfl) ?_
  refine fa_c (s_li_n dL_law_276 rfl) ?_
  refine fa_c (s_iconst dL_law_277 (by decide)) ?_
  refine fa_c (s_i_add dL_law_278) ?_
  refine fa_c (s_sl dL_law_279) ?_
  refine fa_c (s_la_n dL_law_280 rfl) ?_
  refine fa_c (s_li_n dL_law_281 rfl) ?_
  refine fa_c (s_iconst dL_law_282 (by decide)) ?_
  refine fa_c (s_i_add dL_law_283) ?_
  refine fa_c (s_sl dL_law_284) ?_
  refine fa_c (s_cv mo_X7_drift co_X7 (by decide) (fun _ _ => ⟨_, rfl⟩) dL_law_285 w_804 w_805 w_806 (by decide)) ?_
  refine fa_c (s_ic_eq dL_law_288 (by decide)) ?_
  refine fa_c (s_iconst dL_law_291 (by decide)) ?_
  refine fa_c (s_rz dL_law_292 rfl) ?_
  refine fa_c (s_la_n dL_law_293 rfl) ?_
  refine fa_c (s_la_n dL_law_294 rfl) ?_
  refine fa_c (s_li_n dL_law_295 rfl) ?_
  refine fa_c (s_iconst dL_law_296 (by decide)) ?_
  refine fa_c (s_i_add dL_law_297) ?_
  refine fa_c (s_sl dL_law_298) ?_
  refine fa_c (s_cv mo_X6_told co_X6 (by decide) (fun _ _ => ⟨_, rfl⟩) dL_law_299 w_380 w_381 w_382 (by decide)) ?_
  refine fa_c (s_la_n dL_law_302 rfl) ?_
  refine fa_c (s_la_n dL_law_303 rfl) ?_
  refine fa_c (s_li_n dL_law_304 rfl) ?_
  refine fa_c (s_iconst dL_law_305 (by decide)) ?_
  refine fa_c (s_i_add dL_law_306) ?_
  refine fa_c (s_sl dL_law_307) ?_
  refine fa_c (s_cv mo_X7_told co_X7 (by decide) (fun _ _ => ⟨_, rfl⟩) dL_law_308 w_823 w_824 w_825 (by decide)) ?_
  refine fa_c (s_ic_eq dL_law_311 (by decide)) ?_
  refine fa_c (s_iconst dL_law_314 (by decide)) ?_
  refine fa_c (s_rz dL_law_315 rfl) ?_
  refine fa_c (s_la_n dL_law_316 rfl) ?_
  refine fa_c (s_la_n dL_law_317 rfl) ?_
  refine fa_c (s_li_n dL_law_318 rfl) ?_
  refine fa_c (s_iconst dL_law_319 (by decide)) ?_
  refine fa_c (s_i_add dL_law_320) ?_
  refine fa_c (s_sl dL_law_321) ?_
  refine fa_c (s_la_n dL_law_322 rfl) ?_
  refine fa_c (s_li_n dL_law_323 rfl) ?_
  refine fa_c (s_iconst dL_law_324 (by decide)) ?_
  refine fa_c (s_i_add dL_law_325) ?_
  refine fa_c (s_sl dL_law_326) ?_
  refine fa_c (s_cv mo_X6_job co_X6 (by decide) (fun _ _ => ⟨_, rfl⟩) dL_law_327 w_423 w_424 w_425 (by decide)) ?_
  refine fa_c (s_la_n dL_law_330 rfl) ?_
  refine fa_c (s_la_n dL_law_331 rfl) ?_
  refine fa_c (s_li_n dL_law_332 rfl) ?_
  refine fa_c (s_iconst dL_law_333 (by decide)) ?_
  refine fa_c (s_i_add dL_law_334) ?_
  refine fa_c (s_sl dL_law_335) ?_
  refine fa_c (s_la_n dL_law_336 rfl) ?_
  refine fa_c (s_li_n dL_law_337 rfl) ?_
  refine fa_c (s_iconst dL_law_338 (by decide)) ?_
  refine fa_c (s_i_add dL_law_339) ?_
  refine fa_c (s_sl dL_law_340) ?_
  refine fa_c (s_cv mo_X7_job co_X7 (by decide) (fun _ _ => ⟨_, rfl⟩) dL_law_341 w_835 w_836 w_837 (by decide)) ?_
  refine fa_c (s_ic_eq dL_law_344 (by decide)) ?_
  refine fa_c (s_iconst dL_law_347 (by decide)) ?_
  refine fa_c (s_rz dL_law_348 rfl) ?_
  refine fa_c (s_la_n dL_law_349 rfl) ?_
  refine fa_c (s_la_n dL_law_350 rfl) ?_
  refine fa_c (s_li_n dL_law_351 rfl) ?_
  refine fa_c (s_iconst dL_law_352 (by decide)) ?_
  refine fa_c (s_i_add dL_law_353) ?_
  refine fa_c (s_sl dL_law_354) ?_
  refine fa_c (s_la_n dL_law_355 rfl) ?_
  refine fa_c (s_li_n dL_law_356 rfl) ?_
  refine fa_c (s_iconst dL_law_357 (by decide)) ?_
  refine fa_c (s_i_add dL_law_358) ?_
  refine fa_c (s_sl dL_law_359) ?_
  refine fa_c (s_cv mo_X6_child co_X6 (by decide) (fun _ _ => ⟨_, rfl⟩) dL_law_360 w_454 w_455 w_456 (by decide)) ?_
  refine fa_c (s_la_n dL_law_363 rfl) ?_
  refine fa_c (s_la_n dL_law_364 rfl) ?_
  refine fa_c (s_li_n dL_law_365 rfl) ?_
  refine fa_c (s_iconst dL_law_366 (by decide)) ?_
  refine fa_c (s_i_add dL_law_367) ?_
  refine fa_c (s_sl dL_law_368) ?_
  refine fa_c (s_la_n dL_law_369 rfl) ?_
  refine fa_c (s_li_n dL_law_370 rfl) ?_
  refine fa_c (s_iconst dL_law_371 (by decide)) ?_
  refine fa_c (s_i_add dL_law_372) ?_
  refine fa_c (s_sl dL_law_373) ?_
  refine fa_c (s_cv mo_X7_child co_X7 (by decide) (fun _ _ => ⟨_, rfl⟩) dL_law_374 w_854 w_855 w_856 (by decide)) ?_
  refine fa_c (s_ic_eq dL_law_377 (by decide)) ?_
  refine fa_c (s_iconst dL_law_380 (by decide)) ?_
  refine fa_c (s_rz dL_law_381 rfl) ?_
  refine fa_c (s_la_n dL_law_382 rfl) ?_
  refine fa_c (s_la_n dL_law_383 rfl) ?_
  refine fa_c (s_li_n dL_law_384 rfl) ?_
  refine fa_c (s_iconst dL_law_385 (by decide)) ?_
  refine fa_c (s_i_add dL_law_386) ?_
  refine fa_c (s_sl dL_law_387) ?_
  refine fa_c (s_cv mo_X6_loose co_X6 (by decide) (fun _ _ => ⟨_, rfl⟩) dL_law_388 w_462 w_463 w_464 (by decide)) ?_
  refine fa_c (s_la_n dL_law_391 rfl) ?_
  refine fa_c (s_la_n dL_law_392 rfl) ?_
  refine fa_c (s_li_n dL_law_393 rfl) ?_
  refine fa_c (s_iconst dL_law_394 (by decide)) ?_
  refine fa_c (s_i_add dL_law_395) ?_
  refine fa_c (s_sl dL_law_396) ?_
  refine fa_c (s_cv mo_X7_loose co_X7 (by decide) (fun _ _ => ⟨_, rfl⟩) dL_law_397 w_858 w_859 w_860 (by decide)) ?_
  refine fa_c (s_ic_eq dL_law_400 (by decide)) ?_
  refine fa_c (s_iconst dL_law_403 (by decide)) ?_
  refine fa_c (s_rz dL_law_404 rfl) ?_
  refine fa_c (s_la_n dL_law_405 rfl) ?_
  refine fa_c (s_cv mo_X6_bits co_X6 (by decide) (fun _ _ => ⟨_, rfl⟩) dL_law_406 w_470 w_471 w_472 (by decide)) ?_
  refine fa_c (s_la_n dL_law_409 rfl) ?_
  refine fa_c (s_cv mo_X7_bits co_X7 (by decide) (fun _ _ => ⟨_, rfl⟩) dL_law_410 w_862 w_863 w_864 (by decide)) ?_
  refine fa_c (s_l_cmp dL_law_413) ?_
  refine fa_c (s_if_eq dL_law_414 (by decide)) ?_
  refine fa_c (s_iconst dL_law_417 (by decide)) ?_
  refine fa_c (s_rz dL_law_418 rfl) ?_
  refine fa_c (s_la_n dL_law_419 rfl) ?_
  refine fa_c (s_la_n dL_law_420 rfl) ?_
  refine fa_c (s_li_n dL_law_421 rfl) ?_
  refine fa_c (s_iconst dL_law_422 (by decide)) ?_
  refine fa_c (s_i_add dL_law_423) ?_
  refine fa_c (s_sl dL_law_424) ?_
  refine fa_c (s_la_n dL_law_425 rfl) ?_
  refine fa_c (s_li_n dL_law_426 rfl) ?_
  refine fa_c (s_iconst dL_law_427 (by decide)) ?_
  refine fa_c (s_i_add dL_law_428) ?_
  refine fa_c (s_sl dL_law_429) ?_
  refine fa_c (s_la_n dL_law_430 rfl) ?_
  refine fa_c (s_li_n dL_law_431 rfl) ?_
  refine fa_c (s_iconst dL_law_432 (by decide)) ?_
  refine fa_c (s_i_add dL_law_433) ?_
  refine fa_c (s_sl dL_law_434) ?_
  refine fa_c (s_cv mo_X6_sit co_X6 (by decide) (fun _ _ => ⟨_, rfl⟩) dL_law_435 w_478 w_479 w_480 (by decide)) ?_
  refine fa_c (s_la_n dL_law_438 rfl) ?_
  refine fa_c (s_la_n dL_law_439 rfl) ?_
  refine fa_c (s_li_n dL_law_440 rfl) ?_
  refine fa_c (s_iconst dL_law_441 (by decide)) ?_
  refine fa_c (s_i_add dL_law_442) ?_
  refine fa_c (s_sl dL_law_443) ?_
  refine fa_c (s_la_n dL_law_444 rfl) ?_
  refine fa_c (s_li_n dL_law_445 rfl) ?_
  refine fa_c (s_iconst dL_law_446 (by decide)) ?_
  refine fa_c (s_i_add dL_law_447) ?_
  refine fa_c (s_sl dL_law_448) ?_
  refine fa_c (s_la_n dL_law_449 rfl) ?_
  refine fa_c (s_li_n dL_law_450 rfl) ?_
  refine fa_c (s_iconst dL_law_451 (by decide)) ?_
  refine fa_c (s_i_add dL_law_452) ?_
  refine fa_c (s_sl dL_law_453) ?_
  refine fa_c (s_cv mo_X7_sit co_X7 (by decide) (fun _ _ => ⟨_, rfl⟩) dL_law_454 w_867 w_868 w_869 (by decide)) ?_
  refine fa_c (s_ic_eq dL_law_457 (by decide)) ?_
  refine fa_c (s_iconst dL_law_460 (by decide)) ?_
  refine fa_c (s_rz dL_law_461 rfl) ?_
  refine fa_c (s_la_n dL_law_462 rfl) ?_
  refine fa_c (s_la_n dL_law_463 rfl) ?_
  refine fa_c (s_li_n dL_law_464 rfl) ?_
  refine fa_c (s_iconst dL_law_465 (by decide)) ?_
  refine fa_c (s_i_add dL_law_466) ?_
  refine fa_c (s_sl dL_law_467) ?_
  refine fa_c (s_la_n dL_law_468 rfl) ?_
  refine fa_c (s_li_n dL_law_469 rfl) ?_
  refine fa_c (s_iconst dL_law_470 (by decide)) ?_
  refine fa_c (s_i_add dL_law_471) ?_
  refine fa_c (s_sl dL_law_472) ?_
  refine fa_c (s_cv mo_X6_sits co_X6 (by decide) (fun _ _ => ⟨_, rfl⟩) dL_law_473 w_492 w_493 w_494 (by decide)) ?_
  refine fa_c (s_la_n dL_law_476 rfl) ?_
  refine fa_c (s_la_n dL_law_477 rfl) ?_
  refine fa_c (s_li_n dL_law_478 rfl) ?_
  refine fa_c (s_iconst dL_law_479 (by decide)) ?_
  refine fa_c (s_i_add dL_law_480) ?_
  refine fa_c (s_sl dL_law_481) ?_
  refine fa_c (s_la_n dL_law_482 rfl) ?_
  refine fa_c (s_li_n dL_law_483 rfl) ?_
  refine fa_c (s_iconst dL_law_484 (by decide)) ?_
  refine fa_c (s_i_add dL_law_485) ?_
  refine fa_c (s_sl dL_law_486) ?_
  refine fa_c (s_cv mo_X7_sits co_X7 (by decide) (fun _ _ => ⟨_, rfl⟩) dL_law_487 w_873 w_874 w_875 (by decide)) ?_
  refine fa_c (s_ic_eq dL_law_490 (by decide)) ?_
  refine fa_c (s_iconst dL_law_493 (by decide)) ?_
  refine fa_c (s_rz dL_law_494 rfl) ?_
  refine fa_c (s_la_n dL_law_495 rfl) ?_
  refine fa_c (s_la_n dL_law_496 rfl) ?_
  refine fa_c (s_li_n dL_law_497 rfl) ?_
  refine fa_c (s_iconst dL_law_498 (by decide)) ?_
  refine fa_c (s_i_add dL_law_499) ?_
  refine fa_c (s_sl dL_law_500) ?_
  refine fa_c (s_cv mo_X6_net co_X6 (by decide) (fun _ _ => ⟨_, rfl⟩) dL_law_501 w_497 w_498 w_499 (by decide)) ?_
  refine fa_c (s_la_n dL_law_504 rfl) ?_
  refine fa_c (s_la_n dL_law_505 rfl) ?_
  refine fa_c (s_li_n dL_law_506 rfl) ?_
  refine fa_c (s_iconst dL_law_507 (by decide)) ?_
  refine fa_c (s_i_add dL_law_508) ?_
  refine fa_c (s_sl dL_law_509) ?_
  refine fa_c (s_cv mo_X7_net co_X7 (by decide) (fun _ _ => ⟨_, rfl⟩) dL_law_510 w_877 w_878 w_879 (by decide)) ?_
  refine fa_c (s_ic_eq dL_law_513 (by decide)) ?_
  refine fa_c (s_iconst dL_law_516 (by decide)) ?_
  refine fa_c (s_rz dL_law_517 rfl) ?_
  refine fa_c (s_la_n dL_law_518 rfl) ?_
  refine fa_c (s_la_n dL_law_519 rfl) ?_
  refine fa_c (s_li_n dL_law_520 rfl) ?_
  refine fa_c (s_iconst dL_law_521 (by decide)) ?_
  refine fa_c (s_i_add dL_law_522) ?_
  refine fa_c (s_sl dL_law_523) ?_
  refine fa_c (s_la_n dL_law_524 rfl) ?_
  refine fa_c (s_li_n dL_law_525 rfl) ?_
  refine fa_c (s_iconst dL_law_526 (by decide)) ?_
  refine fa_c (s_i_add dL_law_527) ?_
  refine fa_c (s_sl dL_law_528) ?_
  refine fa_c (s_la_n dL_law_529 rfl) ?_
  refine fa_c (s_li_n dL_law_530 rfl) ?_
  refine fa_c (s_iconst dL_law_531 (by decide)) ?_
  refine fa_c (s_i_add dL_law_532) ?_
  refine fa_c (s_sl dL_law_533) ?_
  refine fa_c (s_cv mo_X6_road co_X6 (by decide) (fun _ _ => ⟨_, rfl⟩) dL_law_534 w_505 w_506 w_507 (by decide)) ?_
  refine fa_c (s_la_n dL_law_537 rfl) ?_
  refine fa_c (s_la_n dL_law_538 rfl) ?_
  refine fa_c (s_li_n dL_law_539 rfl) ?_
  refine fa_c (s_iconst dL_law_540 (by decide)) ?_
  refine fa_c (s_i_add dL_law_541) ?_
  refine fa_c (s_sl dL_law_542) ?_
  refine fa_c (s_la_n dL_law_543 rfl) ?_
  refine fa_c (s_li_n dL_law_544 rfl) ?_
  refine fa_c (s_iconst dL_law_545 (by decide)) ?_
  refine fa_c (s_i_add dL_law_546) ?_
  refine fa_c (s_sl dL_law_547) ?_
  refine fa_c (s_la_n dL_law_548 rfl) ?_
  refine fa_c (s_li_n dL_law_549 rfl) ?_
  refine fa_c (s_iconst dL_law_550 (by decide)) ?_
  refine fa_c (s_i_add dL_law_551) ?_
  refine fa_c (s_sl dL_law_552) ?_
  refine fa_c (s_cv mo_X7_road co_X7 (by decide) (fun _ _ => ⟨_, rfl⟩) dL_law_553 w_881 w_882 w_883 (by decide)) ?_
  refine fa_c (s_ic_eq dL_law_556 (by decide)) ?_
  refine fa_c (s_iconst dL_law_559 (by decide)) ?_
  refine fa_c (s_rz dL_law_560 rfl) ?_
  refine fa_c (s_la_n dL_law_561 rfl) ?_
  refine fa_c (s_la_n dL_law_562 rfl) ?_
  refine fa_c (s_li_n dL_law_563 rfl) ?_
  refine fa_c (s_iconst dL_law_564 (by decide)) ?_
  refine fa_c (s_i_add dL_law_565) ?_
  refine fa_c (s_sl dL_law_566) ?_
  refine fa_c (s_la_n dL_law_567 rfl) ?_
  refine fa_c (s_li_n dL_law_568 rfl) ?_
  refine fa_c (s_iconst dL_law_569 (by decide)) ?_
  refine fa_c (s_i_add dL_law_570) ?_
  refine fa_c (s_sl dL_law_571) ?_
  refine fa_c (s_cv mo_X6_tree co_X6 (by decide) (fun _ _ => ⟨_, rfl⟩) dL_law_572 w_523 w_524 w_525 (by decide)) ?_
  refine fa_c (s_la_n dL_law_575 rfl) ?_
  refine fa_c (s_la_n dL_law_576 rfl) ?_
  refine fa_c (s_li_n dL_law_577 rfl) ?_
  refine fa_c (s_iconst dL_law_578 (by decide)) ?_
  refine fa_c (s_i_add dL_law_579) ?_
  refine fa_c (s_sl dL_law_580) ?_
  refine fa_c (s_la_n dL_law_581 rfl) ?_
  refine fa_c (s_li_n dL_law_582 rfl) ?_
  refine fa_c (s_iconst dL_law_583 (by decide)) ?_
  refine fa_c (s_i_add dL_law_584) ?_
  refine fa_c (s_sl dL_law_585) ?_
  refine fa_c (s_cv mo_X7_tree co_X7 (by decide) (fun _ _ => ⟨_, rfl⟩) dL_law_586 w_889 w_890 w_891 (by decide)) ?_
  refine fa_c (s_ic_eq dL_law_589 (by decide)) ?_
  refine fa_c (s_iconst dL_law_592 (by decide)) ?_
  refine fa_c (s_rz dL_law_593 rfl) ?_
  refine fa_c (s_la_n dL_law_594 rfl) ?_
  refine fa_c (s_la_n dL_law_595 rfl) ?_
  refine fa_c (s_li_n dL_law_596 rfl) ?_
  refine fa_c (s_iconst dL_law_597 (by decide)) ?_
  refine fa_c (s_i_add dL_law_598) ?_
  refine fa_c (s_sl dL_law_599) ?_
  refine fa_c (s_la_n dL_law_600 rfl) ?_
  refine fa_c (s_li_n dL_law_601 rfl) ?_
  refine fa_c (s_iconst dL_law_602 (by decide)) ?_
  refine fa_c (s_i_add dL_law_603) ?_
  refine fa_c (s_sl dL_law_604) ?_
  refine fa_c (s_cv mo_X6_way co_X6 (by decide) (fun _ _ => ⟨_, rfl⟩) dL_law_605 w_577 w_578 w_579 (by decide)) ?_
  refine fa_c (s_la_n dL_law_608 rfl) ?_
  refine fa_c (s_la_n dL_law_609 rfl) ?_
  refine fa_c (s_li_n dL_law_610 rfl) ?_
  refine fa_c (s_iconst dL_law_611 (by decide)) ?_
  refine fa_c (s_i_add dL_law_612) ?_
  refine fa_c (s_sl dL_law_613) ?_
  refine fa_c (s_la_n dL_law_614 rfl) ?_
  refine fa_c (s_li_n dL_law_615 rfl) ?_
  refine fa_c (s_iconst dL_law_616 (by decide)) ?_
  refine fa_c (s_i_add dL_law_617) ?_
  refine fa_c (s_sl dL_law_618) ?_
  refine fa_c (s_cv mo_X7_way co_X7 (by decide) (fun _ _ => ⟨_, rfl⟩) dL_law_619 w_905 w_906 w_907 (by decide)) ?_
  refine fa_c (s_ic_eq dL_law_622 (by decide)) ?_
  refine fa_c (s_iconst dL_law_625 (by decide)) ?_
  refine fa_c (s_rz dL_law_626 rfl) ?_
  refine fa_c (s_la_n dL_law_627 rfl) ?_
  refine fa_c (s_la_n dL_law_628 rfl) ?_
  refine fa_c (s_li_n dL_law_629 rfl) ?_
  refine fa_c (s_iconst dL_law_630 (by decide)) ?_
  refine fa_c (s_i_add dL_law_631) ?_
  refine fa_c (s_sl dL_law_632) ?_
  refine fa_c (s_la_n dL_law_633 rfl) ?_
  refine fa_c (s_li_n dL_law_634 rfl) ?_
  refine fa_c (s_iconst dL_law_635 (by decide)) ?_
  refine fa_c (s_i_add dL_law_636) ?_
  refine fa_c (s_sl dL_law_637) ?_
  refine fa_c (s_cv mo_X6_ways co_X6 (by decide) (fun _ _ => ⟨_, rfl⟩) dL_law_638 w_585 w_586 w_587 (by decide)) ?_
  refine fa_c (s_la_n dL_law_641 rfl) ?_
  refine fa_c (s_la_n dL_law_642 rfl) ?_
  refine fa_c (s_li_n dL_law_643 rfl) ?_
  refine fa_c (s_iconst dL_law_644 (by decide)) ?_
  refine fa_c (s_i_add dL_law_645) ?_
  refine fa_c (s_sl dL_law_646) ?_
  refine fa_c (s_la_n dL_law_647 rfl) ?_
  refine fa_c (s_li_n dL_law_648 rfl) ?_
  refine fa_c (s_iconst dL_law_649 (by decide)) ?_
  refine fa_c (s_i_add dL_law_650) ?_
  refine fa_c (s_sl dL_law_651) ?_
  refine fa_c (s_cv mo_X7_ways co_X7 (by decide) (fun _ _ => ⟨_, rfl⟩) dL_law_652 w_909 w_910 w_911 (by decide)) ?_
  refine fa_c (s_ic_eq dL_law_655 (by decide)) ?_
  refine fa_c (s_iconst dL_law_658 (by decide)) ?_
  refine fa_c (s_rz dL_law_659 rfl) ?_
  refine fa_c (s_la_n dL_law_660 rfl) ?_
  refine fa_c (s_la_n dL_law_661 rfl) ?_
  refine fa_c (s_li_n dL_law_662 rfl) ?_
  refine fa_c (s_iconst dL_law_663 (by decide)) ?_
  refine fa_c (s_i_add dL_law_664) ?_
  refine fa_c (s_sl dL_law_665) ?_
  refine fa_c (s_cv mo_X6_keep co_X6 (by decide) (fun _ _ => ⟨_, rfl⟩) dL_law_666 w_593 w_594 w_595 (by decide)) ?_
  refine fa_c (s_la_n dL_law_669 rfl) ?_
  refine fa_c (s_la_n dL_law_670 rfl) ?_
  refine fa_c (s_li_n dL_law_671 rfl) ?_
  refine fa_c (s_iconst dL_law_672 (by decide)) ?_
  refine fa_c (s_i_add dL_law_673) ?_
  refine fa_c (s_sl dL_law_674) ?_
  refine fa_c (s_cv mo_X7_keep co_X7 (by decide) (fun _ _ => ⟨_, rfl⟩) dL_law_675 w_913 w_914 w_915 (by decide)) ?_
  refine fa_c (s_ic_eq dL_law_678 (by decide)) ?_
  refine fa_c (s_iconst dL_law_681 (by decide)) ?_
  refine fa_c (s_rz dL_law_682 rfl) ?_
  refine fa_c (s_la_n dL_law_683 rfl) ?_
  refine fa_c (s_la_n dL_law_684 rfl) ?_
  refine fa_c (s_li_n dL_law_685 rfl) ?_
  refine fa_c (s_iconst dL_law_686 (by decide)) ?_
  refine fa_c (s_i_add dL_law_687) ?_
  refine fa_c (s_sl dL_law_688) ?_
  refine fa_c (s_cv mo_X6_goBack co_X6 (by decide) (fun _ _ => ⟨_, rfl⟩) dL_law_689 w_615 w_616 w_617 (by decide)) ?_
  refine fa_c (s_la_n dL_law_692 rfl) ?_
  refine fa_c (s_la_n dL_law_693 rfl) ?_
  refine fa_c (s_li_n dL_law_694 rfl) ?_
  refine fa_c (s_iconst dL_law_695 (by decide)) ?_
  refine fa_c (s_i_add dL_law_696) ?_
  refine fa_c (s_sl dL_law_697) ?_
  refine fa_c (s_cv mo_X7_goBack co_X7 (by decide) (fun _ _ => ⟨_, rfl⟩) dL_law_698 w_917 w_918 w_919 (by decide)) ?_
  refine fa_c (s_ic_eq dL_law_701 (by decide)) ?_
  refine fa_c (s_iconst dL_law_704 (by decide)) ?_
  refine fa_c (s_rz dL_law_705 rfl) ?_
  refine fa_c (s_inc dL_law_706 (by decide) (by decide)) ?_
  refine fa_c (s_go dL_law_709 (by decide)) ?_
  refine fa_c (s_iconst dL_law_712 (by decide)) ?_
  refine fa_c (s_rz dL_law_713 rfl) ?_
  exact fun e he => absurd he List.not_mem_nil
