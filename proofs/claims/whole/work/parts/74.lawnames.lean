/-! THE LAW: its words and its instructions, by program -/
theorem dl_0 : decode code 0 = .ok (.new 7, 3) := by decide +kernel
theorem dl_3 : decode code 3 = .ok (.dup, 1) := by decide +kernel
theorem dl_4 : decode code 4 = .ok (.invokespecial 9, 3) := by decide +kernel
theorem dl_7 : decode code 7 = .ok (.astore_n 1, 1) := by decide +kernel
theorem dl_8 : decode code 8 = .ok (.new 10, 3) := by decide +kernel
theorem dl_11 : decode code 11 = .ok (.dup, 1) := by decide +kernel
theorem dl_12 : decode code 12 = .ok (.invokespecial 12, 3) := by decide +kernel
theorem dl_15 : decode code 15 = .ok (.astore_n 2, 1) := by decide +kernel
theorem dl_16 : decode code 16 = .ok (.iconst 0, 1) := by decide +kernel
theorem dl_17 : decode code 17 = .ok (.istore_n 3, 1) := by decide +kernel
theorem dl_18 : decode code 18 = .ok (.iload_n 3, 1) := by decide +kernel
theorem dl_19 : decode code 19 = .ok (.aload_n 0, 1) := by decide +kernel
theorem dl_20 : decode code 20 = .ok (.arraylength, 1) := by decide +kernel
theorem dl_21 : decode code 21 = .ok (.bipush 8, 2) := by decide +kernel
theorem dl_23 : decode code 23 = .ok (.isub, 1) := by decide +kernel
theorem dl_24 : decode code 24 = .ok (.if_icmp .gt 670, 3) := by decide +kernel
theorem dl_27 : decode code 27 = .ok (.aload_n 0, 1) := by decide +kernel
theorem dl_28 : decode code 28 = .ok (.iload_n 3, 1) := by decide +kernel
theorem dl_29 : decode code 29 = .ok (.iaload, 1) := by decide +kernel
theorem dl_30 : decode code 30 = .ok (.bipush 31, 2) := by decide +kernel
theorem dl_32 : decode code 32 = .ok (.iand, 1) := by decide +kernel
theorem dl_33 : decode code 33 = .ok (.tableswitch 655 0 17 #[87, 110, 133, 166, 253, 276, 289, 332, 365, 388, 411, 434, 457, 510, 523, 566, 599, 632], 87) := by decide +kernel
theorem dl_120 : decode code 120 = .ok (.aload_n 1, 1) := by decide +kernel
theorem dl_121 : decode code 121 = .ok (.aload_n 0, 1) := by decide +kernel
theorem dl_122 : decode code 122 = .ok (.iload_n 3, 1) := by decide +kernel
theorem dl_123 : decode code 123 = .ok (.iconst 1, 1) := by decide +kernel
theorem dl_124 : decode code 124 = .ok (.iadd, 1) := by decide +kernel
theorem dl_125 : decode code 125 = .ok (.iaload, 1) := by decide +kernel
theorem dl_126 : decode code 126 = .ok (.invokevirtual 13, 3) := by decide +kernel
theorem dl_129 : decode code 129 = .ok (.aload_n 2, 1) := by decide +kernel
theorem dl_130 : decode code 130 = .ok (.aload_n 0, 1) := by decide +kernel
theorem dl_131 : decode code 131 = .ok (.iload_n 3, 1) := by decide +kernel
theorem dl_132 : decode code 132 = .ok (.iconst 1, 1) := by decide +kernel
theorem dl_133 : decode code 133 = .ok (.iadd, 1) := by decide +kernel
theorem dl_134 : decode code 134 = .ok (.iaload, 1) := by decide +kernel
theorem dl_135 : decode code 135 = .ok (.invokevirtual 17, 3) := by decide +kernel
theorem dl_138 : decode code 138 = .ok (.if_icmp .eq 550, 3) := by decide +kernel
theorem dl_141 : decode code 141 = .ok (.iconst 0, 1) := by decide +kernel
theorem dl_142 : decode code 142 = .ok (.ireturn, 1) := by decide +kernel
theorem dl_143 : decode code 143 = .ok (.aload_n 1, 1) := by decide +kernel
theorem dl_144 : decode code 144 = .ok (.aload_n 0, 1) := by decide +kernel
theorem dl_145 : decode code 145 = .ok (.iload_n 3, 1) := by decide +kernel
theorem dl_146 : decode code 146 = .ok (.iconst 1, 1) := by decide +kernel
theorem dl_147 : decode code 147 = .ok (.iadd, 1) := by decide +kernel
theorem dl_148 : decode code 148 = .ok (.iaload, 1) := by decide +kernel
theorem dl_149 : decode code 149 = .ok (.invokevirtual 18, 3) := by decide +kernel
theorem dl_152 : decode code 152 = .ok (.aload_n 2, 1) := by decide +kernel
theorem dl_153 : decode code 153 = .ok (.aload_n 0, 1) := by decide +kernel
theorem dl_154 : decode code 154 = .ok (.iload_n 3, 1) := by decide +kernel
theorem dl_155 : decode code 155 = .ok (.iconst 1, 1) := by decide +kernel
theorem dl_156 : decode code 156 = .ok (.iadd, 1) := by decide +kernel
theorem dl_157 : decode code 157 = .ok (.iaload, 1) := by decide +kernel
theorem dl_158 : decode code 158 = .ok (.invokevirtual 21, 3) := by decide +kernel
theorem dl_161 : decode code 161 = .ok (.if_icmp .eq 527, 3) := by decide +kernel
theorem dl_164 : decode code 164 = .ok (.iconst 0, 1) := by decide +kernel
theorem dl_165 : decode code 165 = .ok (.ireturn, 1) := by decide +kernel
theorem dl_166 : decode code 166 = .ok (.aload_n 1, 1) := by decide +kernel
theorem dl_167 : decode code 167 = .ok (.aload_n 0, 1) := by decide +kernel
theorem dl_168 : decode code 168 = .ok (.iload_n 3, 1) := by decide +kernel
theorem dl_169 : decode code 169 = .ok (.iconst 1, 1) := by decide +kernel
theorem dl_170 : decode code 170 = .ok (.iadd, 1) := by decide +kernel
theorem dl_171 : decode code 171 = .ok (.iaload, 1) := by decide +kernel
theorem dl_172 : decode code 172 = .ok (.aload_n 0, 1) := by decide +kernel
theorem dl_173 : decode code 173 = .ok (.iload_n 3, 1) := by decide +kernel
theorem dl_174 : decode code 174 = .ok (.iconst 2, 1) := by decide +kernel
theorem dl_175 : decode code 175 = .ok (.iadd, 1) := by decide +kernel
theorem dl_176 : decode code 176 = .ok (.iaload, 1) := by decide +kernel
theorem dl_177 : decode code 177 = .ok (.invokevirtual 22, 3) := by decide +kernel
theorem dl_180 : decode code 180 = .ok (.aload_n 2, 1) := by decide +kernel
theorem dl_181 : decode code 181 = .ok (.aload_n 0, 1) := by decide +kernel
theorem dl_182 : decode code 182 = .ok (.iload_n 3, 1) := by decide +kernel
theorem dl_183 : decode code 183 = .ok (.iconst 1, 1) := by decide +kernel
theorem dl_184 : decode code 184 = .ok (.iadd, 1) := by decide +kernel
theorem dl_185 : decode code 185 = .ok (.iaload, 1) := by decide +kernel
theorem dl_186 : decode code 186 = .ok (.aload_n 0, 1) := by decide +kernel
theorem dl_187 : decode code 187 = .ok (.iload_n 3, 1) := by decide +kernel
theorem dl_188 : decode code 188 = .ok (.iconst 2, 1) := by decide +kernel
theorem dl_189 : decode code 189 = .ok (.iadd, 1) := by decide +kernel
theorem dl_190 : decode code 190 = .ok (.iaload, 1) := by decide +kernel
theorem dl_191 : decode code 191 = .ok (.invokevirtual 26, 3) := by decide +kernel
theorem dl_194 : decode code 194 = .ok (.if_icmp .eq 494, 3) := by decide +kernel
theorem dl_197 : decode code 197 = .ok (.iconst 0, 1) := by decide +kernel
theorem dl_198 : decode code 198 = .ok (.ireturn, 1) := by decide +kernel
theorem dl_199 : decode code 199 = .ok (.aload_n 1, 1) := by decide +kernel
theorem dl_200 : decode code 200 = .ok (.aload_n 0, 1) := by decide +kernel
theorem dl_201 : decode code 201 = .ok (.iload_n 3, 1) := by decide +kernel
theorem dl_202 : decode code 202 = .ok (.iconst 1, 1) := by decide +kernel
theorem dl_203 : decode code 203 = .ok (.iadd, 1) := by decide +kernel
theorem dl_204 : decode code 204 = .ok (.iaload, 1) := by decide +kernel
theorem dl_205 : decode code 205 = .ok (.aload_n 0, 1) := by decide +kernel
theorem dl_206 : decode code 206 = .ok (.iload_n 3, 1) := by decide +kernel
theorem dl_207 : decode code 207 = .ok (.iconst 2, 1) := by decide +kernel
theorem dl_208 : decode code 208 = .ok (.iadd, 1) := by decide +kernel
theorem dl_209 : decode code 209 = .ok (.iaload, 1) := by decide +kernel
theorem dl_210 : decode code 210 = .ok (.aload_n 0, 1) := by decide +kernel
theorem dl_211 : decode code 211 = .ok (.iload_n 3, 1) := by decide +kernel
theorem dl_212 : decode code 212 = .ok (.iconst 3, 1) := by decide +kernel
theorem dl_213 : decode code 213 = .ok (.iadd, 1) := by decide +kernel
theorem dl_214 : decode code 214 = .ok (.iaload, 1) := by decide +kernel
theorem dl_215 : decode code 215 = .ok (.aload_n 0, 1) := by decide +kernel
theorem dl_216 : decode code 216 = .ok (.iload_n 3, 1) := by decide +kernel
theorem dl_217 : decode code 217 = .ok (.iconst 4, 1) := by decide +kernel
theorem dl_218 : decode code 218 = .ok (.iadd, 1) := by decide +kernel
theorem dl_219 : decode code 219 = .ok (.iaload, 1) := by decide +kernel
theorem dl_220 : decode code 220 = .ok (.aload_n 0, 1) := by decide +kernel
theorem dl_221 : decode code 221 = .ok (.iload_n 3, 1) := by decide +kernel
theorem dl_222 : decode code 222 = .ok (.iconst 5, 1) := by decide +kernel
theorem dl_223 : decode code 223 = .ok (.iadd, 1) := by decide +kernel
theorem dl_224 : decode code 224 = .ok (.iaload, 1) := by decide +kernel
theorem dl_225 : decode code 225 = .ok (.aload_n 0, 1) := by decide +kernel
theorem dl_226 : decode code 226 = .ok (.iload_n 3, 1) := by decide +kernel
theorem dl_227 : decode code 227 = .ok (.bipush 6, 2) := by decide +kernel
theorem dl_229 : decode code 229 = .ok (.iadd, 1) := by decide +kernel
theorem dl_230 : decode code 230 = .ok (.iaload, 1) := by decide +kernel
theorem dl_231 : decode code 231 = .ok (.aload_n 0, 1) := by decide +kernel
theorem dl_232 : decode code 232 = .ok (.iload_n 3, 1) := by decide +kernel
theorem dl_233 : decode code 233 = .ok (.bipush 7, 2) := by decide +kernel
theorem dl_235 : decode code 235 = .ok (.iadd, 1) := by decide +kernel
theorem dl_236 : decode code 236 = .ok (.iaload, 1) := by decide +kernel
theorem dl_237 : decode code 237 = .ok (.invokevirtual 27, 3) := by decide +kernel
theorem dl_240 : decode code 240 = .ok (.aload_n 2, 1) := by decide +kernel
theorem dl_241 : decode code 241 = .ok (.aload_n 0, 1) := by decide +kernel
theorem dl_242 : decode code 242 = .ok (.iload_n 3, 1) := by decide +kernel
theorem dl_243 : decode code 243 = .ok (.iconst 1, 1) := by decide +kernel
theorem dl_244 : decode code 244 = .ok (.iadd, 1) := by decide +kernel
theorem dl_245 : decode code 245 = .ok (.iaload, 1) := by decide +kernel
theorem dl_246 : decode code 246 = .ok (.aload_n 0, 1) := by decide +kernel
theorem dl_247 : decode code 247 = .ok (.iload_n 3, 1) := by decide +kernel
theorem dl_248 : decode code 248 = .ok (.iconst 2, 1) := by decide +kernel
theorem dl_249 : decode code 249 = .ok (.iadd, 1) := by decide +kernel
theorem dl_250 : decode code 250 = .ok (.iaload, 1) := by decide +kernel
theorem dl_251 : decode code 251 = .ok (.aload_n 0, 1) := by decide +kernel
theorem dl_252 : decode code 252 = .ok (.iload_n 3, 1) := by decide +kernel
theorem dl_253 : decode code 253 = .ok (.iconst 3, 1) := by decide +kernel
theorem dl_254 : decode code 254 = .ok (.iadd, 1) := by decide +kernel
theorem dl_255 : decode code 255 = .ok (.iaload, 1) := by decide +kernel
theorem dl_256 : decode code 256 = .ok (.aload_n 0, 1) := by decide +kernel
theorem dl_257 : decode code 257 = .ok (.iload_n 3, 1) := by decide +kernel
theorem dl_258 : decode code 258 = .ok (.iconst 4, 1) := by decide +kernel
theorem dl_259 : decode code 259 = .ok (.iadd, 1) := by decide +kernel
theorem dl_260 : decode code 260 = .ok (.iaload, 1) := by decide +kernel
theorem dl_261 : decode code 261 = .ok (.aload_n 0, 1) := by decide +kernel
theorem dl_262 : decode code 262 = .ok (.iload_n 3, 1) := by decide +kernel
theorem dl_263 : decode code 263 = .ok (.iconst 5, 1) := by decide +kernel
theorem dl_264 : decode code 264 = .ok (.iadd, 1) := by decide +kernel
theorem dl_265 : decode code 265 = .ok (.iaload, 1) := by decide +kernel
theorem dl_266 : decode code 266 = .ok (.aload_n 0, 1) := by decide +kernel
theorem dl_267 : decode code 267 = .ok (.iload_n 3, 1) := by decide +kernel
theorem dl_268 : decode code 268 = .ok (.bipush 6, 2) := by decide +kernel
theorem dl_270 : decode code 270 = .ok (.iadd, 1) := by decide +kernel
theorem dl_271 : decode code 271 = .ok (.iaload, 1) := by decide +kernel
theorem dl_272 : decode code 272 = .ok (.aload_n 0, 1) := by decide +kernel
theorem dl_273 : decode code 273 = .ok (.iload_n 3, 1) := by decide +kernel
theorem dl_274 : decode code 274 = .ok (.bipush 7, 2) := by decide +kernel
theorem dl_276 : decode code 276 = .ok (.iadd, 1) := by decide +kernel
theorem dl_277 : decode code 277 = .ok (.iaload, 1) := by decide +kernel
theorem dl_278 : decode code 278 = .ok (.invokevirtual 31, 3) := by decide +kernel
theorem dl_281 : decode code 281 = .ok (.if_icmp .eq 407, 3) := by decide +kernel
theorem dl_284 : decode code 284 = .ok (.iconst 0, 1) := by decide +kernel
theorem dl_285 : decode code 285 = .ok (.ireturn, 1) := by decide +kernel
theorem dl_286 : decode code 286 = .ok (.aload_n 1, 1) := by decide +kernel
theorem dl_287 : decode code 287 = .ok (.aload_n 0, 1) := by decide +kernel
theorem dl_288 : decode code 288 = .ok (.iload_n 3, 1) := by decide +kernel
theorem dl_289 : decode code 289 = .ok (.iconst 1, 1) := by decide +kernel
theorem dl_290 : decode code 290 = .ok (.iadd, 1) := by decide +kernel
theorem dl_291 : decode code 291 = .ok (.iaload, 1) := by decide +kernel
theorem dl_292 : decode code 292 = .ok (.invokevirtual 32, 3) := by decide +kernel
theorem dl_295 : decode code 295 = .ok (.aload_n 2, 1) := by decide +kernel
theorem dl_296 : decode code 296 = .ok (.aload_n 0, 1) := by decide +kernel
theorem dl_297 : decode code 297 = .ok (.iload_n 3, 1) := by decide +kernel
theorem dl_298 : decode code 298 = .ok (.iconst 1, 1) := by decide +kernel
theorem dl_299 : decode code 299 = .ok (.iadd, 1) := by decide +kernel
theorem dl_300 : decode code 300 = .ok (.iaload, 1) := by decide +kernel
theorem dl_301 : decode code 301 = .ok (.invokevirtual 35, 3) := by decide +kernel
theorem dl_304 : decode code 304 = .ok (.if_icmp .eq 384, 3) := by decide +kernel
theorem dl_307 : decode code 307 = .ok (.iconst 0, 1) := by decide +kernel
theorem dl_308 : decode code 308 = .ok (.ireturn, 1) := by decide +kernel
theorem dl_309 : decode code 309 = .ok (.aload_n 1, 1) := by decide +kernel
theorem dl_310 : decode code 310 = .ok (.invokevirtual 36, 3) := by decide +kernel
theorem dl_313 : decode code 313 = .ok (.aload_n 2, 1) := by decide +kernel
theorem dl_314 : decode code 314 = .ok (.invokevirtual 40, 3) := by decide +kernel
theorem dl_317 : decode code 317 = .ok (.if_icmp .eq 371, 3) := by decide +kernel
theorem dl_320 : decode code 320 = .ok (.iconst 0, 1) := by decide +kernel
theorem dl_321 : decode code 321 = .ok (.ireturn, 1) := by decide +kernel
theorem dl_322 : decode code 322 = .ok (.aload_n 1, 1) := by decide +kernel
theorem dl_323 : decode code 323 = .ok (.aload_n 0, 1) := by decide +kernel
theorem dl_324 : decode code 324 = .ok (.iload_n 3, 1) := by decide +kernel
theorem dl_325 : decode code 325 = .ok (.iconst 1, 1) := by decide +kernel
theorem dl_326 : decode code 326 = .ok (.iadd, 1) := by decide +kernel
theorem dl_327 : decode code 327 = .ok (.iaload, 1) := by decide +kernel
theorem dl_328 : decode code 328 = .ok (.aload_n 0, 1) := by decide +kernel
theorem dl_329 : decode code 329 = .ok (.iload_n 3, 1) := by decide +kernel
theorem dl_330 : decode code 330 = .ok (.iconst 2, 1) := by decide +kernel
theorem dl_331 : decode code 331 = .ok (.iadd, 1) := by decide +kernel
theorem dl_332 : decode code 332 = .ok (.iaload, 1) := by decide +kernel
theorem dl_333 : decode code 333 = .ok (.aload_n 0, 1) := by decide +kernel
theorem dl_334 : decode code 334 = .ok (.iload_n 3, 1) := by decide +kernel
theorem dl_335 : decode code 335 = .ok (.iconst 3, 1) := by decide +kernel
theorem dl_336 : decode code 336 = .ok (.iadd, 1) := by decide +kernel
theorem dl_337 : decode code 337 = .ok (.iaload, 1) := by decide +kernel
theorem dl_338 : decode code 338 = .ok (.invokevirtual 41, 3) := by decide +kernel
theorem dl_341 : decode code 341 = .ok (.aload_n 2, 1) := by decide +kernel
theorem dl_342 : decode code 342 = .ok (.aload_n 0, 1) := by decide +kernel
theorem dl_343 : decode code 343 = .ok (.iload_n 3, 1) := by decide +kernel
theorem dl_344 : decode code 344 = .ok (.iconst 1, 1) := by decide +kernel
theorem dl_345 : decode code 345 = .ok (.iadd, 1) := by decide +kernel
theorem dl_346 : decode code 346 = .ok (.iaload, 1) := by decide +kernel
theorem dl_347 : decode code 347 = .ok (.aload_n 0, 1) := by decide +kernel
theorem dl_348 : decode code 348 = .ok (.iload_n 3, 1) := by decide +kernel
theorem dl_349 : decode code 349 = .ok (.iconst 2, 1) := by decide +kernel
theorem dl_350 : decode code 350 = .ok (.iadd, 1) := by decide +kernel
theorem dl_351 : decode code 351 = .ok (.iaload, 1) := by decide +kernel
theorem dl_352 : decode code 352 = .ok (.aload_n 0, 1) := by decide +kernel
theorem dl_353 : decode code 353 = .ok (.iload_n 3, 1) := by decide +kernel
theorem dl_354 : decode code 354 = .ok (.iconst 3, 1) := by decide +kernel
theorem dl_355 : decode code 355 = .ok (.iadd, 1) := by decide +kernel
theorem dl_356 : decode code 356 = .ok (.iaload, 1) := by decide +kernel
theorem dl_357 : decode code 357 = .ok (.invokevirtual 45, 3) := by decide +kernel
theorem dl_360 : decode code 360 = .ok (.if_icmp .eq 328, 3) := by decide +kernel
theorem dl_363 : decode code 363 = .ok (.iconst 0, 1) := by decide +kernel
theorem dl_364 : decode code 364 = .ok (.ireturn, 1) := by decide +kernel
theorem dl_365 : decode code 365 = .ok (.aload_n 1, 1) := by decide +kernel
theorem dl_366 : decode code 366 = .ok (.aload_n 0, 1) := by decide +kernel
theorem dl_367 : decode code 367 = .ok (.iload_n 3, 1) := by decide +kernel
theorem dl_368 : decode code 368 = .ok (.iconst 1, 1) := by decide +kernel
theorem dl_369 : decode code 369 = .ok (.iadd, 1) := by decide +kernel
theorem dl_370 : decode code 370 = .ok (.iaload, 1) := by decide +kernel
theorem dl_371 : decode code 371 = .ok (.aload_n 0, 1) := by decide +kernel
theorem dl_372 : decode code 372 = .ok (.iload_n 3, 1) := by decide +kernel
theorem dl_373 : decode code 373 = .ok (.iconst 2, 1) := by decide +kernel
theorem dl_374 : decode code 374 = .ok (.iadd, 1) := by decide +kernel
theorem dl_375 : decode code 375 = .ok (.iaload, 1) := by decide +kernel
theorem dl_376 : decode code 376 = .ok (.invokevirtual 46, 3) := by decide +kernel
theorem dl_379 : decode code 379 = .ok (.aload_n 2, 1) := by decide +kernel
theorem dl_380 : decode code 380 = .ok (.aload_n 0, 1) := by decide +kernel
theorem dl_381 : decode code 381 = .ok (.iload_n 3, 1) := by decide +kernel
theorem dl_382 : decode code 382 = .ok (.iconst 1, 1) := by decide +kernel
theorem dl_383 : decode code 383 = .ok (.iadd, 1) := by decide +kernel
theorem dl_384 : decode code 384 = .ok (.iaload, 1) := by decide +kernel
theorem dl_385 : decode code 385 = .ok (.aload_n 0, 1) := by decide +kernel
theorem dl_386 : decode code 386 = .ok (.iload_n 3, 1) := by decide +kernel
theorem dl_387 : decode code 387 = .ok (.iconst 2, 1) := by decide +kernel
theorem dl_388 : decode code 388 = .ok (.iadd, 1) := by decide +kernel
theorem dl_389 : decode code 389 = .ok (.iaload, 1) := by decide +kernel
theorem dl_390 : decode code 390 = .ok (.invokevirtual 49, 3) := by decide +kernel
theorem dl_393 : decode code 393 = .ok (.if_icmp .eq 295, 3) := by decide +kernel
theorem dl_396 : decode code 396 = .ok (.iconst 0, 1) := by decide +kernel
theorem dl_397 : decode code 397 = .ok (.ireturn, 1) := by decide +kernel
theorem dl_398 : decode code 398 = .ok (.aload_n 1, 1) := by decide +kernel
theorem dl_399 : decode code 399 = .ok (.aload_n 0, 1) := by decide +kernel
theorem dl_400 : decode code 400 = .ok (.iload_n 3, 1) := by decide +kernel
theorem dl_401 : decode code 401 = .ok (.iconst 1, 1) := by decide +kernel
theorem dl_402 : decode code 402 = .ok (.iadd, 1) := by decide +kernel
theorem dl_403 : decode code 403 = .ok (.iaload, 1) := by decide +kernel
theorem dl_404 : decode code 404 = .ok (.invokevirtual 50, 3) := by decide +kernel
theorem dl_407 : decode code 407 = .ok (.aload_n 2, 1) := by decide +kernel
theorem dl_408 : decode code 408 = .ok (.aload_n 0, 1) := by decide +kernel
theorem dl_409 : decode code 409 = .ok (.iload_n 3, 1) := by decide +kernel
theorem dl_410 : decode code 410 = .ok (.iconst 1, 1) := by decide +kernel
theorem dl_411 : decode code 411 = .ok (.iadd, 1) := by decide +kernel
theorem dl_412 : decode code 412 = .ok (.iaload, 1) := by decide +kernel
theorem dl_413 : decode code 413 = .ok (.invokevirtual 53, 3) := by decide +kernel
theorem dl_416 : decode code 416 = .ok (.if_icmp .eq 272, 3) := by decide +kernel
theorem dl_419 : decode code 419 = .ok (.iconst 0, 1) := by decide +kernel
theorem dl_420 : decode code 420 = .ok (.ireturn, 1) := by decide +kernel
theorem dl_421 : decode code 421 = .ok (.aload_n 1, 1) := by decide +kernel
theorem dl_422 : decode code 422 = .ok (.aload_n 0, 1) := by decide +kernel
theorem dl_423 : decode code 423 = .ok (.iload_n 3, 1) := by decide +kernel
theorem dl_424 : decode code 424 = .ok (.iconst 1, 1) := by decide +kernel
theorem dl_425 : decode code 425 = .ok (.iadd, 1) := by decide +kernel
theorem dl_426 : decode code 426 = .ok (.iaload, 1) := by decide +kernel
theorem dl_427 : decode code 427 = .ok (.invokevirtual 54, 3) := by decide +kernel
theorem dl_430 : decode code 430 = .ok (.aload_n 2, 1) := by decide +kernel
theorem dl_431 : decode code 431 = .ok (.aload_n 0, 1) := by decide +kernel
theorem dl_432 : decode code 432 = .ok (.iload_n 3, 1) := by decide +kernel
theorem dl_433 : decode code 433 = .ok (.iconst 1, 1) := by decide +kernel
theorem dl_434 : decode code 434 = .ok (.iadd, 1) := by decide +kernel
theorem dl_435 : decode code 435 = .ok (.iaload, 1) := by decide +kernel
theorem dl_436 : decode code 436 = .ok (.invokevirtual 57, 3) := by decide +kernel
theorem dl_439 : decode code 439 = .ok (.if_icmp .eq 249, 3) := by decide +kernel
theorem dl_442 : decode code 442 = .ok (.iconst 0, 1) := by decide +kernel
theorem dl_443 : decode code 443 = .ok (.ireturn, 1) := by decide +kernel
theorem dl_444 : decode code 444 = .ok (.aload_n 1, 1) := by decide +kernel
theorem dl_445 : decode code 445 = .ok (.aload_n 0, 1) := by decide +kernel
theorem dl_446 : decode code 446 = .ok (.iload_n 3, 1) := by decide +kernel
theorem dl_447 : decode code 447 = .ok (.iconst 1, 1) := by decide +kernel
theorem dl_448 : decode code 448 = .ok (.iadd, 1) := by decide +kernel
theorem dl_449 : decode code 449 = .ok (.iaload, 1) := by decide +kernel
theorem dl_450 : decode code 450 = .ok (.invokevirtual 58, 3) := by decide +kernel
theorem dl_453 : decode code 453 = .ok (.aload_n 2, 1) := by decide +kernel
theorem dl_454 : decode code 454 = .ok (.aload_n 0, 1) := by decide +kernel
theorem dl_455 : decode code 455 = .ok (.iload_n 3, 1) := by decide +kernel
theorem dl_456 : decode code 456 = .ok (.iconst 1, 1) := by decide +kernel
theorem dl_457 : decode code 457 = .ok (.iadd, 1) := by decide +kernel
theorem dl_458 : decode code 458 = .ok (.iaload, 1) := by decide +kernel
theorem dl_459 : decode code 459 = .ok (.invokevirtual 61, 3) := by decide +kernel
theorem dl_462 : decode code 462 = .ok (.if_icmp .eq 226, 3) := by decide +kernel
theorem dl_465 : decode code 465 = .ok (.iconst 0, 1) := by decide +kernel
theorem dl_466 : decode code 466 = .ok (.ireturn, 1) := by decide +kernel
theorem dl_467 : decode code 467 = .ok (.aload_n 1, 1) := by decide +kernel
theorem dl_468 : decode code 468 = .ok (.aload_n 0, 1) := by decide +kernel
theorem dl_469 : decode code 469 = .ok (.iload_n 3, 1) := by decide +kernel
theorem dl_470 : decode code 470 = .ok (.iconst 1, 1) := by decide +kernel
theorem dl_471 : decode code 471 = .ok (.iadd, 1) := by decide +kernel
theorem dl_472 : decode code 472 = .ok (.iaload, 1) := by decide +kernel
theorem dl_473 : decode code 473 = .ok (.invokevirtual 62, 3) := by decide +kernel
theorem dl_476 : decode code 476 = .ok (.aload_n 2, 1) := by decide +kernel
theorem dl_477 : decode code 477 = .ok (.aload_n 0, 1) := by decide +kernel
theorem dl_478 : decode code 478 = .ok (.iload_n 3, 1) := by decide +kernel
theorem dl_479 : decode code 479 = .ok (.iconst 1, 1) := by decide +kernel
theorem dl_480 : decode code 480 = .ok (.iadd, 1) := by decide +kernel
theorem dl_481 : decode code 481 = .ok (.iaload, 1) := by decide +kernel
theorem dl_482 : decode code 482 = .ok (.invokevirtual 65, 3) := by decide +kernel
theorem dl_485 : decode code 485 = .ok (.if_icmp .eq 203, 3) := by decide +kernel
theorem dl_488 : decode code 488 = .ok (.iconst 0, 1) := by decide +kernel
theorem dl_489 : decode code 489 = .ok (.ireturn, 1) := by decide +kernel
theorem dl_490 : decode code 490 = .ok (.aload_n 1, 1) := by decide +kernel
theorem dl_491 : decode code 491 = .ok (.aload_n 0, 1) := by decide +kernel
theorem dl_492 : decode code 492 = .ok (.iload_n 3, 1) := by decide +kernel
theorem dl_493 : decode code 493 = .ok (.iconst 1, 1) := by decide +kernel
theorem dl_494 : decode code 494 = .ok (.iadd, 1) := by decide +kernel
theorem dl_495 : decode code 495 = .ok (.iaload, 1) := by decide +kernel
theorem dl_496 : decode code 496 = .ok (.aload_n 0, 1) := by decide +kernel
theorem dl_497 : decode code 497 = .ok (.iload_n 3, 1) := by decide +kernel
theorem dl_498 : decode code 498 = .ok (.iconst 2, 1) := by decide +kernel
theorem dl_499 : decode code 499 = .ok (.iadd, 1) := by decide +kernel
theorem dl_500 : decode code 500 = .ok (.iaload, 1) := by decide +kernel
theorem dl_501 : decode code 501 = .ok (.aload_n 0, 1) := by decide +kernel
theorem dl_502 : decode code 502 = .ok (.iload_n 3, 1) := by decide +kernel
theorem dl_503 : decode code 503 = .ok (.iconst 3, 1) := by decide +kernel
theorem dl_504 : decode code 504 = .ok (.iadd, 1) := by decide +kernel
theorem dl_505 : decode code 505 = .ok (.iaload, 1) := by decide +kernel
theorem dl_506 : decode code 506 = .ok (.aload_n 0, 1) := by decide +kernel
theorem dl_507 : decode code 507 = .ok (.iload_n 3, 1) := by decide +kernel
theorem dl_508 : decode code 508 = .ok (.iconst 4, 1) := by decide +kernel
theorem dl_509 : decode code 509 = .ok (.iadd, 1) := by decide +kernel
theorem dl_510 : decode code 510 = .ok (.iaload, 1) := by decide +kernel
theorem dl_511 : decode code 511 = .ok (.invokevirtual 66, 3) := by decide +kernel
theorem dl_514 : decode code 514 = .ok (.aload_n 2, 1) := by decide +kernel
theorem dl_515 : decode code 515 = .ok (.aload_n 0, 1) := by decide +kernel
theorem dl_516 : decode code 516 = .ok (.iload_n 3, 1) := by decide +kernel
theorem dl_517 : decode code 517 = .ok (.iconst 1, 1) := by decide +kernel
theorem dl_518 : decode code 518 = .ok (.iadd, 1) := by decide +kernel
theorem dl_519 : decode code 519 = .ok (.iaload, 1) := by decide +kernel
theorem dl_520 : decode code 520 = .ok (.aload_n 0, 1) := by decide +kernel
theorem dl_521 : decode code 521 = .ok (.iload_n 3, 1) := by decide +kernel
theorem dl_522 : decode code 522 = .ok (.iconst 2, 1) := by decide +kernel
theorem dl_523 : decode code 523 = .ok (.iadd, 1) := by decide +kernel
theorem dl_524 : decode code 524 = .ok (.iaload, 1) := by decide +kernel
theorem dl_525 : decode code 525 = .ok (.aload_n 0, 1) := by decide +kernel
theorem dl_526 : decode code 526 = .ok (.iload_n 3, 1) := by decide +kernel
theorem dl_527 : decode code 527 = .ok (.iconst 3, 1) := by decide +kernel
theorem dl_528 : decode code 528 = .ok (.iadd, 1) := by decide +kernel
theorem dl_529 : decode code 529 = .ok (.iaload, 1) := by decide +kernel
theorem dl_530 : decode code 530 = .ok (.aload_n 0, 1) := by decide +kernel
theorem dl_531 : decode code 531 = .ok (.iload_n 3, 1) := by decide +kernel
theorem dl_532 : decode code 532 = .ok (.iconst 4, 1) := by decide +kernel
theorem dl_533 : decode code 533 = .ok (.iadd, 1) := by decide +kernel
theorem dl_534 : decode code 534 = .ok (.iaload, 1) := by decide +kernel
theorem dl_535 : decode code 535 = .ok (.invokevirtual 70, 3) := by decide +kernel
theorem dl_538 : decode code 538 = .ok (.if_icmp .eq 150, 3) := by decide +kernel
theorem dl_541 : decode code 541 = .ok (.iconst 0, 1) := by decide +kernel
theorem dl_542 : decode code 542 = .ok (.ireturn, 1) := by decide +kernel
theorem dl_543 : decode code 543 = .ok (.aload_n 1, 1) := by decide +kernel
theorem dl_544 : decode code 544 = .ok (.invokevirtual 71, 3) := by decide +kernel
theorem dl_547 : decode code 547 = .ok (.aload_n 2, 1) := by decide +kernel
theorem dl_548 : decode code 548 = .ok (.invokevirtual 74, 3) := by decide +kernel
theorem dl_551 : decode code 551 = .ok (.if_icmp .eq 137, 3) := by decide +kernel
theorem dl_554 : decode code 554 = .ok (.iconst 0, 1) := by decide +kernel
theorem dl_555 : decode code 555 = .ok (.ireturn, 1) := by decide +kernel
theorem dl_556 : decode code 556 = .ok (.aload_n 1, 1) := by decide +kernel
theorem dl_557 : decode code 557 = .ok (.aload_n 0, 1) := by decide +kernel
theorem dl_558 : decode code 558 = .ok (.iload_n 3, 1) := by decide +kernel
theorem dl_559 : decode code 559 = .ok (.iconst 1, 1) := by decide +kernel
theorem dl_560 : decode code 560 = .ok (.iadd, 1) := by decide +kernel
theorem dl_561 : decode code 561 = .ok (.iaload, 1) := by decide +kernel
theorem dl_562 : decode code 562 = .ok (.aload_n 0, 1) := by decide +kernel
theorem dl_563 : decode code 563 = .ok (.iload_n 3, 1) := by decide +kernel
theorem dl_564 : decode code 564 = .ok (.iconst 2, 1) := by decide +kernel
theorem dl_565 : decode code 565 = .ok (.iadd, 1) := by decide +kernel
theorem dl_566 : decode code 566 = .ok (.iaload, 1) := by decide +kernel
theorem dl_567 : decode code 567 = .ok (.aload_n 0, 1) := by decide +kernel
theorem dl_568 : decode code 568 = .ok (.iload_n 3, 1) := by decide +kernel
theorem dl_569 : decode code 569 = .ok (.iconst 3, 1) := by decide +kernel
theorem dl_570 : decode code 570 = .ok (.iadd, 1) := by decide +kernel
theorem dl_571 : decode code 571 = .ok (.iaload, 1) := by decide +kernel
theorem dl_572 : decode code 572 = .ok (.invokevirtual 75, 3) := by decide +kernel
theorem dl_575 : decode code 575 = .ok (.aload_n 2, 1) := by decide +kernel
theorem dl_576 : decode code 576 = .ok (.aload_n 0, 1) := by decide +kernel
theorem dl_577 : decode code 577 = .ok (.iload_n 3, 1) := by decide +kernel
theorem dl_578 : decode code 578 = .ok (.iconst 1, 1) := by decide +kernel
theorem dl_579 : decode code 579 = .ok (.iadd, 1) := by decide +kernel
theorem dl_580 : decode code 580 = .ok (.iaload, 1) := by decide +kernel
theorem dl_581 : decode code 581 = .ok (.aload_n 0, 1) := by decide +kernel
theorem dl_582 : decode code 582 = .ok (.iload_n 3, 1) := by decide +kernel
theorem dl_583 : decode code 583 = .ok (.iconst 2, 1) := by decide +kernel
theorem dl_584 : decode code 584 = .ok (.iadd, 1) := by decide +kernel
theorem dl_585 : decode code 585 = .ok (.iaload, 1) := by decide +kernel
theorem dl_586 : decode code 586 = .ok (.aload_n 0, 1) := by decide +kernel
theorem dl_587 : decode code 587 = .ok (.iload_n 3, 1) := by decide +kernel
theorem dl_588 : decode code 588 = .ok (.iconst 3, 1) := by decide +kernel
theorem dl_589 : decode code 589 = .ok (.iadd, 1) := by decide +kernel
theorem dl_590 : decode code 590 = .ok (.iaload, 1) := by decide +kernel
theorem dl_591 : decode code 591 = .ok (.invokevirtual 78, 3) := by decide +kernel
theorem dl_594 : decode code 594 = .ok (.if_icmp .eq 94, 3) := by decide +kernel
theorem dl_597 : decode code 597 = .ok (.iconst 0, 1) := by decide +kernel
theorem dl_598 : decode code 598 = .ok (.ireturn, 1) := by decide +kernel
theorem dl_599 : decode code 599 = .ok (.aload_n 1, 1) := by decide +kernel
theorem dl_600 : decode code 600 = .ok (.aload_n 0, 1) := by decide +kernel
theorem dl_601 : decode code 601 = .ok (.iload_n 3, 1) := by decide +kernel
theorem dl_602 : decode code 602 = .ok (.iconst 1, 1) := by decide +kernel
theorem dl_603 : decode code 603 = .ok (.iadd, 1) := by decide +kernel
theorem dl_604 : decode code 604 = .ok (.iaload, 1) := by decide +kernel
theorem dl_605 : decode code 605 = .ok (.aload_n 0, 1) := by decide +kernel
theorem dl_606 : decode code 606 = .ok (.iload_n 3, 1) := by decide +kernel
theorem dl_607 : decode code 607 = .ok (.iconst 2, 1) := by decide +kernel
theorem dl_608 : decode code 608 = .ok (.iadd, 1) := by decide +kernel
theorem dl_609 : decode code 609 = .ok (.iaload, 1) := by decide +kernel
theorem dl_610 : decode code 610 = .ok (.invokevirtual 79, 3) := by decide +kernel
theorem dl_613 : decode code 613 = .ok (.aload_n 2, 1) := by decide +kernel
theorem dl_614 : decode code 614 = .ok (.aload_n 0, 1) := by decide +kernel
theorem dl_615 : decode code 615 = .ok (.iload_n 3, 1) := by decide +kernel
theorem dl_616 : decode code 616 = .ok (.iconst 1, 1) := by decide +kernel
theorem dl_617 : decode code 617 = .ok (.iadd, 1) := by decide +kernel
theorem dl_618 : decode code 618 = .ok (.iaload, 1) := by decide +kernel
theorem dl_619 : decode code 619 = .ok (.aload_n 0, 1) := by decide +kernel
theorem dl_620 : decode code 620 = .ok (.iload_n 3, 1) := by decide +kernel
theorem dl_621 : decode code 621 = .ok (.iconst 2, 1) := by decide +kernel
theorem dl_622 : decode code 622 = .ok (.iadd, 1) := by decide +kernel
theorem dl_623 : decode code 623 = .ok (.iaload, 1) := by decide +kernel
theorem dl_624 : decode code 624 = .ok (.invokevirtual 82, 3) := by decide +kernel
theorem dl_627 : decode code 627 = .ok (.if_icmp .eq 61, 3) := by decide +kernel
theorem dl_630 : decode code 630 = .ok (.iconst 0, 1) := by decide +kernel
theorem dl_631 : decode code 631 = .ok (.ireturn, 1) := by decide +kernel
theorem dl_632 : decode code 632 = .ok (.aload_n 1, 1) := by decide +kernel
theorem dl_633 : decode code 633 = .ok (.aload_n 0, 1) := by decide +kernel
theorem dl_634 : decode code 634 = .ok (.iload_n 3, 1) := by decide +kernel
theorem dl_635 : decode code 635 = .ok (.iconst 1, 1) := by decide +kernel
theorem dl_636 : decode code 636 = .ok (.iadd, 1) := by decide +kernel
theorem dl_637 : decode code 637 = .ok (.iaload, 1) := by decide +kernel
theorem dl_638 : decode code 638 = .ok (.aload_n 0, 1) := by decide +kernel
theorem dl_639 : decode code 639 = .ok (.iload_n 3, 1) := by decide +kernel
theorem dl_640 : decode code 640 = .ok (.iconst 2, 1) := by decide +kernel
theorem dl_641 : decode code 641 = .ok (.iadd, 1) := by decide +kernel
theorem dl_642 : decode code 642 = .ok (.iaload, 1) := by decide +kernel
theorem dl_643 : decode code 643 = .ok (.invokevirtual 83, 3) := by decide +kernel
theorem dl_646 : decode code 646 = .ok (.aload_n 2, 1) := by decide +kernel
theorem dl_647 : decode code 647 = .ok (.aload_n 0, 1) := by decide +kernel
theorem dl_648 : decode code 648 = .ok (.iload_n 3, 1) := by decide +kernel
theorem dl_649 : decode code 649 = .ok (.iconst 1, 1) := by decide +kernel
theorem dl_650 : decode code 650 = .ok (.iadd, 1) := by decide +kernel
theorem dl_651 : decode code 651 = .ok (.iaload, 1) := by decide +kernel
theorem dl_652 : decode code 652 = .ok (.aload_n 0, 1) := by decide +kernel
theorem dl_653 : decode code 653 = .ok (.iload_n 3, 1) := by decide +kernel
theorem dl_654 : decode code 654 = .ok (.iconst 2, 1) := by decide +kernel
theorem dl_655 : decode code 655 = .ok (.iadd, 1) := by decide +kernel
theorem dl_656 : decode code 656 = .ok (.iaload, 1) := by decide +kernel
theorem dl_657 : decode code 657 = .ok (.invokevirtual 86, 3) := by decide +kernel
theorem dl_660 : decode code 660 = .ok (.if_icmp .eq 28, 3) := by decide +kernel
theorem dl_663 : decode code 663 = .ok (.iconst 0, 1) := by decide +kernel
theorem dl_664 : decode code 664 = .ok (.ireturn, 1) := by decide +kernel
theorem dl_665 : decode code 665 = .ok (.aload_n 1, 1) := by decide +kernel
theorem dl_666 : decode code 666 = .ok (.aload_n 0, 1) := by decide +kernel
theorem dl_667 : decode code 667 = .ok (.iload_n 3, 1) := by decide +kernel
theorem dl_668 : decode code 668 = .ok (.iconst 1, 1) := by decide +kernel
theorem dl_669 : decode code 669 = .ok (.iadd, 1) := by decide +kernel
theorem dl_670 : decode code 670 = .ok (.iaload, 1) := by decide +kernel
theorem dl_671 : decode code 671 = .ok (.invokevirtual 87, 3) := by decide +kernel
theorem dl_674 : decode code 674 = .ok (.aload_n 2, 1) := by decide +kernel
theorem dl_675 : decode code 675 = .ok (.aload_n 0, 1) := by decide +kernel
theorem dl_676 : decode code 676 = .ok (.iload_n 3, 1) := by decide +kernel
theorem dl_677 : decode code 677 = .ok (.iconst 1, 1) := by decide +kernel
theorem dl_678 : decode code 678 = .ok (.iadd, 1) := by decide +kernel
theorem dl_679 : decode code 679 = .ok (.iaload, 1) := by decide +kernel
theorem dl_680 : decode code 680 = .ok (.invokevirtual 90, 3) := by decide +kernel
theorem dl_683 : decode code 683 = .ok (.if_icmp .eq 5, 3) := by decide +kernel
theorem dl_686 : decode code 686 = .ok (.iconst 0, 1) := by decide +kernel
theorem dl_687 : decode code 687 = .ok (.ireturn, 1) := by decide +kernel
theorem dl_688 : decode code 688 = .ok (.iinc 3 8, 3) := by decide +kernel
theorem dl_691 : decode code 691 = .ok (.goto (-673), 3) := by decide +kernel
theorem dl_694 : decode code 694 = .ok (.iconst 1, 1) := by decide +kernel
theorem dl_695 : decode code 695 = .ok (.ireturn, 1) := by decide +kernel
theorem wc_O_cls : (Jvm.Cond.code ({ cls := "PointsToRounds", name := "cls", desc := "(I)I" } : Jvm.MethodName) prog_1_method_2_code (2 : Nat) (Option.some Jvm.ClassFile.FieldType.int)) ∈ TB := TB1 (List.mem_of_getElem? (i := 238) rfl) rfl
theorem mw_O_cls : m_MW M_O_cls 1 := ⟨wc_O_cls, wi_O, ⟨by decide +kernel, by decide +kernel, by decide +kernel⟩, by decide +kernel⟩
theorem wn_O_cls : (Jvm.Cond.instanceMethod ({ cls := "PointsToRounds", name := "cls", desc := "(I)I" } : Jvm.MethodName)) ∈ TB := TB1 (List.mem_of_getElem? (i := 236) (by decide +kernel)) rfl
theorem wl_O_cls : (Jvm.Cond.selects "PointsToRounds" ({ cls := "PointsToRounds", name := "cls", desc := "(I)I" } : Jvm.MethodName) ({ cls := "PointsToRounds", name := "cls", desc := "(I)I" } : Jvm.MethodName)) ∈ TB := TB1 (List.mem_of_getElem? (i := 237) (by decide +kernel)) rfl
theorem mi_O_cls : m_MI M_O_cls 1 0 := ⟨mw_O_cls, wn_O_cls, wl_O_cls, TO, 3, rfl⟩
theorem wkL_13 : (Jvm.Cond.methodLink "PointsToRoundsLaw" (13 : Nat) ({ cls := "PointsToRounds", name := "cls", desc := "(I)I" } : Jvm.MethodName)) ∈ TB := TB1 (List.mem_of_getElem? (i := 235) (by decide +kernel)) rfl
theorem wc_M_cls : (Jvm.Cond.code ({ cls := "PointsToRoundsModel", name := "cls", desc := "(I)I" } : Jvm.MethodName) prog_7_method_12_code (2 : Nat) (Option.some Jvm.ClassFile.FieldType.int)) ∈ TB := TB3 (List.mem_of_getElem? (i := 222) rfl) rfl
theorem mw_M_cls : m_MW M_M_cls 1 := ⟨wc_M_cls, wi_M, ⟨by decide +kernel, by decide +kernel, by decide +kernel⟩, by decide +kernel⟩
theorem wn_M_cls : (Jvm.Cond.instanceMethod ({ cls := "PointsToRoundsModel", name := "cls", desc := "(I)I" } : Jvm.MethodName)) ∈ TB := TB3 (List.mem_of_getElem? (i := 220) (by decide +kernel)) rfl
theorem wl_M_cls : (Jvm.Cond.selects "PointsToRoundsModel" ({ cls := "PointsToRoundsModel", name := "cls", desc := "(I)I" } : Jvm.MethodName) ({ cls := "PointsToRoundsModel", name := "cls", desc := "(I)I" } : Jvm.MethodName)) ∈ TB := TB3 (List.mem_of_getElem? (i := 221) (by decide +kernel)) rfl
theorem mi_M_cls : m_MI M_M_cls 1 5 := ⟨mw_M_cls, wn_M_cls, wl_M_cls, TM, 44, rfl⟩
theorem wkL_17 : (Jvm.Cond.methodLink "PointsToRoundsLaw" (17 : Nat) ({ cls := "PointsToRoundsModel", name := "cls", desc := "(I)I" } : Jvm.MethodName)) ∈ TB := TB3 (List.mem_of_getElem? (i := 219) (by decide +kernel)) rfl
theorem wc_O_field : (Jvm.Cond.code ({ cls := "PointsToRounds", name := "field", desc := "(I)I" } : Jvm.MethodName) prog_1_method_3_code (2 : Nat) (Option.some Jvm.ClassFile.FieldType.int)) ∈ TB := TB2 (List.mem_of_getElem? (i := 25) rfl) rfl
theorem mw_O_field : m_MW M_O_field 1 := ⟨wc_O_field, wi_O, ⟨by decide +kernel, by decide +kernel, by decide +kernel⟩, by decide +kernel⟩
theorem wn_O_field : (Jvm.Cond.instanceMethod ({ cls := "PointsToRounds", name := "field", desc := "(I)I" } : Jvm.MethodName)) ∈ TB := TB2 (List.mem_of_getElem? (i := 23) (by decide +kernel)) rfl
theorem wl_O_field : (Jvm.Cond.selects "PointsToRounds" ({ cls := "PointsToRounds", name := "field", desc := "(I)I" } : Jvm.MethodName) ({ cls := "PointsToRounds", name := "field", desc := "(I)I" } : Jvm.MethodName)) ∈ TB := TB2 (List.mem_of_getElem? (i := 24) (by decide +kernel)) rfl
theorem mi_O_field : m_MI M_O_field 1 0 := ⟨mw_O_field, wn_O_field, wl_O_field, TO, 3, rfl⟩
theorem wkL_18 : (Jvm.Cond.methodLink "PointsToRoundsLaw" (18 : Nat) ({ cls := "PointsToRounds", name := "field", desc := "(I)I" } : Jvm.MethodName)) ∈ TB := TB2 (List.mem_of_getElem? (i := 22) (by decide +kernel)) rfl
theorem wc_M_field : (Jvm.Cond.code ({ cls := "PointsToRoundsModel", name := "field", desc := "(I)I" } : Jvm.MethodName) prog_7_method_13_code (2 : Nat) (Option.some Jvm.ClassFile.FieldType.int)) ∈ TB := TB3 (List.mem_of_getElem? (i := 234) rfl) rfl
theorem mw_M_field : m_MW M_M_field 1 := ⟨wc_M_field, wi_M, ⟨by decide +kernel, by decide +kernel, by decide +kernel⟩, by decide +kernel⟩
theorem wn_M_field : (Jvm.Cond.instanceMethod ({ cls := "PointsToRoundsModel", name := "field", desc := "(I)I" } : Jvm.MethodName)) ∈ TB := TB3 (List.mem_of_getElem? (i := 232) (by decide +kernel)) rfl
theorem wl_M_field : (Jvm.Cond.selects "PointsToRoundsModel" ({ cls := "PointsToRoundsModel", name := "field", desc := "(I)I" } : Jvm.MethodName) ({ cls := "PointsToRoundsModel", name := "field", desc := "(I)I" } : Jvm.MethodName)) ∈ TB := TB3 (List.mem_of_getElem? (i := 233) (by decide +kernel)) rfl
theorem mi_M_field : m_MI M_M_field 1 5 := ⟨mw_M_field, wn_M_field, wl_M_field, TM, 44, rfl⟩
theorem wkL_21 : (Jvm.Cond.methodLink "PointsToRoundsLaw" (21 : Nat) ({ cls := "PointsToRoundsModel", name := "field", desc := "(I)I" } : Jvm.MethodName)) ∈ TB := TB3 (List.mem_of_getElem? (i := 231) (by decide +kernel)) rfl
theorem wc_O_method : (Jvm.Cond.code ({ cls := "PointsToRounds", name := "method", desc := "(II)I" } : Jvm.MethodName) prog_1_method_4_code (3 : Nat) (Option.some Jvm.ClassFile.FieldType.int)) ∈ TB := TB2 (List.mem_of_getElem? (i := 33) rfl) rfl
theorem mw_O_method : m_MW M_O_method 2 := ⟨wc_O_method, wi_O, ⟨by decide +kernel, by decide +kernel, by decide +kernel⟩, by decide +kernel⟩
theorem wn_O_method : (Jvm.Cond.instanceMethod ({ cls := "PointsToRounds", name := "method", desc := "(II)I" } : Jvm.MethodName)) ∈ TB := TB2 (List.mem_of_getElem? (i := 31) (by decide +kernel)) rfl
theorem wl_O_method : (Jvm.Cond.selects "PointsToRounds" ({ cls := "PointsToRounds", name := "method", desc := "(II)I" } : Jvm.MethodName) ({ cls := "PointsToRounds", name := "method", desc := "(II)I" } : Jvm.MethodName)) ∈ TB := TB2 (List.mem_of_getElem? (i := 32) (by decide +kernel)) rfl
theorem mi_O_method : m_MI M_O_method 2 0 := ⟨mw_O_method, wn_O_method, wl_O_method, TO, 3, rfl⟩
theorem wkL_22 : (Jvm.Cond.methodLink "PointsToRoundsLaw" (22 : Nat) ({ cls := "PointsToRounds", name := "method", desc := "(II)I" } : Jvm.MethodName)) ∈ TB := TB2 (List.mem_of_getElem? (i := 30) (by decide +kernel)) rfl
theorem wc_M_method : (Jvm.Cond.code ({ cls := "PointsToRoundsModel", name := "method", desc := "(II)I" } : Jvm.MethodName) prog_7_method_14_code (3 : Nat) (Option.some Jvm.ClassFile.FieldType.int)) ∈ TB := TB4 (List.mem_of_getElem? (i := 2) rfl) rfl
theorem mw_M_method : m_MW M_M_method 2 := ⟨wc_M_method, wi_M, ⟨by decide +kernel, by decide +kernel, by decide +kernel⟩, by decide +kernel⟩
theorem wn_M_method : (Jvm.Cond.instanceMethod ({ cls := "PointsToRoundsModel", name := "method", desc := "(II)I" } : Jvm.MethodName)) ∈ TB := TB4 (List.mem_of_getElem? (i := 0) (by decide +kernel)) rfl
theorem wl_M_method : (Jvm.Cond.selects "PointsToRoundsModel" ({ cls := "PointsToRoundsModel", name := "method", desc := "(II)I" } : Jvm.MethodName) ({ cls := "PointsToRoundsModel", name := "method", desc := "(II)I" } : Jvm.MethodName)) ∈ TB := TB4 (List.mem_of_getElem? (i := 1) (by decide +kernel)) rfl
theorem mi_M_method : m_MI M_M_method 2 5 := ⟨mw_M_method, wn_M_method, wl_M_method, TM, 44, rfl⟩
theorem wkL_26 : (Jvm.Cond.methodLink "PointsToRoundsLaw" (26 : Nat) ({ cls := "PointsToRoundsModel", name := "method", desc := "(II)I" } : Jvm.MethodName)) ∈ TB := TB3 (List.mem_of_getElem? (i := 239) (by decide +kernel)) rfl
theorem wc_O_statement : (Jvm.Cond.code ({ cls := "PointsToRounds", name := "statement", desc := "(IIIIIII)I" } : Jvm.MethodName) prog_1_method_5_code (8 : Nat) (Option.some Jvm.ClassFile.FieldType.int)) ∈ TB := TB2 (List.mem_of_getElem? (i := 48) rfl) rfl
theorem mw_O_statement : m_MW M_O_statement 7 := ⟨wc_O_statement, wi_O, ⟨by decide +kernel, by decide +kernel, by decide +kernel⟩, by decide +kernel⟩
theorem wn_O_statement : (Jvm.Cond.instanceMethod ({ cls := "PointsToRounds", name := "statement", desc := "(IIIIIII)I" } : Jvm.MethodName)) ∈ TB := TB2 (List.mem_of_getElem? (i := 46) (by decide +kernel)) rfl
theorem wl_O_statement : (Jvm.Cond.selects "PointsToRounds" ({ cls := "PointsToRounds", name := "statement", desc := "(IIIIIII)I" } : Jvm.MethodName) ({ cls := "PointsToRounds", name := "statement", desc := "(IIIIIII)I" } : Jvm.MethodName)) ∈ TB := TB2 (List.mem_of_getElem? (i := 47) (by decide +kernel)) rfl
theorem mi_O_statement : m_MI M_O_statement 7 0 := ⟨mw_O_statement, wn_O_statement, wl_O_statement, TO, 3, rfl⟩
theorem wkL_27 : (Jvm.Cond.methodLink "PointsToRoundsLaw" (27 : Nat) ({ cls := "PointsToRounds", name := "statement", desc := "(IIIIIII)I" } : Jvm.MethodName)) ∈ TB := TB2 (List.mem_of_getElem? (i := 45) (by decide +kernel)) rfl
theorem wc_M_statement : (Jvm.Cond.code ({ cls := "PointsToRoundsModel", name := "statement", desc := "(IIIIIII)I" } : Jvm.MethodName) prog_7_method_16_code (9 : Nat) (Option.some Jvm.ClassFile.FieldType.int)) ∈ TB := TB4 (List.mem_of_getElem? (i := 10) rfl) rfl
theorem mw_M_statement : m_MW M_M_statement 7 := ⟨wc_M_statement, wi_M, ⟨by decide +kernel, by decide +kernel, by decide +kernel⟩, by decide +kernel⟩
theorem wn_M_statement : (Jvm.Cond.instanceMethod ({ cls := "PointsToRoundsModel", name := "statement", desc := "(IIIIIII)I" } : Jvm.MethodName)) ∈ TB := TB4 (List.mem_of_getElem? (i := 8) (by decide +kernel)) rfl
theorem wl_M_statement : (Jvm.Cond.selects "PointsToRoundsModel" ({ cls := "PointsToRoundsModel", name := "statement", desc := "(IIIIIII)I" } : Jvm.MethodName) ({ cls := "PointsToRoundsModel", name := "statement", desc := "(IIIIIII)I" } : Jvm.MethodName)) ∈ TB := TB4 (List.mem_of_getElem? (i := 9) (by decide +kernel)) rfl
theorem mi_M_statement : m_MI M_M_statement 7 5 := ⟨mw_M_statement, wn_M_statement, wl_M_statement, TM, 44, rfl⟩
theorem wkL_31 : (Jvm.Cond.methodLink "PointsToRoundsLaw" (31 : Nat) ({ cls := "PointsToRoundsModel", name := "statement", desc := "(IIIIIII)I" } : Jvm.MethodName)) ∈ TB := TB4 (List.mem_of_getElem? (i := 7) (by decide +kernel)) rfl
theorem wc_O_mode : (Jvm.Cond.code ({ cls := "PointsToRounds", name := "mode", desc := "(I)I" } : Jvm.MethodName) prog_1_method_6_code (3 : Nat) (Option.some Jvm.ClassFile.FieldType.int)) ∈ TB := TB2 (List.mem_of_getElem? (i := 94) rfl) rfl
theorem mw_O_mode : m_MW M_O_mode 1 := ⟨wc_O_mode, wi_O, ⟨by decide +kernel, by decide +kernel, by decide +kernel⟩, by decide +kernel⟩
theorem wn_O_mode : (Jvm.Cond.instanceMethod ({ cls := "PointsToRounds", name := "mode", desc := "(I)I" } : Jvm.MethodName)) ∈ TB := TB2 (List.mem_of_getElem? (i := 92) (by decide +kernel)) rfl
theorem wl_O_mode : (Jvm.Cond.selects "PointsToRounds" ({ cls := "PointsToRounds", name := "mode", desc := "(I)I" } : Jvm.MethodName) ({ cls := "PointsToRounds", name := "mode", desc := "(I)I" } : Jvm.MethodName)) ∈ TB := TB2 (List.mem_of_getElem? (i := 93) (by decide +kernel)) rfl
theorem mi_O_mode : m_MI M_O_mode 1 0 := ⟨mw_O_mode, wn_O_mode, wl_O_mode, TO, 3, rfl⟩
theorem wkL_32 : (Jvm.Cond.methodLink "PointsToRoundsLaw" (32 : Nat) ({ cls := "PointsToRounds", name := "mode", desc := "(I)I" } : Jvm.MethodName)) ∈ TB := TB2 (List.mem_of_getElem? (i := 91) (by decide +kernel)) rfl
theorem wc_M_mode : (Jvm.Cond.code ({ cls := "PointsToRoundsModel", name := "mode", desc := "(I)I" } : Jvm.MethodName) prog_7_method_17_code (3 : Nat) (Option.some Jvm.ClassFile.FieldType.int)) ∈ TB := TB4 (List.mem_of_getElem? (i := 32) rfl) rfl
theorem mw_M_mode : m_MW M_M_mode 1 := ⟨wc_M_mode, wi_M, ⟨by decide +kernel, by decide +kernel, by decide +kernel⟩, by decide +kernel⟩
theorem wn_M_mode : (Jvm.Cond.instanceMethod ({ cls := "PointsToRoundsModel", name := "mode", desc := "(I)I" } : Jvm.MethodName)) ∈ TB := TB4 (List.mem_of_getElem? (i := 30) (by decide +kernel)) rfl
theorem wl_M_mode : (Jvm.Cond.selects "PointsToRoundsModel" ({ cls := "PointsToRoundsModel", name := "mode", desc := "(I)I" } : Jvm.MethodName) ({ cls := "PointsToRoundsModel", name := "mode", desc := "(I)I" } : Jvm.MethodName)) ∈ TB := TB4 (List.mem_of_getElem? (i := 31) (by decide +kernel)) rfl
theorem mi_M_mode : m_MI M_M_mode 1 5 := ⟨mw_M_mode, wn_M_mode, wl_M_mode, TM, 44, rfl⟩
theorem wkL_35 : (Jvm.Cond.methodLink "PointsToRoundsLaw" (35 : Nat) ({ cls := "PointsToRoundsModel", name := "mode", desc := "(I)I" } : Jvm.MethodName)) ∈ TB := TB4 (List.mem_of_getElem? (i := 29) (by decide +kernel)) rfl
theorem wc_O_clear : (Jvm.Cond.code ({ cls := "PointsToRounds", name := "clear", desc := "()I" } : Jvm.MethodName) prog_1_method_7_code (2 : Nat) (Option.some Jvm.ClassFile.FieldType.int)) ∈ TB := TB2 (List.mem_of_getElem? (i := 98) rfl) rfl
theorem mw_O_clear : m_MW M_O_clear 0 := ⟨wc_O_clear, wi_O, ⟨by decide +kernel, by decide +kernel, by decide +kernel⟩, by decide +kernel⟩
theorem wn_O_clear : (Jvm.Cond.instanceMethod ({ cls := "PointsToRounds", name := "clear", desc := "()I" } : Jvm.MethodName)) ∈ TB := TB2 (List.mem_of_getElem? (i := 96) (by decide +kernel)) rfl
theorem wl_O_clear : (Jvm.Cond.selects "PointsToRounds" ({ cls := "PointsToRounds", name := "clear", desc := "()I" } : Jvm.MethodName) ({ cls := "PointsToRounds", name := "clear", desc := "()I" } : Jvm.MethodName)) ∈ TB := TB2 (List.mem_of_getElem? (i := 97) (by decide +kernel)) rfl
theorem mi_O_clear : m_MI M_O_clear 0 0 := ⟨mw_O_clear, wn_O_clear, wl_O_clear, TO, 3, rfl⟩
theorem wkL_36 : (Jvm.Cond.methodLink "PointsToRoundsLaw" (36 : Nat) ({ cls := "PointsToRounds", name := "clear", desc := "()I" } : Jvm.MethodName)) ∈ TB := TB2 (List.mem_of_getElem? (i := 95) (by decide +kernel)) rfl
theorem wc_M_clear : (Jvm.Cond.code ({ cls := "PointsToRoundsModel", name := "clear", desc := "()I" } : Jvm.MethodName) prog_7_method_18_code (2 : Nat) (Option.some Jvm.ClassFile.FieldType.int)) ∈ TB := TB4 (List.mem_of_getElem? (i := 36) rfl) rfl
theorem mw_M_clear : m_MW M_M_clear 0 := ⟨wc_M_clear, wi_M, ⟨by decide +kernel, by decide +kernel, by decide +kernel⟩, by decide +kernel⟩
theorem wn_M_clear : (Jvm.Cond.instanceMethod ({ cls := "PointsToRoundsModel", name := "clear", desc := "()I" } : Jvm.MethodName)) ∈ TB := TB4 (List.mem_of_getElem? (i := 34) (by decide +kernel)) rfl
theorem wl_M_clear : (Jvm.Cond.selects "PointsToRoundsModel" ({ cls := "PointsToRoundsModel", name := "clear", desc := "()I" } : Jvm.MethodName) ({ cls := "PointsToRoundsModel", name := "clear", desc := "()I" } : Jvm.MethodName)) ∈ TB := TB4 (List.mem_of_getElem? (i := 35) (by decide +kernel)) rfl
theorem mi_M_clear : m_MI M_M_clear 0 5 := ⟨mw_M_clear, wn_M_clear, wl_M_clear, TM, 44, rfl⟩
theorem wkL_40 : (Jvm.Cond.methodLink "PointsToRoundsLaw" (40 : Nat) ({ cls := "PointsToRoundsModel", name := "clear", desc := "()I" } : Jvm.MethodName)) ∈ TB := TB4 (List.mem_of_getElem? (i := 33) (by decide +kernel)) rfl
theorem wc_O_points : (Jvm.Cond.code ({ cls := "PointsToRounds", name := "points", desc := "(III)I" } : Jvm.MethodName) prog_1_method_8_code (4 : Nat) (Option.some Jvm.ClassFile.FieldType.int)) ∈ TB := TB2 (List.mem_of_getElem? (i := 106) rfl) rfl
theorem mw_O_points : m_MW M_O_points 3 := ⟨wc_O_points, wi_O, ⟨by decide +kernel, by decide +kernel, by decide +kernel⟩, by decide +kernel⟩
theorem wn_O_points : (Jvm.Cond.instanceMethod ({ cls := "PointsToRounds", name := "points", desc := "(III)I" } : Jvm.MethodName)) ∈ TB := TB2 (List.mem_of_getElem? (i := 104) (by decide +kernel)) rfl
theorem wl_O_points : (Jvm.Cond.selects "PointsToRounds" ({ cls := "PointsToRounds", name := "points", desc := "(III)I" } : Jvm.MethodName) ({ cls := "PointsToRounds", name := "points", desc := "(III)I" } : Jvm.MethodName)) ∈ TB := TB2 (List.mem_of_getElem? (i := 105) (by decide +kernel)) rfl
theorem mi_O_points : m_MI M_O_points 3 0 := ⟨mw_O_points, wn_O_points, wl_O_points, TO, 3, rfl⟩
theorem wkL_41 : (Jvm.Cond.methodLink "PointsToRoundsLaw" (41 : Nat) ({ cls := "PointsToRounds", name := "points", desc := "(III)I" } : Jvm.MethodName)) ∈ TB := TB2 (List.mem_of_getElem? (i := 103) (by decide +kernel)) rfl
theorem wc_M_points : (Jvm.Cond.code ({ cls := "PointsToRoundsModel", name := "points", desc := "(III)I" } : Jvm.MethodName) prog_7_method_31_code (4 : Nat) (Option.some Jvm.ClassFile.FieldType.int)) ∈ TB := TB4 (List.mem_of_getElem? (i := 40) rfl) rfl
theorem mw_M_points : m_MW M_M_points 3 := ⟨wc_M_points, wi_M, ⟨by decide +kernel, by decide +kernel, by decide +kernel⟩, by decide +kernel⟩
theorem wn_M_points : (Jvm.Cond.instanceMethod ({ cls := "PointsToRoundsModel", name := "points", desc := "(III)I" } : Jvm.MethodName)) ∈ TB := TB4 (List.mem_of_getElem? (i := 38) (by decide +kernel)) rfl
theorem wl_M_points : (Jvm.Cond.selects "PointsToRoundsModel" ({ cls := "PointsToRoundsModel", name := "points", desc := "(III)I" } : Jvm.MethodName) ({ cls := "PointsToRoundsModel", name := "points", desc := "(III)I" } : Jvm.MethodName)) ∈ TB := TB4 (List.mem_of_getElem? (i := 39) (by decide +kernel)) rfl
theorem mi_M_points : m_MI M_M_points 3 5 := ⟨mw_M_points, wn_M_points, wl_M_points, TM, 44, rfl⟩
theorem wkL_45 : (Jvm.Cond.methodLink "PointsToRoundsLaw" (45 : Nat) ({ cls := "PointsToRoundsModel", name := "points", desc := "(III)I" } : Jvm.MethodName)) ∈ TB := TB4 (List.mem_of_getElem? (i := 37) (by decide +kernel)) rfl
theorem wc_O_inField : (Jvm.Cond.code ({ cls := "PointsToRounds", name := "inField", desc := "(II)I" } : Jvm.MethodName) prog_1_method_9_code (3 : Nat) (Option.some Jvm.ClassFile.FieldType.int)) ∈ TB := TB2 (List.mem_of_getElem? (i := 188) rfl) rfl
theorem mw_O_inField : m_MW M_O_inField 2 := ⟨wc_O_inField, wi_O, ⟨by decide +kernel, by decide +kernel, by decide +kernel⟩, by decide +kernel⟩
theorem wn_O_inField : (Jvm.Cond.instanceMethod ({ cls := "PointsToRounds", name := "inField", desc := "(II)I" } : Jvm.MethodName)) ∈ TB := TB2 (List.mem_of_getElem? (i := 186) (by decide +kernel)) rfl
theorem wl_O_inField : (Jvm.Cond.selects "PointsToRounds" ({ cls := "PointsToRounds", name := "inField", desc := "(II)I" } : Jvm.MethodName) ({ cls := "PointsToRounds", name := "inField", desc := "(II)I" } : Jvm.MethodName)) ∈ TB := TB2 (List.mem_of_getElem? (i := 187) (by decide +kernel)) rfl
theorem mi_O_inField : m_MI M_O_inField 2 0 := ⟨mw_O_inField, wn_O_inField, wl_O_inField, TO, 3, rfl⟩
theorem wkL_46 : (Jvm.Cond.methodLink "PointsToRoundsLaw" (46 : Nat) ({ cls := "PointsToRounds", name := "inField", desc := "(II)I" } : Jvm.MethodName)) ∈ TB := TB2 (List.mem_of_getElem? (i := 185) (by decide +kernel)) rfl
theorem wc_M_inField : (Jvm.Cond.code ({ cls := "PointsToRoundsModel", name := "inField", desc := "(II)I" } : Jvm.MethodName) prog_7_method_33_code (3 : Nat) (Option.some Jvm.ClassFile.FieldType.int)) ∈ TB := TB4 (List.mem_of_getElem? (i := 103) rfl) rfl
theorem mw_M_inField : m_MW M_M_inField 2 := ⟨wc_M_inField, wi_M, ⟨by decide +kernel, by decide +kernel, by decide +kernel⟩, by decide +kernel⟩
theorem wn_M_inField : (Jvm.Cond.instanceMethod ({ cls := "PointsToRoundsModel", name := "inField", desc := "(II)I" } : Jvm.MethodName)) ∈ TB := TB4 (List.mem_of_getElem? (i := 101) (by decide +kernel)) rfl
theorem wl_M_inField : (Jvm.Cond.selects "PointsToRoundsModel" ({ cls := "PointsToRoundsModel", name := "inField", desc := "(II)I" } : Jvm.MethodName) ({ cls := "PointsToRoundsModel", name := "inField", desc := "(II)I" } : Jvm.MethodName)) ∈ TB := TB4 (List.mem_of_getElem? (i := 102) (by decide +kernel)) rfl
theorem mi_M_inField : m_MI M_M_inField 2 5 := ⟨mw_M_inField, wn_M_inField, wl_M_inField, TM, 44, rfl⟩
theorem wkL_49 : (Jvm.Cond.methodLink "PointsToRoundsLaw" (49 : Nat) ({ cls := "PointsToRoundsModel", name := "inField", desc := "(II)I" } : Jvm.MethodName)) ∈ TB := TB4 (List.mem_of_getElem? (i := 100) (by decide +kernel)) rfl
theorem wc_O_element : (Jvm.Cond.code ({ cls := "PointsToRounds", name := "element", desc := "(I)I" } : Jvm.MethodName) prog_1_method_10_code (2 : Nat) (Option.some Jvm.ClassFile.FieldType.int)) ∈ TB := TB2 (List.mem_of_getElem? (i := 198) rfl) rfl
theorem mw_O_element : m_MW M_O_element 1 := ⟨wc_O_element, wi_O, ⟨by decide +kernel, by decide +kernel, by decide +kernel⟩, by decide +kernel⟩
theorem wn_O_element : (Jvm.Cond.instanceMethod ({ cls := "PointsToRounds", name := "element", desc := "(I)I" } : Jvm.MethodName)) ∈ TB := TB2 (List.mem_of_getElem? (i := 196) (by decide +kernel)) rfl
theorem wl_O_element : (Jvm.Cond.selects "PointsToRounds" ({ cls := "PointsToRounds", name := "element", desc := "(I)I" } : Jvm.MethodName) ({ cls := "PointsToRounds", name := "element", desc := "(I)I" } : Jvm.MethodName)) ∈ TB := TB2 (List.mem_of_getElem? (i := 197) (by decide +kernel)) rfl
theorem mi_O_element : m_MI M_O_element 1 0 := ⟨mw_O_element, wn_O_element, wl_O_element, TO, 3, rfl⟩
theorem wkL_50 : (Jvm.Cond.methodLink "PointsToRoundsLaw" (50 : Nat) ({ cls := "PointsToRounds", name := "element", desc := "(I)I" } : Jvm.MethodName)) ∈ TB := TB2 (List.mem_of_getElem? (i := 195) (by decide +kernel)) rfl
theorem wc_M_element : (Jvm.Cond.code ({ cls := "PointsToRoundsModel", name := "element", desc := "(I)I" } : Jvm.MethodName) prog_7_method_34_code (2 : Nat) (Option.some Jvm.ClassFile.FieldType.int)) ∈ TB := TB4 (List.mem_of_getElem? (i := 111) rfl) rfl
theorem mw_M_element : m_MW M_M_element 1 := ⟨wc_M_element, wi_M, ⟨by decide +kernel, by decide +kernel, by decide +kernel⟩, by decide +kernel⟩
theorem wn_M_element : (Jvm.Cond.instanceMethod ({ cls := "PointsToRoundsModel", name := "element", desc := "(I)I" } : Jvm.MethodName)) ∈ TB := TB4 (List.mem_of_getElem? (i := 109) (by decide +kernel)) rfl
theorem wl_M_element : (Jvm.Cond.selects "PointsToRoundsModel" ({ cls := "PointsToRoundsModel", name := "element", desc := "(I)I" } : Jvm.MethodName) ({ cls := "PointsToRoundsModel", name := "element", desc := "(I)I" } : Jvm.MethodName)) ∈ TB := TB4 (List.mem_of_getElem? (i := 110) (by decide +kernel)) rfl
theorem mi_M_element : m_MI M_M_element 1 5 := ⟨mw_M_element, wn_M_element, wl_M_element, TM, 44, rfl⟩
theorem wkL_53 : (Jvm.Cond.methodLink "PointsToRoundsLaw" (53 : Nat) ({ cls := "PointsToRoundsModel", name := "element", desc := "(I)I" } : Jvm.MethodName)) ∈ TB := TB4 (List.mem_of_getElem? (i := 108) (by decide +kernel)) rfl
theorem wc_O_inStatic : (Jvm.Cond.code ({ cls := "PointsToRounds", name := "inStatic", desc := "(I)I" } : Jvm.MethodName) prog_1_method_11_code (2 : Nat) (Option.some Jvm.ClassFile.FieldType.int)) ∈ TB := TB2 (List.mem_of_getElem? (i := 202) rfl) rfl
theorem mw_O_inStatic : m_MW M_O_inStatic 1 := ⟨wc_O_inStatic, wi_O, ⟨by decide +kernel, by decide +kernel, by decide +kernel⟩, by decide +kernel⟩
theorem wn_O_inStatic : (Jvm.Cond.instanceMethod ({ cls := "PointsToRounds", name := "inStatic", desc := "(I)I" } : Jvm.MethodName)) ∈ TB := TB2 (List.mem_of_getElem? (i := 200) (by decide +kernel)) rfl
theorem wl_O_inStatic : (Jvm.Cond.selects "PointsToRounds" ({ cls := "PointsToRounds", name := "inStatic", desc := "(I)I" } : Jvm.MethodName) ({ cls := "PointsToRounds", name := "inStatic", desc := "(I)I" } : Jvm.MethodName)) ∈ TB := TB2 (List.mem_of_getElem? (i := 201) (by decide +kernel)) rfl
theorem mi_O_inStatic : m_MI M_O_inStatic 1 0 := ⟨mw_O_inStatic, wn_O_inStatic, wl_O_inStatic, TO, 3, rfl⟩
theorem wkL_54 : (Jvm.Cond.methodLink "PointsToRoundsLaw" (54 : Nat) ({ cls := "PointsToRounds", name := "inStatic", desc := "(I)I" } : Jvm.MethodName)) ∈ TB := TB2 (List.mem_of_getElem? (i := 199) (by decide +kernel)) rfl
theorem wc_M_inStatic : (Jvm.Cond.code ({ cls := "PointsToRoundsModel", name := "inStatic", desc := "(I)I" } : Jvm.MethodName) prog_7_method_35_code (2 : Nat) (Option.some Jvm.ClassFile.FieldType.int)) ∈ TB := TB4 (List.mem_of_getElem? (i := 115) rfl) rfl
theorem mw_M_inStatic : m_MW M_M_inStatic 1 := ⟨wc_M_inStatic, wi_M, ⟨by decide +kernel, by decide +kernel, by decide +kernel⟩, by decide +kernel⟩
theorem wn_M_inStatic : (Jvm.Cond.instanceMethod ({ cls := "PointsToRoundsModel", name := "inStatic", desc := "(I)I" } : Jvm.MethodName)) ∈ TB := TB4 (List.mem_of_getElem? (i := 113) (by decide +kernel)) rfl
theorem wl_M_inStatic : (Jvm.Cond.selects "PointsToRoundsModel" ({ cls := "PointsToRoundsModel", name := "inStatic", desc := "(I)I" } : Jvm.MethodName) ({ cls := "PointsToRoundsModel", name := "inStatic", desc := "(I)I" } : Jvm.MethodName)) ∈ TB := TB4 (List.mem_of_getElem? (i := 114) (by decide +kernel)) rfl
theorem mi_M_inStatic : m_MI M_M_inStatic 1 5 := ⟨mw_M_inStatic, wn_M_inStatic, wl_M_inStatic, TM, 44, rfl⟩
theorem wkL_57 : (Jvm.Cond.methodLink "PointsToRoundsLaw" (57 : Nat) ({ cls := "PointsToRoundsModel", name := "inStatic", desc := "(I)I" } : Jvm.MethodName)) ∈ TB := TB4 (List.mem_of_getElem? (i := 112) (by decide +kernel)) rfl
theorem wc_O_reached : (Jvm.Cond.code ({ cls := "PointsToRounds", name := "reached", desc := "(I)I" } : Jvm.MethodName) prog_1_method_12_code (2 : Nat) (Option.some Jvm.ClassFile.FieldType.int)) ∈ TB := TB2 (List.mem_of_getElem? (i := 207) rfl) rfl
theorem mw_O_reached : m_MW M_O_reached 1 := ⟨wc_O_reached, wi_O, ⟨by decide +kernel, by decide +kernel, by decide +kernel⟩, by decide +kernel⟩
theorem wn_O_reached : (Jvm.Cond.instanceMethod ({ cls := "PointsToRounds", name := "reached", desc := "(I)I" } : Jvm.MethodName)) ∈ TB := TB2 (List.mem_of_getElem? (i := 205) (by decide +kernel)) rfl
theorem wl_O_reached : (Jvm.Cond.selects "PointsToRounds" ({ cls := "PointsToRounds", name := "reached", desc := "(I)I" } : Jvm.MethodName) ({ cls := "PointsToRounds", name := "reached", desc := "(I)I" } : Jvm.MethodName)) ∈ TB := TB2 (List.mem_of_getElem? (i := 206) (by decide +kernel)) rfl
theorem mi_O_reached : m_MI M_O_reached 1 0 := ⟨mw_O_reached, wn_O_reached, wl_O_reached, TO, 3, rfl⟩
theorem wkL_58 : (Jvm.Cond.methodLink "PointsToRoundsLaw" (58 : Nat) ({ cls := "PointsToRounds", name := "reached", desc := "(I)I" } : Jvm.MethodName)) ∈ TB := TB2 (List.mem_of_getElem? (i := 204) (by decide +kernel)) rfl
theorem wc_M_reached : (Jvm.Cond.code ({ cls := "PointsToRoundsModel", name := "reached", desc := "(I)I" } : Jvm.MethodName) prog_7_method_36_code (4 : Nat) (Option.some Jvm.ClassFile.FieldType.int)) ∈ TB := TB4 (List.mem_of_getElem? (i := 119) rfl) rfl
theorem mw_M_reached : m_MW M_M_reached 1 := ⟨wc_M_reached, wi_M, ⟨by decide +kernel, by decide +kernel, by decide +kernel⟩, by decide +kernel⟩
theorem wn_M_reached : (Jvm.Cond.instanceMethod ({ cls := "PointsToRoundsModel", name := "reached", desc := "(I)I" } : Jvm.MethodName)) ∈ TB := TB4 (List.mem_of_getElem? (i := 117) (by decide +kernel)) rfl
theorem wl_M_reached : (Jvm.Cond.selects "PointsToRoundsModel" ({ cls := "PointsToRoundsModel", name := "reached", desc := "(I)I" } : Jvm.MethodName) ({ cls := "PointsToRoundsModel", name := "reached", desc := "(I)I" } : Jvm.MethodName)) ∈ TB := TB4 (List.mem_of_getElem? (i := 118) (by decide +kernel)) rfl
theorem mi_M_reached : m_MI M_M_reached 1 5 := ⟨mw_M_reached, wn_M_reached, wl_M_reached, TM, 44, rfl⟩
theorem wkL_61 : (Jvm.Cond.methodLink "PointsToRoundsLaw" (61 : Nat) ({ cls := "PointsToRoundsModel", name := "reached", desc := "(I)I" } : Jvm.MethodName)) ∈ TB := TB4 (List.mem_of_getElem? (i := 116) (by decide +kernel)) rfl
theorem wc_O_may : (Jvm.Cond.code ({ cls := "PointsToRounds", name := "may", desc := "(I)I" } : Jvm.MethodName) prog_1_method_13_code (4 : Nat) (Option.some Jvm.ClassFile.FieldType.int)) ∈ TB := TB2 (List.mem_of_getElem? (i := 217) rfl) rfl
theorem mw_O_may : m_MW M_O_may 1 := ⟨wc_O_may, wi_O, ⟨by decide +kernel, by decide +kernel, by decide +kernel⟩, by decide +kernel⟩
theorem wn_O_may : (Jvm.Cond.instanceMethod ({ cls := "PointsToRounds", name := "may", desc := "(I)I" } : Jvm.MethodName)) ∈ TB := TB2 (List.mem_of_getElem? (i := 215) (by decide +kernel)) rfl
theorem wl_O_may : (Jvm.Cond.selects "PointsToRounds" ({ cls := "PointsToRounds", name := "may", desc := "(I)I" } : Jvm.MethodName) ({ cls := "PointsToRounds", name := "may", desc := "(I)I" } : Jvm.MethodName)) ∈ TB := TB2 (List.mem_of_getElem? (i := 216) (by decide +kernel)) rfl
theorem mi_O_may : m_MI M_O_may 1 0 := ⟨mw_O_may, wn_O_may, wl_O_may, TO, 3, rfl⟩
theorem wkL_62 : (Jvm.Cond.methodLink "PointsToRoundsLaw" (62 : Nat) ({ cls := "PointsToRounds", name := "may", desc := "(I)I" } : Jvm.MethodName)) ∈ TB := TB2 (List.mem_of_getElem? (i := 214) (by decide +kernel)) rfl
theorem wc_M_may : (Jvm.Cond.code ({ cls := "PointsToRoundsModel", name := "may", desc := "(I)I" } : Jvm.MethodName) prog_7_method_37_code (6 : Nat) (Option.some Jvm.ClassFile.FieldType.int)) ∈ TB := TB4 (List.mem_of_getElem? (i := 123) rfl) rfl
theorem mw_M_may : m_MW M_M_may 1 := ⟨wc_M_may, wi_M, ⟨by decide +kernel, by decide +kernel, by decide +kernel⟩, by decide +kernel⟩
theorem wn_M_may : (Jvm.Cond.instanceMethod ({ cls := "PointsToRoundsModel", name := "may", desc := "(I)I" } : Jvm.MethodName)) ∈ TB := TB4 (List.mem_of_getElem? (i := 121) (by decide +kernel)) rfl
theorem wl_M_may : (Jvm.Cond.selects "PointsToRoundsModel" ({ cls := "PointsToRoundsModel", name := "may", desc := "(I)I" } : Jvm.MethodName) ({ cls := "PointsToRoundsModel", name := "may", desc := "(I)I" } : Jvm.MethodName)) ∈ TB := TB4 (List.mem_of_getElem? (i := 122) (by decide +kernel)) rfl
theorem mi_M_may : m_MI M_M_may 1 5 := ⟨mw_M_may, wn_M_may, wl_M_may, TM, 44, rfl⟩
theorem wkL_65 : (Jvm.Cond.methodLink "PointsToRoundsLaw" (65 : Nat) ({ cls := "PointsToRoundsModel", name := "may", desc := "(I)I" } : Jvm.MethodName)) ∈ TB := TB4 (List.mem_of_getElem? (i := 120) (by decide +kernel)) rfl
theorem wc_O_alias : (Jvm.Cond.code ({ cls := "PointsToRounds", name := "alias", desc := "(IIII)I" } : Jvm.MethodName) prog_1_method_14_code (6 : Nat) (Option.some Jvm.ClassFile.FieldType.int)) ∈ TB := TB2 (List.mem_of_getElem? (i := 230) rfl) rfl
theorem mw_O_alias : m_MW M_O_alias 4 := ⟨wc_O_alias, wi_O, ⟨by decide +kernel, by decide +kernel, by decide +kernel⟩, by decide +kernel⟩
theorem wn_O_alias : (Jvm.Cond.instanceMethod ({ cls := "PointsToRounds", name := "alias", desc := "(IIII)I" } : Jvm.MethodName)) ∈ TB := TB2 (List.mem_of_getElem? (i := 228) (by decide +kernel)) rfl
theorem wl_O_alias : (Jvm.Cond.selects "PointsToRounds" ({ cls := "PointsToRounds", name := "alias", desc := "(IIII)I" } : Jvm.MethodName) ({ cls := "PointsToRounds", name := "alias", desc := "(IIII)I" } : Jvm.MethodName)) ∈ TB := TB2 (List.mem_of_getElem? (i := 229) (by decide +kernel)) rfl
theorem mi_O_alias : m_MI M_O_alias 4 0 := ⟨mw_O_alias, wn_O_alias, wl_O_alias, TO, 3, rfl⟩
theorem wkL_66 : (Jvm.Cond.methodLink "PointsToRoundsLaw" (66 : Nat) ({ cls := "PointsToRounds", name := "alias", desc := "(IIII)I" } : Jvm.MethodName)) ∈ TB := TB2 (List.mem_of_getElem? (i := 227) (by decide +kernel)) rfl
theorem wc_M_alias : (Jvm.Cond.code ({ cls := "PointsToRoundsModel", name := "alias", desc := "(IIII)I" } : Jvm.MethodName) prog_7_method_38_code (5 : Nat) (Option.some Jvm.ClassFile.FieldType.int)) ∈ TB := TB4 (List.mem_of_getElem? (i := 127) rfl) rfl
theorem mw_M_alias : m_MW M_M_alias 4 := ⟨wc_M_alias, wi_M, ⟨by decide +kernel, by decide +kernel, by decide +kernel⟩, by decide +kernel⟩
theorem wn_M_alias : (Jvm.Cond.instanceMethod ({ cls := "PointsToRoundsModel", name := "alias", desc := "(IIII)I" } : Jvm.MethodName)) ∈ TB := TB4 (List.mem_of_getElem? (i := 125) (by decide +kernel)) rfl
theorem wl_M_alias : (Jvm.Cond.selects "PointsToRoundsModel" ({ cls := "PointsToRoundsModel", name := "alias", desc := "(IIII)I" } : Jvm.MethodName) ({ cls := "PointsToRoundsModel", name := "alias", desc := "(IIII)I" } : Jvm.MethodName)) ∈ TB := TB4 (List.mem_of_getElem? (i := 126) (by decide +kernel)) rfl
theorem mi_M_alias : m_MI M_M_alias 4 5 := ⟨mw_M_alias, wn_M_alias, wl_M_alias, TM, 44, rfl⟩
theorem wkL_70 : (Jvm.Cond.methodLink "PointsToRoundsLaw" (70 : Nat) ({ cls := "PointsToRoundsModel", name := "alias", desc := "(IIII)I" } : Jvm.MethodName)) ∈ TB := TB4 (List.mem_of_getElem? (i := 124) (by decide +kernel)) rfl
theorem wc_O_rounds : (Jvm.Cond.code ({ cls := "PointsToRounds", name := "rounds", desc := "()I" } : Jvm.MethodName) prog_1_method_15_code (1 : Nat) (Option.some Jvm.ClassFile.FieldType.int)) ∈ TB := TB2 (List.mem_of_getElem? (i := 234) rfl) rfl
theorem mw_O_rounds : m_MW M_O_rounds 0 := ⟨wc_O_rounds, wi_O, ⟨by decide +kernel, by decide +kernel, by decide +kernel⟩, by decide +kernel⟩
theorem wn_O_rounds : (Jvm.Cond.instanceMethod ({ cls := "PointsToRounds", name := "rounds", desc := "()I" } : Jvm.MethodName)) ∈ TB := TB2 (List.mem_of_getElem? (i := 232) (by decide +kernel)) rfl
theorem wl_O_rounds : (Jvm.Cond.selects "PointsToRounds" ({ cls := "PointsToRounds", name := "rounds", desc := "()I" } : Jvm.MethodName) ({ cls := "PointsToRounds", name := "rounds", desc := "()I" } : Jvm.MethodName)) ∈ TB := TB2 (List.mem_of_getElem? (i := 233) (by decide +kernel)) rfl
theorem mi_O_rounds : m_MI M_O_rounds 0 0 := ⟨mw_O_rounds, wn_O_rounds, wl_O_rounds, TO, 3, rfl⟩
theorem wkL_71 : (Jvm.Cond.methodLink "PointsToRoundsLaw" (71 : Nat) ({ cls := "PointsToRounds", name := "rounds", desc := "()I" } : Jvm.MethodName)) ∈ TB := TB2 (List.mem_of_getElem? (i := 231) (by decide +kernel)) rfl
theorem wc_M_rounds : (Jvm.Cond.code ({ cls := "PointsToRoundsModel", name := "rounds", desc := "()I" } : Jvm.MethodName) prog_7_method_39_code (1 : Nat) (Option.some Jvm.ClassFile.FieldType.int)) ∈ TB := TB4 (List.mem_of_getElem? (i := 131) rfl) rfl
theorem mw_M_rounds : m_MW M_M_rounds 0 := ⟨wc_M_rounds, wi_M, ⟨by decide +kernel, by decide +kernel, by decide +kernel⟩, by decide +kernel⟩
theorem wn_M_rounds : (Jvm.Cond.instanceMethod ({ cls := "PointsToRoundsModel", name := "rounds", desc := "()I" } : Jvm.MethodName)) ∈ TB := TB4 (List.mem_of_getElem? (i := 129) (by decide +kernel)) rfl
theorem wl_M_rounds : (Jvm.Cond.selects "PointsToRoundsModel" ({ cls := "PointsToRoundsModel", name := "rounds", desc := "()I" } : Jvm.MethodName) ({ cls := "PointsToRoundsModel", name := "rounds", desc := "()I" } : Jvm.MethodName)) ∈ TB := TB4 (List.mem_of_getElem? (i := 130) (by decide +kernel)) rfl
theorem mi_M_rounds : m_MI M_M_rounds 0 5 := ⟨mw_M_rounds, wn_M_rounds, wl_M_rounds, TM, 44, rfl⟩
theorem wkL_74 : (Jvm.Cond.methodLink "PointsToRoundsLaw" (74 : Nat) ({ cls := "PointsToRoundsModel", name := "rounds", desc := "()I" } : Jvm.MethodName)) ∈ TB := TB4 (List.mem_of_getElem? (i := 128) (by decide +kernel)) rfl
theorem wc_O_when : (Jvm.Cond.code ({ cls := "PointsToRounds", name := "when", desc := "(III)I" } : Jvm.MethodName) prog_1_method_16_code (5 : Nat) (Option.some Jvm.ClassFile.FieldType.int)) ∈ TB := TB2 (List.mem_of_getElem? (i := 238) rfl) rfl
theorem mw_O_when : m_MW M_O_when 3 := ⟨wc_O_when, wi_O, ⟨by decide +kernel, by decide +kernel, by decide +kernel⟩, by decide +kernel⟩
theorem wn_O_when : (Jvm.Cond.instanceMethod ({ cls := "PointsToRounds", name := "when", desc := "(III)I" } : Jvm.MethodName)) ∈ TB := TB2 (List.mem_of_getElem? (i := 236) (by decide +kernel)) rfl
theorem wl_O_when : (Jvm.Cond.selects "PointsToRounds" ({ cls := "PointsToRounds", name := "when", desc := "(III)I" } : Jvm.MethodName) ({ cls := "PointsToRounds", name := "when", desc := "(III)I" } : Jvm.MethodName)) ∈ TB := TB2 (List.mem_of_getElem? (i := 237) (by decide +kernel)) rfl
theorem mi_O_when : m_MI M_O_when 3 0 := ⟨mw_O_when, wn_O_when, wl_O_when, TO, 3, rfl⟩
theorem wkL_75 : (Jvm.Cond.methodLink "PointsToRoundsLaw" (75 : Nat) ({ cls := "PointsToRounds", name := "when", desc := "(III)I" } : Jvm.MethodName)) ∈ TB := TB2 (List.mem_of_getElem? (i := 235) (by decide +kernel)) rfl
theorem wc_M_when : (Jvm.Cond.code ({ cls := "PointsToRoundsModel", name := "when", desc := "(III)I" } : Jvm.MethodName) prog_7_method_40_code (5 : Nat) (Option.some Jvm.ClassFile.FieldType.int)) ∈ TB := TB4 (List.mem_of_getElem? (i := 135) rfl) rfl
theorem mw_M_when : m_MW M_M_when 3 := ⟨wc_M_when, wi_M, ⟨by decide +kernel, by decide +kernel, by decide +kernel⟩, by decide +kernel⟩
theorem wn_M_when : (Jvm.Cond.instanceMethod ({ cls := "PointsToRoundsModel", name := "when", desc := "(III)I" } : Jvm.MethodName)) ∈ TB := TB4 (List.mem_of_getElem? (i := 133) (by decide +kernel)) rfl
theorem wl_M_when : (Jvm.Cond.selects "PointsToRoundsModel" ({ cls := "PointsToRoundsModel", name := "when", desc := "(III)I" } : Jvm.MethodName) ({ cls := "PointsToRoundsModel", name := "when", desc := "(III)I" } : Jvm.MethodName)) ∈ TB := TB4 (List.mem_of_getElem? (i := 134) (by decide +kernel)) rfl
theorem mi_M_when : m_MI M_M_when 3 5 := ⟨mw_M_when, wn_M_when, wl_M_when, TM, 44, rfl⟩
theorem wkL_78 : (Jvm.Cond.methodLink "PointsToRoundsLaw" (78 : Nat) ({ cls := "PointsToRoundsModel", name := "when", desc := "(III)I" } : Jvm.MethodName)) ∈ TB := TB4 (List.mem_of_getElem? (i := 132) (by decide +kernel)) rfl
theorem wc_O_run : (Jvm.Cond.code ({ cls := "PointsToRounds", name := "run", desc := "(II)I" } : Jvm.MethodName) prog_1_method_17_code (3 : Nat) (Option.some Jvm.ClassFile.FieldType.int)) ∈ TB := TB3 (List.mem_of_getElem? (i := 6) rfl) rfl
theorem mw_O_run : m_MW M_O_run 2 := ⟨wc_O_run, wi_O, ⟨by decide +kernel, by decide +kernel, by decide +kernel⟩, by decide +kernel⟩
theorem wn_O_run : (Jvm.Cond.instanceMethod ({ cls := "PointsToRounds", name := "run", desc := "(II)I" } : Jvm.MethodName)) ∈ TB := TB3 (List.mem_of_getElem? (i := 4) (by decide +kernel)) rfl
theorem wl_O_run : (Jvm.Cond.selects "PointsToRounds" ({ cls := "PointsToRounds", name := "run", desc := "(II)I" } : Jvm.MethodName) ({ cls := "PointsToRounds", name := "run", desc := "(II)I" } : Jvm.MethodName)) ∈ TB := TB3 (List.mem_of_getElem? (i := 5) (by decide +kernel)) rfl
theorem mi_O_run : m_MI M_O_run 2 0 := ⟨mw_O_run, wn_O_run, wl_O_run, TO, 3, rfl⟩
theorem wkL_79 : (Jvm.Cond.methodLink "PointsToRoundsLaw" (79 : Nat) ({ cls := "PointsToRounds", name := "run", desc := "(II)I" } : Jvm.MethodName)) ∈ TB := TB3 (List.mem_of_getElem? (i := 3) (by decide +kernel)) rfl
theorem wc_M_run : (Jvm.Cond.code ({ cls := "PointsToRoundsModel", name := "run", desc := "(II)I" } : Jvm.MethodName) prog_7_method_52_code (10 : Nat) (Option.some Jvm.ClassFile.FieldType.int)) ∈ TB := TB4 (List.mem_of_getElem? (i := 139) rfl) rfl
theorem mw_M_run : m_MW M_M_run 2 := ⟨wc_M_run, wi_M, ⟨by decide +kernel, by decide +kernel, by decide +kernel⟩, by decide +kernel⟩
theorem wn_M_run : (Jvm.Cond.instanceMethod ({ cls := "PointsToRoundsModel", name := "run", desc := "(II)I" } : Jvm.MethodName)) ∈ TB := TB4 (List.mem_of_getElem? (i := 137) (by decide +kernel)) rfl
theorem wl_M_run : (Jvm.Cond.selects "PointsToRoundsModel" ({ cls := "PointsToRoundsModel", name := "run", desc := "(II)I" } : Jvm.MethodName) ({ cls := "PointsToRoundsModel", name := "run", desc := "(II)I" } : Jvm.MethodName)) ∈ TB := TB4 (List.mem_of_getElem? (i := 138) (by decide +kernel)) rfl
theorem mi_M_run : m_MI M_M_run 2 5 := ⟨mw_M_run, wn_M_run, wl_M_run, TM, 44, rfl⟩
theorem wkL_82 : (Jvm.Cond.methodLink "PointsToRoundsLaw" (82 : Nat) ({ cls := "PointsToRoundsModel", name := "run", desc := "(II)I" } : Jvm.MethodName)) ∈ TB := TB4 (List.mem_of_getElem? (i := 136) (by decide +kernel)) rfl
theorem wc_O_met : (Jvm.Cond.code ({ cls := "PointsToRounds", name := "met", desc := "(II)I" } : Jvm.MethodName) prog_1_method_18_code (3 : Nat) (Option.some Jvm.ClassFile.FieldType.int)) ∈ TB := TB3 (List.mem_of_getElem? (i := 75) rfl) rfl
theorem mw_O_met : m_MW M_O_met 2 := ⟨wc_O_met, wi_O, ⟨by decide +kernel, by decide +kernel, by decide +kernel⟩, by decide +kernel⟩
theorem wn_O_met : (Jvm.Cond.instanceMethod ({ cls := "PointsToRounds", name := "met", desc := "(II)I" } : Jvm.MethodName)) ∈ TB := TB3 (List.mem_of_getElem? (i := 73) (by decide +kernel)) rfl
theorem wl_O_met : (Jvm.Cond.selects "PointsToRounds" ({ cls := "PointsToRounds", name := "met", desc := "(II)I" } : Jvm.MethodName) ({ cls := "PointsToRounds", name := "met", desc := "(II)I" } : Jvm.MethodName)) ∈ TB := TB3 (List.mem_of_getElem? (i := 74) (by decide +kernel)) rfl
theorem mi_O_met : m_MI M_O_met 2 0 := ⟨mw_O_met, wn_O_met, wl_O_met, TO, 3, rfl⟩
theorem wkL_83 : (Jvm.Cond.methodLink "PointsToRoundsLaw" (83 : Nat) ({ cls := "PointsToRounds", name := "met", desc := "(II)I" } : Jvm.MethodName)) ∈ TB := TB3 (List.mem_of_getElem? (i := 72) (by decide +kernel)) rfl
theorem wc_M_met : (Jvm.Cond.code ({ cls := "PointsToRoundsModel", name := "met", desc := "(II)I" } : Jvm.MethodName) prog_7_method_53_code (3 : Nat) (Option.some Jvm.ClassFile.FieldType.int)) ∈ TB := TB4 (List.mem_of_getElem? (i := 185) rfl) rfl
theorem mw_M_met : m_MW M_M_met 2 := ⟨wc_M_met, wi_M, ⟨by decide +kernel, by decide +kernel, by decide +kernel⟩, by decide +kernel⟩
theorem wn_M_met : (Jvm.Cond.instanceMethod ({ cls := "PointsToRoundsModel", name := "met", desc := "(II)I" } : Jvm.MethodName)) ∈ TB := TB4 (List.mem_of_getElem? (i := 183) (by decide +kernel)) rfl
theorem wl_M_met : (Jvm.Cond.selects "PointsToRoundsModel" ({ cls := "PointsToRoundsModel", name := "met", desc := "(II)I" } : Jvm.MethodName) ({ cls := "PointsToRoundsModel", name := "met", desc := "(II)I" } : Jvm.MethodName)) ∈ TB := TB4 (List.mem_of_getElem? (i := 184) (by decide +kernel)) rfl
theorem mi_M_met : m_MI M_M_met 2 5 := ⟨mw_M_met, wn_M_met, wl_M_met, TM, 44, rfl⟩
theorem wkL_86 : (Jvm.Cond.methodLink "PointsToRoundsLaw" (86 : Nat) ({ cls := "PointsToRoundsModel", name := "met", desc := "(II)I" } : Jvm.MethodName)) ∈ TB := TB4 (List.mem_of_getElem? (i := 182) (by decide +kernel)) rfl
theorem wc_O_ran : (Jvm.Cond.code ({ cls := "PointsToRounds", name := "ran", desc := "(I)I" } : Jvm.MethodName) prog_1_method_19_code (2 : Nat) (Option.some Jvm.ClassFile.FieldType.int)) ∈ TB := TB3 (List.mem_of_getElem? (i := 79) rfl) rfl
theorem mw_O_ran : m_MW M_O_ran 1 := ⟨wc_O_ran, wi_O, ⟨by decide +kernel, by decide +kernel, by decide +kernel⟩, by decide +kernel⟩
theorem wn_O_ran : (Jvm.Cond.instanceMethod ({ cls := "PointsToRounds", name := "ran", desc := "(I)I" } : Jvm.MethodName)) ∈ TB := TB3 (List.mem_of_getElem? (i := 77) (by decide +kernel)) rfl
theorem wl_O_ran : (Jvm.Cond.selects "PointsToRounds" ({ cls := "PointsToRounds", name := "ran", desc := "(I)I" } : Jvm.MethodName) ({ cls := "PointsToRounds", name := "ran", desc := "(I)I" } : Jvm.MethodName)) ∈ TB := TB3 (List.mem_of_getElem? (i := 78) (by decide +kernel)) rfl
theorem mi_O_ran : m_MI M_O_ran 1 0 := ⟨mw_O_ran, wn_O_ran, wl_O_ran, TO, 3, rfl⟩
theorem wkL_87 : (Jvm.Cond.methodLink "PointsToRoundsLaw" (87 : Nat) ({ cls := "PointsToRounds", name := "ran", desc := "(I)I" } : Jvm.MethodName)) ∈ TB := TB3 (List.mem_of_getElem? (i := 76) (by decide +kernel)) rfl
theorem wc_M_ran : (Jvm.Cond.code ({ cls := "PointsToRoundsModel", name := "ran", desc := "(I)I" } : Jvm.MethodName) prog_7_method_54_code (2 : Nat) (Option.some Jvm.ClassFile.FieldType.int)) ∈ TB := TB4 (List.mem_of_getElem? (i := 189) rfl) rfl
theorem mw_M_ran : m_MW M_M_ran 1 := ⟨wc_M_ran, wi_M, ⟨by decide +kernel, by decide +kernel, by decide +kernel⟩, by decide +kernel⟩
theorem wn_M_ran : (Jvm.Cond.instanceMethod ({ cls := "PointsToRoundsModel", name := "ran", desc := "(I)I" } : Jvm.MethodName)) ∈ TB := TB4 (List.mem_of_getElem? (i := 187) (by decide +kernel)) rfl
theorem wl_M_ran : (Jvm.Cond.selects "PointsToRoundsModel" ({ cls := "PointsToRoundsModel", name := "ran", desc := "(I)I" } : Jvm.MethodName) ({ cls := "PointsToRoundsModel", name := "ran", desc := "(I)I" } : Jvm.MethodName)) ∈ TB := TB4 (List.mem_of_getElem? (i := 188) (by decide +kernel)) rfl
theorem mi_M_ran : m_MI M_M_ran 1 5 := ⟨mw_M_ran, wn_M_ran, wl_M_ran, TM, 44, rfl⟩
theorem wkL_90 : (Jvm.Cond.methodLink "PointsToRoundsLaw" (90 : Nat) ({ cls := "PointsToRoundsModel", name := "ran", desc := "(I)I" } : Jvm.MethodName)) ∈ TB := TB4 (List.mem_of_getElem? (i := 186) (by decide +kernel)) rfl
