variable {scr : List Int32}
theorem mq237 : mRet 237 = (some .boolean) := by decide +kernel
theorem r237_18 : rowAt 237 18 = some (.iload_n 3, 1, 0, 0) := by decide +kernel
theorem r237_19 : rowAt 237 19 = some (.aload_n 0, 1, 0, 0) := by decide +kernel
theorem r237_20 : rowAt 237 20 = some (.arraylength, 1, 0, 0) := by decide +kernel
theorem r237_21 : rowAt 237 21 = some (.bipush 6, 2, 0, 0) := by decide +kernel
theorem r237_23 : rowAt 237 23 = some (.isub, 1, 0, 0) := by decide +kernel
theorem r237_24 : rowAt 237 24 = some (.if_icmp .gt 1019, 3, 0, 0) := by decide +kernel
theorem r237_27 : rowAt 237 27 = some (.aload_n 0, 1, 0, 0) := by decide +kernel
theorem r237_28 : rowAt 237 28 = some (.iload_n 3, 1, 0, 0) := by decide +kernel
theorem r237_29 : rowAt 237 29 = some (.iaload, 1, 0, 0) := by decide +kernel
theorem r237_30 : rowAt 237 30 = some (.bipush 31, 2, 0, 0) := by decide +kernel
theorem r237_32 : rowAt 237 32 = some (.iand, 1, 0, 0) := by decide +kernel
theorem r237_33 : rowAt 237 33 = some (.tableswitch 1004 0 26 #[123, 186, 209, 222, 235, 268, 301, 344, 367, 400, 433, 466, 499, 542, 575, 608, 651, 694, 737, 790, 823, 846, 889, 912, 935, 958, 981], 123, 0, 0) := by decide +kernel
theorem r237_156 : rowAt 237 156 = some (.aload_n 1, 1, 0, 0) := by decide +kernel
theorem r237_157 : rowAt 237 157 = some (.aload_n 0, 1, 0, 0) := by decide +kernel
theorem r237_158 : rowAt 237 158 = some (.iload_n 3, 1, 0, 0) := by decide +kernel
theorem r237_159 : rowAt 237 159 = some (.iconst 1, 1, 0, 0) := by decide +kernel
theorem r237_160 : rowAt 237 160 = some (.iadd, 1, 0, 0) := by decide +kernel
theorem r237_161 : rowAt 237 161 = some (.iaload, 1, 0, 0) := by decide +kernel
theorem r237_162 : rowAt 237 162 = some (.aload_n 0, 1, 0, 0) := by decide +kernel
theorem r237_163 : rowAt 237 163 = some (.iload_n 3, 1, 0, 0) := by decide +kernel
theorem r237_164 : rowAt 237 164 = some (.iconst 2, 1, 0, 0) := by decide +kernel
theorem r237_165 : rowAt 237 165 = some (.iadd, 1, 0, 0) := by decide +kernel
theorem r237_166 : rowAt 237 166 = some (.iaload, 1, 0, 0) := by decide +kernel
theorem r237_167 : rowAt 237 167 = some (.aload_n 0, 1, 0, 0) := by decide +kernel
theorem r237_168 : rowAt 237 168 = some (.iload_n 3, 1, 0, 0) := by decide +kernel
theorem r237_169 : rowAt 237 169 = some (.iconst 3, 1, 0, 0) := by decide +kernel
theorem r237_170 : rowAt 237 170 = some (.iadd, 1, 0, 0) := by decide +kernel
theorem r237_171 : rowAt 237 171 = some (.iaload, 1, 0, 0) := by decide +kernel
theorem r237_172 : rowAt 237 172 = some (.aload_n 0, 1, 0, 0) := by decide +kernel
theorem r237_173 : rowAt 237 173 = some (.iload_n 3, 1, 0, 0) := by decide +kernel
theorem r237_174 : rowAt 237 174 = some (.iconst 4, 1, 0, 0) := by decide +kernel
theorem r237_175 : rowAt 237 175 = some (.iadd, 1, 0, 0) := by decide +kernel
theorem r237_176 : rowAt 237 176 = some (.iaload, 1, 0, 0) := by decide +kernel
theorem r237_177 : rowAt 237 177 = some (.aload_n 0, 1, 0, 0) := by decide +kernel
theorem r237_178 : rowAt 237 178 = some (.iload_n 3, 1, 0, 0) := by decide +kernel
theorem r237_179 : rowAt 237 179 = some (.iconst 5, 1, 0, 0) := by decide +kernel
theorem r237_180 : rowAt 237 180 = some (.iadd, 1, 0, 0) := by decide +kernel
theorem r237_181 : rowAt 237 181 = some (.iaload, 1, 0, 0) := by decide +kernel
theorem r237_182 : rowAt 237 182 = some (.invokevirtual 13, 3, 92, 0) := by decide +kernel
theorem r237_185 : rowAt 237 185 = some (.aload_n 2, 1, 0, 0) := by decide +kernel
theorem r237_186 : rowAt 237 186 = some (.aload_n 0, 1, 0, 0) := by decide +kernel
theorem r237_187 : rowAt 237 187 = some (.iload_n 3, 1, 0, 0) := by decide +kernel
theorem r237_188 : rowAt 237 188 = some (.iconst 1, 1, 0, 0) := by decide +kernel
theorem r237_189 : rowAt 237 189 = some (.iadd, 1, 0, 0) := by decide +kernel
theorem r237_190 : rowAt 237 190 = some (.iaload, 1, 0, 0) := by decide +kernel
theorem r237_191 : rowAt 237 191 = some (.aload_n 0, 1, 0, 0) := by decide +kernel
theorem r237_192 : rowAt 237 192 = some (.iload_n 3, 1, 0, 0) := by decide +kernel
theorem r237_193 : rowAt 237 193 = some (.iconst 2, 1, 0, 0) := by decide +kernel
theorem r237_194 : rowAt 237 194 = some (.iadd, 1, 0, 0) := by decide +kernel
theorem r237_195 : rowAt 237 195 = some (.iaload, 1, 0, 0) := by decide +kernel
theorem r237_196 : rowAt 237 196 = some (.aload_n 0, 1, 0, 0) := by decide +kernel
theorem r237_197 : rowAt 237 197 = some (.iload_n 3, 1, 0, 0) := by decide +kernel
theorem r237_198 : rowAt 237 198 = some (.iconst 3, 1, 0, 0) := by decide +kernel
theorem r237_199 : rowAt 237 199 = some (.iadd, 1, 0, 0) := by decide +kernel
theorem r237_200 : rowAt 237 200 = some (.iaload, 1, 0, 0) := by decide +kernel
theorem r237_201 : rowAt 237 201 = some (.aload_n 0, 1, 0, 0) := by decide +kernel
theorem r237_202 : rowAt 237 202 = some (.iload_n 3, 1, 0, 0) := by decide +kernel
theorem r237_203 : rowAt 237 203 = some (.iconst 4, 1, 0, 0) := by decide +kernel
theorem r237_204 : rowAt 237 204 = some (.iadd, 1, 0, 0) := by decide +kernel
theorem r237_205 : rowAt 237 205 = some (.iaload, 1, 0, 0) := by decide +kernel
theorem r237_206 : rowAt 237 206 = some (.aload_n 0, 1, 0, 0) := by decide +kernel
theorem r237_207 : rowAt 237 207 = some (.iload_n 3, 1, 0, 0) := by decide +kernel
theorem r237_208 : rowAt 237 208 = some (.iconst 5, 1, 0, 0) := by decide +kernel
theorem r237_209 : rowAt 237 209 = some (.iadd, 1, 0, 0) := by decide +kernel
theorem r237_210 : rowAt 237 210 = some (.iaload, 1, 0, 0) := by decide +kernel
theorem r237_211 : rowAt 237 211 = some (.invokevirtual 17, 3, 138, 0) := by decide +kernel
theorem r237_214 : rowAt 237 214 = some (.if_icmp .eq 823, 3, 0, 0) := by decide +kernel
theorem r237_217 : rowAt 237 217 = some (.iconst 0, 1, 0, 0) := by decide +kernel
theorem r237_218 : rowAt 237 218 = some (.ireturn, 1, 0, 0) := by decide +kernel
theorem r237_219 : rowAt 237 219 = some (.aload_n 1, 1, 0, 0) := by decide +kernel
theorem r237_220 : rowAt 237 220 = some (.aload_n 0, 1, 0, 0) := by decide +kernel
theorem r237_221 : rowAt 237 221 = some (.iload_n 3, 1, 0, 0) := by decide +kernel
theorem r237_222 : rowAt 237 222 = some (.iconst 1, 1, 0, 0) := by decide +kernel
theorem r237_223 : rowAt 237 223 = some (.iadd, 1, 0, 0) := by decide +kernel
theorem r237_224 : rowAt 237 224 = some (.iaload, 1, 0, 0) := by decide +kernel
theorem r237_225 : rowAt 237 225 = some (.invokevirtual 18, 3, 93, 0) := by decide +kernel
theorem r237_228 : rowAt 237 228 = some (.aload_n 2, 1, 0, 0) := by decide +kernel
theorem r237_229 : rowAt 237 229 = some (.aload_n 0, 1, 0, 0) := by decide +kernel
theorem r237_230 : rowAt 237 230 = some (.iload_n 3, 1, 0, 0) := by decide +kernel
theorem r237_231 : rowAt 237 231 = some (.iconst 1, 1, 0, 0) := by decide +kernel
theorem r237_232 : rowAt 237 232 = some (.iadd, 1, 0, 0) := by decide +kernel
theorem r237_233 : rowAt 237 233 = some (.iaload, 1, 0, 0) := by decide +kernel
theorem r237_234 : rowAt 237 234 = some (.invokevirtual 22, 3, 140, 0) := by decide +kernel
theorem r237_237 : rowAt 237 237 = some (.if_icmp .eq 800, 3, 0, 0) := by decide +kernel
theorem r237_240 : rowAt 237 240 = some (.iconst 0, 1, 0, 0) := by decide +kernel
theorem r237_241 : rowAt 237 241 = some (.ireturn, 1, 0, 0) := by decide +kernel
theorem r237_242 : rowAt 237 242 = some (.aload_n 1, 1, 0, 0) := by decide +kernel
theorem r237_243 : rowAt 237 243 = some (.invokevirtual 23, 3, 94, 0) := by decide +kernel
theorem r237_246 : rowAt 237 246 = some (.aload_n 2, 1, 0, 0) := by decide +kernel
theorem r237_247 : rowAt 237 247 = some (.invokevirtual 27, 3, 169, 0) := by decide +kernel
theorem r237_250 : rowAt 237 250 = some (.if_icmp .eq 787, 3, 0, 0) := by decide +kernel
theorem r237_253 : rowAt 237 253 = some (.iconst 0, 1, 0, 0) := by decide +kernel
theorem r237_254 : rowAt 237 254 = some (.ireturn, 1, 0, 0) := by decide +kernel
theorem r237_255 : rowAt 237 255 = some (.aload_n 1, 1, 0, 0) := by decide +kernel
theorem r237_256 : rowAt 237 256 = some (.invokevirtual 28, 3, 95, 0) := by decide +kernel
theorem r237_259 : rowAt 237 259 = some (.aload_n 2, 1, 0, 0) := by decide +kernel
theorem r237_260 : rowAt 237 260 = some (.invokevirtual 31, 3, 171, 0) := by decide +kernel
theorem r237_263 : rowAt 237 263 = some (.if_icmp .eq 774, 3, 0, 0) := by decide +kernel
theorem r237_266 : rowAt 237 266 = some (.iconst 0, 1, 0, 0) := by decide +kernel
theorem r237_267 : rowAt 237 267 = some (.ireturn, 1, 0, 0) := by decide +kernel
theorem r237_268 : rowAt 237 268 = some (.aload_n 1, 1, 0, 0) := by decide +kernel
theorem r237_269 : rowAt 237 269 = some (.aload_n 0, 1, 0, 0) := by decide +kernel
theorem r237_270 : rowAt 237 270 = some (.iload_n 3, 1, 0, 0) := by decide +kernel
theorem r237_271 : rowAt 237 271 = some (.iconst 1, 1, 0, 0) := by decide +kernel
theorem r237_272 : rowAt 237 272 = some (.iadd, 1, 0, 0) := by decide +kernel
theorem r237_273 : rowAt 237 273 = some (.iaload, 1, 0, 0) := by decide +kernel
theorem r237_274 : rowAt 237 274 = some (.aload_n 0, 1, 0, 0) := by decide +kernel
theorem r237_275 : rowAt 237 275 = some (.iload_n 3, 1, 0, 0) := by decide +kernel
theorem r237_276 : rowAt 237 276 = some (.iconst 2, 1, 0, 0) := by decide +kernel
theorem r237_277 : rowAt 237 277 = some (.iadd, 1, 0, 0) := by decide +kernel
theorem r237_278 : rowAt 237 278 = some (.iaload, 1, 0, 0) := by decide +kernel
theorem r237_279 : rowAt 237 279 = some (.invokevirtual 32, 3, 96, 0) := by decide +kernel
theorem r237_282 : rowAt 237 282 = some (.aload_n 2, 1, 0, 0) := by decide +kernel
theorem r237_283 : rowAt 237 283 = some (.aload_n 0, 1, 0, 0) := by decide +kernel
theorem r237_284 : rowAt 237 284 = some (.iload_n 3, 1, 0, 0) := by decide +kernel
theorem r237_285 : rowAt 237 285 = some (.iconst 1, 1, 0, 0) := by decide +kernel
theorem r237_286 : rowAt 237 286 = some (.iadd, 1, 0, 0) := by decide +kernel
theorem r237_287 : rowAt 237 287 = some (.iaload, 1, 0, 0) := by decide +kernel
theorem r237_288 : rowAt 237 288 = some (.aload_n 0, 1, 0, 0) := by decide +kernel
theorem r237_289 : rowAt 237 289 = some (.iload_n 3, 1, 0, 0) := by decide +kernel
theorem r237_290 : rowAt 237 290 = some (.iconst 2, 1, 0, 0) := by decide +kernel
theorem r237_291 : rowAt 237 291 = some (.iadd, 1, 0, 0) := by decide +kernel
theorem r237_292 : rowAt 237 292 = some (.iaload, 1, 0, 0) := by decide +kernel
theorem r237_293 : rowAt 237 293 = some (.invokevirtual 36, 3, 184, 0) := by decide +kernel
theorem r237_296 : rowAt 237 296 = some (.if_icmp .eq 741, 3, 0, 0) := by decide +kernel
theorem r237_299 : rowAt 237 299 = some (.iconst 0, 1, 0, 0) := by decide +kernel
theorem r237_300 : rowAt 237 300 = some (.ireturn, 1, 0, 0) := by decide +kernel
theorem r237_301 : rowAt 237 301 = some (.aload_n 1, 1, 0, 0) := by decide +kernel
theorem r237_302 : rowAt 237 302 = some (.aload_n 0, 1, 0, 0) := by decide +kernel
theorem r237_303 : rowAt 237 303 = some (.iload_n 3, 1, 0, 0) := by decide +kernel
theorem r237_304 : rowAt 237 304 = some (.iconst 1, 1, 0, 0) := by decide +kernel
theorem r237_305 : rowAt 237 305 = some (.iadd, 1, 0, 0) := by decide +kernel
theorem r237_306 : rowAt 237 306 = some (.iaload, 1, 0, 0) := by decide +kernel
theorem r237_307 : rowAt 237 307 = some (.aload_n 0, 1, 0, 0) := by decide +kernel
theorem r237_308 : rowAt 237 308 = some (.iload_n 3, 1, 0, 0) := by decide +kernel
theorem r237_309 : rowAt 237 309 = some (.iconst 2, 1, 0, 0) := by decide +kernel
theorem r237_310 : rowAt 237 310 = some (.iadd, 1, 0, 0) := by decide +kernel
theorem r237_311 : rowAt 237 311 = some (.iaload, 1, 0, 0) := by decide +kernel
theorem r237_312 : rowAt 237 312 = some (.invokevirtual 37, 3, 97, 0) := by decide +kernel
theorem r237_315 : rowAt 237 315 = some (.aload_n 2, 1, 0, 0) := by decide +kernel
theorem r237_316 : rowAt 237 316 = some (.aload_n 0, 1, 0, 0) := by decide +kernel
theorem r237_317 : rowAt 237 317 = some (.iload_n 3, 1, 0, 0) := by decide +kernel
theorem r237_318 : rowAt 237 318 = some (.iconst 1, 1, 0, 0) := by decide +kernel
theorem r237_319 : rowAt 237 319 = some (.iadd, 1, 0, 0) := by decide +kernel
theorem r237_320 : rowAt 237 320 = some (.iaload, 1, 0, 0) := by decide +kernel
theorem r237_321 : rowAt 237 321 = some (.aload_n 0, 1, 0, 0) := by decide +kernel
theorem r237_322 : rowAt 237 322 = some (.iload_n 3, 1, 0, 0) := by decide +kernel
theorem r237_323 : rowAt 237 323 = some (.iconst 2, 1, 0, 0) := by decide +kernel
theorem r237_324 : rowAt 237 324 = some (.iadd, 1, 0, 0) := by decide +kernel
theorem r237_325 : rowAt 237 325 = some (.iaload, 1, 0, 0) := by decide +kernel
theorem r237_326 : rowAt 237 326 = some (.invokevirtual 40, 3, 186, 0) := by decide +kernel
theorem r237_329 : rowAt 237 329 = some (.if_icmp .eq 708, 3, 0, 0) := by decide +kernel
theorem r237_332 : rowAt 237 332 = some (.iconst 0, 1, 0, 0) := by decide +kernel
theorem r237_333 : rowAt 237 333 = some (.ireturn, 1, 0, 0) := by decide +kernel
theorem r237_334 : rowAt 237 334 = some (.aload_n 1, 1, 0, 0) := by decide +kernel
theorem r237_335 : rowAt 237 335 = some (.aload_n 0, 1, 0, 0) := by decide +kernel
theorem r237_336 : rowAt 237 336 = some (.iload_n 3, 1, 0, 0) := by decide +kernel
theorem r237_337 : rowAt 237 337 = some (.iconst 1, 1, 0, 0) := by decide +kernel
theorem r237_338 : rowAt 237 338 = some (.iadd, 1, 0, 0) := by decide +kernel
theorem r237_339 : rowAt 237 339 = some (.iaload, 1, 0, 0) := by decide +kernel
theorem r237_340 : rowAt 237 340 = some (.aload_n 0, 1, 0, 0) := by decide +kernel
theorem r237_341 : rowAt 237 341 = some (.iload_n 3, 1, 0, 0) := by decide +kernel
theorem r237_342 : rowAt 237 342 = some (.iconst 2, 1, 0, 0) := by decide +kernel
theorem r237_343 : rowAt 237 343 = some (.iadd, 1, 0, 0) := by decide +kernel
theorem r237_344 : rowAt 237 344 = some (.iaload, 1, 0, 0) := by decide +kernel
theorem r237_345 : rowAt 237 345 = some (.aload_n 0, 1, 0, 0) := by decide +kernel
theorem r237_346 : rowAt 237 346 = some (.iload_n 3, 1, 0, 0) := by decide +kernel
theorem r237_347 : rowAt 237 347 = some (.iconst 3, 1, 0, 0) := by decide +kernel
theorem r237_348 : rowAt 237 348 = some (.iadd, 1, 0, 0) := by decide +kernel
theorem r237_349 : rowAt 237 349 = some (.iaload, 1, 0, 0) := by decide +kernel
theorem r237_350 : rowAt 237 350 = some (.invokevirtual 41, 3, 98, 0) := by decide +kernel
theorem r237_353 : rowAt 237 353 = some (.aload_n 2, 1, 0, 0) := by decide +kernel
theorem r237_354 : rowAt 237 354 = some (.aload_n 0, 1, 0, 0) := by decide +kernel
theorem r237_355 : rowAt 237 355 = some (.iload_n 3, 1, 0, 0) := by decide +kernel
theorem r237_356 : rowAt 237 356 = some (.iconst 1, 1, 0, 0) := by decide +kernel
theorem r237_357 : rowAt 237 357 = some (.iadd, 1, 0, 0) := by decide +kernel
theorem r237_358 : rowAt 237 358 = some (.iaload, 1, 0, 0) := by decide +kernel
theorem r237_359 : rowAt 237 359 = some (.aload_n 0, 1, 0, 0) := by decide +kernel
theorem r237_360 : rowAt 237 360 = some (.iload_n 3, 1, 0, 0) := by decide +kernel
theorem r237_361 : rowAt 237 361 = some (.iconst 2, 1, 0, 0) := by decide +kernel
theorem r237_362 : rowAt 237 362 = some (.iadd, 1, 0, 0) := by decide +kernel
theorem r237_363 : rowAt 237 363 = some (.iaload, 1, 0, 0) := by decide +kernel
theorem r237_364 : rowAt 237 364 = some (.aload_n 0, 1, 0, 0) := by decide +kernel
theorem r237_365 : rowAt 237 365 = some (.iload_n 3, 1, 0, 0) := by decide +kernel
theorem r237_366 : rowAt 237 366 = some (.iconst 3, 1, 0, 0) := by decide +kernel
theorem r237_367 : rowAt 237 367 = some (.iadd, 1, 0, 0) := by decide +kernel
theorem r237_368 : rowAt 237 368 = some (.iaload, 1, 0, 0) := by decide +kernel
theorem r237_369 : rowAt 237 369 = some (.invokevirtual 45, 3, 187, 0) := by decide +kernel
theorem r237_372 : rowAt 237 372 = some (.if_icmp .eq 665, 3, 0, 0) := by decide +kernel
theorem r237_375 : rowAt 237 375 = some (.iconst 0, 1, 0, 0) := by decide +kernel
theorem r237_376 : rowAt 237 376 = some (.ireturn, 1, 0, 0) := by decide +kernel
theorem r237_377 : rowAt 237 377 = some (.aload_n 1, 1, 0, 0) := by decide +kernel
theorem r237_378 : rowAt 237 378 = some (.aload_n 0, 1, 0, 0) := by decide +kernel
theorem r237_379 : rowAt 237 379 = some (.iload_n 3, 1, 0, 0) := by decide +kernel
theorem r237_380 : rowAt 237 380 = some (.iconst 1, 1, 0, 0) := by decide +kernel
theorem r237_381 : rowAt 237 381 = some (.iadd, 1, 0, 0) := by decide +kernel
theorem r237_382 : rowAt 237 382 = some (.iaload, 1, 0, 0) := by decide +kernel
theorem r237_383 : rowAt 237 383 = some (.invokevirtual 46, 3, 99, 0) := by decide +kernel
theorem r237_386 : rowAt 237 386 = some (.aload_n 2, 1, 0, 0) := by decide +kernel
theorem r237_387 : rowAt 237 387 = some (.aload_n 0, 1, 0, 0) := by decide +kernel
theorem r237_388 : rowAt 237 388 = some (.iload_n 3, 1, 0, 0) := by decide +kernel
theorem r237_389 : rowAt 237 389 = some (.iconst 1, 1, 0, 0) := by decide +kernel
theorem r237_390 : rowAt 237 390 = some (.iadd, 1, 0, 0) := by decide +kernel
theorem r237_391 : rowAt 237 391 = some (.iaload, 1, 0, 0) := by decide +kernel
theorem r237_392 : rowAt 237 392 = some (.invokevirtual 49, 3, 188, 0) := by decide +kernel
theorem r237_395 : rowAt 237 395 = some (.if_icmp .eq 642, 3, 0, 0) := by decide +kernel
theorem r237_398 : rowAt 237 398 = some (.iconst 0, 1, 0, 0) := by decide +kernel
theorem r237_399 : rowAt 237 399 = some (.ireturn, 1, 0, 0) := by decide +kernel
theorem r237_400 : rowAt 237 400 = some (.aload_n 1, 1, 0, 0) := by decide +kernel
theorem r237_401 : rowAt 237 401 = some (.aload_n 0, 1, 0, 0) := by decide +kernel
theorem r237_402 : rowAt 237 402 = some (.iload_n 3, 1, 0, 0) := by decide +kernel
theorem r237_403 : rowAt 237 403 = some (.iconst 1, 1, 0, 0) := by decide +kernel
theorem r237_404 : rowAt 237 404 = some (.iadd, 1, 0, 0) := by decide +kernel
theorem r237_405 : rowAt 237 405 = some (.iaload, 1, 0, 0) := by decide +kernel
theorem r237_406 : rowAt 237 406 = some (.aload_n 0, 1, 0, 0) := by decide +kernel
theorem r237_407 : rowAt 237 407 = some (.iload_n 3, 1, 0, 0) := by decide +kernel
theorem r237_408 : rowAt 237 408 = some (.iconst 2, 1, 0, 0) := by decide +kernel
theorem r237_409 : rowAt 237 409 = some (.iadd, 1, 0, 0) := by decide +kernel
theorem r237_410 : rowAt 237 410 = some (.iaload, 1, 0, 0) := by decide +kernel
theorem r237_411 : rowAt 237 411 = some (.invokevirtual 50, 3, 100, 0) := by decide +kernel
theorem r237_414 : rowAt 237 414 = some (.aload_n 2, 1, 0, 0) := by decide +kernel
theorem r237_415 : rowAt 237 415 = some (.aload_n 0, 1, 0, 0) := by decide +kernel
theorem r237_416 : rowAt 237 416 = some (.iload_n 3, 1, 0, 0) := by decide +kernel
theorem r237_417 : rowAt 237 417 = some (.iconst 1, 1, 0, 0) := by decide +kernel
theorem r237_418 : rowAt 237 418 = some (.iadd, 1, 0, 0) := by decide +kernel
theorem r237_419 : rowAt 237 419 = some (.iaload, 1, 0, 0) := by decide +kernel
theorem r237_420 : rowAt 237 420 = some (.aload_n 0, 1, 0, 0) := by decide +kernel
theorem r237_421 : rowAt 237 421 = some (.iload_n 3, 1, 0, 0) := by decide +kernel
theorem r237_422 : rowAt 237 422 = some (.iconst 2, 1, 0, 0) := by decide +kernel
theorem r237_423 : rowAt 237 423 = some (.iadd, 1, 0, 0) := by decide +kernel
theorem r237_424 : rowAt 237 424 = some (.iaload, 1, 0, 0) := by decide +kernel
theorem r237_425 : rowAt 237 425 = some (.invokevirtual 53, 3, 189, 0) := by decide +kernel
theorem r237_428 : rowAt 237 428 = some (.if_icmp .eq 609, 3, 0, 0) := by decide +kernel
theorem r237_431 : rowAt 237 431 = some (.iconst 0, 1, 0, 0) := by decide +kernel
theorem r237_432 : rowAt 237 432 = some (.ireturn, 1, 0, 0) := by decide +kernel
theorem r237_433 : rowAt 237 433 = some (.aload_n 1, 1, 0, 0) := by decide +kernel
theorem r237_434 : rowAt 237 434 = some (.aload_n 0, 1, 0, 0) := by decide +kernel
theorem r237_435 : rowAt 237 435 = some (.iload_n 3, 1, 0, 0) := by decide +kernel
theorem r237_436 : rowAt 237 436 = some (.iconst 1, 1, 0, 0) := by decide +kernel
theorem r237_437 : rowAt 237 437 = some (.iadd, 1, 0, 0) := by decide +kernel
theorem r237_438 : rowAt 237 438 = some (.iaload, 1, 0, 0) := by decide +kernel
theorem r237_439 : rowAt 237 439 = some (.aload_n 0, 1, 0, 0) := by decide +kernel
theorem r237_440 : rowAt 237 440 = some (.iload_n 3, 1, 0, 0) := by decide +kernel
theorem r237_441 : rowAt 237 441 = some (.iconst 2, 1, 0, 0) := by decide +kernel
theorem r237_442 : rowAt 237 442 = some (.iadd, 1, 0, 0) := by decide +kernel
theorem r237_443 : rowAt 237 443 = some (.iaload, 1, 0, 0) := by decide +kernel
theorem r237_444 : rowAt 237 444 = some (.invokevirtual 54, 3, 101, 0) := by decide +kernel
theorem r237_447 : rowAt 237 447 = some (.aload_n 2, 1, 0, 0) := by decide +kernel
theorem r237_448 : rowAt 237 448 = some (.aload_n 0, 1, 0, 0) := by decide +kernel
theorem r237_449 : rowAt 237 449 = some (.iload_n 3, 1, 0, 0) := by decide +kernel
theorem r237_450 : rowAt 237 450 = some (.iconst 1, 1, 0, 0) := by decide +kernel
theorem r237_451 : rowAt 237 451 = some (.iadd, 1, 0, 0) := by decide +kernel
theorem r237_452 : rowAt 237 452 = some (.iaload, 1, 0, 0) := by decide +kernel
theorem r237_453 : rowAt 237 453 = some (.aload_n 0, 1, 0, 0) := by decide +kernel
theorem r237_454 : rowAt 237 454 = some (.iload_n 3, 1, 0, 0) := by decide +kernel
theorem r237_455 : rowAt 237 455 = some (.iconst 2, 1, 0, 0) := by decide +kernel
theorem r237_456 : rowAt 237 456 = some (.iadd, 1, 0, 0) := by decide +kernel
theorem r237_457 : rowAt 237 457 = some (.iaload, 1, 0, 0) := by decide +kernel
theorem r237_458 : rowAt 237 458 = some (.invokevirtual 58, 3, 191, 0) := by decide +kernel
theorem r237_461 : rowAt 237 461 = some (.if_icmp .eq 576, 3, 0, 0) := by decide +kernel
theorem r237_464 : rowAt 237 464 = some (.iconst 0, 1, 0, 0) := by decide +kernel
theorem r237_465 : rowAt 237 465 = some (.ireturn, 1, 0, 0) := by decide +kernel
theorem r237_466 : rowAt 237 466 = some (.aload_n 1, 1, 0, 0) := by decide +kernel
theorem r237_467 : rowAt 237 467 = some (.aload_n 0, 1, 0, 0) := by decide +kernel
theorem r237_468 : rowAt 237 468 = some (.iload_n 3, 1, 0, 0) := by decide +kernel
theorem r237_469 : rowAt 237 469 = some (.iconst 1, 1, 0, 0) := by decide +kernel
theorem r237_470 : rowAt 237 470 = some (.iadd, 1, 0, 0) := by decide +kernel
theorem r237_471 : rowAt 237 471 = some (.iaload, 1, 0, 0) := by decide +kernel
theorem r237_472 : rowAt 237 472 = some (.aload_n 0, 1, 0, 0) := by decide +kernel
theorem r237_473 : rowAt 237 473 = some (.iload_n 3, 1, 0, 0) := by decide +kernel
theorem r237_474 : rowAt 237 474 = some (.iconst 2, 1, 0, 0) := by decide +kernel
theorem r237_475 : rowAt 237 475 = some (.iadd, 1, 0, 0) := by decide +kernel
theorem r237_476 : rowAt 237 476 = some (.iaload, 1, 0, 0) := by decide +kernel
theorem r237_477 : rowAt 237 477 = some (.invokevirtual 59, 3, 102, 0) := by decide +kernel
theorem r237_480 : rowAt 237 480 = some (.aload_n 2, 1, 0, 0) := by decide +kernel
theorem r237_481 : rowAt 237 481 = some (.aload_n 0, 1, 0, 0) := by decide +kernel
theorem r237_482 : rowAt 237 482 = some (.iload_n 3, 1, 0, 0) := by decide +kernel
theorem r237_483 : rowAt 237 483 = some (.iconst 1, 1, 0, 0) := by decide +kernel
theorem r237_484 : rowAt 237 484 = some (.iadd, 1, 0, 0) := by decide +kernel
theorem r237_485 : rowAt 237 485 = some (.iaload, 1, 0, 0) := by decide +kernel
theorem r237_486 : rowAt 237 486 = some (.aload_n 0, 1, 0, 0) := by decide +kernel
theorem r237_487 : rowAt 237 487 = some (.iload_n 3, 1, 0, 0) := by decide +kernel
theorem r237_488 : rowAt 237 488 = some (.iconst 2, 1, 0, 0) := by decide +kernel
theorem r237_489 : rowAt 237 489 = some (.iadd, 1, 0, 0) := by decide +kernel
theorem r237_490 : rowAt 237 490 = some (.iaload, 1, 0, 0) := by decide +kernel
theorem r237_491 : rowAt 237 491 = some (.invokevirtual 62, 3, 183, 0) := by decide +kernel
theorem r237_494 : rowAt 237 494 = some (.if_icmp .eq 543, 3, 0, 0) := by decide +kernel
theorem r237_497 : rowAt 237 497 = some (.iconst 0, 1, 0, 0) := by decide +kernel
theorem r237_498 : rowAt 237 498 = some (.ireturn, 1, 0, 0) := by decide +kernel
theorem r237_499 : rowAt 237 499 = some (.aload_n 1, 1, 0, 0) := by decide +kernel
theorem r237_500 : rowAt 237 500 = some (.aload_n 0, 1, 0, 0) := by decide +kernel
theorem r237_501 : rowAt 237 501 = some (.iload_n 3, 1, 0, 0) := by decide +kernel
theorem r237_502 : rowAt 237 502 = some (.iconst 1, 1, 0, 0) := by decide +kernel
theorem r237_503 : rowAt 237 503 = some (.iadd, 1, 0, 0) := by decide +kernel
theorem r237_504 : rowAt 237 504 = some (.iaload, 1, 0, 0) := by decide +kernel
theorem r237_505 : rowAt 237 505 = some (.aload_n 0, 1, 0, 0) := by decide +kernel
theorem r237_506 : rowAt 237 506 = some (.iload_n 3, 1, 0, 0) := by decide +kernel
theorem r237_507 : rowAt 237 507 = some (.iconst 2, 1, 0, 0) := by decide +kernel
theorem r237_508 : rowAt 237 508 = some (.iadd, 1, 0, 0) := by decide +kernel
theorem r237_509 : rowAt 237 509 = some (.iaload, 1, 0, 0) := by decide +kernel
theorem r237_510 : rowAt 237 510 = some (.invokevirtual 63, 3, 103, 0) := by decide +kernel
theorem r237_513 : rowAt 237 513 = some (.aload_n 2, 1, 0, 0) := by decide +kernel
theorem r237_514 : rowAt 237 514 = some (.aload_n 0, 1, 0, 0) := by decide +kernel
theorem r237_515 : rowAt 237 515 = some (.iload_n 3, 1, 0, 0) := by decide +kernel
theorem r237_516 : rowAt 237 516 = some (.iconst 1, 1, 0, 0) := by decide +kernel
theorem r237_517 : rowAt 237 517 = some (.iadd, 1, 0, 0) := by decide +kernel
theorem r237_518 : rowAt 237 518 = some (.iaload, 1, 0, 0) := by decide +kernel
theorem r237_519 : rowAt 237 519 = some (.aload_n 0, 1, 0, 0) := by decide +kernel
theorem r237_520 : rowAt 237 520 = some (.iload_n 3, 1, 0, 0) := by decide +kernel
theorem r237_521 : rowAt 237 521 = some (.iconst 2, 1, 0, 0) := by decide +kernel
theorem r237_522 : rowAt 237 522 = some (.iadd, 1, 0, 0) := by decide +kernel
theorem r237_523 : rowAt 237 523 = some (.iaload, 1, 0, 0) := by decide +kernel
theorem r237_524 : rowAt 237 524 = some (.invokevirtual 66, 3, 192, 0) := by decide +kernel
theorem r237_527 : rowAt 237 527 = some (.if_icmp .eq 510, 3, 0, 0) := by decide +kernel
theorem r237_530 : rowAt 237 530 = some (.iconst 0, 1, 0, 0) := by decide +kernel
theorem r237_531 : rowAt 237 531 = some (.ireturn, 1, 0, 0) := by decide +kernel
theorem r237_532 : rowAt 237 532 = some (.aload_n 1, 1, 0, 0) := by decide +kernel
theorem r237_533 : rowAt 237 533 = some (.aload_n 0, 1, 0, 0) := by decide +kernel
theorem r237_534 : rowAt 237 534 = some (.iload_n 3, 1, 0, 0) := by decide +kernel
theorem r237_535 : rowAt 237 535 = some (.iconst 1, 1, 0, 0) := by decide +kernel
theorem r237_536 : rowAt 237 536 = some (.iadd, 1, 0, 0) := by decide +kernel
theorem r237_537 : rowAt 237 537 = some (.iaload, 1, 0, 0) := by decide +kernel
theorem r237_538 : rowAt 237 538 = some (.aload_n 0, 1, 0, 0) := by decide +kernel
theorem r237_539 : rowAt 237 539 = some (.iload_n 3, 1, 0, 0) := by decide +kernel
theorem r237_540 : rowAt 237 540 = some (.iconst 2, 1, 0, 0) := by decide +kernel
theorem r237_541 : rowAt 237 541 = some (.iadd, 1, 0, 0) := by decide +kernel
theorem r237_542 : rowAt 237 542 = some (.iaload, 1, 0, 0) := by decide +kernel
theorem r237_543 : rowAt 237 543 = some (.aload_n 0, 1, 0, 0) := by decide +kernel
theorem r237_544 : rowAt 237 544 = some (.iload_n 3, 1, 0, 0) := by decide +kernel
theorem r237_545 : rowAt 237 545 = some (.iconst 3, 1, 0, 0) := by decide +kernel
theorem r237_546 : rowAt 237 546 = some (.iadd, 1, 0, 0) := by decide +kernel
theorem r237_547 : rowAt 237 547 = some (.iaload, 1, 0, 0) := by decide +kernel
theorem r237_548 : rowAt 237 548 = some (.invokevirtual 67, 3, 104, 0) := by decide +kernel
theorem r237_551 : rowAt 237 551 = some (.aload_n 2, 1, 0, 0) := by decide +kernel
theorem r237_552 : rowAt 237 552 = some (.aload_n 0, 1, 0, 0) := by decide +kernel
theorem r237_553 : rowAt 237 553 = some (.iload_n 3, 1, 0, 0) := by decide +kernel
theorem r237_554 : rowAt 237 554 = some (.iconst 1, 1, 0, 0) := by decide +kernel
theorem r237_555 : rowAt 237 555 = some (.iadd, 1, 0, 0) := by decide +kernel
theorem r237_556 : rowAt 237 556 = some (.iaload, 1, 0, 0) := by decide +kernel
theorem r237_557 : rowAt 237 557 = some (.aload_n 0, 1, 0, 0) := by decide +kernel
theorem r237_558 : rowAt 237 558 = some (.iload_n 3, 1, 0, 0) := by decide +kernel
theorem r237_559 : rowAt 237 559 = some (.iconst 2, 1, 0, 0) := by decide +kernel
theorem r237_560 : rowAt 237 560 = some (.iadd, 1, 0, 0) := by decide +kernel
theorem r237_561 : rowAt 237 561 = some (.iaload, 1, 0, 0) := by decide +kernel
theorem r237_562 : rowAt 237 562 = some (.aload_n 0, 1, 0, 0) := by decide +kernel
theorem r237_563 : rowAt 237 563 = some (.iload_n 3, 1, 0, 0) := by decide +kernel
theorem r237_564 : rowAt 237 564 = some (.iconst 3, 1, 0, 0) := by decide +kernel
theorem r237_565 : rowAt 237 565 = some (.iadd, 1, 0, 0) := by decide +kernel
theorem r237_566 : rowAt 237 566 = some (.iaload, 1, 0, 0) := by decide +kernel
theorem r237_567 : rowAt 237 567 = some (.invokevirtual 70, 3, 196, 0) := by decide +kernel
theorem r237_570 : rowAt 237 570 = some (.if_icmp .eq 467, 3, 0, 0) := by decide +kernel
theorem r237_573 : rowAt 237 573 = some (.iconst 0, 1, 0, 0) := by decide +kernel
theorem r237_574 : rowAt 237 574 = some (.ireturn, 1, 0, 0) := by decide +kernel
theorem r237_575 : rowAt 237 575 = some (.aload_n 1, 1, 0, 0) := by decide +kernel
theorem r237_576 : rowAt 237 576 = some (.aload_n 0, 1, 0, 0) := by decide +kernel
theorem r237_577 : rowAt 237 577 = some (.iload_n 3, 1, 0, 0) := by decide +kernel
theorem r237_578 : rowAt 237 578 = some (.iconst 1, 1, 0, 0) := by decide +kernel
theorem r237_579 : rowAt 237 579 = some (.iadd, 1, 0, 0) := by decide +kernel
theorem r237_580 : rowAt 237 580 = some (.iaload, 1, 0, 0) := by decide +kernel
theorem r237_581 : rowAt 237 581 = some (.aload_n 0, 1, 0, 0) := by decide +kernel
theorem r237_582 : rowAt 237 582 = some (.iload_n 3, 1, 0, 0) := by decide +kernel
theorem r237_583 : rowAt 237 583 = some (.iconst 2, 1, 0, 0) := by decide +kernel
theorem r237_584 : rowAt 237 584 = some (.iadd, 1, 0, 0) := by decide +kernel
theorem r237_585 : rowAt 237 585 = some (.iaload, 1, 0, 0) := by decide +kernel
theorem r237_586 : rowAt 237 586 = some (.invokevirtual 71, 3, 105, 0) := by decide +kernel
theorem r237_589 : rowAt 237 589 = some (.aload_n 2, 1, 0, 0) := by decide +kernel
theorem r237_590 : rowAt 237 590 = some (.aload_n 0, 1, 0, 0) := by decide +kernel
theorem r237_591 : rowAt 237 591 = some (.iload_n 3, 1, 0, 0) := by decide +kernel
theorem r237_592 : rowAt 237 592 = some (.iconst 1, 1, 0, 0) := by decide +kernel
theorem r237_593 : rowAt 237 593 = some (.iadd, 1, 0, 0) := by decide +kernel
theorem r237_594 : rowAt 237 594 = some (.iaload, 1, 0, 0) := by decide +kernel
theorem r237_595 : rowAt 237 595 = some (.aload_n 0, 1, 0, 0) := by decide +kernel
theorem r237_596 : rowAt 237 596 = some (.iload_n 3, 1, 0, 0) := by decide +kernel
theorem r237_597 : rowAt 237 597 = some (.iconst 2, 1, 0, 0) := by decide +kernel
theorem r237_598 : rowAt 237 598 = some (.iadd, 1, 0, 0) := by decide +kernel
theorem r237_599 : rowAt 237 599 = some (.iaload, 1, 0, 0) := by decide +kernel
theorem r237_600 : rowAt 237 600 = some (.invokevirtual 74, 3, 198, 0) := by decide +kernel
theorem r237_603 : rowAt 237 603 = some (.if_icmp .eq 434, 3, 0, 0) := by decide +kernel
theorem r237_606 : rowAt 237 606 = some (.iconst 0, 1, 0, 0) := by decide +kernel
theorem r237_607 : rowAt 237 607 = some (.ireturn, 1, 0, 0) := by decide +kernel
theorem r237_608 : rowAt 237 608 = some (.aload_n 1, 1, 0, 0) := by decide +kernel
theorem r237_609 : rowAt 237 609 = some (.aload_n 0, 1, 0, 0) := by decide +kernel
theorem r237_610 : rowAt 237 610 = some (.iload_n 3, 1, 0, 0) := by decide +kernel
theorem r237_611 : rowAt 237 611 = some (.iconst 1, 1, 0, 0) := by decide +kernel
theorem r237_612 : rowAt 237 612 = some (.iadd, 1, 0, 0) := by decide +kernel
theorem r237_613 : rowAt 237 613 = some (.iaload, 1, 0, 0) := by decide +kernel
theorem r237_614 : rowAt 237 614 = some (.aload_n 0, 1, 0, 0) := by decide +kernel
theorem r237_615 : rowAt 237 615 = some (.iload_n 3, 1, 0, 0) := by decide +kernel
theorem r237_616 : rowAt 237 616 = some (.iconst 2, 1, 0, 0) := by decide +kernel
theorem r237_617 : rowAt 237 617 = some (.iadd, 1, 0, 0) := by decide +kernel
theorem r237_618 : rowAt 237 618 = some (.iaload, 1, 0, 0) := by decide +kernel
theorem r237_619 : rowAt 237 619 = some (.invokevirtual 75, 3, 106, 0) := by decide +kernel
theorem r237_622 : rowAt 237 622 = some (.aload_n 2, 1, 0, 0) := by decide +kernel
theorem r237_623 : rowAt 237 623 = some (.aload_n 0, 1, 0, 0) := by decide +kernel
theorem r237_624 : rowAt 237 624 = some (.iload_n 3, 1, 0, 0) := by decide +kernel
theorem r237_625 : rowAt 237 625 = some (.iconst 1, 1, 0, 0) := by decide +kernel
theorem r237_626 : rowAt 237 626 = some (.iadd, 1, 0, 0) := by decide +kernel
theorem r237_627 : rowAt 237 627 = some (.iaload, 1, 0, 0) := by decide +kernel
theorem r237_628 : rowAt 237 628 = some (.aload_n 0, 1, 0, 0) := by decide +kernel
theorem r237_629 : rowAt 237 629 = some (.iload_n 3, 1, 0, 0) := by decide +kernel
theorem r237_630 : rowAt 237 630 = some (.iconst 2, 1, 0, 0) := by decide +kernel
theorem r237_631 : rowAt 237 631 = some (.iadd, 1, 0, 0) := by decide +kernel
theorem r237_632 : rowAt 237 632 = some (.iaload, 1, 0, 0) := by decide +kernel
theorem r237_633 : rowAt 237 633 = some (.invokevirtual 78, 3, 201, 0) := by decide +kernel
theorem r237_636 : rowAt 237 636 = some (.if_icmp .eq 401, 3, 0, 0) := by decide +kernel
theorem r237_639 : rowAt 237 639 = some (.iconst 0, 1, 0, 0) := by decide +kernel
theorem r237_640 : rowAt 237 640 = some (.ireturn, 1, 0, 0) := by decide +kernel
theorem r237_641 : rowAt 237 641 = some (.aload_n 1, 1, 0, 0) := by decide +kernel
theorem r237_642 : rowAt 237 642 = some (.aload_n 0, 1, 0, 0) := by decide +kernel
theorem r237_643 : rowAt 237 643 = some (.iload_n 3, 1, 0, 0) := by decide +kernel
theorem r237_644 : rowAt 237 644 = some (.iconst 1, 1, 0, 0) := by decide +kernel
theorem r237_645 : rowAt 237 645 = some (.iadd, 1, 0, 0) := by decide +kernel
theorem r237_646 : rowAt 237 646 = some (.iaload, 1, 0, 0) := by decide +kernel
theorem r237_647 : rowAt 237 647 = some (.aload_n 0, 1, 0, 0) := by decide +kernel
theorem r237_648 : rowAt 237 648 = some (.iload_n 3, 1, 0, 0) := by decide +kernel
theorem r237_649 : rowAt 237 649 = some (.iconst 2, 1, 0, 0) := by decide +kernel
theorem r237_650 : rowAt 237 650 = some (.iadd, 1, 0, 0) := by decide +kernel
theorem r237_651 : rowAt 237 651 = some (.iaload, 1, 0, 0) := by decide +kernel
theorem r237_652 : rowAt 237 652 = some (.aload_n 0, 1, 0, 0) := by decide +kernel
theorem r237_653 : rowAt 237 653 = some (.iload_n 3, 1, 0, 0) := by decide +kernel
theorem r237_654 : rowAt 237 654 = some (.iconst 3, 1, 0, 0) := by decide +kernel
theorem r237_655 : rowAt 237 655 = some (.iadd, 1, 0, 0) := by decide +kernel
theorem r237_656 : rowAt 237 656 = some (.iaload, 1, 0, 0) := by decide +kernel
theorem r237_657 : rowAt 237 657 = some (.invokevirtual 79, 3, 107, 0) := by decide +kernel
theorem r237_660 : rowAt 237 660 = some (.aload_n 2, 1, 0, 0) := by decide +kernel
theorem r237_661 : rowAt 237 661 = some (.aload_n 0, 1, 0, 0) := by decide +kernel
theorem r237_662 : rowAt 237 662 = some (.iload_n 3, 1, 0, 0) := by decide +kernel
theorem r237_663 : rowAt 237 663 = some (.iconst 1, 1, 0, 0) := by decide +kernel
theorem r237_664 : rowAt 237 664 = some (.iadd, 1, 0, 0) := by decide +kernel
theorem r237_665 : rowAt 237 665 = some (.iaload, 1, 0, 0) := by decide +kernel
theorem r237_666 : rowAt 237 666 = some (.aload_n 0, 1, 0, 0) := by decide +kernel
theorem r237_667 : rowAt 237 667 = some (.iload_n 3, 1, 0, 0) := by decide +kernel
theorem r237_668 : rowAt 237 668 = some (.iconst 2, 1, 0, 0) := by decide +kernel
theorem r237_669 : rowAt 237 669 = some (.iadd, 1, 0, 0) := by decide +kernel
theorem r237_670 : rowAt 237 670 = some (.iaload, 1, 0, 0) := by decide +kernel
theorem r237_671 : rowAt 237 671 = some (.aload_n 0, 1, 0, 0) := by decide +kernel
theorem r237_672 : rowAt 237 672 = some (.iload_n 3, 1, 0, 0) := by decide +kernel
theorem r237_673 : rowAt 237 673 = some (.iconst 3, 1, 0, 0) := by decide +kernel
theorem r237_674 : rowAt 237 674 = some (.iadd, 1, 0, 0) := by decide +kernel
theorem r237_675 : rowAt 237 675 = some (.iaload, 1, 0, 0) := by decide +kernel
theorem r237_676 : rowAt 237 676 = some (.invokevirtual 82, 3, 203, 0) := by decide +kernel
theorem r237_679 : rowAt 237 679 = some (.if_icmp .eq 358, 3, 0, 0) := by decide +kernel
theorem r237_682 : rowAt 237 682 = some (.iconst 0, 1, 0, 0) := by decide +kernel
theorem r237_683 : rowAt 237 683 = some (.ireturn, 1, 0, 0) := by decide +kernel
theorem r237_684 : rowAt 237 684 = some (.aload_n 1, 1, 0, 0) := by decide +kernel
theorem r237_685 : rowAt 237 685 = some (.aload_n 0, 1, 0, 0) := by decide +kernel
theorem r237_686 : rowAt 237 686 = some (.iload_n 3, 1, 0, 0) := by decide +kernel
theorem r237_687 : rowAt 237 687 = some (.iconst 1, 1, 0, 0) := by decide +kernel
theorem r237_688 : rowAt 237 688 = some (.iadd, 1, 0, 0) := by decide +kernel
theorem r237_689 : rowAt 237 689 = some (.iaload, 1, 0, 0) := by decide +kernel
theorem r237_690 : rowAt 237 690 = some (.aload_n 0, 1, 0, 0) := by decide +kernel
theorem r237_691 : rowAt 237 691 = some (.iload_n 3, 1, 0, 0) := by decide +kernel
theorem r237_692 : rowAt 237 692 = some (.iconst 2, 1, 0, 0) := by decide +kernel
theorem r237_693 : rowAt 237 693 = some (.iadd, 1, 0, 0) := by decide +kernel
theorem r237_694 : rowAt 237 694 = some (.iaload, 1, 0, 0) := by decide +kernel
theorem r237_695 : rowAt 237 695 = some (.aload_n 0, 1, 0, 0) := by decide +kernel
theorem r237_696 : rowAt 237 696 = some (.iload_n 3, 1, 0, 0) := by decide +kernel
theorem r237_697 : rowAt 237 697 = some (.iconst 3, 1, 0, 0) := by decide +kernel
theorem r237_698 : rowAt 237 698 = some (.iadd, 1, 0, 0) := by decide +kernel
theorem r237_699 : rowAt 237 699 = some (.iaload, 1, 0, 0) := by decide +kernel
theorem r237_700 : rowAt 237 700 = some (.invokevirtual 83, 3, 108, 0) := by decide +kernel
theorem r237_703 : rowAt 237 703 = some (.aload_n 2, 1, 0, 0) := by decide +kernel
theorem r237_704 : rowAt 237 704 = some (.aload_n 0, 1, 0, 0) := by decide +kernel
theorem r237_705 : rowAt 237 705 = some (.iload_n 3, 1, 0, 0) := by decide +kernel
theorem r237_706 : rowAt 237 706 = some (.iconst 1, 1, 0, 0) := by decide +kernel
theorem r237_707 : rowAt 237 707 = some (.iadd, 1, 0, 0) := by decide +kernel
theorem r237_708 : rowAt 237 708 = some (.iaload, 1, 0, 0) := by decide +kernel
theorem r237_709 : rowAt 237 709 = some (.aload_n 0, 1, 0, 0) := by decide +kernel
theorem r237_710 : rowAt 237 710 = some (.iload_n 3, 1, 0, 0) := by decide +kernel
theorem r237_711 : rowAt 237 711 = some (.iconst 2, 1, 0, 0) := by decide +kernel
theorem r237_712 : rowAt 237 712 = some (.iadd, 1, 0, 0) := by decide +kernel
theorem r237_713 : rowAt 237 713 = some (.iaload, 1, 0, 0) := by decide +kernel
theorem r237_714 : rowAt 237 714 = some (.aload_n 0, 1, 0, 0) := by decide +kernel
theorem r237_715 : rowAt 237 715 = some (.iload_n 3, 1, 0, 0) := by decide +kernel
theorem r237_716 : rowAt 237 716 = some (.iconst 3, 1, 0, 0) := by decide +kernel
theorem r237_717 : rowAt 237 717 = some (.iadd, 1, 0, 0) := by decide +kernel
theorem r237_718 : rowAt 237 718 = some (.iaload, 1, 0, 0) := by decide +kernel
theorem r237_719 : rowAt 237 719 = some (.invokevirtual 86, 3, 204, 0) := by decide +kernel
theorem r237_722 : rowAt 237 722 = some (.if_icmp .eq 315, 3, 0, 0) := by decide +kernel
theorem r237_725 : rowAt 237 725 = some (.iconst 0, 1, 0, 0) := by decide +kernel
theorem r237_726 : rowAt 237 726 = some (.ireturn, 1, 0, 0) := by decide +kernel
theorem r237_727 : rowAt 237 727 = some (.aload_n 1, 1, 0, 0) := by decide +kernel
theorem r237_728 : rowAt 237 728 = some (.aload_n 0, 1, 0, 0) := by decide +kernel
theorem r237_729 : rowAt 237 729 = some (.iload_n 3, 1, 0, 0) := by decide +kernel
theorem r237_730 : rowAt 237 730 = some (.iconst 1, 1, 0, 0) := by decide +kernel
theorem r237_731 : rowAt 237 731 = some (.iadd, 1, 0, 0) := by decide +kernel
theorem r237_732 : rowAt 237 732 = some (.iaload, 1, 0, 0) := by decide +kernel
theorem r237_733 : rowAt 237 733 = some (.aload_n 0, 1, 0, 0) := by decide +kernel
theorem r237_734 : rowAt 237 734 = some (.iload_n 3, 1, 0, 0) := by decide +kernel
theorem r237_735 : rowAt 237 735 = some (.iconst 2, 1, 0, 0) := by decide +kernel
theorem r237_736 : rowAt 237 736 = some (.iadd, 1, 0, 0) := by decide +kernel
theorem r237_737 : rowAt 237 737 = some (.iaload, 1, 0, 0) := by decide +kernel
theorem r237_738 : rowAt 237 738 = some (.aload_n 0, 1, 0, 0) := by decide +kernel
theorem r237_739 : rowAt 237 739 = some (.iload_n 3, 1, 0, 0) := by decide +kernel
theorem r237_740 : rowAt 237 740 = some (.iconst 3, 1, 0, 0) := by decide +kernel
theorem r237_741 : rowAt 237 741 = some (.iadd, 1, 0, 0) := by decide +kernel
theorem r237_742 : rowAt 237 742 = some (.iaload, 1, 0, 0) := by decide +kernel
theorem r237_743 : rowAt 237 743 = some (.invokevirtual 87, 3, 109, 0) := by decide +kernel
theorem r237_746 : rowAt 237 746 = some (.aload_n 2, 1, 0, 0) := by decide +kernel
theorem r237_747 : rowAt 237 747 = some (.aload_n 0, 1, 0, 0) := by decide +kernel
theorem r237_748 : rowAt 237 748 = some (.iload_n 3, 1, 0, 0) := by decide +kernel
theorem r237_749 : rowAt 237 749 = some (.iconst 1, 1, 0, 0) := by decide +kernel
theorem r237_750 : rowAt 237 750 = some (.iadd, 1, 0, 0) := by decide +kernel
theorem r237_751 : rowAt 237 751 = some (.iaload, 1, 0, 0) := by decide +kernel
theorem r237_752 : rowAt 237 752 = some (.aload_n 0, 1, 0, 0) := by decide +kernel
theorem r237_753 : rowAt 237 753 = some (.iload_n 3, 1, 0, 0) := by decide +kernel
theorem r237_754 : rowAt 237 754 = some (.iconst 2, 1, 0, 0) := by decide +kernel
theorem r237_755 : rowAt 237 755 = some (.iadd, 1, 0, 0) := by decide +kernel
theorem r237_756 : rowAt 237 756 = some (.iaload, 1, 0, 0) := by decide +kernel
theorem r237_757 : rowAt 237 757 = some (.aload_n 0, 1, 0, 0) := by decide +kernel
theorem r237_758 : rowAt 237 758 = some (.iload_n 3, 1, 0, 0) := by decide +kernel
theorem r237_759 : rowAt 237 759 = some (.iconst 3, 1, 0, 0) := by decide +kernel
theorem r237_760 : rowAt 237 760 = some (.iadd, 1, 0, 0) := by decide +kernel
theorem r237_761 : rowAt 237 761 = some (.iaload, 1, 0, 0) := by decide +kernel
theorem r237_762 : rowAt 237 762 = some (.invokevirtual 90, 3, 206, 0) := by decide +kernel
theorem r237_765 : rowAt 237 765 = some (.if_icmp .eq 272, 3, 0, 0) := by decide +kernel
theorem r237_768 : rowAt 237 768 = some (.iconst 0, 1, 0, 0) := by decide +kernel
theorem r237_769 : rowAt 237 769 = some (.ireturn, 1, 0, 0) := by decide +kernel
theorem r237_770 : rowAt 237 770 = some (.aload_n 1, 1, 0, 0) := by decide +kernel
theorem r237_771 : rowAt 237 771 = some (.aload_n 0, 1, 0, 0) := by decide +kernel
theorem r237_772 : rowAt 237 772 = some (.iload_n 3, 1, 0, 0) := by decide +kernel
theorem r237_773 : rowAt 237 773 = some (.iconst 1, 1, 0, 0) := by decide +kernel
theorem r237_774 : rowAt 237 774 = some (.iadd, 1, 0, 0) := by decide +kernel
theorem r237_775 : rowAt 237 775 = some (.iaload, 1, 0, 0) := by decide +kernel
theorem r237_776 : rowAt 237 776 = some (.aload_n 0, 1, 0, 0) := by decide +kernel
theorem r237_777 : rowAt 237 777 = some (.iload_n 3, 1, 0, 0) := by decide +kernel
theorem r237_778 : rowAt 237 778 = some (.iconst 2, 1, 0, 0) := by decide +kernel
theorem r237_779 : rowAt 237 779 = some (.iadd, 1, 0, 0) := by decide +kernel
theorem r237_780 : rowAt 237 780 = some (.iaload, 1, 0, 0) := by decide +kernel
theorem r237_781 : rowAt 237 781 = some (.aload_n 0, 1, 0, 0) := by decide +kernel
theorem r237_782 : rowAt 237 782 = some (.iload_n 3, 1, 0, 0) := by decide +kernel
theorem r237_783 : rowAt 237 783 = some (.iconst 3, 1, 0, 0) := by decide +kernel
theorem r237_784 : rowAt 237 784 = some (.iadd, 1, 0, 0) := by decide +kernel
theorem r237_785 : rowAt 237 785 = some (.iaload, 1, 0, 0) := by decide +kernel
theorem r237_786 : rowAt 237 786 = some (.aload_n 0, 1, 0, 0) := by decide +kernel
theorem r237_787 : rowAt 237 787 = some (.iload_n 3, 1, 0, 0) := by decide +kernel
theorem r237_788 : rowAt 237 788 = some (.iconst 4, 1, 0, 0) := by decide +kernel
theorem r237_789 : rowAt 237 789 = some (.iadd, 1, 0, 0) := by decide +kernel
theorem r237_790 : rowAt 237 790 = some (.iaload, 1, 0, 0) := by decide +kernel
theorem r237_791 : rowAt 237 791 = some (.invokevirtual 91, 3, 110, 0) := by decide +kernel
theorem r237_794 : rowAt 237 794 = some (.aload_n 2, 1, 0, 0) := by decide +kernel
theorem r237_795 : rowAt 237 795 = some (.aload_n 0, 1, 0, 0) := by decide +kernel
theorem r237_796 : rowAt 237 796 = some (.iload_n 3, 1, 0, 0) := by decide +kernel
theorem r237_797 : rowAt 237 797 = some (.iconst 1, 1, 0, 0) := by decide +kernel
theorem r237_798 : rowAt 237 798 = some (.iadd, 1, 0, 0) := by decide +kernel
theorem r237_799 : rowAt 237 799 = some (.iaload, 1, 0, 0) := by decide +kernel
theorem r237_800 : rowAt 237 800 = some (.aload_n 0, 1, 0, 0) := by decide +kernel
theorem r237_801 : rowAt 237 801 = some (.iload_n 3, 1, 0, 0) := by decide +kernel
theorem r237_802 : rowAt 237 802 = some (.iconst 2, 1, 0, 0) := by decide +kernel
theorem r237_803 : rowAt 237 803 = some (.iadd, 1, 0, 0) := by decide +kernel
theorem r237_804 : rowAt 237 804 = some (.iaload, 1, 0, 0) := by decide +kernel
theorem r237_805 : rowAt 237 805 = some (.aload_n 0, 1, 0, 0) := by decide +kernel
theorem r237_806 : rowAt 237 806 = some (.iload_n 3, 1, 0, 0) := by decide +kernel
theorem r237_807 : rowAt 237 807 = some (.iconst 3, 1, 0, 0) := by decide +kernel
theorem r237_808 : rowAt 237 808 = some (.iadd, 1, 0, 0) := by decide +kernel
theorem r237_809 : rowAt 237 809 = some (.iaload, 1, 0, 0) := by decide +kernel
theorem r237_810 : rowAt 237 810 = some (.aload_n 0, 1, 0, 0) := by decide +kernel
theorem r237_811 : rowAt 237 811 = some (.iload_n 3, 1, 0, 0) := by decide +kernel
theorem r237_812 : rowAt 237 812 = some (.iconst 4, 1, 0, 0) := by decide +kernel
theorem r237_813 : rowAt 237 813 = some (.iadd, 1, 0, 0) := by decide +kernel
theorem r237_814 : rowAt 237 814 = some (.iaload, 1, 0, 0) := by decide +kernel
theorem r237_815 : rowAt 237 815 = some (.invokevirtual 95, 3, 209, 0) := by decide +kernel
theorem r237_818 : rowAt 237 818 = some (.if_icmp .eq 219, 3, 0, 0) := by decide +kernel
theorem r237_821 : rowAt 237 821 = some (.iconst 0, 1, 0, 0) := by decide +kernel
theorem r237_822 : rowAt 237 822 = some (.ireturn, 1, 0, 0) := by decide +kernel
theorem r237_823 : rowAt 237 823 = some (.aload_n 1, 1, 0, 0) := by decide +kernel
theorem r237_824 : rowAt 237 824 = some (.aload_n 0, 1, 0, 0) := by decide +kernel
theorem r237_825 : rowAt 237 825 = some (.iload_n 3, 1, 0, 0) := by decide +kernel
theorem r237_826 : rowAt 237 826 = some (.iconst 1, 1, 0, 0) := by decide +kernel
theorem r237_827 : rowAt 237 827 = some (.iadd, 1, 0, 0) := by decide +kernel
theorem r237_828 : rowAt 237 828 = some (.iaload, 1, 0, 0) := by decide +kernel
theorem r237_829 : rowAt 237 829 = some (.aload_n 0, 1, 0, 0) := by decide +kernel
theorem r237_830 : rowAt 237 830 = some (.iload_n 3, 1, 0, 0) := by decide +kernel
theorem r237_831 : rowAt 237 831 = some (.iconst 2, 1, 0, 0) := by decide +kernel
theorem r237_832 : rowAt 237 832 = some (.iadd, 1, 0, 0) := by decide +kernel
theorem r237_833 : rowAt 237 833 = some (.iaload, 1, 0, 0) := by decide +kernel
theorem r237_834 : rowAt 237 834 = some (.invokevirtual 96, 3, 111, 0) := by decide +kernel
theorem r237_837 : rowAt 237 837 = some (.aload_n 2, 1, 0, 0) := by decide +kernel
theorem r237_838 : rowAt 237 838 = some (.aload_n 0, 1, 0, 0) := by decide +kernel
theorem r237_839 : rowAt 237 839 = some (.iload_n 3, 1, 0, 0) := by decide +kernel
theorem r237_840 : rowAt 237 840 = some (.iconst 1, 1, 0, 0) := by decide +kernel
theorem r237_841 : rowAt 237 841 = some (.iadd, 1, 0, 0) := by decide +kernel
theorem r237_842 : rowAt 237 842 = some (.iaload, 1, 0, 0) := by decide +kernel
theorem r237_843 : rowAt 237 843 = some (.aload_n 0, 1, 0, 0) := by decide +kernel
theorem r237_844 : rowAt 237 844 = some (.iload_n 3, 1, 0, 0) := by decide +kernel
theorem r237_845 : rowAt 237 845 = some (.iconst 2, 1, 0, 0) := by decide +kernel
theorem r237_846 : rowAt 237 846 = some (.iadd, 1, 0, 0) := by decide +kernel
theorem r237_847 : rowAt 237 847 = some (.iaload, 1, 0, 0) := by decide +kernel
theorem r237_848 : rowAt 237 848 = some (.invokevirtual 99, 3, 210, 0) := by decide +kernel
theorem r237_851 : rowAt 237 851 = some (.if_icmp .eq 186, 3, 0, 0) := by decide +kernel
theorem r237_854 : rowAt 237 854 = some (.iconst 0, 1, 0, 0) := by decide +kernel
theorem r237_855 : rowAt 237 855 = some (.ireturn, 1, 0, 0) := by decide +kernel
theorem r237_856 : rowAt 237 856 = some (.aload_n 1, 1, 0, 0) := by decide +kernel
theorem r237_857 : rowAt 237 857 = some (.aload_n 0, 1, 0, 0) := by decide +kernel
theorem r237_858 : rowAt 237 858 = some (.iload_n 3, 1, 0, 0) := by decide +kernel
theorem r237_859 : rowAt 237 859 = some (.iconst 1, 1, 0, 0) := by decide +kernel
theorem r237_860 : rowAt 237 860 = some (.iadd, 1, 0, 0) := by decide +kernel
theorem r237_861 : rowAt 237 861 = some (.iaload, 1, 0, 0) := by decide +kernel
theorem r237_862 : rowAt 237 862 = some (.invokevirtual 100, 3, 112, 0) := by decide +kernel
theorem r237_865 : rowAt 237 865 = some (.aload_n 2, 1, 0, 0) := by decide +kernel
theorem r237_866 : rowAt 237 866 = some (.aload_n 0, 1, 0, 0) := by decide +kernel
theorem r237_867 : rowAt 237 867 = some (.iload_n 3, 1, 0, 0) := by decide +kernel
theorem r237_868 : rowAt 237 868 = some (.iconst 1, 1, 0, 0) := by decide +kernel
theorem r237_869 : rowAt 237 869 = some (.iadd, 1, 0, 0) := by decide +kernel
theorem r237_870 : rowAt 237 870 = some (.iaload, 1, 0, 0) := by decide +kernel
theorem r237_871 : rowAt 237 871 = some (.invokevirtual 103, 3, 213, 0) := by decide +kernel
theorem r237_874 : rowAt 237 874 = some (.if_icmp .eq 163, 3, 0, 0) := by decide +kernel
theorem r237_877 : rowAt 237 877 = some (.iconst 0, 1, 0, 0) := by decide +kernel
theorem r237_878 : rowAt 237 878 = some (.ireturn, 1, 0, 0) := by decide +kernel
theorem r237_879 : rowAt 237 879 = some (.aload_n 1, 1, 0, 0) := by decide +kernel
theorem r237_880 : rowAt 237 880 = some (.aload_n 0, 1, 0, 0) := by decide +kernel
theorem r237_881 : rowAt 237 881 = some (.iload_n 3, 1, 0, 0) := by decide +kernel
theorem r237_882 : rowAt 237 882 = some (.iconst 1, 1, 0, 0) := by decide +kernel
theorem r237_883 : rowAt 237 883 = some (.iadd, 1, 0, 0) := by decide +kernel
theorem r237_884 : rowAt 237 884 = some (.iaload, 1, 0, 0) := by decide +kernel
theorem r237_885 : rowAt 237 885 = some (.aload_n 0, 1, 0, 0) := by decide +kernel
theorem r237_886 : rowAt 237 886 = some (.iload_n 3, 1, 0, 0) := by decide +kernel
theorem r237_887 : rowAt 237 887 = some (.iconst 2, 1, 0, 0) := by decide +kernel
theorem r237_888 : rowAt 237 888 = some (.iadd, 1, 0, 0) := by decide +kernel
theorem r237_889 : rowAt 237 889 = some (.iaload, 1, 0, 0) := by decide +kernel
theorem r237_890 : rowAt 237 890 = some (.aload_n 0, 1, 0, 0) := by decide +kernel
theorem r237_891 : rowAt 237 891 = some (.iload_n 3, 1, 0, 0) := by decide +kernel
theorem r237_892 : rowAt 237 892 = some (.iconst 3, 1, 0, 0) := by decide +kernel
theorem r237_893 : rowAt 237 893 = some (.iadd, 1, 0, 0) := by decide +kernel
theorem r237_894 : rowAt 237 894 = some (.iaload, 1, 0, 0) := by decide +kernel
theorem r237_895 : rowAt 237 895 = some (.invokevirtual 104, 3, 113, 0) := by decide +kernel
theorem r237_898 : rowAt 237 898 = some (.aload_n 2, 1, 0, 0) := by decide +kernel
theorem r237_899 : rowAt 237 899 = some (.aload_n 0, 1, 0, 0) := by decide +kernel
theorem r237_900 : rowAt 237 900 = some (.iload_n 3, 1, 0, 0) := by decide +kernel
theorem r237_901 : rowAt 237 901 = some (.iconst 1, 1, 0, 0) := by decide +kernel
theorem r237_902 : rowAt 237 902 = some (.iadd, 1, 0, 0) := by decide +kernel
theorem r237_903 : rowAt 237 903 = some (.iaload, 1, 0, 0) := by decide +kernel
theorem r237_904 : rowAt 237 904 = some (.aload_n 0, 1, 0, 0) := by decide +kernel
theorem r237_905 : rowAt 237 905 = some (.iload_n 3, 1, 0, 0) := by decide +kernel
theorem r237_906 : rowAt 237 906 = some (.iconst 2, 1, 0, 0) := by decide +kernel
theorem r237_907 : rowAt 237 907 = some (.iadd, 1, 0, 0) := by decide +kernel
theorem r237_908 : rowAt 237 908 = some (.iaload, 1, 0, 0) := by decide +kernel
theorem r237_909 : rowAt 237 909 = some (.aload_n 0, 1, 0, 0) := by decide +kernel
theorem r237_910 : rowAt 237 910 = some (.iload_n 3, 1, 0, 0) := by decide +kernel
theorem r237_911 : rowAt 237 911 = some (.iconst 3, 1, 0, 0) := by decide +kernel
theorem r237_912 : rowAt 237 912 = some (.iadd, 1, 0, 0) := by decide +kernel
theorem r237_913 : rowAt 237 913 = some (.iaload, 1, 0, 0) := by decide +kernel
theorem r237_914 : rowAt 237 914 = some (.invokevirtual 107, 3, 214, 0) := by decide +kernel
theorem r237_917 : rowAt 237 917 = some (.if_icmp .eq 120, 3, 0, 0) := by decide +kernel
theorem r237_920 : rowAt 237 920 = some (.iconst 0, 1, 0, 0) := by decide +kernel
theorem r237_921 : rowAt 237 921 = some (.ireturn, 1, 0, 0) := by decide +kernel
theorem r237_922 : rowAt 237 922 = some (.aload_n 1, 1, 0, 0) := by decide +kernel
theorem r237_923 : rowAt 237 923 = some (.aload_n 0, 1, 0, 0) := by decide +kernel
theorem r237_924 : rowAt 237 924 = some (.iload_n 3, 1, 0, 0) := by decide +kernel
theorem r237_925 : rowAt 237 925 = some (.iconst 1, 1, 0, 0) := by decide +kernel
theorem r237_926 : rowAt 237 926 = some (.iadd, 1, 0, 0) := by decide +kernel
theorem r237_927 : rowAt 237 927 = some (.iaload, 1, 0, 0) := by decide +kernel
theorem r237_928 : rowAt 237 928 = some (.invokevirtual 108, 3, 114, 0) := by decide +kernel
theorem r237_931 : rowAt 237 931 = some (.aload_n 2, 1, 0, 0) := by decide +kernel
theorem r237_932 : rowAt 237 932 = some (.aload_n 0, 1, 0, 0) := by decide +kernel
theorem r237_933 : rowAt 237 933 = some (.iload_n 3, 1, 0, 0) := by decide +kernel
theorem r237_934 : rowAt 237 934 = some (.iconst 1, 1, 0, 0) := by decide +kernel
theorem r237_935 : rowAt 237 935 = some (.iadd, 1, 0, 0) := by decide +kernel
theorem r237_936 : rowAt 237 936 = some (.iaload, 1, 0, 0) := by decide +kernel
theorem r237_937 : rowAt 237 937 = some (.invokevirtual 111, 3, 215, 0) := by decide +kernel
theorem r237_940 : rowAt 237 940 = some (.if_icmp .eq 97, 3, 0, 0) := by decide +kernel
theorem r237_943 : rowAt 237 943 = some (.iconst 0, 1, 0, 0) := by decide +kernel
theorem r237_944 : rowAt 237 944 = some (.ireturn, 1, 0, 0) := by decide +kernel
theorem r237_945 : rowAt 237 945 = some (.aload_n 1, 1, 0, 0) := by decide +kernel
theorem r237_946 : rowAt 237 946 = some (.aload_n 0, 1, 0, 0) := by decide +kernel
theorem r237_947 : rowAt 237 947 = some (.iload_n 3, 1, 0, 0) := by decide +kernel
theorem r237_948 : rowAt 237 948 = some (.iconst 1, 1, 0, 0) := by decide +kernel
theorem r237_949 : rowAt 237 949 = some (.iadd, 1, 0, 0) := by decide +kernel
theorem r237_950 : rowAt 237 950 = some (.iaload, 1, 0, 0) := by decide +kernel
theorem r237_951 : rowAt 237 951 = some (.invokevirtual 112, 3, 115, 0) := by decide +kernel
theorem r237_954 : rowAt 237 954 = some (.aload_n 2, 1, 0, 0) := by decide +kernel
theorem r237_955 : rowAt 237 955 = some (.aload_n 0, 1, 0, 0) := by decide +kernel
theorem r237_956 : rowAt 237 956 = some (.iload_n 3, 1, 0, 0) := by decide +kernel
theorem r237_957 : rowAt 237 957 = some (.iconst 1, 1, 0, 0) := by decide +kernel
theorem r237_958 : rowAt 237 958 = some (.iadd, 1, 0, 0) := by decide +kernel
theorem r237_959 : rowAt 237 959 = some (.iaload, 1, 0, 0) := by decide +kernel
theorem r237_960 : rowAt 237 960 = some (.invokevirtual 115, 3, 216, 0) := by decide +kernel
theorem r237_963 : rowAt 237 963 = some (.if_icmp .eq 74, 3, 0, 0) := by decide +kernel
theorem r237_966 : rowAt 237 966 = some (.iconst 0, 1, 0, 0) := by decide +kernel
theorem r237_967 : rowAt 237 967 = some (.ireturn, 1, 0, 0) := by decide +kernel
theorem r237_968 : rowAt 237 968 = some (.aload_n 1, 1, 0, 0) := by decide +kernel
theorem r237_969 : rowAt 237 969 = some (.aload_n 0, 1, 0, 0) := by decide +kernel
theorem r237_970 : rowAt 237 970 = some (.iload_n 3, 1, 0, 0) := by decide +kernel
theorem r237_971 : rowAt 237 971 = some (.iconst 1, 1, 0, 0) := by decide +kernel
theorem r237_972 : rowAt 237 972 = some (.iadd, 1, 0, 0) := by decide +kernel
theorem r237_973 : rowAt 237 973 = some (.iaload, 1, 0, 0) := by decide +kernel
theorem r237_974 : rowAt 237 974 = some (.invokevirtual 116, 3, 116, 0) := by decide +kernel
theorem r237_977 : rowAt 237 977 = some (.aload_n 2, 1, 0, 0) := by decide +kernel
theorem r237_978 : rowAt 237 978 = some (.aload_n 0, 1, 0, 0) := by decide +kernel
theorem r237_979 : rowAt 237 979 = some (.iload_n 3, 1, 0, 0) := by decide +kernel
theorem r237_980 : rowAt 237 980 = some (.iconst 1, 1, 0, 0) := by decide +kernel
theorem r237_981 : rowAt 237 981 = some (.iadd, 1, 0, 0) := by decide +kernel
theorem r237_982 : rowAt 237 982 = some (.iaload, 1, 0, 0) := by decide +kernel
theorem r237_983 : rowAt 237 983 = some (.invokevirtual 119, 3, 217, 0) := by decide +kernel
theorem r237_986 : rowAt 237 986 = some (.if_icmp .eq 51, 3, 0, 0) := by decide +kernel
theorem r237_989 : rowAt 237 989 = some (.iconst 0, 1, 0, 0) := by decide +kernel
theorem r237_990 : rowAt 237 990 = some (.ireturn, 1, 0, 0) := by decide +kernel
theorem r237_991 : rowAt 237 991 = some (.aload_n 1, 1, 0, 0) := by decide +kernel
theorem r237_992 : rowAt 237 992 = some (.aload_n 0, 1, 0, 0) := by decide +kernel
theorem r237_993 : rowAt 237 993 = some (.iload_n 3, 1, 0, 0) := by decide +kernel
theorem r237_994 : rowAt 237 994 = some (.iconst 1, 1, 0, 0) := by decide +kernel
theorem r237_995 : rowAt 237 995 = some (.iadd, 1, 0, 0) := by decide +kernel
theorem r237_996 : rowAt 237 996 = some (.iaload, 1, 0, 0) := by decide +kernel
theorem r237_997 : rowAt 237 997 = some (.invokevirtual 120, 3, 117, 0) := by decide +kernel
theorem r237_1000 : rowAt 237 1000 = some (.aload_n 2, 1, 0, 0) := by decide +kernel
theorem r237_1001 : rowAt 237 1001 = some (.aload_n 0, 1, 0, 0) := by decide +kernel
theorem r237_1002 : rowAt 237 1002 = some (.iload_n 3, 1, 0, 0) := by decide +kernel
theorem r237_1003 : rowAt 237 1003 = some (.iconst 1, 1, 0, 0) := by decide +kernel
theorem r237_1004 : rowAt 237 1004 = some (.iadd, 1, 0, 0) := by decide +kernel
theorem r237_1005 : rowAt 237 1005 = some (.iaload, 1, 0, 0) := by decide +kernel
theorem r237_1006 : rowAt 237 1006 = some (.invokevirtual 123, 3, 220, 0) := by decide +kernel
theorem r237_1009 : rowAt 237 1009 = some (.if_icmp .eq 28, 3, 0, 0) := by decide +kernel
theorem r237_1012 : rowAt 237 1012 = some (.iconst 0, 1, 0, 0) := by decide +kernel
theorem r237_1013 : rowAt 237 1013 = some (.ireturn, 1, 0, 0) := by decide +kernel
theorem r237_1014 : rowAt 237 1014 = some (.aload_n 1, 1, 0, 0) := by decide +kernel
theorem r237_1015 : rowAt 237 1015 = some (.aload_n 0, 1, 0, 0) := by decide +kernel
theorem r237_1016 : rowAt 237 1016 = some (.iload_n 3, 1, 0, 0) := by decide +kernel
theorem r237_1017 : rowAt 237 1017 = some (.iconst 1, 1, 0, 0) := by decide +kernel
theorem r237_1018 : rowAt 237 1018 = some (.iadd, 1, 0, 0) := by decide +kernel
theorem r237_1019 : rowAt 237 1019 = some (.iaload, 1, 0, 0) := by decide +kernel
theorem r237_1020 : rowAt 237 1020 = some (.invokevirtual 124, 3, 118, 0) := by decide +kernel
theorem r237_1023 : rowAt 237 1023 = some (.aload_n 2, 1, 0, 0) := by decide +kernel
theorem r237_1024 : rowAt 237 1024 = some (.aload_n 0, 1, 0, 0) := by decide +kernel
theorem r237_1025 : rowAt 237 1025 = some (.iload_n 3, 1, 0, 0) := by decide +kernel
theorem r237_1026 : rowAt 237 1026 = some (.iconst 1, 1, 0, 0) := by decide +kernel
theorem r237_1027 : rowAt 237 1027 = some (.iadd, 1, 0, 0) := by decide +kernel
theorem r237_1028 : rowAt 237 1028 = some (.iaload, 1, 0, 0) := by decide +kernel
theorem r237_1029 : rowAt 237 1029 = some (.invokevirtual 127, 3, 221, 0) := by decide +kernel
theorem r237_1032 : rowAt 237 1032 = some (.if_icmp .eq 5, 3, 0, 0) := by decide +kernel
theorem r237_1035 : rowAt 237 1035 = some (.iconst 0, 1, 0, 0) := by decide +kernel
theorem r237_1036 : rowAt 237 1036 = some (.ireturn, 1, 0, 0) := by decide +kernel
theorem r237_1037 : rowAt 237 1037 = some (.iinc 3 6, 3, 0, 0) := by decide +kernel
theorem r237_1040 : rowAt 237 1040 = some (.goto (-1022), 3, 0, 0) := by decide +kernel
theorem r237_1043 : rowAt 237 1043 = some (.iconst 1, 1, 0, 0) := by decide +kernel
theorem r237_1044 : rowAt 237 1044 = some (.ireturn, 1, 0, 0) := by decide +kernel
theorem b237_18 (d : Nat) (l0 : Nat) (l1 : Nat) (l2 : Nat) (l3 : Int32) (h : aH) (K : Option Value → aH → Prop) : E scr true d 237 18 [.ref l0, .ref l1, .ref l2, .int l3] [] h K = aN scr h l0 (fun x1 : Nat => (if ((Int32.ofNat x1) - 6) < l3 then K (some (.int 1)) h else aI scr h l0 l3 (fun x2 : Int32 => (if (x2 &&& 31) = 0 then E scr true d 237 156 [.ref l0, .ref l1, .ref l2, .int l3] [] h K else (if (x2 &&& 31) = 1 then E scr true d 237 219 [.ref l0, .ref l1, .ref l2, .int l3] [] h K else (if (x2 &&& 31) = 2 then E scr true d 237 242 [.ref l0, .ref l1, .ref l2, .int l3] [] h K else (if (x2 &&& 31) = 3 then E scr true d 237 255 [.ref l0, .ref l1, .ref l2, .int l3] [] h K else (if (x2 &&& 31) = 4 then E scr true d 237 268 [.ref l0, .ref l1, .ref l2, .int l3] [] h K else (if (x2 &&& 31) = 5 then E scr true d 237 301 [.ref l0, .ref l1, .ref l2, .int l3] [] h K else (if (x2 &&& 31) = 6 then E scr true d 237 334 [.ref l0, .ref l1, .ref l2, .int l3] [] h K else (if (x2 &&& 31) = 7 then E scr true d 237 377 [.ref l0, .ref l1, .ref l2, .int l3] [] h K else (if (x2 &&& 31) = 8 then E scr true d 237 400 [.ref l0, .ref l1, .ref l2, .int l3] [] h K else (if (x2 &&& 31) = 9 then E scr true d 237 433 [.ref l0, .ref l1, .ref l2, .int l3] [] h K else (if (x2 &&& 31) = 10 then E scr true d 237 466 [.ref l0, .ref l1, .ref l2, .int l3] [] h K else (if (x2 &&& 31) = 11 then E scr true d 237 499 [.ref l0, .ref l1, .ref l2, .int l3] [] h K else (if (x2 &&& 31) = 12 then E scr true d 237 532 [.ref l0, .ref l1, .ref l2, .int l3] [] h K else (if (x2 &&& 31) = 13 then E scr true d 237 575 [.ref l0, .ref l1, .ref l2, .int l3] [] h K else (if (x2 &&& 31) = 14 then E scr true d 237 608 [.ref l0, .ref l1, .ref l2, .int l3] [] h K else (if (x2 &&& 31) = 15 then E scr true d 237 641 [.ref l0, .ref l1, .ref l2, .int l3] [] h K else (if (x2 &&& 31) = 16 then E scr true d 237 684 [.ref l0, .ref l1, .ref l2, .int l3] [] h K else (if (x2 &&& 31) = 17 then E scr true d 237 727 [.ref l0, .ref l1, .ref l2, .int l3] [] h K else (if (x2 &&& 31) = 18 then E scr true d 237 770 [.ref l0, .ref l1, .ref l2, .int l3] [] h K else (if (x2 &&& 31) = 19 then E scr true d 237 823 [.ref l0, .ref l1, .ref l2, .int l3] [] h K else (if (x2 &&& 31) = 20 then E scr true d 237 856 [.ref l0, .ref l1, .ref l2, .int l3] [] h K else (if (x2 &&& 31) = 21 then E scr true d 237 879 [.ref l0, .ref l1, .ref l2, .int l3] [] h K else (if (x2 &&& 31) = 22 then E scr true d 237 922 [.ref l0, .ref l1, .ref l2, .int l3] [] h K else (if (x2 &&& 31) = 23 then E scr true d 237 945 [.ref l0, .ref l1, .ref l2, .int l3] [] h K else (if (x2 &&& 31) = 24 then E scr true d 237 968 [.ref l0, .ref l1, .ref l2, .int l3] [] h K else (if (x2 &&& 31) = 25 then E scr true d 237 991 [.ref l0, .ref l1, .ref l2, .int l3] [] h K else (if (x2 &&& 31) = 26 then E scr true d 237 1014 [.ref l0, .ref l1, .ref l2, .int l3] [] h K else E scr true d 237 1037 [.ref l0, .ref l1, .ref l2, .int l3] [] h K)))))))))))))))))))))))))))))) := go (w := (19, [.ref l0, .ref l1, .ref l2, .int l3], [.int l3], h)) r237_18 rfl rfl (go (w := (20, [.ref l0, .ref l1, .ref l2, .int l3], [.ref l0, .int l3], h)) r237_19 rfl rfl (E_aN r237_20 (fun x1 => E_bip r237_21 (v := 6) (by decide) (go (w := (24, [.ref l0, .ref l1, .ref l2, .int l3], [.int ((Int32.ofNat x1) - 6), .int l3], h)) r237_23 rfl rfl (E_i2_gt r237_24 rfl (E_ic r237_1043 (v := 1) (by decide) (E_rz r237_1044 (mq237) (by decide))) (go (w := (28, [.ref l0, .ref l1, .ref l2, .int l3], [.ref l0], h)) r237_27 rfl rfl (go (w := (29, [.ref l0, .ref l1, .ref l2, .int l3], [.int l3, .ref l0], h)) r237_28 rfl rfl (E_aI r237_29 (fun x2 => E_bip r237_30 (v := 31) (by decide) (go (w := (33, [.ref l0, .ref l1, .ref l2, .int l3], [.int (x2 &&& 31)], h)) r237_32 rfl rfl (E_tab (pc := 33) [(0, 156), (1, 219), (2, 242), (3, 255), (4, 268), (5, 301), (6, 334), (7, 377), (8, 400), (9, 433), (10, 466), (11, 499), (12, 532), (13, 575), (14, 608), (15, 641), (16, 684), (17, 727), (18, 770), (19, 823), (20, 856), (21, 879), (22, 922), (23, 945), (24, 968), (25, 991), (26, 1014)] 1037 r237_33 (by decide +kernel) (by decide +kernel) (by decide +kernel))))))))))))
theorem b237_156 (d : Nat) (l0 : Nat) (l1 : Nat) (l2 : Nat) (l3 : Int32) (h : aH) (K : Option Value → aH → Prop) : E scr true (d + 1) 237 156 [.ref l0, .ref l1, .ref l2, .int l3] [] h K = aI scr h l0 ((l3 + 1)) (fun x1 : Int32 => aI scr h l0 ((l3 + 2)) (fun x2 : Int32 => aI scr h l0 ((l3 + 3)) (fun x3 : Int32 => aI scr h l0 ((l3 + 4)) (fun x4 : Int32 => aI scr h l0 ((l3 + 5)) (fun x5 : Int32 => vI scr d 92 [.ref l1, .int x1, .int x2, .int x3, .int x4, .int x5] h (fun (x7 : Int32) (h6 : aH) => aI scr h6 l0 ((l3 + 1)) (fun x8 : Int32 => aI scr h6 l0 ((l3 + 2)) (fun x9 : Int32 => aI scr h6 l0 ((l3 + 3)) (fun x10 : Int32 => aI scr h6 l0 ((l3 + 4)) (fun x11 : Int32 => aI scr h6 l0 ((l3 + 5)) (fun x12 : Int32 => vI scr d 138 [.ref l2, .int x8, .int x9, .int x10, .int x11, .int x12] h6 (fun (x14 : Int32) (h13 : aH) => (if x7 = x14 then E scr true (d + 1) 237 1037 [.ref l0, .ref l1, .ref l2, .int l3] [] h13 K else K (some (.int 0)) h13))))))))))))) := go (w := (157, [.ref l0, .ref l1, .ref l2, .int l3], [.ref l1], h)) r237_156 rfl rfl (go (w := (158, [.ref l0, .ref l1, .ref l2, .int l3], [.ref l0, .ref l1], h)) r237_157 rfl rfl (go (w := (159, [.ref l0, .ref l1, .ref l2, .int l3], [.int l3, .ref l0, .ref l1], h)) r237_158 rfl rfl (E_ic r237_159 (v := 1) (by decide) (go (w := (161, [.ref l0, .ref l1, .ref l2, .int l3], [.int (l3 + 1), .ref l0, .ref l1], h)) r237_160 rfl rfl (E_aI r237_161 (fun x1 => go (w := (163, [.ref l0, .ref l1, .ref l2, .int l3], [.ref l0, .int x1, .ref l1], h)) r237_162 rfl rfl (go (w := (164, [.ref l0, .ref l1, .ref l2, .int l3], [.int l3, .ref l0, .int x1, .ref l1], h)) r237_163 rfl rfl (E_ic r237_164 (v := 2) (by decide) (go (w := (166, [.ref l0, .ref l1, .ref l2, .int l3], [.int (l3 + 2), .ref l0, .int x1, .ref l1], h)) r237_165 rfl rfl (E_aI r237_166 (fun x2 => go (w := (168, [.ref l0, .ref l1, .ref l2, .int l3], [.ref l0, .int x2, .int x1, .ref l1], h)) r237_167 rfl rfl (go (w := (169, [.ref l0, .ref l1, .ref l2, .int l3], [.int l3, .ref l0, .int x2, .int x1, .ref l1], h)) r237_168 rfl rfl (E_ic r237_169 (v := 3) (by decide) (go (w := (171, [.ref l0, .ref l1, .ref l2, .int l3], [.int (l3 + 3), .ref l0, .int x2, .int x1, .ref l1], h)) r237_170 rfl rfl (E_aI r237_171 (fun x3 => go (w := (173, [.ref l0, .ref l1, .ref l2, .int l3], [.ref l0, .int x3, .int x2, .int x1, .ref l1], h)) r237_172 rfl rfl (go (w := (174, [.ref l0, .ref l1, .ref l2, .int l3], [.int l3, .ref l0, .int x3, .int x2, .int x1, .ref l1], h)) r237_173 rfl rfl (E_ic r237_174 (v := 4) (by decide) (go (w := (176, [.ref l0, .ref l1, .ref l2, .int l3], [.int (l3 + 4), .ref l0, .int x3, .int x2, .int x1, .ref l1], h)) r237_175 rfl rfl (E_aI r237_176 (fun x4 => go (w := (178, [.ref l0, .ref l1, .ref l2, .int l3], [.ref l0, .int x4, .int x3, .int x2, .int x1, .ref l1], h)) r237_177 rfl rfl (go (w := (179, [.ref l0, .ref l1, .ref l2, .int l3], [.int l3, .ref l0, .int x4, .int x3, .int x2, .int x1, .ref l1], h)) r237_178 rfl rfl (E_ic r237_179 (v := 5) (by decide) (go (w := (181, [.ref l0, .ref l1, .ref l2, .int l3], [.int (l3 + 5), .ref l0, .int x4, .int x3, .int x2, .int x1, .ref l1], h)) r237_180 rfl rfl (E_aI r237_181 (fun x5 => E_vI r237_182 (As := [.ref l1, .int x1, .int x2, .int x3, .int x4, .int x5]) (rest := []) (cut_n mi92.1 rfl rfl) (rm8_n mi92.2.1 (Nat.le_of_ble_eq_true rfl) (Nat.le_of_ble_eq_true rfl)) mi92.2.2 (fun x7 h6 => go (w := (186, [.ref l0, .ref l1, .ref l2, .int l3], [.ref l2, .int x7], h6)) r237_185 rfl rfl (go (w := (187, [.ref l0, .ref l1, .ref l2, .int l3], [.ref l0, .ref l2, .int x7], h6)) r237_186 rfl rfl (go (w := (188, [.ref l0, .ref l1, .ref l2, .int l3], [.int l3, .ref l0, .ref l2, .int x7], h6)) r237_187 rfl rfl (E_ic r237_188 (v := 1) (by decide) (go (w := (190, [.ref l0, .ref l1, .ref l2, .int l3], [.int (l3 + 1), .ref l0, .ref l2, .int x7], h6)) r237_189 rfl rfl (E_aI r237_190 (fun x8 => go (w := (192, [.ref l0, .ref l1, .ref l2, .int l3], [.ref l0, .int x8, .ref l2, .int x7], h6)) r237_191 rfl rfl (go (w := (193, [.ref l0, .ref l1, .ref l2, .int l3], [.int l3, .ref l0, .int x8, .ref l2, .int x7], h6)) r237_192 rfl rfl (E_ic r237_193 (v := 2) (by decide) (go (w := (195, [.ref l0, .ref l1, .ref l2, .int l3], [.int (l3 + 2), .ref l0, .int x8, .ref l2, .int x7], h6)) r237_194 rfl rfl (E_aI r237_195 (fun x9 => go (w := (197, [.ref l0, .ref l1, .ref l2, .int l3], [.ref l0, .int x9, .int x8, .ref l2, .int x7], h6)) r237_196 rfl rfl (go (w := (198, [.ref l0, .ref l1, .ref l2, .int l3], [.int l3, .ref l0, .int x9, .int x8, .ref l2, .int x7], h6)) r237_197 rfl rfl (E_ic r237_198 (v := 3) (by decide) (go (w := (200, [.ref l0, .ref l1, .ref l2, .int l3], [.int (l3 + 3), .ref l0, .int x9, .int x8, .ref l2, .int x7], h6)) r237_199 rfl rfl (E_aI r237_200 (fun x10 => go (w := (202, [.ref l0, .ref l1, .ref l2, .int l3], [.ref l0, .int x10, .int x9, .int x8, .ref l2, .int x7], h6)) r237_201 rfl rfl (go (w := (203, [.ref l0, .ref l1, .ref l2, .int l3], [.int l3, .ref l0, .int x10, .int x9, .int x8, .ref l2, .int x7], h6)) r237_202 rfl rfl (E_ic r237_203 (v := 4) (by decide) (go (w := (205, [.ref l0, .ref l1, .ref l2, .int l3], [.int (l3 + 4), .ref l0, .int x10, .int x9, .int x8, .ref l2, .int x7], h6)) r237_204 rfl rfl (E_aI r237_205 (fun x11 => go (w := (207, [.ref l0, .ref l1, .ref l2, .int l3], [.ref l0, .int x11, .int x10, .int x9, .int x8, .ref l2, .int x7], h6)) r237_206 rfl rfl (go (w := (208, [.ref l0, .ref l1, .ref l2, .int l3], [.int l3, .ref l0, .int x11, .int x10, .int x9, .int x8, .ref l2, .int x7], h6)) r237_207 rfl rfl (E_ic r237_208 (v := 5) (by decide) (go (w := (210, [.ref l0, .ref l1, .ref l2, .int l3], [.int (l3 + 5), .ref l0, .int x11, .int x10, .int x9, .int x8, .ref l2, .int x7], h6)) r237_209 rfl rfl (E_aI r237_210 (fun x12 => E_vI r237_211 (As := [.ref l2, .int x8, .int x9, .int x10, .int x11, .int x12]) (rest := [.int x7]) (cut_n mi138.1 rfl rfl) (rm8_n mi138.2.1 (Nat.le_of_ble_eq_true rfl) (Nat.le_of_ble_eq_true rfl)) mi138.2.2 (fun x14 h13 => E_i2_eq r237_214 rfl (rfl) (E_ic r237_217 (v := 0) (by decide) (E_rz r237_218 (mq237) (by decide)))))))))))))))))))))))))))))))))))))))))))))))))))))))))
theorem b237_219 (d : Nat) (l0 : Nat) (l1 : Nat) (l2 : Nat) (l3 : Int32) (h : aH) (K : Option Value → aH → Prop) : E scr true (d + 1) 237 219 [.ref l0, .ref l1, .ref l2, .int l3] [] h K = aI scr h l0 ((l3 + 1)) (fun x1 : Int32 => vI scr d 93 [.ref l1, .int x1] h (fun (x3 : Int32) (h2 : aH) => aI scr h2 l0 ((l3 + 1)) (fun x4 : Int32 => vI scr d 140 [.ref l2, .int x4] h2 (fun (x6 : Int32) (h5 : aH) => (if x3 = x6 then E scr true (d + 1) 237 1037 [.ref l0, .ref l1, .ref l2, .int l3] [] h5 K else K (some (.int 0)) h5))))) := go (w := (220, [.ref l0, .ref l1, .ref l2, .int l3], [.ref l1], h)) r237_219 rfl rfl (go (w := (221, [.ref l0, .ref l1, .ref l2, .int l3], [.ref l0, .ref l1], h)) r237_220 rfl rfl (go (w := (222, [.ref l0, .ref l1, .ref l2, .int l3], [.int l3, .ref l0, .ref l1], h)) r237_221 rfl rfl (E_ic r237_222 (v := 1) (by decide) (go (w := (224, [.ref l0, .ref l1, .ref l2, .int l3], [.int (l3 + 1), .ref l0, .ref l1], h)) r237_223 rfl rfl (E_aI r237_224 (fun x1 => E_vI r237_225 (As := [.ref l1, .int x1]) (rest := []) (cut_n mi93.1 rfl rfl) (rm8_n mi93.2.1 (Nat.le_of_ble_eq_true rfl) (Nat.le_of_ble_eq_true rfl)) mi93.2.2 (fun x3 h2 => go (w := (229, [.ref l0, .ref l1, .ref l2, .int l3], [.ref l2, .int x3], h2)) r237_228 rfl rfl (go (w := (230, [.ref l0, .ref l1, .ref l2, .int l3], [.ref l0, .ref l2, .int x3], h2)) r237_229 rfl rfl (go (w := (231, [.ref l0, .ref l1, .ref l2, .int l3], [.int l3, .ref l0, .ref l2, .int x3], h2)) r237_230 rfl rfl (E_ic r237_231 (v := 1) (by decide) (go (w := (233, [.ref l0, .ref l1, .ref l2, .int l3], [.int (l3 + 1), .ref l0, .ref l2, .int x3], h2)) r237_232 rfl rfl (E_aI r237_233 (fun x4 => E_vI r237_234 (As := [.ref l2, .int x4]) (rest := [.int x3]) (cut_n mi140.1 rfl rfl) (rm8_n mi140.2.1 (Nat.le_of_ble_eq_true rfl) (Nat.le_of_ble_eq_true rfl)) mi140.2.2 (fun x6 h5 => E_i2_eq r237_237 rfl (rfl) (E_ic r237_240 (v := 0) (by decide) (E_rz r237_241 (mq237) (by decide)))))))))))))))))
theorem b237_242 (d : Nat) (l0 : Nat) (l1 : Nat) (l2 : Nat) (l3 : Int32) (h : aH) (K : Option Value → aH → Prop) : E scr true (d + 1) 237 242 [.ref l0, .ref l1, .ref l2, .int l3] [] h K = vI scr d 94 [.ref l1] h (fun (x2 : Int32) (h1 : aH) => vI scr d 169 [.ref l2] h1 (fun (x4 : Int32) (h3 : aH) => (if x2 = x4 then E scr true (d + 1) 237 1037 [.ref l0, .ref l1, .ref l2, .int l3] [] h3 K else K (some (.int 0)) h3))) := go (w := (243, [.ref l0, .ref l1, .ref l2, .int l3], [.ref l1], h)) r237_242 rfl rfl (E_vI r237_243 (As := [.ref l1]) (rest := []) (cut_n mi94.1 rfl rfl) (rm8_n mi94.2.1 (Nat.le_of_ble_eq_true rfl) (Nat.le_of_ble_eq_true rfl)) mi94.2.2 (fun x2 h1 => go (w := (247, [.ref l0, .ref l1, .ref l2, .int l3], [.ref l2, .int x2], h1)) r237_246 rfl rfl (E_vI r237_247 (As := [.ref l2]) (rest := [.int x2]) (cut_n mi169.1 rfl rfl) (rm8_n mi169.2.1 (Nat.le_of_ble_eq_true rfl) (Nat.le_of_ble_eq_true rfl)) mi169.2.2 (fun x4 h3 => E_i2_eq r237_250 rfl (rfl) (E_ic r237_253 (v := 0) (by decide) (E_rz r237_254 (mq237) (by decide)))))))
theorem b237_255 (d : Nat) (l0 : Nat) (l1 : Nat) (l2 : Nat) (l3 : Int32) (h : aH) (K : Option Value → aH → Prop) : E scr true (d + 1) 237 255 [.ref l0, .ref l1, .ref l2, .int l3] [] h K = vI scr d 95 [.ref l1] h (fun (x2 : Int32) (h1 : aH) => vI scr d 171 [.ref l2] h1 (fun (x4 : Int32) (h3 : aH) => (if x2 = x4 then E scr true (d + 1) 237 1037 [.ref l0, .ref l1, .ref l2, .int l3] [] h3 K else K (some (.int 0)) h3))) := go (w := (256, [.ref l0, .ref l1, .ref l2, .int l3], [.ref l1], h)) r237_255 rfl rfl (E_vI r237_256 (As := [.ref l1]) (rest := []) (cut_n mi95.1 rfl rfl) (rm8_n mi95.2.1 (Nat.le_of_ble_eq_true rfl) (Nat.le_of_ble_eq_true rfl)) mi95.2.2 (fun x2 h1 => go (w := (260, [.ref l0, .ref l1, .ref l2, .int l3], [.ref l2, .int x2], h1)) r237_259 rfl rfl (E_vI r237_260 (As := [.ref l2]) (rest := [.int x2]) (cut_n mi171.1 rfl rfl) (rm8_n mi171.2.1 (Nat.le_of_ble_eq_true rfl) (Nat.le_of_ble_eq_true rfl)) mi171.2.2 (fun x4 h3 => E_i2_eq r237_263 rfl (rfl) (E_ic r237_266 (v := 0) (by decide) (E_rz r237_267 (mq237) (by decide)))))))
theorem b237_268 (d : Nat) (l0 : Nat) (l1 : Nat) (l2 : Nat) (l3 : Int32) (h : aH) (K : Option Value → aH → Prop) : E scr true (d + 1) 237 268 [.ref l0, .ref l1, .ref l2, .int l3] [] h K = aI scr h l0 ((l3 + 1)) (fun x1 : Int32 => aI scr h l0 ((l3 + 2)) (fun x2 : Int32 => vI scr d 96 [.ref l1, .int x1, .int x2] h (fun (x4 : Int32) (h3 : aH) => aI scr h3 l0 ((l3 + 1)) (fun x5 : Int32 => aI scr h3 l0 ((l3 + 2)) (fun x6 : Int32 => vI scr d 184 [.ref l2, .int x5, .int x6] h3 (fun (x8 : Int32) (h7 : aH) => (if x4 = x8 then E scr true (d + 1) 237 1037 [.ref l0, .ref l1, .ref l2, .int l3] [] h7 K else K (some (.int 0)) h7))))))) := go (w := (269, [.ref l0, .ref l1, .ref l2, .int l3], [.ref l1], h)) r237_268 rfl rfl (go (w := (270, [.ref l0, .ref l1, .ref l2, .int l3], [.ref l0, .ref l1], h)) r237_269 rfl rfl (go (w := (271, [.ref l0, .ref l1, .ref l2, .int l3], [.int l3, .ref l0, .ref l1], h)) r237_270 rfl rfl (E_ic r237_271 (v := 1) (by decide) (go (w := (273, [.ref l0, .ref l1, .ref l2, .int l3], [.int (l3 + 1), .ref l0, .ref l1], h)) r237_272 rfl rfl (E_aI r237_273 (fun x1 => go (w := (275, [.ref l0, .ref l1, .ref l2, .int l3], [.ref l0, .int x1, .ref l1], h)) r237_274 rfl rfl (go (w := (276, [.ref l0, .ref l1, .ref l2, .int l3], [.int l3, .ref l0, .int x1, .ref l1], h)) r237_275 rfl rfl (E_ic r237_276 (v := 2) (by decide) (go (w := (278, [.ref l0, .ref l1, .ref l2, .int l3], [.int (l3 + 2), .ref l0, .int x1, .ref l1], h)) r237_277 rfl rfl (E_aI r237_278 (fun x2 => E_vI r237_279 (As := [.ref l1, .int x1, .int x2]) (rest := []) (cut_n mi96.1 rfl rfl) (rm8_n mi96.2.1 (Nat.le_of_ble_eq_true rfl) (Nat.le_of_ble_eq_true rfl)) mi96.2.2 (fun x4 h3 => go (w := (283, [.ref l0, .ref l1, .ref l2, .int l3], [.ref l2, .int x4], h3)) r237_282 rfl rfl (go (w := (284, [.ref l0, .ref l1, .ref l2, .int l3], [.ref l0, .ref l2, .int x4], h3)) r237_283 rfl rfl (go (w := (285, [.ref l0, .ref l1, .ref l2, .int l3], [.int l3, .ref l0, .ref l2, .int x4], h3)) r237_284 rfl rfl (E_ic r237_285 (v := 1) (by decide) (go (w := (287, [.ref l0, .ref l1, .ref l2, .int l3], [.int (l3 + 1), .ref l0, .ref l2, .int x4], h3)) r237_286 rfl rfl (E_aI r237_287 (fun x5 => go (w := (289, [.ref l0, .ref l1, .ref l2, .int l3], [.ref l0, .int x5, .ref l2, .int x4], h3)) r237_288 rfl rfl (go (w := (290, [.ref l0, .ref l1, .ref l2, .int l3], [.int l3, .ref l0, .int x5, .ref l2, .int x4], h3)) r237_289 rfl rfl (E_ic r237_290 (v := 2) (by decide) (go (w := (292, [.ref l0, .ref l1, .ref l2, .int l3], [.int (l3 + 2), .ref l0, .int x5, .ref l2, .int x4], h3)) r237_291 rfl rfl (E_aI r237_292 (fun x6 => E_vI r237_293 (As := [.ref l2, .int x5, .int x6]) (rest := [.int x4]) (cut_n mi184.1 rfl rfl) (rm8_n mi184.2.1 (Nat.le_of_ble_eq_true rfl) (Nat.le_of_ble_eq_true rfl)) mi184.2.2 (fun x8 h7 => E_i2_eq r237_296 rfl (rfl) (E_ic r237_299 (v := 0) (by decide) (E_rz r237_300 (mq237) (by decide)))))))))))))))))))))))))))
theorem b237_301 (d : Nat) (l0 : Nat) (l1 : Nat) (l2 : Nat) (l3 : Int32) (h : aH) (K : Option Value → aH → Prop) : E scr true (d + 1) 237 301 [.ref l0, .ref l1, .ref l2, .int l3] [] h K = aI scr h l0 ((l3 + 1)) (fun x1 : Int32 => aI scr h l0 ((l3 + 2)) (fun x2 : Int32 => vI scr d 97 [.ref l1, .int x1, .int x2] h (fun (x4 : Int32) (h3 : aH) => aI scr h3 l0 ((l3 + 1)) (fun x5 : Int32 => aI scr h3 l0 ((l3 + 2)) (fun x6 : Int32 => vI scr d 186 [.ref l2, .int x5, .int x6] h3 (fun (x8 : Int32) (h7 : aH) => (if x4 = x8 then E scr true (d + 1) 237 1037 [.ref l0, .ref l1, .ref l2, .int l3] [] h7 K else K (some (.int 0)) h7))))))) := go (w := (302, [.ref l0, .ref l1, .ref l2, .int l3], [.ref l1], h)) r237_301 rfl rfl (go (w := (303, [.ref l0, .ref l1, .ref l2, .int l3], [.ref l0, .ref l1], h)) r237_302 rfl rfl (go (w := (304, [.ref l0, .ref l1, .ref l2, .int l3], [.int l3, .ref l0, .ref l1], h)) r237_303 rfl rfl (E_ic r237_304 (v := 1) (by decide) (go (w := (306, [.ref l0, .ref l1, .ref l2, .int l3], [.int (l3 + 1), .ref l0, .ref l1], h)) r237_305 rfl rfl (E_aI r237_306 (fun x1 => go (w := (308, [.ref l0, .ref l1, .ref l2, .int l3], [.ref l0, .int x1, .ref l1], h)) r237_307 rfl rfl (go (w := (309, [.ref l0, .ref l1, .ref l2, .int l3], [.int l3, .ref l0, .int x1, .ref l1], h)) r237_308 rfl rfl (E_ic r237_309 (v := 2) (by decide) (go (w := (311, [.ref l0, .ref l1, .ref l2, .int l3], [.int (l3 + 2), .ref l0, .int x1, .ref l1], h)) r237_310 rfl rfl (E_aI r237_311 (fun x2 => E_vI r237_312 (As := [.ref l1, .int x1, .int x2]) (rest := []) (cut_n mi97.1 rfl rfl) (rm8_n mi97.2.1 (Nat.le_of_ble_eq_true rfl) (Nat.le_of_ble_eq_true rfl)) mi97.2.2 (fun x4 h3 => go (w := (316, [.ref l0, .ref l1, .ref l2, .int l3], [.ref l2, .int x4], h3)) r237_315 rfl rfl (go (w := (317, [.ref l0, .ref l1, .ref l2, .int l3], [.ref l0, .ref l2, .int x4], h3)) r237_316 rfl rfl (go (w := (318, [.ref l0, .ref l1, .ref l2, .int l3], [.int l3, .ref l0, .ref l2, .int x4], h3)) r237_317 rfl rfl (E_ic r237_318 (v := 1) (by decide) (go (w := (320, [.ref l0, .ref l1, .ref l2, .int l3], [.int (l3 + 1), .ref l0, .ref l2, .int x4], h3)) r237_319 rfl rfl (E_aI r237_320 (fun x5 => go (w := (322, [.ref l0, .ref l1, .ref l2, .int l3], [.ref l0, .int x5, .ref l2, .int x4], h3)) r237_321 rfl rfl (go (w := (323, [.ref l0, .ref l1, .ref l2, .int l3], [.int l3, .ref l0, .int x5, .ref l2, .int x4], h3)) r237_322 rfl rfl (E_ic r237_323 (v := 2) (by decide) (go (w := (325, [.ref l0, .ref l1, .ref l2, .int l3], [.int (l3 + 2), .ref l0, .int x5, .ref l2, .int x4], h3)) r237_324 rfl rfl (E_aI r237_325 (fun x6 => E_vI r237_326 (As := [.ref l2, .int x5, .int x6]) (rest := [.int x4]) (cut_n mi186.1 rfl rfl) (rm8_n mi186.2.1 (Nat.le_of_ble_eq_true rfl) (Nat.le_of_ble_eq_true rfl)) mi186.2.2 (fun x8 h7 => E_i2_eq r237_329 rfl (rfl) (E_ic r237_332 (v := 0) (by decide) (E_rz r237_333 (mq237) (by decide)))))))))))))))))))))))))))
theorem b237_334 (d : Nat) (l0 : Nat) (l1 : Nat) (l2 : Nat) (l3 : Int32) (h : aH) (K : Option Value → aH → Prop) : E scr true (d + 1) 237 334 [.ref l0, .ref l1, .ref l2, .int l3] [] h K = aI scr h l0 ((l3 + 1)) (fun x1 : Int32 => aI scr h l0 ((l3 + 2)) (fun x2 : Int32 => aI scr h l0 ((l3 + 3)) (fun x3 : Int32 => vI scr d 98 [.ref l1, .int x1, .int x2, .int x3] h (fun (x5 : Int32) (h4 : aH) => aI scr h4 l0 ((l3 + 1)) (fun x6 : Int32 => aI scr h4 l0 ((l3 + 2)) (fun x7 : Int32 => aI scr h4 l0 ((l3 + 3)) (fun x8 : Int32 => vI scr d 187 [.ref l2, .int x6, .int x7, .int x8] h4 (fun (x10 : Int32) (h9 : aH) => (if x5 = x10 then E scr true (d + 1) 237 1037 [.ref l0, .ref l1, .ref l2, .int l3] [] h9 K else K (some (.int 0)) h9))))))))) := go (w := (335, [.ref l0, .ref l1, .ref l2, .int l3], [.ref l1], h)) r237_334 rfl rfl (go (w := (336, [.ref l0, .ref l1, .ref l2, .int l3], [.ref l0, .ref l1], h)) r237_335 rfl rfl (go (w := (337, [.ref l0, .ref l1, .ref l2, .int l3], [.int l3, .ref l0, .ref l1], h)) r237_336 rfl rfl (E_ic r237_337 (v := 1) (by decide) (go (w := (339, [.ref l0, .ref l1, .ref l2, .int l3], [.int (l3 + 1), .ref l0, .ref l1], h)) r237_338 rfl rfl (E_aI r237_339 (fun x1 => go (w := (341, [.ref l0, .ref l1, .ref l2, .int l3], [.ref l0, .int x1, .ref l1], h)) r237_340 rfl rfl (go (w := (342, [.ref l0, .ref l1, .ref l2, .int l3], [.int l3, .ref l0, .int x1, .ref l1], h)) r237_341 rfl rfl (E_ic r237_342 (v := 2) (by decide) (go (w := (344, [.ref l0, .ref l1, .ref l2, .int l3], [.int (l3 + 2), .ref l0, .int x1, .ref l1], h)) r237_343 rfl rfl (E_aI r237_344 (fun x2 => go (w := (346, [.ref l0, .ref l1, .ref l2, .int l3], [.ref l0, .int x2, .int x1, .ref l1], h)) r237_345 rfl rfl (go (w := (347, [.ref l0, .ref l1, .ref l2, .int l3], [.int l3, .ref l0, .int x2, .int x1, .ref l1], h)) r237_346 rfl rfl (E_ic r237_347 (v := 3) (by decide) (go (w := (349, [.ref l0, .ref l1, .ref l2, .int l3], [.int (l3 + 3), .ref l0, .int x2, .int x1, .ref l1], h)) r237_348 rfl rfl (E_aI r237_349 (fun x3 => E_vI r237_350 (As := [.ref l1, .int x1, .int x2, .int x3]) (rest := []) (cut_n mi98.1 rfl rfl) (rm8_n mi98.2.1 (Nat.le_of_ble_eq_true rfl) (Nat.le_of_ble_eq_true rfl)) mi98.2.2 (fun x5 h4 => go (w := (354, [.ref l0, .ref l1, .ref l2, .int l3], [.ref l2, .int x5], h4)) r237_353 rfl rfl (go (w := (355, [.ref l0, .ref l1, .ref l2, .int l3], [.ref l0, .ref l2, .int x5], h4)) r237_354 rfl rfl (go (w := (356, [.ref l0, .ref l1, .ref l2, .int l3], [.int l3, .ref l0, .ref l2, .int x5], h4)) r237_355 rfl rfl (E_ic r237_356 (v := 1) (by decide) (go (w := (358, [.ref l0, .ref l1, .ref l2, .int l3], [.int (l3 + 1), .ref l0, .ref l2, .int x5], h4)) r237_357 rfl rfl (E_aI r237_358 (fun x6 => go (w := (360, [.ref l0, .ref l1, .ref l2, .int l3], [.ref l0, .int x6, .ref l2, .int x5], h4)) r237_359 rfl rfl (go (w := (361, [.ref l0, .ref l1, .ref l2, .int l3], [.int l3, .ref l0, .int x6, .ref l2, .int x5], h4)) r237_360 rfl rfl (E_ic r237_361 (v := 2) (by decide) (go (w := (363, [.ref l0, .ref l1, .ref l2, .int l3], [.int (l3 + 2), .ref l0, .int x6, .ref l2, .int x5], h4)) r237_362 rfl rfl (E_aI r237_363 (fun x7 => go (w := (365, [.ref l0, .ref l1, .ref l2, .int l3], [.ref l0, .int x7, .int x6, .ref l2, .int x5], h4)) r237_364 rfl rfl (go (w := (366, [.ref l0, .ref l1, .ref l2, .int l3], [.int l3, .ref l0, .int x7, .int x6, .ref l2, .int x5], h4)) r237_365 rfl rfl (E_ic r237_366 (v := 3) (by decide) (go (w := (368, [.ref l0, .ref l1, .ref l2, .int l3], [.int (l3 + 3), .ref l0, .int x7, .int x6, .ref l2, .int x5], h4)) r237_367 rfl rfl (E_aI r237_368 (fun x8 => E_vI r237_369 (As := [.ref l2, .int x6, .int x7, .int x8]) (rest := [.int x5]) (cut_n mi187.1 rfl rfl) (rm8_n mi187.2.1 (Nat.le_of_ble_eq_true rfl) (Nat.le_of_ble_eq_true rfl)) mi187.2.2 (fun x10 h9 => E_i2_eq r237_372 rfl (rfl) (E_ic r237_375 (v := 0) (by decide) (E_rz r237_376 (mq237) (by decide)))))))))))))))))))))))))))))))))))))
theorem b237_377 (d : Nat) (l0 : Nat) (l1 : Nat) (l2 : Nat) (l3 : Int32) (h : aH) (K : Option Value → aH → Prop) : E scr true (d + 1) 237 377 [.ref l0, .ref l1, .ref l2, .int l3] [] h K = aI scr h l0 ((l3 + 1)) (fun x1 : Int32 => vI scr d 99 [.ref l1, .int x1] h (fun (x3 : Int32) (h2 : aH) => aI scr h2 l0 ((l3 + 1)) (fun x4 : Int32 => vI scr d 188 [.ref l2, .int x4] h2 (fun (x6 : Int32) (h5 : aH) => (if x3 = x6 then E scr true (d + 1) 237 1037 [.ref l0, .ref l1, .ref l2, .int l3] [] h5 K else K (some (.int 0)) h5))))) := go (w := (378, [.ref l0, .ref l1, .ref l2, .int l3], [.ref l1], h)) r237_377 rfl rfl (go (w := (379, [.ref l0, .ref l1, .ref l2, .int l3], [.ref l0, .ref l1], h)) r237_378 rfl rfl (go (w := (380, [.ref l0, .ref l1, .ref l2, .int l3], [.int l3, .ref l0, .ref l1], h)) r237_379 rfl rfl (E_ic r237_380 (v := 1) (by decide) (go (w := (382, [.ref l0, .ref l1, .ref l2, .int l3], [.int (l3 + 1), .ref l0, .ref l1], h)) r237_381 rfl rfl (E_aI r237_382 (fun x1 => E_vI r237_383 (As := [.ref l1, .int x1]) (rest := []) (cut_n mi99.1 rfl rfl) (rm8_n mi99.2.1 (Nat.le_of_ble_eq_true rfl) (Nat.le_of_ble_eq_true rfl)) mi99.2.2 (fun x3 h2 => go (w := (387, [.ref l0, .ref l1, .ref l2, .int l3], [.ref l2, .int x3], h2)) r237_386 rfl rfl (go (w := (388, [.ref l0, .ref l1, .ref l2, .int l3], [.ref l0, .ref l2, .int x3], h2)) r237_387 rfl rfl (go (w := (389, [.ref l0, .ref l1, .ref l2, .int l3], [.int l3, .ref l0, .ref l2, .int x3], h2)) r237_388 rfl rfl (E_ic r237_389 (v := 1) (by decide) (go (w := (391, [.ref l0, .ref l1, .ref l2, .int l3], [.int (l3 + 1), .ref l0, .ref l2, .int x3], h2)) r237_390 rfl rfl (E_aI r237_391 (fun x4 => E_vI r237_392 (As := [.ref l2, .int x4]) (rest := [.int x3]) (cut_n mi188.1 rfl rfl) (rm8_n mi188.2.1 (Nat.le_of_ble_eq_true rfl) (Nat.le_of_ble_eq_true rfl)) mi188.2.2 (fun x6 h5 => E_i2_eq r237_395 rfl (rfl) (E_ic r237_398 (v := 0) (by decide) (E_rz r237_399 (mq237) (by decide)))))))))))))))))
theorem b237_400 (d : Nat) (l0 : Nat) (l1 : Nat) (l2 : Nat) (l3 : Int32) (h : aH) (K : Option Value → aH → Prop) : E scr true (d + 1) 237 400 [.ref l0, .ref l1, .ref l2, .int l3] [] h K = aI scr h l0 ((l3 + 1)) (fun x1 : Int32 => aI scr h l0 ((l3 + 2)) (fun x2 : Int32 => vI scr d 100 [.ref l1, .int x1, .int x2] h (fun (x4 : Int32) (h3 : aH) => aI scr h3 l0 ((l3 + 1)) (fun x5 : Int32 => aI scr h3 l0 ((l3 + 2)) (fun x6 : Int32 => vI scr d 189 [.ref l2, .int x5, .int x6] h3 (fun (x8 : Int32) (h7 : aH) => (if x4 = x8 then E scr true (d + 1) 237 1037 [.ref l0, .ref l1, .ref l2, .int l3] [] h7 K else K (some (.int 0)) h7))))))) := go (w := (401, [.ref l0, .ref l1, .ref l2, .int l3], [.ref l1], h)) r237_400 rfl rfl (go (w := (402, [.ref l0, .ref l1, .ref l2, .int l3], [.ref l0, .ref l1], h)) r237_401 rfl rfl (go (w := (403, [.ref l0, .ref l1, .ref l2, .int l3], [.int l3, .ref l0, .ref l1], h)) r237_402 rfl rfl (E_ic r237_403 (v := 1) (by decide) (go (w := (405, [.ref l0, .ref l1, .ref l2, .int l3], [.int (l3 + 1), .ref l0, .ref l1], h)) r237_404 rfl rfl (E_aI r237_405 (fun x1 => go (w := (407, [.ref l0, .ref l1, .ref l2, .int l3], [.ref l0, .int x1, .ref l1], h)) r237_406 rfl rfl (go (w := (408, [.ref l0, .ref l1, .ref l2, .int l3], [.int l3, .ref l0, .int x1, .ref l1], h)) r237_407 rfl rfl (E_ic r237_408 (v := 2) (by decide) (go (w := (410, [.ref l0, .ref l1, .ref l2, .int l3], [.int (l3 + 2), .ref l0, .int x1, .ref l1], h)) r237_409 rfl rfl (E_aI r237_410 (fun x2 => E_vI r237_411 (As := [.ref l1, .int x1, .int x2]) (rest := []) (cut_n mi100.1 rfl rfl) (rm8_n mi100.2.1 (Nat.le_of_ble_eq_true rfl) (Nat.le_of_ble_eq_true rfl)) mi100.2.2 (fun x4 h3 => go (w := (415, [.ref l0, .ref l1, .ref l2, .int l3], [.ref l2, .int x4], h3)) r237_414 rfl rfl (go (w := (416, [.ref l0, .ref l1, .ref l2, .int l3], [.ref l0, .ref l2, .int x4], h3)) r237_415 rfl rfl (go (w := (417, [.ref l0, .ref l1, .ref l2, .int l3], [.int l3, .ref l0, .ref l2, .int x4], h3)) r237_416 rfl rfl (E_ic r237_417 (v := 1) (by decide) (go (w := (419, [.ref l0, .ref l1, .ref l2, .int l3], [.int (l3 + 1), .ref l0, .ref l2, .int x4], h3)) r237_418 rfl rfl (E_aI r237_419 (fun x5 => go (w := (421, [.ref l0, .ref l1, .ref l2, .int l3], [.ref l0, .int x5, .ref l2, .int x4], h3)) r237_420 rfl rfl (go (w := (422, [.ref l0, .ref l1, .ref l2, .int l3], [.int l3, .ref l0, .int x5, .ref l2, .int x4], h3)) r237_421 rfl rfl (E_ic r237_422 (v := 2) (by decide) (go (w := (424, [.ref l0, .ref l1, .ref l2, .int l3], [.int (l3 + 2), .ref l0, .int x5, .ref l2, .int x4], h3)) r237_423 rfl rfl (E_aI r237_424 (fun x6 => E_vI r237_425 (As := [.ref l2, .int x5, .int x6]) (rest := [.int x4]) (cut_n mi189.1 rfl rfl) (rm8_n mi189.2.1 (Nat.le_of_ble_eq_true rfl) (Nat.le_of_ble_eq_true rfl)) mi189.2.2 (fun x8 h7 => E_i2_eq r237_428 rfl (rfl) (E_ic r237_431 (v := 0) (by decide) (E_rz r237_432 (mq237) (by decide)))))))))))))))))))))))))))
theorem b237_433 (d : Nat) (l0 : Nat) (l1 : Nat) (l2 : Nat) (l3 : Int32) (h : aH) (K : Option Value → aH → Prop) : E scr true (d + 1) 237 433 [.ref l0, .ref l1, .ref l2, .int l3] [] h K = aI scr h l0 ((l3 + 1)) (fun x1 : Int32 => aI scr h l0 ((l3 + 2)) (fun x2 : Int32 => vI scr d 101 [.ref l1, .int x1, .int x2] h (fun (x4 : Int32) (h3 : aH) => aI scr h3 l0 ((l3 + 1)) (fun x5 : Int32 => aI scr h3 l0 ((l3 + 2)) (fun x6 : Int32 => vI scr d 191 [.ref l2, .int x5, .int x6] h3 (fun (x8 : Int32) (h7 : aH) => (if x4 = x8 then E scr true (d + 1) 237 1037 [.ref l0, .ref l1, .ref l2, .int l3] [] h7 K else K (some (.int 0)) h7))))))) := go (w := (434, [.ref l0, .ref l1, .ref l2, .int l3], [.ref l1], h)) r237_433 rfl rfl (go (w := (435, [.ref l0, .ref l1, .ref l2, .int l3], [.ref l0, .ref l1], h)) r237_434 rfl rfl (go (w := (436, [.ref l0, .ref l1, .ref l2, .int l3], [.int l3, .ref l0, .ref l1], h)) r237_435 rfl rfl (E_ic r237_436 (v := 1) (by decide) (go (w := (438, [.ref l0, .ref l1, .ref l2, .int l3], [.int (l3 + 1), .ref l0, .ref l1], h)) r237_437 rfl rfl (E_aI r237_438 (fun x1 => go (w := (440, [.ref l0, .ref l1, .ref l2, .int l3], [.ref l0, .int x1, .ref l1], h)) r237_439 rfl rfl (go (w := (441, [.ref l0, .ref l1, .ref l2, .int l3], [.int l3, .ref l0, .int x1, .ref l1], h)) r237_440 rfl rfl (E_ic r237_441 (v := 2) (by decide) (go (w := (443, [.ref l0, .ref l1, .ref l2, .int l3], [.int (l3 + 2), .ref l0, .int x1, .ref l1], h)) r237_442 rfl rfl (E_aI r237_443 (fun x2 => E_vI r237_444 (As := [.ref l1, .int x1, .int x2]) (rest := []) (cut_n mi101.1 rfl rfl) (rm8_n mi101.2.1 (Nat.le_of_ble_eq_true rfl) (Nat.le_of_ble_eq_true rfl)) mi101.2.2 (fun x4 h3 => go (w := (448, [.ref l0, .ref l1, .ref l2, .int l3], [.ref l2, .int x4], h3)) r237_447 rfl rfl (go (w := (449, [.ref l0, .ref l1, .ref l2, .int l3], [.ref l0, .ref l2, .int x4], h3)) r237_448 rfl rfl (go (w := (450, [.ref l0, .ref l1, .ref l2, .int l3], [.int l3, .ref l0, .ref l2, .int x4], h3)) r237_449 rfl rfl (E_ic r237_450 (v := 1) (by decide) (go (w := (452, [.ref l0, .ref l1, .ref l2, .int l3], [.int (l3 + 1), .ref l0, .ref l2, .int x4], h3)) r237_451 rfl rfl (E_aI r237_452 (fun x5 => go (w := (454, [.ref l0, .ref l1, .ref l2, .int l3], [.ref l0, .int x5, .ref l2, .int x4], h3)) r237_453 rfl rfl (go (w := (455, [.ref l0, .ref l1, .ref l2, .int l3], [.int l3, .ref l0, .int x5, .ref l2, .int x4], h3)) r237_454 rfl rfl (E_ic r237_455 (v := 2) (by decide) (go (w := (457, [.ref l0, .ref l1, .ref l2, .int l3], [.int (l3 + 2), .ref l0, .int x5, .ref l2, .int x4], h3)) r237_456 rfl rfl (E_aI r237_457 (fun x6 => E_vI r237_458 (As := [.ref l2, .int x5, .int x6]) (rest := [.int x4]) (cut_n mi191.1 rfl rfl) (rm8_n mi191.2.1 (Nat.le_of_ble_eq_true rfl) (Nat.le_of_ble_eq_true rfl)) mi191.2.2 (fun x8 h7 => E_i2_eq r237_461 rfl (rfl) (E_ic r237_464 (v := 0) (by decide) (E_rz r237_465 (mq237) (by decide)))))))))))))))))))))))))))
theorem b237_466 (d : Nat) (l0 : Nat) (l1 : Nat) (l2 : Nat) (l3 : Int32) (h : aH) (K : Option Value → aH → Prop) : E scr true (d + 1) 237 466 [.ref l0, .ref l1, .ref l2, .int l3] [] h K = aI scr h l0 ((l3 + 1)) (fun x1 : Int32 => aI scr h l0 ((l3 + 2)) (fun x2 : Int32 => vI scr d 102 [.ref l1, .int x1, .int x2] h (fun (x4 : Int32) (h3 : aH) => aI scr h3 l0 ((l3 + 1)) (fun x5 : Int32 => aI scr h3 l0 ((l3 + 2)) (fun x6 : Int32 => vI scr d 183 [.ref l2, .int x5, .int x6] h3 (fun (x8 : Int32) (h7 : aH) => (if x4 = x8 then E scr true (d + 1) 237 1037 [.ref l0, .ref l1, .ref l2, .int l3] [] h7 K else K (some (.int 0)) h7))))))) := go (w := (467, [.ref l0, .ref l1, .ref l2, .int l3], [.ref l1], h)) r237_466 rfl rfl (go (w := (468, [.ref l0, .ref l1, .ref l2, .int l3], [.ref l0, .ref l1], h)) r237_467 rfl rfl (go (w := (469, [.ref l0, .ref l1, .ref l2, .int l3], [.int l3, .ref l0, .ref l1], h)) r237_468 rfl rfl (E_ic r237_469 (v := 1) (by decide) (go (w := (471, [.ref l0, .ref l1, .ref l2, .int l3], [.int (l3 + 1), .ref l0, .ref l1], h)) r237_470 rfl rfl (E_aI r237_471 (fun x1 => go (w := (473, [.ref l0, .ref l1, .ref l2, .int l3], [.ref l0, .int x1, .ref l1], h)) r237_472 rfl rfl (go (w := (474, [.ref l0, .ref l1, .ref l2, .int l3], [.int l3, .ref l0, .int x1, .ref l1], h)) r237_473 rfl rfl (E_ic r237_474 (v := 2) (by decide) (go (w := (476, [.ref l0, .ref l1, .ref l2, .int l3], [.int (l3 + 2), .ref l0, .int x1, .ref l1], h)) r237_475 rfl rfl (E_aI r237_476 (fun x2 => E_vI r237_477 (As := [.ref l1, .int x1, .int x2]) (rest := []) (cut_n mi102.1 rfl rfl) (rm8_n mi102.2.1 (Nat.le_of_ble_eq_true rfl) (Nat.le_of_ble_eq_true rfl)) mi102.2.2 (fun x4 h3 => go (w := (481, [.ref l0, .ref l1, .ref l2, .int l3], [.ref l2, .int x4], h3)) r237_480 rfl rfl (go (w := (482, [.ref l0, .ref l1, .ref l2, .int l3], [.ref l0, .ref l2, .int x4], h3)) r237_481 rfl rfl (go (w := (483, [.ref l0, .ref l1, .ref l2, .int l3], [.int l3, .ref l0, .ref l2, .int x4], h3)) r237_482 rfl rfl (E_ic r237_483 (v := 1) (by decide) (go (w := (485, [.ref l0, .ref l1, .ref l2, .int l3], [.int (l3 + 1), .ref l0, .ref l2, .int x4], h3)) r237_484 rfl rfl (E_aI r237_485 (fun x5 => go (w := (487, [.ref l0, .ref l1, .ref l2, .int l3], [.ref l0, .int x5, .ref l2, .int x4], h3)) r237_486 rfl rfl (go (w := (488, [.ref l0, .ref l1, .ref l2, .int l3], [.int l3, .ref l0, .int x5, .ref l2, .int x4], h3)) r237_487 rfl rfl (E_ic r237_488 (v := 2) (by decide) (go (w := (490, [.ref l0, .ref l1, .ref l2, .int l3], [.int (l3 + 2), .ref l0, .int x5, .ref l2, .int x4], h3)) r237_489 rfl rfl (E_aI r237_490 (fun x6 => E_vI r237_491 (As := [.ref l2, .int x5, .int x6]) (rest := [.int x4]) (cut_n mi183.1 rfl rfl) (rm8_n mi183.2.1 (Nat.le_of_ble_eq_true rfl) (Nat.le_of_ble_eq_true rfl)) mi183.2.2 (fun x8 h7 => E_i2_eq r237_494 rfl (rfl) (E_ic r237_497 (v := 0) (by decide) (E_rz r237_498 (mq237) (by decide)))))))))))))))))))))))))))
theorem b237_499 (d : Nat) (l0 : Nat) (l1 : Nat) (l2 : Nat) (l3 : Int32) (h : aH) (K : Option Value → aH → Prop) : E scr true (d + 1) 237 499 [.ref l0, .ref l1, .ref l2, .int l3] [] h K = aI scr h l0 ((l3 + 1)) (fun x1 : Int32 => aI scr h l0 ((l3 + 2)) (fun x2 : Int32 => vI scr d 103 [.ref l1, .int x1, .int x2] h (fun (x4 : Int32) (h3 : aH) => aI scr h3 l0 ((l3 + 1)) (fun x5 : Int32 => aI scr h3 l0 ((l3 + 2)) (fun x6 : Int32 => vI scr d 192 [.ref l2, .int x5, .int x6] h3 (fun (x8 : Int32) (h7 : aH) => (if x4 = x8 then E scr true (d + 1) 237 1037 [.ref l0, .ref l1, .ref l2, .int l3] [] h7 K else K (some (.int 0)) h7))))))) := go (w := (500, [.ref l0, .ref l1, .ref l2, .int l3], [.ref l1], h)) r237_499 rfl rfl (go (w := (501, [.ref l0, .ref l1, .ref l2, .int l3], [.ref l0, .ref l1], h)) r237_500 rfl rfl (go (w := (502, [.ref l0, .ref l1, .ref l2, .int l3], [.int l3, .ref l0, .ref l1], h)) r237_501 rfl rfl (E_ic r237_502 (v := 1) (by decide) (go (w := (504, [.ref l0, .ref l1, .ref l2, .int l3], [.int (l3 + 1), .ref l0, .ref l1], h)) r237_503 rfl rfl (E_aI r237_504 (fun x1 => go (w := (506, [.ref l0, .ref l1, .ref l2, .int l3], [.ref l0, .int x1, .ref l1], h)) r237_505 rfl rfl (go (w := (507, [.ref l0, .ref l1, .ref l2, .int l3], [.int l3, .ref l0, .int x1, .ref l1], h)) r237_506 rfl rfl (E_ic r237_507 (v := 2) (by decide) (go (w := (509, [.ref l0, .ref l1, .ref l2, .int l3], [.int (l3 + 2), .ref l0, .int x1, .ref l1], h)) r237_508 rfl rfl (E_aI r237_509 (fun x2 => E_vI r237_510 (As := [.ref l1, .int x1, .int x2]) (rest := []) (cut_n mi103.1 rfl rfl) (rm8_n mi103.2.1 (Nat.le_of_ble_eq_true rfl) (Nat.le_of_ble_eq_true rfl)) mi103.2.2 (fun x4 h3 => go (w := (514, [.ref l0, .ref l1, .ref l2, .int l3], [.ref l2, .int x4], h3)) r237_513 rfl rfl (go (w := (515, [.ref l0, .ref l1, .ref l2, .int l3], [.ref l0, .ref l2, .int x4], h3)) r237_514 rfl rfl (go (w := (516, [.ref l0, .ref l1, .ref l2, .int l3], [.int l3, .ref l0, .ref l2, .int x4], h3)) r237_515 rfl rfl (E_ic r237_516 (v := 1) (by decide) (go (w := (518, [.ref l0, .ref l1, .ref l2, .int l3], [.int (l3 + 1), .ref l0, .ref l2, .int x4], h3)) r237_517 rfl rfl (E_aI r237_518 (fun x5 => go (w := (520, [.ref l0, .ref l1, .ref l2, .int l3], [.ref l0, .int x5, .ref l2, .int x4], h3)) r237_519 rfl rfl (go (w := (521, [.ref l0, .ref l1, .ref l2, .int l3], [.int l3, .ref l0, .int x5, .ref l2, .int x4], h3)) r237_520 rfl rfl (E_ic r237_521 (v := 2) (by decide) (go (w := (523, [.ref l0, .ref l1, .ref l2, .int l3], [.int (l3 + 2), .ref l0, .int x5, .ref l2, .int x4], h3)) r237_522 rfl rfl (E_aI r237_523 (fun x6 => E_vI r237_524 (As := [.ref l2, .int x5, .int x6]) (rest := [.int x4]) (cut_n mi192.1 rfl rfl) (rm8_n mi192.2.1 (Nat.le_of_ble_eq_true rfl) (Nat.le_of_ble_eq_true rfl)) mi192.2.2 (fun x8 h7 => E_i2_eq r237_527 rfl (rfl) (E_ic r237_530 (v := 0) (by decide) (E_rz r237_531 (mq237) (by decide)))))))))))))))))))))))))))
theorem b237_532 (d : Nat) (l0 : Nat) (l1 : Nat) (l2 : Nat) (l3 : Int32) (h : aH) (K : Option Value → aH → Prop) : E scr true (d + 1) 237 532 [.ref l0, .ref l1, .ref l2, .int l3] [] h K = aI scr h l0 ((l3 + 1)) (fun x1 : Int32 => aI scr h l0 ((l3 + 2)) (fun x2 : Int32 => aI scr h l0 ((l3 + 3)) (fun x3 : Int32 => vI scr d 104 [.ref l1, .int x1, .int x2, .int x3] h (fun (x5 : Int32) (h4 : aH) => aI scr h4 l0 ((l3 + 1)) (fun x6 : Int32 => aI scr h4 l0 ((l3 + 2)) (fun x7 : Int32 => aI scr h4 l0 ((l3 + 3)) (fun x8 : Int32 => vI scr d 196 [.ref l2, .int x6, .int x7, .int x8] h4 (fun (x10 : Int32) (h9 : aH) => (if x5 = x10 then E scr true (d + 1) 237 1037 [.ref l0, .ref l1, .ref l2, .int l3] [] h9 K else K (some (.int 0)) h9))))))))) := go (w := (533, [.ref l0, .ref l1, .ref l2, .int l3], [.ref l1], h)) r237_532 rfl rfl (go (w := (534, [.ref l0, .ref l1, .ref l2, .int l3], [.ref l0, .ref l1], h)) r237_533 rfl rfl (go (w := (535, [.ref l0, .ref l1, .ref l2, .int l3], [.int l3, .ref l0, .ref l1], h)) r237_534 rfl rfl (E_ic r237_535 (v := 1) (by decide) (go (w := (537, [.ref l0, .ref l1, .ref l2, .int l3], [.int (l3 + 1), .ref l0, .ref l1], h)) r237_536 rfl rfl (E_aI r237_537 (fun x1 => go (w := (539, [.ref l0, .ref l1, .ref l2, .int l3], [.ref l0, .int x1, .ref l1], h)) r237_538 rfl rfl (go (w := (540, [.ref l0, .ref l1, .ref l2, .int l3], [.int l3, .ref l0, .int x1, .ref l1], h)) r237_539 rfl rfl (E_ic r237_540 (v := 2) (by decide) (go (w := (542, [.ref l0, .ref l1, .ref l2, .int l3], [.int (l3 + 2), .ref l0, .int x1, .ref l1], h)) r237_541 rfl rfl (E_aI r237_542 (fun x2 => go (w := (544, [.ref l0, .ref l1, .ref l2, .int l3], [.ref l0, .int x2, .int x1, .ref l1], h)) r237_543 rfl rfl (go (w := (545, [.ref l0, .ref l1, .ref l2, .int l3], [.int l3, .ref l0, .int x2, .int x1, .ref l1], h)) r237_544 rfl rfl (E_ic r237_545 (v := 3) (by decide) (go (w := (547, [.ref l0, .ref l1, .ref l2, .int l3], [.int (l3 + 3), .ref l0, .int x2, .int x1, .ref l1], h)) r237_546 rfl rfl (E_aI r237_547 (fun x3 => E_vI r237_548 (As := [.ref l1, .int x1, .int x2, .int x3]) (rest := []) (cut_n mi104.1 rfl rfl) (rm8_n mi104.2.1 (Nat.le_of_ble_eq_true rfl) (Nat.le_of_ble_eq_true rfl)) mi104.2.2 (fun x5 h4 => go (w := (552, [.ref l0, .ref l1, .ref l2, .int l3], [.ref l2, .int x5], h4)) r237_551 rfl rfl (go (w := (553, [.ref l0, .ref l1, .ref l2, .int l3], [.ref l0, .ref l2, .int x5], h4)) r237_552 rfl rfl (go (w := (554, [.ref l0, .ref l1, .ref l2, .int l3], [.int l3, .ref l0, .ref l2, .int x5], h4)) r237_553 rfl rfl (E_ic r237_554 (v := 1) (by decide) (go (w := (556, [.ref l0, .ref l1, .ref l2, .int l3], [.int (l3 + 1), .ref l0, .ref l2, .int x5], h4)) r237_555 rfl rfl (E_aI r237_556 (fun x6 => go (w := (558, [.ref l0, .ref l1, .ref l2, .int l3], [.ref l0, .int x6, .ref l2, .int x5], h4)) r237_557 rfl rfl (go (w := (559, [.ref l0, .ref l1, .ref l2, .int l3], [.int l3, .ref l0, .int x6, .ref l2, .int x5], h4)) r237_558 rfl rfl (E_ic r237_559 (v := 2) (by decide) (go (w := (561, [.ref l0, .ref l1, .ref l2, .int l3], [.int (l3 + 2), .ref l0, .int x6, .ref l2, .int x5], h4)) r237_560 rfl rfl (E_aI r237_561 (fun x7 => go (w := (563, [.ref l0, .ref l1, .ref l2, .int l3], [.ref l0, .int x7, .int x6, .ref l2, .int x5], h4)) r237_562 rfl rfl (go (w := (564, [.ref l0, .ref l1, .ref l2, .int l3], [.int l3, .ref l0, .int x7, .int x6, .ref l2, .int x5], h4)) r237_563 rfl rfl (E_ic r237_564 (v := 3) (by decide) (go (w := (566, [.ref l0, .ref l1, .ref l2, .int l3], [.int (l3 + 3), .ref l0, .int x7, .int x6, .ref l2, .int x5], h4)) r237_565 rfl rfl (E_aI r237_566 (fun x8 => E_vI r237_567 (As := [.ref l2, .int x6, .int x7, .int x8]) (rest := [.int x5]) (cut_n mi196.1 rfl rfl) (rm8_n mi196.2.1 (Nat.le_of_ble_eq_true rfl) (Nat.le_of_ble_eq_true rfl)) mi196.2.2 (fun x10 h9 => E_i2_eq r237_570 rfl (rfl) (E_ic r237_573 (v := 0) (by decide) (E_rz r237_574 (mq237) (by decide)))))))))))))))))))))))))))))))))))))
theorem b237_575 (d : Nat) (l0 : Nat) (l1 : Nat) (l2 : Nat) (l3 : Int32) (h : aH) (K : Option Value → aH → Prop) : E scr true (d + 1) 237 575 [.ref l0, .ref l1, .ref l2, .int l3] [] h K = aI scr h l0 ((l3 + 1)) (fun x1 : Int32 => aI scr h l0 ((l3 + 2)) (fun x2 : Int32 => vI scr d 105 [.ref l1, .int x1, .int x2] h (fun (x4 : Int32) (h3 : aH) => aI scr h3 l0 ((l3 + 1)) (fun x5 : Int32 => aI scr h3 l0 ((l3 + 2)) (fun x6 : Int32 => vI scr d 198 [.ref l2, .int x5, .int x6] h3 (fun (x8 : Int32) (h7 : aH) => (if x4 = x8 then E scr true (d + 1) 237 1037 [.ref l0, .ref l1, .ref l2, .int l3] [] h7 K else K (some (.int 0)) h7))))))) := go (w := (576, [.ref l0, .ref l1, .ref l2, .int l3], [.ref l1], h)) r237_575 rfl rfl (go (w := (577, [.ref l0, .ref l1, .ref l2, .int l3], [.ref l0, .ref l1], h)) r237_576 rfl rfl (go (w := (578, [.ref l0, .ref l1, .ref l2, .int l3], [.int l3, .ref l0, .ref l1], h)) r237_577 rfl rfl (E_ic r237_578 (v := 1) (by decide) (go (w := (580, [.ref l0, .ref l1, .ref l2, .int l3], [.int (l3 + 1), .ref l0, .ref l1], h)) r237_579 rfl rfl (E_aI r237_580 (fun x1 => go (w := (582, [.ref l0, .ref l1, .ref l2, .int l3], [.ref l0, .int x1, .ref l1], h)) r237_581 rfl rfl (go (w := (583, [.ref l0, .ref l1, .ref l2, .int l3], [.int l3, .ref l0, .int x1, .ref l1], h)) r237_582 rfl rfl (E_ic r237_583 (v := 2) (by decide) (go (w := (585, [.ref l0, .ref l1, .ref l2, .int l3], [.int (l3 + 2), .ref l0, .int x1, .ref l1], h)) r237_584 rfl rfl (E_aI r237_585 (fun x2 => E_vI r237_586 (As := [.ref l1, .int x1, .int x2]) (rest := []) (cut_n mi105.1 rfl rfl) (rm8_n mi105.2.1 (Nat.le_of_ble_eq_true rfl) (Nat.le_of_ble_eq_true rfl)) mi105.2.2 (fun x4 h3 => go (w := (590, [.ref l0, .ref l1, .ref l2, .int l3], [.ref l2, .int x4], h3)) r237_589 rfl rfl (go (w := (591, [.ref l0, .ref l1, .ref l2, .int l3], [.ref l0, .ref l2, .int x4], h3)) r237_590 rfl rfl (go (w := (592, [.ref l0, .ref l1, .ref l2, .int l3], [.int l3, .ref l0, .ref l2, .int x4], h3)) r237_591 rfl rfl (E_ic r237_592 (v := 1) (by decide) (go (w := (594, [.ref l0, .ref l1, .ref l2, .int l3], [.int (l3 + 1), .ref l0, .ref l2, .int x4], h3)) r237_593 rfl rfl (E_aI r237_594 (fun x5 => go (w := (596, [.ref l0, .ref l1, .ref l2, .int l3], [.ref l0, .int x5, .ref l2, .int x4], h3)) r237_595 rfl rfl (go (w := (597, [.ref l0, .ref l1, .ref l2, .int l3], [.int l3, .ref l0, .int x5, .ref l2, .int x4], h3)) r237_596 rfl rfl (E_ic r237_597 (v := 2) (by decide) (go (w := (599, [.ref l0, .ref l1, .ref l2, .int l3], [.int (l3 + 2), .ref l0, .int x5, .ref l2, .int x4], h3)) r237_598 rfl rfl (E_aI r237_599 (fun x6 => E_vI r237_600 (As := [.ref l2, .int x5, .int x6]) (rest := [.int x4]) (cut_n mi198.1 rfl rfl) (rm8_n mi198.2.1 (Nat.le_of_ble_eq_true rfl) (Nat.le_of_ble_eq_true rfl)) mi198.2.2 (fun x8 h7 => E_i2_eq r237_603 rfl (rfl) (E_ic r237_606 (v := 0) (by decide) (E_rz r237_607 (mq237) (by decide)))))))))))))))))))))))))))
theorem b237_608 (d : Nat) (l0 : Nat) (l1 : Nat) (l2 : Nat) (l3 : Int32) (h : aH) (K : Option Value → aH → Prop) : E scr true (d + 1) 237 608 [.ref l0, .ref l1, .ref l2, .int l3] [] h K = aI scr h l0 ((l3 + 1)) (fun x1 : Int32 => aI scr h l0 ((l3 + 2)) (fun x2 : Int32 => vI scr d 106 [.ref l1, .int x1, .int x2] h (fun (x4 : Int32) (h3 : aH) => aI scr h3 l0 ((l3 + 1)) (fun x5 : Int32 => aI scr h3 l0 ((l3 + 2)) (fun x6 : Int32 => vI scr d 201 [.ref l2, .int x5, .int x6] h3 (fun (x8 : Int32) (h7 : aH) => (if x4 = x8 then E scr true (d + 1) 237 1037 [.ref l0, .ref l1, .ref l2, .int l3] [] h7 K else K (some (.int 0)) h7))))))) := go (w := (609, [.ref l0, .ref l1, .ref l2, .int l3], [.ref l1], h)) r237_608 rfl rfl (go (w := (610, [.ref l0, .ref l1, .ref l2, .int l3], [.ref l0, .ref l1], h)) r237_609 rfl rfl (go (w := (611, [.ref l0, .ref l1, .ref l2, .int l3], [.int l3, .ref l0, .ref l1], h)) r237_610 rfl rfl (E_ic r237_611 (v := 1) (by decide) (go (w := (613, [.ref l0, .ref l1, .ref l2, .int l3], [.int (l3 + 1), .ref l0, .ref l1], h)) r237_612 rfl rfl (E_aI r237_613 (fun x1 => go (w := (615, [.ref l0, .ref l1, .ref l2, .int l3], [.ref l0, .int x1, .ref l1], h)) r237_614 rfl rfl (go (w := (616, [.ref l0, .ref l1, .ref l2, .int l3], [.int l3, .ref l0, .int x1, .ref l1], h)) r237_615 rfl rfl (E_ic r237_616 (v := 2) (by decide) (go (w := (618, [.ref l0, .ref l1, .ref l2, .int l3], [.int (l3 + 2), .ref l0, .int x1, .ref l1], h)) r237_617 rfl rfl (E_aI r237_618 (fun x2 => E_vI r237_619 (As := [.ref l1, .int x1, .int x2]) (rest := []) (cut_n mi106.1 rfl rfl) (rm8_n mi106.2.1 (Nat.le_of_ble_eq_true rfl) (Nat.le_of_ble_eq_true rfl)) mi106.2.2 (fun x4 h3 => go (w := (623, [.ref l0, .ref l1, .ref l2, .int l3], [.ref l2, .int x4], h3)) r237_622 rfl rfl (go (w := (624, [.ref l0, .ref l1, .ref l2, .int l3], [.ref l0, .ref l2, .int x4], h3)) r237_623 rfl rfl (go (w := (625, [.ref l0, .ref l1, .ref l2, .int l3], [.int l3, .ref l0, .ref l2, .int x4], h3)) r237_624 rfl rfl (E_ic r237_625 (v := 1) (by decide) (go (w := (627, [.ref l0, .ref l1, .ref l2, .int l3], [.int (l3 + 1), .ref l0, .ref l2, .int x4], h3)) r237_626 rfl rfl (E_aI r237_627 (fun x5 => go (w := (629, [.ref l0, .ref l1, .ref l2, .int l3], [.ref l0, .int x5, .ref l2, .int x4], h3)) r237_628 rfl rfl (go (w := (630, [.ref l0, .ref l1, .ref l2, .int l3], [.int l3, .ref l0, .int x5, .ref l2, .int x4], h3)) r237_629 rfl rfl (E_ic r237_630 (v := 2) (by decide) (go (w := (632, [.ref l0, .ref l1, .ref l2, .int l3], [.int (l3 + 2), .ref l0, .int x5, .ref l2, .int x4], h3)) r237_631 rfl rfl (E_aI r237_632 (fun x6 => E_vI r237_633 (As := [.ref l2, .int x5, .int x6]) (rest := [.int x4]) (cut_n mi201.1 rfl rfl) (rm8_n mi201.2.1 (Nat.le_of_ble_eq_true rfl) (Nat.le_of_ble_eq_true rfl)) mi201.2.2 (fun x8 h7 => E_i2_eq r237_636 rfl (rfl) (E_ic r237_639 (v := 0) (by decide) (E_rz r237_640 (mq237) (by decide)))))))))))))))))))))))))))
theorem b237_641 (d : Nat) (l0 : Nat) (l1 : Nat) (l2 : Nat) (l3 : Int32) (h : aH) (K : Option Value → aH → Prop) : E scr true (d + 1) 237 641 [.ref l0, .ref l1, .ref l2, .int l3] [] h K = aI scr h l0 ((l3 + 1)) (fun x1 : Int32 => aI scr h l0 ((l3 + 2)) (fun x2 : Int32 => aI scr h l0 ((l3 + 3)) (fun x3 : Int32 => vI scr d 107 [.ref l1, .int x1, .int x2, .int x3] h (fun (x5 : Int32) (h4 : aH) => aI scr h4 l0 ((l3 + 1)) (fun x6 : Int32 => aI scr h4 l0 ((l3 + 2)) (fun x7 : Int32 => aI scr h4 l0 ((l3 + 3)) (fun x8 : Int32 => vI scr d 203 [.ref l2, .int x6, .int x7, .int x8] h4 (fun (x10 : Int32) (h9 : aH) => (if x5 = x10 then E scr true (d + 1) 237 1037 [.ref l0, .ref l1, .ref l2, .int l3] [] h9 K else K (some (.int 0)) h9))))))))) := go (w := (642, [.ref l0, .ref l1, .ref l2, .int l3], [.ref l1], h)) r237_641 rfl rfl (go (w := (643, [.ref l0, .ref l1, .ref l2, .int l3], [.ref l0, .ref l1], h)) r237_642 rfl rfl (go (w := (644, [.ref l0, .ref l1, .ref l2, .int l3], [.int l3, .ref l0, .ref l1], h)) r237_643 rfl rfl (E_ic r237_644 (v := 1) (by decide) (go (w := (646, [.ref l0, .ref l1, .ref l2, .int l3], [.int (l3 + 1), .ref l0, .ref l1], h)) r237_645 rfl rfl (E_aI r237_646 (fun x1 => go (w := (648, [.ref l0, .ref l1, .ref l2, .int l3], [.ref l0, .int x1, .ref l1], h)) r237_647 rfl rfl (go (w := (649, [.ref l0, .ref l1, .ref l2, .int l3], [.int l3, .ref l0, .int x1, .ref l1], h)) r237_648 rfl rfl (E_ic r237_649 (v := 2) (by decide) (go (w := (651, [.ref l0, .ref l1, .ref l2, .int l3], [.int (l3 + 2), .ref l0, .int x1, .ref l1], h)) r237_650 rfl rfl (E_aI r237_651 (fun x2 => go (w := (653, [.ref l0, .ref l1, .ref l2, .int l3], [.ref l0, .int x2, .int x1, .ref l1], h)) r237_652 rfl rfl (go (w := (654, [.ref l0, .ref l1, .ref l2, .int l3], [.int l3, .ref l0, .int x2, .int x1, .ref l1], h)) r237_653 rfl rfl (E_ic r237_654 (v := 3) (by decide) (go (w := (656, [.ref l0, .ref l1, .ref l2, .int l3], [.int (l3 + 3), .ref l0, .int x2, .int x1, .ref l1], h)) r237_655 rfl rfl (E_aI r237_656 (fun x3 => E_vI r237_657 (As := [.ref l1, .int x1, .int x2, .int x3]) (rest := []) (cut_n mi107.1 rfl rfl) (rm8_n mi107.2.1 (Nat.le_of_ble_eq_true rfl) (Nat.le_of_ble_eq_true rfl)) mi107.2.2 (fun x5 h4 => go (w := (661, [.ref l0, .ref l1, .ref l2, .int l3], [.ref l2, .int x5], h4)) r237_660 rfl rfl (go (w := (662, [.ref l0, .ref l1, .ref l2, .int l3], [.ref l0, .ref l2, .int x5], h4)) r237_661 rfl rfl (go (w := (663, [.ref l0, .ref l1, .ref l2, .int l3], [.int l3, .ref l0, .ref l2, .int x5], h4)) r237_662 rfl rfl (E_ic r237_663 (v := 1) (by decide) (go (w := (665, [.ref l0, .ref l1, .ref l2, .int l3], [.int (l3 + 1), .ref l0, .ref l2, .int x5], h4)) r237_664 rfl rfl (E_aI r237_665 (fun x6 => go (w := (667, [.ref l0, .ref l1, .ref l2, .int l3], [.ref l0, .int x6, .ref l2, .int x5], h4)) r237_666 rfl rfl (go (w := (668, [.ref l0, .ref l1, .ref l2, .int l3], [.int l3, .ref l0, .int x6, .ref l2, .int x5], h4)) r237_667 rfl rfl (E_ic r237_668 (v := 2) (by decide) (go (w := (670, [.ref l0, .ref l1, .ref l2, .int l3], [.int (l3 + 2), .ref l0, .int x6, .ref l2, .int x5], h4)) r237_669 rfl rfl (E_aI r237_670 (fun x7 => go (w := (672, [.ref l0, .ref l1, .ref l2, .int l3], [.ref l0, .int x7, .int x6, .ref l2, .int x5], h4)) r237_671 rfl rfl (go (w := (673, [.ref l0, .ref l1, .ref l2, .int l3], [.int l3, .ref l0, .int x7, .int x6, .ref l2, .int x5], h4)) r237_672 rfl rfl (E_ic r237_673 (v := 3) (by decide) (go (w := (675, [.ref l0, .ref l1, .ref l2, .int l3], [.int (l3 + 3), .ref l0, .int x7, .int x6, .ref l2, .int x5], h4)) r237_674 rfl rfl (E_aI r237_675 (fun x8 => E_vI r237_676 (As := [.ref l2, .int x6, .int x7, .int x8]) (rest := [.int x5]) (cut_n mi203.1 rfl rfl) (rm8_n mi203.2.1 (Nat.le_of_ble_eq_true rfl) (Nat.le_of_ble_eq_true rfl)) mi203.2.2 (fun x10 h9 => E_i2_eq r237_679 rfl (rfl) (E_ic r237_682 (v := 0) (by decide) (E_rz r237_683 (mq237) (by decide)))))))))))))))))))))))))))))))))))))
theorem b237_684 (d : Nat) (l0 : Nat) (l1 : Nat) (l2 : Nat) (l3 : Int32) (h : aH) (K : Option Value → aH → Prop) : E scr true (d + 1) 237 684 [.ref l0, .ref l1, .ref l2, .int l3] [] h K = aI scr h l0 ((l3 + 1)) (fun x1 : Int32 => aI scr h l0 ((l3 + 2)) (fun x2 : Int32 => aI scr h l0 ((l3 + 3)) (fun x3 : Int32 => vI scr d 108 [.ref l1, .int x1, .int x2, .int x3] h (fun (x5 : Int32) (h4 : aH) => aI scr h4 l0 ((l3 + 1)) (fun x6 : Int32 => aI scr h4 l0 ((l3 + 2)) (fun x7 : Int32 => aI scr h4 l0 ((l3 + 3)) (fun x8 : Int32 => vI scr d 204 [.ref l2, .int x6, .int x7, .int x8] h4 (fun (x10 : Int32) (h9 : aH) => (if x5 = x10 then E scr true (d + 1) 237 1037 [.ref l0, .ref l1, .ref l2, .int l3] [] h9 K else K (some (.int 0)) h9))))))))) := go (w := (685, [.ref l0, .ref l1, .ref l2, .int l3], [.ref l1], h)) r237_684 rfl rfl (go (w := (686, [.ref l0, .ref l1, .ref l2, .int l3], [.ref l0, .ref l1], h)) r237_685 rfl rfl (go (w := (687, [.ref l0, .ref l1, .ref l2, .int l3], [.int l3, .ref l0, .ref l1], h)) r237_686 rfl rfl (E_ic r237_687 (v := 1) (by decide) (go (w := (689, [.ref l0, .ref l1, .ref l2, .int l3], [.int (l3 + 1), .ref l0, .ref l1], h)) r237_688 rfl rfl (E_aI r237_689 (fun x1 => go (w := (691, [.ref l0, .ref l1, .ref l2, .int l3], [.ref l0, .int x1, .ref l1], h)) r237_690 rfl rfl (go (w := (692, [.ref l0, .ref l1, .ref l2, .int l3], [.int l3, .ref l0, .int x1, .ref l1], h)) r237_691 rfl rfl (E_ic r237_692 (v := 2) (by decide) (go (w := (694, [.ref l0, .ref l1, .ref l2, .int l3], [.int (l3 + 2), .ref l0, .int x1, .ref l1], h)) r237_693 rfl rfl (E_aI r237_694 (fun x2 => go (w := (696, [.ref l0, .ref l1, .ref l2, .int l3], [.ref l0, .int x2, .int x1, .ref l1], h)) r237_695 rfl rfl (go (w := (697, [.ref l0, .ref l1, .ref l2, .int l3], [.int l3, .ref l0, .int x2, .int x1, .ref l1], h)) r237_696 rfl rfl (E_ic r237_697 (v := 3) (by decide) (go (w := (699, [.ref l0, .ref l1, .ref l2, .int l3], [.int (l3 + 3), .ref l0, .int x2, .int x1, .ref l1], h)) r237_698 rfl rfl (E_aI r237_699 (fun x3 => E_vI r237_700 (As := [.ref l1, .int x1, .int x2, .int x3]) (rest := []) (cut_n mi108.1 rfl rfl) (rm8_n mi108.2.1 (Nat.le_of_ble_eq_true rfl) (Nat.le_of_ble_eq_true rfl)) mi108.2.2 (fun x5 h4 => go (w := (704, [.ref l0, .ref l1, .ref l2, .int l3], [.ref l2, .int x5], h4)) r237_703 rfl rfl (go (w := (705, [.ref l0, .ref l1, .ref l2, .int l3], [.ref l0, .ref l2, .int x5], h4)) r237_704 rfl rfl (go (w := (706, [.ref l0, .ref l1, .ref l2, .int l3], [.int l3, .ref l0, .ref l2, .int x5], h4)) r237_705 rfl rfl (E_ic r237_706 (v := 1) (by decide) (go (w := (708, [.ref l0, .ref l1, .ref l2, .int l3], [.int (l3 + 1), .ref l0, .ref l2, .int x5], h4)) r237_707 rfl rfl (E_aI r237_708 (fun x6 => go (w := (710, [.ref l0, .ref l1, .ref l2, .int l3], [.ref l0, .int x6, .ref l2, .int x5], h4)) r237_709 rfl rfl (go (w := (711, [.ref l0, .ref l1, .ref l2, .int l3], [.int l3, .ref l0, .int x6, .ref l2, .int x5], h4)) r237_710 rfl rfl (E_ic r237_711 (v := 2) (by decide) (go (w := (713, [.ref l0, .ref l1, .ref l2, .int l3], [.int (l3 + 2), .ref l0, .int x6, .ref l2, .int x5], h4)) r237_712 rfl rfl (E_aI r237_713 (fun x7 => go (w := (715, [.ref l0, .ref l1, .ref l2, .int l3], [.ref l0, .int x7, .int x6, .ref l2, .int x5], h4)) r237_714 rfl rfl (go (w := (716, [.ref l0, .ref l1, .ref l2, .int l3], [.int l3, .ref l0, .int x7, .int x6, .ref l2, .int x5], h4)) r237_715 rfl rfl (E_ic r237_716 (v := 3) (by decide) (go (w := (718, [.ref l0, .ref l1, .ref l2, .int l3], [.int (l3 + 3), .ref l0, .int x7, .int x6, .ref l2, .int x5], h4)) r237_717 rfl rfl (E_aI r237_718 (fun x8 => E_vI r237_719 (As := [.ref l2, .int x6, .int x7, .int x8]) (rest := [.int x5]) (cut_n mi204.1 rfl rfl) (rm8_n mi204.2.1 (Nat.le_of_ble_eq_true rfl) (Nat.le_of_ble_eq_true rfl)) mi204.2.2 (fun x10 h9 => E_i2_eq r237_722 rfl (rfl) (E_ic r237_725 (v := 0) (by decide) (E_rz r237_726 (mq237) (by decide)))))))))))))))))))))))))))))))))))))
theorem b237_727 (d : Nat) (l0 : Nat) (l1 : Nat) (l2 : Nat) (l3 : Int32) (h : aH) (K : Option Value → aH → Prop) : E scr true (d + 1) 237 727 [.ref l0, .ref l1, .ref l2, .int l3] [] h K = aI scr h l0 ((l3 + 1)) (fun x1 : Int32 => aI scr h l0 ((l3 + 2)) (fun x2 : Int32 => aI scr h l0 ((l3 + 3)) (fun x3 : Int32 => vI scr d 109 [.ref l1, .int x1, .int x2, .int x3] h (fun (x5 : Int32) (h4 : aH) => aI scr h4 l0 ((l3 + 1)) (fun x6 : Int32 => aI scr h4 l0 ((l3 + 2)) (fun x7 : Int32 => aI scr h4 l0 ((l3 + 3)) (fun x8 : Int32 => vI scr d 206 [.ref l2, .int x6, .int x7, .int x8] h4 (fun (x10 : Int32) (h9 : aH) => (if x5 = x10 then E scr true (d + 1) 237 1037 [.ref l0, .ref l1, .ref l2, .int l3] [] h9 K else K (some (.int 0)) h9))))))))) := go (w := (728, [.ref l0, .ref l1, .ref l2, .int l3], [.ref l1], h)) r237_727 rfl rfl (go (w := (729, [.ref l0, .ref l1, .ref l2, .int l3], [.ref l0, .ref l1], h)) r237_728 rfl rfl (go (w := (730, [.ref l0, .ref l1, .ref l2, .int l3], [.int l3, .ref l0, .ref l1], h)) r237_729 rfl rfl (E_ic r237_730 (v := 1) (by decide) (go (w := (732, [.ref l0, .ref l1, .ref l2, .int l3], [.int (l3 + 1), .ref l0, .ref l1], h)) r237_731 rfl rfl (E_aI r237_732 (fun x1 => go (w := (734, [.ref l0, .ref l1, .ref l2, .int l3], [.ref l0, .int x1, .ref l1], h)) r237_733 rfl rfl (go (w := (735, [.ref l0, .ref l1, .ref l2, .int l3], [.int l3, .ref l0, .int x1, .ref l1], h)) r237_734 rfl rfl (E_ic r237_735 (v := 2) (by decide) (go (w := (737, [.ref l0, .ref l1, .ref l2, .int l3], [.int (l3 + 2), .ref l0, .int x1, .ref l1], h)) r237_736 rfl rfl (E_aI r237_737 (fun x2 => go (w := (739, [.ref l0, .ref l1, .ref l2, .int l3], [.ref l0, .int x2, .int x1, .ref l1], h)) r237_738 rfl rfl (go (w := (740, [.ref l0, .ref l1, .ref l2, .int l3], [.int l3, .ref l0, .int x2, .int x1, .ref l1], h)) r237_739 rfl rfl (E_ic r237_740 (v := 3) (by decide) (go (w := (742, [.ref l0, .ref l1, .ref l2, .int l3], [.int (l3 + 3), .ref l0, .int x2, .int x1, .ref l1], h)) r237_741 rfl rfl (E_aI r237_742 (fun x3 => E_vI r237_743 (As := [.ref l1, .int x1, .int x2, .int x3]) (rest := []) (cut_n mi109.1 rfl rfl) (rm8_n mi109.2.1 (Nat.le_of_ble_eq_true rfl) (Nat.le_of_ble_eq_true rfl)) mi109.2.2 (fun x5 h4 => go (w := (747, [.ref l0, .ref l1, .ref l2, .int l3], [.ref l2, .int x5], h4)) r237_746 rfl rfl (go (w := (748, [.ref l0, .ref l1, .ref l2, .int l3], [.ref l0, .ref l2, .int x5], h4)) r237_747 rfl rfl (go (w := (749, [.ref l0, .ref l1, .ref l2, .int l3], [.int l3, .ref l0, .ref l2, .int x5], h4)) r237_748 rfl rfl (E_ic r237_749 (v := 1) (by decide) (go (w := (751, [.ref l0, .ref l1, .ref l2, .int l3], [.int (l3 + 1), .ref l0, .ref l2, .int x5], h4)) r237_750 rfl rfl (E_aI r237_751 (fun x6 => go (w := (753, [.ref l0, .ref l1, .ref l2, .int l3], [.ref l0, .int x6, .ref l2, .int x5], h4)) r237_752 rfl rfl (go (w := (754, [.ref l0, .ref l1, .ref l2, .int l3], [.int l3, .ref l0, .int x6, .ref l2, .int x5], h4)) r237_753 rfl rfl (E_ic r237_754 (v := 2) (by decide) (go (w := (756, [.ref l0, .ref l1, .ref l2, .int l3], [.int (l3 + 2), .ref l0, .int x6, .ref l2, .int x5], h4)) r237_755 rfl rfl (E_aI r237_756 (fun x7 => go (w := (758, [.ref l0, .ref l1, .ref l2, .int l3], [.ref l0, .int x7, .int x6, .ref l2, .int x5], h4)) r237_757 rfl rfl (go (w := (759, [.ref l0, .ref l1, .ref l2, .int l3], [.int l3, .ref l0, .int x7, .int x6, .ref l2, .int x5], h4)) r237_758 rfl rfl (E_ic r237_759 (v := 3) (by decide) (go (w := (761, [.ref l0, .ref l1, .ref l2, .int l3], [.int (l3 + 3), .ref l0, .int x7, .int x6, .ref l2, .int x5], h4)) r237_760 rfl rfl (E_aI r237_761 (fun x8 => E_vI r237_762 (As := [.ref l2, .int x6, .int x7, .int x8]) (rest := [.int x5]) (cut_n mi206.1 rfl rfl) (rm8_n mi206.2.1 (Nat.le_of_ble_eq_true rfl) (Nat.le_of_ble_eq_true rfl)) mi206.2.2 (fun x10 h9 => E_i2_eq r237_765 rfl (rfl) (E_ic r237_768 (v := 0) (by decide) (E_rz r237_769 (mq237) (by decide)))))))))))))))))))))))))))))))))))))
theorem b237_770 (d : Nat) (l0 : Nat) (l1 : Nat) (l2 : Nat) (l3 : Int32) (h : aH) (K : Option Value → aH → Prop) : E scr true (d + 1) 237 770 [.ref l0, .ref l1, .ref l2, .int l3] [] h K = aI scr h l0 ((l3 + 1)) (fun x1 : Int32 => aI scr h l0 ((l3 + 2)) (fun x2 : Int32 => aI scr h l0 ((l3 + 3)) (fun x3 : Int32 => aI scr h l0 ((l3 + 4)) (fun x4 : Int32 => vI scr d 110 [.ref l1, .int x1, .int x2, .int x3, .int x4] h (fun (x6 : Int32) (h5 : aH) => aI scr h5 l0 ((l3 + 1)) (fun x7 : Int32 => aI scr h5 l0 ((l3 + 2)) (fun x8 : Int32 => aI scr h5 l0 ((l3 + 3)) (fun x9 : Int32 => aI scr h5 l0 ((l3 + 4)) (fun x10 : Int32 => vI scr d 209 [.ref l2, .int x7, .int x8, .int x9, .int x10] h5 (fun (x12 : Int32) (h11 : aH) => (if x6 = x12 then E scr true (d + 1) 237 1037 [.ref l0, .ref l1, .ref l2, .int l3] [] h11 K else K (some (.int 0)) h11))))))))))) := go (w := (771, [.ref l0, .ref l1, .ref l2, .int l3], [.ref l1], h)) r237_770 rfl rfl (go (w := (772, [.ref l0, .ref l1, .ref l2, .int l3], [.ref l0, .ref l1], h)) r237_771 rfl rfl (go (w := (773, [.ref l0, .ref l1, .ref l2, .int l3], [.int l3, .ref l0, .ref l1], h)) r237_772 rfl rfl (E_ic r237_773 (v := 1) (by decide) (go (w := (775, [.ref l0, .ref l1, .ref l2, .int l3], [.int (l3 + 1), .ref l0, .ref l1], h)) r237_774 rfl rfl (E_aI r237_775 (fun x1 => go (w := (777, [.ref l0, .ref l1, .ref l2, .int l3], [.ref l0, .int x1, .ref l1], h)) r237_776 rfl rfl (go (w := (778, [.ref l0, .ref l1, .ref l2, .int l3], [.int l3, .ref l0, .int x1, .ref l1], h)) r237_777 rfl rfl (E_ic r237_778 (v := 2) (by decide) (go (w := (780, [.ref l0, .ref l1, .ref l2, .int l3], [.int (l3 + 2), .ref l0, .int x1, .ref l1], h)) r237_779 rfl rfl (E_aI r237_780 (fun x2 => go (w := (782, [.ref l0, .ref l1, .ref l2, .int l3], [.ref l0, .int x2, .int x1, .ref l1], h)) r237_781 rfl rfl (go (w := (783, [.ref l0, .ref l1, .ref l2, .int l3], [.int l3, .ref l0, .int x2, .int x1, .ref l1], h)) r237_782 rfl rfl (E_ic r237_783 (v := 3) (by decide) (go (w := (785, [.ref l0, .ref l1, .ref l2, .int l3], [.int (l3 + 3), .ref l0, .int x2, .int x1, .ref l1], h)) r237_784 rfl rfl (E_aI r237_785 (fun x3 => go (w := (787, [.ref l0, .ref l1, .ref l2, .int l3], [.ref l0, .int x3, .int x2, .int x1, .ref l1], h)) r237_786 rfl rfl (go (w := (788, [.ref l0, .ref l1, .ref l2, .int l3], [.int l3, .ref l0, .int x3, .int x2, .int x1, .ref l1], h)) r237_787 rfl rfl (E_ic r237_788 (v := 4) (by decide) (go (w := (790, [.ref l0, .ref l1, .ref l2, .int l3], [.int (l3 + 4), .ref l0, .int x3, .int x2, .int x1, .ref l1], h)) r237_789 rfl rfl (E_aI r237_790 (fun x4 => E_vI r237_791 (As := [.ref l1, .int x1, .int x2, .int x3, .int x4]) (rest := []) (cut_n mi110.1 rfl rfl) (rm8_n mi110.2.1 (Nat.le_of_ble_eq_true rfl) (Nat.le_of_ble_eq_true rfl)) mi110.2.2 (fun x6 h5 => go (w := (795, [.ref l0, .ref l1, .ref l2, .int l3], [.ref l2, .int x6], h5)) r237_794 rfl rfl (go (w := (796, [.ref l0, .ref l1, .ref l2, .int l3], [.ref l0, .ref l2, .int x6], h5)) r237_795 rfl rfl (go (w := (797, [.ref l0, .ref l1, .ref l2, .int l3], [.int l3, .ref l0, .ref l2, .int x6], h5)) r237_796 rfl rfl (E_ic r237_797 (v := 1) (by decide) (go (w := (799, [.ref l0, .ref l1, .ref l2, .int l3], [.int (l3 + 1), .ref l0, .ref l2, .int x6], h5)) r237_798 rfl rfl (E_aI r237_799 (fun x7 => go (w := (801, [.ref l0, .ref l1, .ref l2, .int l3], [.ref l0, .int x7, .ref l2, .int x6], h5)) r237_800 rfl rfl (go (w := (802, [.ref l0, .ref l1, .ref l2, .int l3], [.int l3, .ref l0, .int x7, .ref l2, .int x6], h5)) r237_801 rfl rfl (E_ic r237_802 (v := 2) (by decide) (go (w := (804, [.ref l0, .ref l1, .ref l2, .int l3], [.int (l3 + 2), .ref l0, .int x7, .ref l2, .int x6], h5)) r237_803 rfl rfl (E_aI r237_804 (fun x8 => go (w := (806, [.ref l0, .ref l1, .ref l2, .int l3], [.ref l0, .int x8, .int x7, .ref l2, .int x6], h5)) r237_805 rfl rfl (go (w := (807, [.ref l0, .ref l1, .ref l2, .int l3], [.int l3, .ref l0, .int x8, .int x7, .ref l2, .int x6], h5)) r237_806 rfl rfl (E_ic r237_807 (v := 3) (by decide) (go (w := (809, [.ref l0, .ref l1, .ref l2, .int l3], [.int (l3 + 3), .ref l0, .int x8, .int x7, .ref l2, .int x6], h5)) r237_808 rfl rfl (E_aI r237_809 (fun x9 => go (w := (811, [.ref l0, .ref l1, .ref l2, .int l3], [.ref l0, .int x9, .int x8, .int x7, .ref l2, .int x6], h5)) r237_810 rfl rfl (go (w := (812, [.ref l0, .ref l1, .ref l2, .int l3], [.int l3, .ref l0, .int x9, .int x8, .int x7, .ref l2, .int x6], h5)) r237_811 rfl rfl (E_ic r237_812 (v := 4) (by decide) (go (w := (814, [.ref l0, .ref l1, .ref l2, .int l3], [.int (l3 + 4), .ref l0, .int x9, .int x8, .int x7, .ref l2, .int x6], h5)) r237_813 rfl rfl (E_aI r237_814 (fun x10 => E_vI r237_815 (As := [.ref l2, .int x7, .int x8, .int x9, .int x10]) (rest := [.int x6]) (cut_n mi209.1 rfl rfl) (rm8_n mi209.2.1 (Nat.le_of_ble_eq_true rfl) (Nat.le_of_ble_eq_true rfl)) mi209.2.2 (fun x12 h11 => E_i2_eq r237_818 rfl (rfl) (E_ic r237_821 (v := 0) (by decide) (E_rz r237_822 (mq237) (by decide)))))))))))))))))))))))))))))))))))))))))))))))
theorem b237_823 (d : Nat) (l0 : Nat) (l1 : Nat) (l2 : Nat) (l3 : Int32) (h : aH) (K : Option Value → aH → Prop) : E scr true (d + 1) 237 823 [.ref l0, .ref l1, .ref l2, .int l3] [] h K = aI scr h l0 ((l3 + 1)) (fun x1 : Int32 => aI scr h l0 ((l3 + 2)) (fun x2 : Int32 => vI scr d 111 [.ref l1, .int x1, .int x2] h (fun (x4 : Int32) (h3 : aH) => aI scr h3 l0 ((l3 + 1)) (fun x5 : Int32 => aI scr h3 l0 ((l3 + 2)) (fun x6 : Int32 => vI scr d 210 [.ref l2, .int x5, .int x6] h3 (fun (x8 : Int32) (h7 : aH) => (if x4 = x8 then E scr true (d + 1) 237 1037 [.ref l0, .ref l1, .ref l2, .int l3] [] h7 K else K (some (.int 0)) h7))))))) := go (w := (824, [.ref l0, .ref l1, .ref l2, .int l3], [.ref l1], h)) r237_823 rfl rfl (go (w := (825, [.ref l0, .ref l1, .ref l2, .int l3], [.ref l0, .ref l1], h)) r237_824 rfl rfl (go (w := (826, [.ref l0, .ref l1, .ref l2, .int l3], [.int l3, .ref l0, .ref l1], h)) r237_825 rfl rfl (E_ic r237_826 (v := 1) (by decide) (go (w := (828, [.ref l0, .ref l1, .ref l2, .int l3], [.int (l3 + 1), .ref l0, .ref l1], h)) r237_827 rfl rfl (E_aI r237_828 (fun x1 => go (w := (830, [.ref l0, .ref l1, .ref l2, .int l3], [.ref l0, .int x1, .ref l1], h)) r237_829 rfl rfl (go (w := (831, [.ref l0, .ref l1, .ref l2, .int l3], [.int l3, .ref l0, .int x1, .ref l1], h)) r237_830 rfl rfl (E_ic r237_831 (v := 2) (by decide) (go (w := (833, [.ref l0, .ref l1, .ref l2, .int l3], [.int (l3 + 2), .ref l0, .int x1, .ref l1], h)) r237_832 rfl rfl (E_aI r237_833 (fun x2 => E_vI r237_834 (As := [.ref l1, .int x1, .int x2]) (rest := []) (cut_n mi111.1 rfl rfl) (rm8_n mi111.2.1 (Nat.le_of_ble_eq_true rfl) (Nat.le_of_ble_eq_true rfl)) mi111.2.2 (fun x4 h3 => go (w := (838, [.ref l0, .ref l1, .ref l2, .int l3], [.ref l2, .int x4], h3)) r237_837 rfl rfl (go (w := (839, [.ref l0, .ref l1, .ref l2, .int l3], [.ref l0, .ref l2, .int x4], h3)) r237_838 rfl rfl (go (w := (840, [.ref l0, .ref l1, .ref l2, .int l3], [.int l3, .ref l0, .ref l2, .int x4], h3)) r237_839 rfl rfl (E_ic r237_840 (v := 1) (by decide) (go (w := (842, [.ref l0, .ref l1, .ref l2, .int l3], [.int (l3 + 1), .ref l0, .ref l2, .int x4], h3)) r237_841 rfl rfl (E_aI r237_842 (fun x5 => go (w := (844, [.ref l0, .ref l1, .ref l2, .int l3], [.ref l0, .int x5, .ref l2, .int x4], h3)) r237_843 rfl rfl (go (w := (845, [.ref l0, .ref l1, .ref l2, .int l3], [.int l3, .ref l0, .int x5, .ref l2, .int x4], h3)) r237_844 rfl rfl (E_ic r237_845 (v := 2) (by decide) (go (w := (847, [.ref l0, .ref l1, .ref l2, .int l3], [.int (l3 + 2), .ref l0, .int x5, .ref l2, .int x4], h3)) r237_846 rfl rfl (E_aI r237_847 (fun x6 => E_vI r237_848 (As := [.ref l2, .int x5, .int x6]) (rest := [.int x4]) (cut_n mi210.1 rfl rfl) (rm8_n mi210.2.1 (Nat.le_of_ble_eq_true rfl) (Nat.le_of_ble_eq_true rfl)) mi210.2.2 (fun x8 h7 => E_i2_eq r237_851 rfl (rfl) (E_ic r237_854 (v := 0) (by decide) (E_rz r237_855 (mq237) (by decide)))))))))))))))))))))))))))
theorem b237_856 (d : Nat) (l0 : Nat) (l1 : Nat) (l2 : Nat) (l3 : Int32) (h : aH) (K : Option Value → aH → Prop) : E scr true (d + 1) 237 856 [.ref l0, .ref l1, .ref l2, .int l3] [] h K = aI scr h l0 ((l3 + 1)) (fun x1 : Int32 => vI scr d 112 [.ref l1, .int x1] h (fun (x3 : Int32) (h2 : aH) => aI scr h2 l0 ((l3 + 1)) (fun x4 : Int32 => vI scr d 213 [.ref l2, .int x4] h2 (fun (x6 : Int32) (h5 : aH) => (if x3 = x6 then E scr true (d + 1) 237 1037 [.ref l0, .ref l1, .ref l2, .int l3] [] h5 K else K (some (.int 0)) h5))))) := go (w := (857, [.ref l0, .ref l1, .ref l2, .int l3], [.ref l1], h)) r237_856 rfl rfl (go (w := (858, [.ref l0, .ref l1, .ref l2, .int l3], [.ref l0, .ref l1], h)) r237_857 rfl rfl (go (w := (859, [.ref l0, .ref l1, .ref l2, .int l3], [.int l3, .ref l0, .ref l1], h)) r237_858 rfl rfl (E_ic r237_859 (v := 1) (by decide) (go (w := (861, [.ref l0, .ref l1, .ref l2, .int l3], [.int (l3 + 1), .ref l0, .ref l1], h)) r237_860 rfl rfl (E_aI r237_861 (fun x1 => E_vI r237_862 (As := [.ref l1, .int x1]) (rest := []) (cut_n mi112.1 rfl rfl) (rm8_n mi112.2.1 (Nat.le_of_ble_eq_true rfl) (Nat.le_of_ble_eq_true rfl)) mi112.2.2 (fun x3 h2 => go (w := (866, [.ref l0, .ref l1, .ref l2, .int l3], [.ref l2, .int x3], h2)) r237_865 rfl rfl (go (w := (867, [.ref l0, .ref l1, .ref l2, .int l3], [.ref l0, .ref l2, .int x3], h2)) r237_866 rfl rfl (go (w := (868, [.ref l0, .ref l1, .ref l2, .int l3], [.int l3, .ref l0, .ref l2, .int x3], h2)) r237_867 rfl rfl (E_ic r237_868 (v := 1) (by decide) (go (w := (870, [.ref l0, .ref l1, .ref l2, .int l3], [.int (l3 + 1), .ref l0, .ref l2, .int x3], h2)) r237_869 rfl rfl (E_aI r237_870 (fun x4 => E_vI r237_871 (As := [.ref l2, .int x4]) (rest := [.int x3]) (cut_n mi213.1 rfl rfl) (rm8_n mi213.2.1 (Nat.le_of_ble_eq_true rfl) (Nat.le_of_ble_eq_true rfl)) mi213.2.2 (fun x6 h5 => E_i2_eq r237_874 rfl (rfl) (E_ic r237_877 (v := 0) (by decide) (E_rz r237_878 (mq237) (by decide)))))))))))))))))
theorem b237_879 (d : Nat) (l0 : Nat) (l1 : Nat) (l2 : Nat) (l3 : Int32) (h : aH) (K : Option Value → aH → Prop) : E scr true (d + 1) 237 879 [.ref l0, .ref l1, .ref l2, .int l3] [] h K = aI scr h l0 ((l3 + 1)) (fun x1 : Int32 => aI scr h l0 ((l3 + 2)) (fun x2 : Int32 => aI scr h l0 ((l3 + 3)) (fun x3 : Int32 => vI scr d 113 [.ref l1, .int x1, .int x2, .int x3] h (fun (x5 : Int32) (h4 : aH) => aI scr h4 l0 ((l3 + 1)) (fun x6 : Int32 => aI scr h4 l0 ((l3 + 2)) (fun x7 : Int32 => aI scr h4 l0 ((l3 + 3)) (fun x8 : Int32 => vI scr d 214 [.ref l2, .int x6, .int x7, .int x8] h4 (fun (x10 : Int32) (h9 : aH) => (if x5 = x10 then E scr true (d + 1) 237 1037 [.ref l0, .ref l1, .ref l2, .int l3] [] h9 K else K (some (.int 0)) h9))))))))) := go (w := (880, [.ref l0, .ref l1, .ref l2, .int l3], [.ref l1], h)) r237_879 rfl rfl (go (w := (881, [.ref l0, .ref l1, .ref l2, .int l3], [.ref l0, .ref l1], h)) r237_880 rfl rfl (go (w := (882, [.ref l0, .ref l1, .ref l2, .int l3], [.int l3, .ref l0, .ref l1], h)) r237_881 rfl rfl (E_ic r237_882 (v := 1) (by decide) (go (w := (884, [.ref l0, .ref l1, .ref l2, .int l3], [.int (l3 + 1), .ref l0, .ref l1], h)) r237_883 rfl rfl (E_aI r237_884 (fun x1 => go (w := (886, [.ref l0, .ref l1, .ref l2, .int l3], [.ref l0, .int x1, .ref l1], h)) r237_885 rfl rfl (go (w := (887, [.ref l0, .ref l1, .ref l2, .int l3], [.int l3, .ref l0, .int x1, .ref l1], h)) r237_886 rfl rfl (E_ic r237_887 (v := 2) (by decide) (go (w := (889, [.ref l0, .ref l1, .ref l2, .int l3], [.int (l3 + 2), .ref l0, .int x1, .ref l1], h)) r237_888 rfl rfl (E_aI r237_889 (fun x2 => go (w := (891, [.ref l0, .ref l1, .ref l2, .int l3], [.ref l0, .int x2, .int x1, .ref l1], h)) r237_890 rfl rfl (go (w := (892, [.ref l0, .ref l1, .ref l2, .int l3], [.int l3, .ref l0, .int x2, .int x1, .ref l1], h)) r237_891 rfl rfl (E_ic r237_892 (v := 3) (by decide) (go (w := (894, [.ref l0, .ref l1, .ref l2, .int l3], [.int (l3 + 3), .ref l0, .int x2, .int x1, .ref l1], h)) r237_893 rfl rfl (E_aI r237_894 (fun x3 => E_vI r237_895 (As := [.ref l1, .int x1, .int x2, .int x3]) (rest := []) (cut_n mi113.1 rfl rfl) (rm8_n mi113.2.1 (Nat.le_of_ble_eq_true rfl) (Nat.le_of_ble_eq_true rfl)) mi113.2.2 (fun x5 h4 => go (w := (899, [.ref l0, .ref l1, .ref l2, .int l3], [.ref l2, .int x5], h4)) r237_898 rfl rfl (go (w := (900, [.ref l0, .ref l1, .ref l2, .int l3], [.ref l0, .ref l2, .int x5], h4)) r237_899 rfl rfl (go (w := (901, [.ref l0, .ref l1, .ref l2, .int l3], [.int l3, .ref l0, .ref l2, .int x5], h4)) r237_900 rfl rfl (E_ic r237_901 (v := 1) (by decide) (go (w := (903, [.ref l0, .ref l1, .ref l2, .int l3], [.int (l3 + 1), .ref l0, .ref l2, .int x5], h4)) r237_902 rfl rfl (E_aI r237_903 (fun x6 => go (w := (905, [.ref l0, .ref l1, .ref l2, .int l3], [.ref l0, .int x6, .ref l2, .int x5], h4)) r237_904 rfl rfl (go (w := (906, [.ref l0, .ref l1, .ref l2, .int l3], [.int l3, .ref l0, .int x6, .ref l2, .int x5], h4)) r237_905 rfl rfl (E_ic r237_906 (v := 2) (by decide) (go (w := (908, [.ref l0, .ref l1, .ref l2, .int l3], [.int (l3 + 2), .ref l0, .int x6, .ref l2, .int x5], h4)) r237_907 rfl rfl (E_aI r237_908 (fun x7 => go (w := (910, [.ref l0, .ref l1, .ref l2, .int l3], [.ref l0, .int x7, .int x6, .ref l2, .int x5], h4)) r237_909 rfl rfl (go (w := (911, [.ref l0, .ref l1, .ref l2, .int l3], [.int l3, .ref l0, .int x7, .int x6, .ref l2, .int x5], h4)) r237_910 rfl rfl (E_ic r237_911 (v := 3) (by decide) (go (w := (913, [.ref l0, .ref l1, .ref l2, .int l3], [.int (l3 + 3), .ref l0, .int x7, .int x6, .ref l2, .int x5], h4)) r237_912 rfl rfl (E_aI r237_913 (fun x8 => E_vI r237_914 (As := [.ref l2, .int x6, .int x7, .int x8]) (rest := [.int x5]) (cut_n mi214.1 rfl rfl) (rm8_n mi214.2.1 (Nat.le_of_ble_eq_true rfl) (Nat.le_of_ble_eq_true rfl)) mi214.2.2 (fun x10 h9 => E_i2_eq r237_917 rfl (rfl) (E_ic r237_920 (v := 0) (by decide) (E_rz r237_921 (mq237) (by decide)))))))))))))))))))))))))))))))))))))
theorem b237_922 (d : Nat) (l0 : Nat) (l1 : Nat) (l2 : Nat) (l3 : Int32) (h : aH) (K : Option Value → aH → Prop) : E scr true (d + 1) 237 922 [.ref l0, .ref l1, .ref l2, .int l3] [] h K = aI scr h l0 ((l3 + 1)) (fun x1 : Int32 => vI scr d 114 [.ref l1, .int x1] h (fun (x3 : Int32) (h2 : aH) => aI scr h2 l0 ((l3 + 1)) (fun x4 : Int32 => vI scr d 215 [.ref l2, .int x4] h2 (fun (x6 : Int32) (h5 : aH) => (if x3 = x6 then E scr true (d + 1) 237 1037 [.ref l0, .ref l1, .ref l2, .int l3] [] h5 K else K (some (.int 0)) h5))))) := go (w := (923, [.ref l0, .ref l1, .ref l2, .int l3], [.ref l1], h)) r237_922 rfl rfl (go (w := (924, [.ref l0, .ref l1, .ref l2, .int l3], [.ref l0, .ref l1], h)) r237_923 rfl rfl (go (w := (925, [.ref l0, .ref l1, .ref l2, .int l3], [.int l3, .ref l0, .ref l1], h)) r237_924 rfl rfl (E_ic r237_925 (v := 1) (by decide) (go (w := (927, [.ref l0, .ref l1, .ref l2, .int l3], [.int (l3 + 1), .ref l0, .ref l1], h)) r237_926 rfl rfl (E_aI r237_927 (fun x1 => E_vI r237_928 (As := [.ref l1, .int x1]) (rest := []) (cut_n mi114.1 rfl rfl) (rm8_n mi114.2.1 (Nat.le_of_ble_eq_true rfl) (Nat.le_of_ble_eq_true rfl)) mi114.2.2 (fun x3 h2 => go (w := (932, [.ref l0, .ref l1, .ref l2, .int l3], [.ref l2, .int x3], h2)) r237_931 rfl rfl (go (w := (933, [.ref l0, .ref l1, .ref l2, .int l3], [.ref l0, .ref l2, .int x3], h2)) r237_932 rfl rfl (go (w := (934, [.ref l0, .ref l1, .ref l2, .int l3], [.int l3, .ref l0, .ref l2, .int x3], h2)) r237_933 rfl rfl (E_ic r237_934 (v := 1) (by decide) (go (w := (936, [.ref l0, .ref l1, .ref l2, .int l3], [.int (l3 + 1), .ref l0, .ref l2, .int x3], h2)) r237_935 rfl rfl (E_aI r237_936 (fun x4 => E_vI r237_937 (As := [.ref l2, .int x4]) (rest := [.int x3]) (cut_n mi215.1 rfl rfl) (rm8_n mi215.2.1 (Nat.le_of_ble_eq_true rfl) (Nat.le_of_ble_eq_true rfl)) mi215.2.2 (fun x6 h5 => E_i2_eq r237_940 rfl (rfl) (E_ic r237_943 (v := 0) (by decide) (E_rz r237_944 (mq237) (by decide)))))))))))))))))
theorem b237_945 (d : Nat) (l0 : Nat) (l1 : Nat) (l2 : Nat) (l3 : Int32) (h : aH) (K : Option Value → aH → Prop) : E scr true (d + 1) 237 945 [.ref l0, .ref l1, .ref l2, .int l3] [] h K = aI scr h l0 ((l3 + 1)) (fun x1 : Int32 => vI scr d 115 [.ref l1, .int x1] h (fun (x3 : Int32) (h2 : aH) => aI scr h2 l0 ((l3 + 1)) (fun x4 : Int32 => vI scr d 216 [.ref l2, .int x4] h2 (fun (x6 : Int32) (h5 : aH) => (if x3 = x6 then E scr true (d + 1) 237 1037 [.ref l0, .ref l1, .ref l2, .int l3] [] h5 K else K (some (.int 0)) h5))))) := go (w := (946, [.ref l0, .ref l1, .ref l2, .int l3], [.ref l1], h)) r237_945 rfl rfl (go (w := (947, [.ref l0, .ref l1, .ref l2, .int l3], [.ref l0, .ref l1], h)) r237_946 rfl rfl (go (w := (948, [.ref l0, .ref l1, .ref l2, .int l3], [.int l3, .ref l0, .ref l1], h)) r237_947 rfl rfl (E_ic r237_948 (v := 1) (by decide) (go (w := (950, [.ref l0, .ref l1, .ref l2, .int l3], [.int (l3 + 1), .ref l0, .ref l1], h)) r237_949 rfl rfl (E_aI r237_950 (fun x1 => E_vI r237_951 (As := [.ref l1, .int x1]) (rest := []) (cut_n mi115.1 rfl rfl) (rm8_n mi115.2.1 (Nat.le_of_ble_eq_true rfl) (Nat.le_of_ble_eq_true rfl)) mi115.2.2 (fun x3 h2 => go (w := (955, [.ref l0, .ref l1, .ref l2, .int l3], [.ref l2, .int x3], h2)) r237_954 rfl rfl (go (w := (956, [.ref l0, .ref l1, .ref l2, .int l3], [.ref l0, .ref l2, .int x3], h2)) r237_955 rfl rfl (go (w := (957, [.ref l0, .ref l1, .ref l2, .int l3], [.int l3, .ref l0, .ref l2, .int x3], h2)) r237_956 rfl rfl (E_ic r237_957 (v := 1) (by decide) (go (w := (959, [.ref l0, .ref l1, .ref l2, .int l3], [.int (l3 + 1), .ref l0, .ref l2, .int x3], h2)) r237_958 rfl rfl (E_aI r237_959 (fun x4 => E_vI r237_960 (As := [.ref l2, .int x4]) (rest := [.int x3]) (cut_n mi216.1 rfl rfl) (rm8_n mi216.2.1 (Nat.le_of_ble_eq_true rfl) (Nat.le_of_ble_eq_true rfl)) mi216.2.2 (fun x6 h5 => E_i2_eq r237_963 rfl (rfl) (E_ic r237_966 (v := 0) (by decide) (E_rz r237_967 (mq237) (by decide)))))))))))))))))
theorem b237_968 (d : Nat) (l0 : Nat) (l1 : Nat) (l2 : Nat) (l3 : Int32) (h : aH) (K : Option Value → aH → Prop) : E scr true (d + 1) 237 968 [.ref l0, .ref l1, .ref l2, .int l3] [] h K = aI scr h l0 ((l3 + 1)) (fun x1 : Int32 => vI scr d 116 [.ref l1, .int x1] h (fun (x3 : Int32) (h2 : aH) => aI scr h2 l0 ((l3 + 1)) (fun x4 : Int32 => vI scr d 217 [.ref l2, .int x4] h2 (fun (x6 : Int32) (h5 : aH) => (if x3 = x6 then E scr true (d + 1) 237 1037 [.ref l0, .ref l1, .ref l2, .int l3] [] h5 K else K (some (.int 0)) h5))))) := go (w := (969, [.ref l0, .ref l1, .ref l2, .int l3], [.ref l1], h)) r237_968 rfl rfl (go (w := (970, [.ref l0, .ref l1, .ref l2, .int l3], [.ref l0, .ref l1], h)) r237_969 rfl rfl (go (w := (971, [.ref l0, .ref l1, .ref l2, .int l3], [.int l3, .ref l0, .ref l1], h)) r237_970 rfl rfl (E_ic r237_971 (v := 1) (by decide) (go (w := (973, [.ref l0, .ref l1, .ref l2, .int l3], [.int (l3 + 1), .ref l0, .ref l1], h)) r237_972 rfl rfl (E_aI r237_973 (fun x1 => E_vI r237_974 (As := [.ref l1, .int x1]) (rest := []) (cut_n mi116.1 rfl rfl) (rm8_n mi116.2.1 (Nat.le_of_ble_eq_true rfl) (Nat.le_of_ble_eq_true rfl)) mi116.2.2 (fun x3 h2 => go (w := (978, [.ref l0, .ref l1, .ref l2, .int l3], [.ref l2, .int x3], h2)) r237_977 rfl rfl (go (w := (979, [.ref l0, .ref l1, .ref l2, .int l3], [.ref l0, .ref l2, .int x3], h2)) r237_978 rfl rfl (go (w := (980, [.ref l0, .ref l1, .ref l2, .int l3], [.int l3, .ref l0, .ref l2, .int x3], h2)) r237_979 rfl rfl (E_ic r237_980 (v := 1) (by decide) (go (w := (982, [.ref l0, .ref l1, .ref l2, .int l3], [.int (l3 + 1), .ref l0, .ref l2, .int x3], h2)) r237_981 rfl rfl (E_aI r237_982 (fun x4 => E_vI r237_983 (As := [.ref l2, .int x4]) (rest := [.int x3]) (cut_n mi217.1 rfl rfl) (rm8_n mi217.2.1 (Nat.le_of_ble_eq_true rfl) (Nat.le_of_ble_eq_true rfl)) mi217.2.2 (fun x6 h5 => E_i2_eq r237_986 rfl (rfl) (E_ic r237_989 (v := 0) (by decide) (E_rz r237_990 (mq237) (by decide)))))))))))))))))
theorem b237_991 (d : Nat) (l0 : Nat) (l1 : Nat) (l2 : Nat) (l3 : Int32) (h : aH) (K : Option Value → aH → Prop) : E scr true (d + 1) 237 991 [.ref l0, .ref l1, .ref l2, .int l3] [] h K = aI scr h l0 ((l3 + 1)) (fun x1 : Int32 => vI scr d 117 [.ref l1, .int x1] h (fun (x3 : Int32) (h2 : aH) => aI scr h2 l0 ((l3 + 1)) (fun x4 : Int32 => vI scr d 220 [.ref l2, .int x4] h2 (fun (x6 : Int32) (h5 : aH) => (if x3 = x6 then E scr true (d + 1) 237 1037 [.ref l0, .ref l1, .ref l2, .int l3] [] h5 K else K (some (.int 0)) h5))))) := go (w := (992, [.ref l0, .ref l1, .ref l2, .int l3], [.ref l1], h)) r237_991 rfl rfl (go (w := (993, [.ref l0, .ref l1, .ref l2, .int l3], [.ref l0, .ref l1], h)) r237_992 rfl rfl (go (w := (994, [.ref l0, .ref l1, .ref l2, .int l3], [.int l3, .ref l0, .ref l1], h)) r237_993 rfl rfl (E_ic r237_994 (v := 1) (by decide) (go (w := (996, [.ref l0, .ref l1, .ref l2, .int l3], [.int (l3 + 1), .ref l0, .ref l1], h)) r237_995 rfl rfl (E_aI r237_996 (fun x1 => E_vI r237_997 (As := [.ref l1, .int x1]) (rest := []) (cut_n mi117.1 rfl rfl) (rm8_n mi117.2.1 (Nat.le_of_ble_eq_true rfl) (Nat.le_of_ble_eq_true rfl)) mi117.2.2 (fun x3 h2 => go (w := (1001, [.ref l0, .ref l1, .ref l2, .int l3], [.ref l2, .int x3], h2)) r237_1000 rfl rfl (go (w := (1002, [.ref l0, .ref l1, .ref l2, .int l3], [.ref l0, .ref l2, .int x3], h2)) r237_1001 rfl rfl (go (w := (1003, [.ref l0, .ref l1, .ref l2, .int l3], [.int l3, .ref l0, .ref l2, .int x3], h2)) r237_1002 rfl rfl (E_ic r237_1003 (v := 1) (by decide) (go (w := (1005, [.ref l0, .ref l1, .ref l2, .int l3], [.int (l3 + 1), .ref l0, .ref l2, .int x3], h2)) r237_1004 rfl rfl (E_aI r237_1005 (fun x4 => E_vI r237_1006 (As := [.ref l2, .int x4]) (rest := [.int x3]) (cut_n mi220.1 rfl rfl) (rm8_n mi220.2.1 (Nat.le_of_ble_eq_true rfl) (Nat.le_of_ble_eq_true rfl)) mi220.2.2 (fun x6 h5 => E_i2_eq r237_1009 rfl (rfl) (E_ic r237_1012 (v := 0) (by decide) (E_rz r237_1013 (mq237) (by decide)))))))))))))))))
theorem b237_1014 (d : Nat) (l0 : Nat) (l1 : Nat) (l2 : Nat) (l3 : Int32) (h : aH) (K : Option Value → aH → Prop) : E scr true (d + 1) 237 1014 [.ref l0, .ref l1, .ref l2, .int l3] [] h K = aI scr h l0 ((l3 + 1)) (fun x1 : Int32 => vI scr d 118 [.ref l1, .int x1] h (fun (x3 : Int32) (h2 : aH) => aI scr h2 l0 ((l3 + 1)) (fun x4 : Int32 => vI scr d 221 [.ref l2, .int x4] h2 (fun (x6 : Int32) (h5 : aH) => (if x3 = x6 then E scr true (d + 1) 237 1037 [.ref l0, .ref l1, .ref l2, .int l3] [] h5 K else K (some (.int 0)) h5))))) := go (w := (1015, [.ref l0, .ref l1, .ref l2, .int l3], [.ref l1], h)) r237_1014 rfl rfl (go (w := (1016, [.ref l0, .ref l1, .ref l2, .int l3], [.ref l0, .ref l1], h)) r237_1015 rfl rfl (go (w := (1017, [.ref l0, .ref l1, .ref l2, .int l3], [.int l3, .ref l0, .ref l1], h)) r237_1016 rfl rfl (E_ic r237_1017 (v := 1) (by decide) (go (w := (1019, [.ref l0, .ref l1, .ref l2, .int l3], [.int (l3 + 1), .ref l0, .ref l1], h)) r237_1018 rfl rfl (E_aI r237_1019 (fun x1 => E_vI r237_1020 (As := [.ref l1, .int x1]) (rest := []) (cut_n mi118.1 rfl rfl) (rm8_n mi118.2.1 (Nat.le_of_ble_eq_true rfl) (Nat.le_of_ble_eq_true rfl)) mi118.2.2 (fun x3 h2 => go (w := (1024, [.ref l0, .ref l1, .ref l2, .int l3], [.ref l2, .int x3], h2)) r237_1023 rfl rfl (go (w := (1025, [.ref l0, .ref l1, .ref l2, .int l3], [.ref l0, .ref l2, .int x3], h2)) r237_1024 rfl rfl (go (w := (1026, [.ref l0, .ref l1, .ref l2, .int l3], [.int l3, .ref l0, .ref l2, .int x3], h2)) r237_1025 rfl rfl (E_ic r237_1026 (v := 1) (by decide) (go (w := (1028, [.ref l0, .ref l1, .ref l2, .int l3], [.int (l3 + 1), .ref l0, .ref l2, .int x3], h2)) r237_1027 rfl rfl (E_aI r237_1028 (fun x4 => E_vI r237_1029 (As := [.ref l2, .int x4]) (rest := [.int x3]) (cut_n mi221.1 rfl rfl) (rm8_n mi221.2.1 (Nat.le_of_ble_eq_true rfl) (Nat.le_of_ble_eq_true rfl)) mi221.2.2 (fun x6 h5 => E_i2_eq r237_1032 rfl (rfl) (E_ic r237_1035 (v := 0) (by decide) (E_rz r237_1036 (mq237) (by decide)))))))))))))))))
theorem b237_1037 (d : Nat) (l0 : Nat) (l1 : Nat) (l2 : Nat) (l3 : Int32) (h : aH) (K : Option Value → aH → Prop) : E scr true d 237 1037 [.ref l0, .ref l1, .ref l2, .int l3] [] h K = E scr true d 237 18 [.ref l0, .ref l1, .ref l2, .int (l3 + 6)] [] h K := E_inc r237_1037 (c := 6) rfl (by decide) (L' := [.ref l0, .ref l1, .ref l2, .int (l3 + 6)]) rfl (E_gt r237_1040 rfl (rfl))
