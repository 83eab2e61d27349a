/-! The law's instructions, read: by a program (wip/p1/gendlaw.py). -/
theorem d_law_0 : decode code 0 = .ok ((.new 8), 3) := by decide +kernel
theorem d_law_3 : decode code 3 = .ok (.dup, 1) := by decide +kernel
theorem d_law_4 : decode code 4 = .ok ((.invokespecial 30), 3) := by decide +kernel
theorem d_law_7 : decode code 7 = .ok ((.astore_n 1), 1) := by decide +kernel
theorem d_law_8 : decode code 8 = .ok ((.new 31), 3) := by decide +kernel
theorem d_law_11 : decode code 11 = .ok (.dup, 1) := by decide +kernel
theorem d_law_12 : decode code 12 = .ok ((.invokespecial 33), 3) := by decide +kernel
theorem d_law_15 : decode code 15 = .ok ((.astore_n 2), 1) := by decide +kernel
theorem d_law_16 : decode code 16 = .ok ((.iconst 1), 1) := by decide +kernel
theorem d_law_17 : decode code 17 = .ok ((.newarray .long), 2) := by decide +kernel
theorem d_law_19 : decode code 19 = .ok ((.astore_n 3), 1) := by decide +kernel
theorem d_law_20 : decode code 20 = .ok ((.iconst 0), 1) := by decide +kernel
theorem d_law_21 : decode code 21 = .ok ((.istore 4), 2) := by decide +kernel
theorem d_law_23 : decode code 23 = .ok ((.iload 4), 2) := by decide +kernel
theorem d_law_25 : decode code 25 = .ok ((.aload_n 0), 1) := by decide +kernel
theorem d_law_26 : decode code 26 = .ok (.arraylength, 1) := by decide +kernel
theorem d_law_27 : decode code 27 = .ok ((.bipush 6), 2) := by decide +kernel
theorem d_law_29 : decode code 29 = .ok (.isub, 1) := by decide +kernel
theorem d_law_30 : decode code 30 = .ok ((.if_icmp .gt 523), 3) := by decide +kernel
theorem d_law_33 : decode code 33 = .ok ((.aload_n 0), 1) := by decide +kernel
theorem d_law_34 : decode code 34 = .ok ((.iload 4), 2) := by decide +kernel
theorem d_law_36 : decode code 36 = .ok (.iaload, 1) := by decide +kernel
theorem d_law_37 : decode code 37 = .ok ((.bipush 15), 2) := by decide +kernel
theorem d_law_39 : decode code 39 = .ok (.iand, 1) := by decide +kernel
theorem d_law_40 : decode code 40 = .ok ((.tableswitch 507 0 10 #[60, 133, 158, 171, 239, 252, 296, 352, 377, 414, 451]), 60) := by decide +kernel
theorem d_law_100 : decode code 100 = .ok ((.aload_n 1), 1) := by decide +kernel
theorem d_law_101 : decode code 101 = .ok ((.aload_n 0), 1) := by decide +kernel
theorem d_law_102 : decode code 102 = .ok ((.iload 4), 2) := by decide +kernel
theorem d_law_104 : decode code 104 = .ok ((.iconst 1), 1) := by decide +kernel
theorem d_law_105 : decode code 105 = .ok (.iadd, 1) := by decide +kernel
theorem d_law_106 : decode code 106 = .ok (.iaload, 1) := by decide +kernel
theorem d_law_107 : decode code 107 = .ok ((.aload_n 0), 1) := by decide +kernel
theorem d_law_108 : decode code 108 = .ok ((.iload 4), 2) := by decide +kernel
theorem d_law_110 : decode code 110 = .ok ((.iconst 2), 1) := by decide +kernel
theorem d_law_111 : decode code 111 = .ok (.iadd, 1) := by decide +kernel
theorem d_law_112 : decode code 112 = .ok (.iaload, 1) := by decide +kernel
theorem d_law_113 : decode code 113 = .ok ((.aload_n 0), 1) := by decide +kernel
theorem d_law_114 : decode code 114 = .ok ((.iload 4), 2) := by decide +kernel
theorem d_law_116 : decode code 116 = .ok ((.iconst 3), 1) := by decide +kernel
theorem d_law_117 : decode code 117 = .ok (.iadd, 1) := by decide +kernel
theorem d_law_118 : decode code 118 = .ok (.iaload, 1) := by decide +kernel
theorem d_law_119 : decode code 119 = .ok ((.aload_n 0), 1) := by decide +kernel
theorem d_law_120 : decode code 120 = .ok ((.iload 4), 2) := by decide +kernel
theorem d_law_122 : decode code 122 = .ok ((.iconst 4), 1) := by decide +kernel
theorem d_law_123 : decode code 123 = .ok (.iadd, 1) := by decide +kernel
theorem d_law_124 : decode code 124 = .ok (.iaload, 1) := by decide +kernel
theorem d_law_125 : decode code 125 = .ok ((.aload_n 0), 1) := by decide +kernel
theorem d_law_126 : decode code 126 = .ok ((.iload 4), 2) := by decide +kernel
theorem d_law_128 : decode code 128 = .ok ((.iconst 5), 1) := by decide +kernel
theorem d_law_129 : decode code 129 = .ok (.iadd, 1) := by decide +kernel
theorem d_law_130 : decode code 130 = .ok (.iaload, 1) := by decide +kernel
theorem d_law_131 : decode code 131 = .ok ((.invokevirtual 34), 3) := by decide +kernel
theorem d_law_134 : decode code 134 = .ok ((.aload_n 2), 1) := by decide +kernel
theorem d_law_135 : decode code 135 = .ok ((.aload_n 0), 1) := by decide +kernel
theorem d_law_136 : decode code 136 = .ok ((.iload 4), 2) := by decide +kernel
theorem d_law_138 : decode code 138 = .ok ((.iconst 1), 1) := by decide +kernel
theorem d_law_139 : decode code 139 = .ok (.iadd, 1) := by decide +kernel
theorem d_law_140 : decode code 140 = .ok (.iaload, 1) := by decide +kernel
theorem d_law_141 : decode code 141 = .ok ((.aload_n 0), 1) := by decide +kernel
theorem d_law_142 : decode code 142 = .ok ((.iload 4), 2) := by decide +kernel
theorem d_law_144 : decode code 144 = .ok ((.iconst 2), 1) := by decide +kernel
theorem d_law_145 : decode code 145 = .ok (.iadd, 1) := by decide +kernel
theorem d_law_146 : decode code 146 = .ok (.iaload, 1) := by decide +kernel
theorem d_law_147 : decode code 147 = .ok ((.aload_n 0), 1) := by decide +kernel
theorem d_law_148 : decode code 148 = .ok ((.iload 4), 2) := by decide +kernel
theorem d_law_150 : decode code 150 = .ok ((.iconst 3), 1) := by decide +kernel
theorem d_law_151 : decode code 151 = .ok (.iadd, 1) := by decide +kernel
theorem d_law_152 : decode code 152 = .ok (.iaload, 1) := by decide +kernel
theorem d_law_153 : decode code 153 = .ok ((.aload_n 0), 1) := by decide +kernel
theorem d_law_154 : decode code 154 = .ok ((.iload 4), 2) := by decide +kernel
theorem d_law_156 : decode code 156 = .ok ((.iconst 4), 1) := by decide +kernel
theorem d_law_157 : decode code 157 = .ok (.iadd, 1) := by decide +kernel
theorem d_law_158 : decode code 158 = .ok (.iaload, 1) := by decide +kernel
theorem d_law_159 : decode code 159 = .ok ((.aload_n 0), 1) := by decide +kernel
theorem d_law_160 : decode code 160 = .ok ((.iload 4), 2) := by decide +kernel
theorem d_law_162 : decode code 162 = .ok ((.iconst 5), 1) := by decide +kernel
theorem d_law_163 : decode code 163 = .ok (.iadd, 1) := by decide +kernel
theorem d_law_164 : decode code 164 = .ok (.iaload, 1) := by decide +kernel
theorem d_law_165 : decode code 165 = .ok ((.invokevirtual 38), 3) := by decide +kernel
theorem d_law_168 : decode code 168 = .ok ((.if_icmp .eq 379), 3) := by decide +kernel
theorem d_law_171 : decode code 171 = .ok ((.iconst 0), 1) := by decide +kernel
theorem d_law_172 : decode code 172 = .ok (.ireturn, 1) := by decide +kernel
theorem d_law_173 : decode code 173 = .ok ((.aload_n 1), 1) := by decide +kernel
theorem d_law_174 : decode code 174 = .ok ((.aload_n 0), 1) := by decide +kernel
theorem d_law_175 : decode code 175 = .ok ((.iload 4), 2) := by decide +kernel
theorem d_law_177 : decode code 177 = .ok ((.iconst 1), 1) := by decide +kernel
theorem d_law_178 : decode code 178 = .ok (.iadd, 1) := by decide +kernel
theorem d_law_179 : decode code 179 = .ok (.iaload, 1) := by decide +kernel
theorem d_law_180 : decode code 180 = .ok ((.invokevirtual 39), 3) := by decide +kernel
theorem d_law_183 : decode code 183 = .ok ((.aload_n 2), 1) := by decide +kernel
theorem d_law_184 : decode code 184 = .ok ((.aload_n 0), 1) := by decide +kernel
theorem d_law_185 : decode code 185 = .ok ((.iload 4), 2) := by decide +kernel
theorem d_law_187 : decode code 187 = .ok ((.iconst 1), 1) := by decide +kernel
theorem d_law_188 : decode code 188 = .ok (.iadd, 1) := by decide +kernel
theorem d_law_189 : decode code 189 = .ok (.iaload, 1) := by decide +kernel
theorem d_law_190 : decode code 190 = .ok ((.invokevirtual 43), 3) := by decide +kernel
theorem d_law_193 : decode code 193 = .ok ((.if_icmp .eq 354), 3) := by decide +kernel
theorem d_law_196 : decode code 196 = .ok ((.iconst 0), 1) := by decide +kernel
theorem d_law_197 : decode code 197 = .ok (.ireturn, 1) := by decide +kernel
theorem d_law_198 : decode code 198 = .ok ((.aload_n 1), 1) := by decide +kernel
theorem d_law_199 : decode code 199 = .ok ((.invokevirtual 44), 3) := by decide +kernel
theorem d_law_202 : decode code 202 = .ok ((.aload_n 2), 1) := by decide +kernel
theorem d_law_203 : decode code 203 = .ok ((.invokevirtual 47), 3) := by decide +kernel
theorem d_law_206 : decode code 206 = .ok ((.if_icmp .eq 341), 3) := by decide +kernel
theorem d_law_209 : decode code 209 = .ok ((.iconst 0), 1) := by decide +kernel
theorem d_law_210 : decode code 210 = .ok (.ireturn, 1) := by decide +kernel
theorem d_law_211 : decode code 211 = .ok ((.aload_n 1), 1) := by decide +kernel
theorem d_law_212 : decode code 212 = .ok ((.aload_n 0), 1) := by decide +kernel
theorem d_law_213 : decode code 213 = .ok ((.iload 4), 2) := by decide +kernel
theorem d_law_215 : decode code 215 = .ok ((.iconst 1), 1) := by decide +kernel
theorem d_law_216 : decode code 216 = .ok (.iadd, 1) := by decide +kernel
theorem d_law_217 : decode code 217 = .ok (.iaload, 1) := by decide +kernel
theorem d_law_218 : decode code 218 = .ok ((.aload_n 0), 1) := by decide +kernel
theorem d_law_219 : decode code 219 = .ok ((.iload 4), 2) := by decide +kernel
theorem d_law_221 : decode code 221 = .ok ((.iconst 2), 1) := by decide +kernel
theorem d_law_222 : decode code 222 = .ok (.iadd, 1) := by decide +kernel
theorem d_law_223 : decode code 223 = .ok (.iaload, 1) := by decide +kernel
theorem d_law_224 : decode code 224 = .ok ((.aload_n 3), 1) := by decide +kernel
theorem d_law_225 : decode code 225 = .ok ((.invokestatic 48), 3) := by decide +kernel
theorem d_law_228 : decode code 228 = .ok ((.istore 5), 2) := by decide +kernel
theorem d_law_230 : decode code 230 = .ok ((.aload_n 2), 1) := by decide +kernel
theorem d_law_231 : decode code 231 = .ok ((.aload_n 0), 1) := by decide +kernel
theorem d_law_232 : decode code 232 = .ok ((.iload 4), 2) := by decide +kernel
theorem d_law_234 : decode code 234 = .ok ((.iconst 1), 1) := by decide +kernel
theorem d_law_235 : decode code 235 = .ok (.iadd, 1) := by decide +kernel
theorem d_law_236 : decode code 236 = .ok (.iaload, 1) := by decide +kernel
theorem d_law_237 : decode code 237 = .ok ((.aload_n 0), 1) := by decide +kernel
theorem d_law_238 : decode code 238 = .ok ((.iload 4), 2) := by decide +kernel
theorem d_law_240 : decode code 240 = .ok ((.iconst 2), 1) := by decide +kernel
theorem d_law_241 : decode code 241 = .ok (.iadd, 1) := by decide +kernel
theorem d_law_242 : decode code 242 = .ok (.iaload, 1) := by decide +kernel
theorem d_law_243 : decode code 243 = .ok ((.invokevirtual 53), 3) := by decide +kernel
theorem d_law_246 : decode code 246 = .ok ((.istore 6), 2) := by decide +kernel
theorem d_law_248 : decode code 248 = .ok ((.aload_n 2), 1) := by decide +kernel
theorem d_law_249 : decode code 249 = .ok ((.invokevirtual 54), 3) := by decide +kernel
theorem d_law_252 : decode code 252 = .ok ((.iload 5), 2) := by decide +kernel
theorem d_law_254 : decode code 254 = .ok ((.if_icmp .eq 5), 3) := by decide +kernel
theorem d_law_257 : decode code 257 = .ok ((.iconst 0), 1) := by decide +kernel
theorem d_law_258 : decode code 258 = .ok (.ireturn, 1) := by decide +kernel
theorem d_law_259 : decode code 259 = .ok ((.iload 5), 2) := by decide +kernel
theorem d_law_261 : decode code 261 = .ok ((.ifCond .ne 15), 3) := by decide +kernel
theorem d_law_264 : decode code 264 = .ok ((.aload_n 3), 1) := by decide +kernel
theorem d_law_265 : decode code 265 = .ok ((.iconst 0), 1) := by decide +kernel
theorem d_law_266 : decode code 266 = .ok (.laload, 1) := by decide +kernel
theorem d_law_267 : decode code 267 = .ok ((.iload 6), 2) := by decide +kernel
theorem d_law_269 : decode code 269 = .ok (.i2l, 1) := by decide +kernel
theorem d_law_270 : decode code 270 = .ok (.lcmp, 1) := by decide +kernel
theorem d_law_271 : decode code 271 = .ok ((.ifCond .eq 5), 3) := by decide +kernel
theorem d_law_274 : decode code 274 = .ok ((.iconst 0), 1) := by decide +kernel
theorem d_law_275 : decode code 275 = .ok (.ireturn, 1) := by decide +kernel
theorem d_law_276 : decode code 276 = .ok ((.goto 271), 3) := by decide +kernel
theorem d_law_279 : decode code 279 = .ok ((.aload_n 1), 1) := by decide +kernel
theorem d_law_280 : decode code 280 = .ok ((.invokevirtual 57), 3) := by decide +kernel
theorem d_law_283 : decode code 283 = .ok ((.aload_n 2), 1) := by decide +kernel
theorem d_law_284 : decode code 284 = .ok ((.invokevirtual 60), 3) := by decide +kernel
theorem d_law_287 : decode code 287 = .ok ((.if_icmp .eq 260), 3) := by decide +kernel
theorem d_law_290 : decode code 290 = .ok ((.iconst 0), 1) := by decide +kernel
theorem d_law_291 : decode code 291 = .ok (.ireturn, 1) := by decide +kernel
theorem d_law_292 : decode code 292 = .ok ((.aload_n 1), 1) := by decide +kernel
theorem d_law_293 : decode code 293 = .ok ((.aload_n 3), 1) := by decide +kernel
theorem d_law_294 : decode code 294 = .ok ((.invokestatic 61), 3) := by decide +kernel
theorem d_law_297 : decode code 297 = .ok ((.istore 5), 2) := by decide +kernel
theorem d_law_299 : decode code 299 = .ok ((.aload_n 2), 1) := by decide +kernel
theorem d_law_300 : decode code 300 = .ok ((.invokevirtual 64), 3) := by decide +kernel
theorem d_law_303 : decode code 303 = .ok ((.istore 6), 2) := by decide +kernel
theorem d_law_305 : decode code 305 = .ok ((.aload_n 2), 1) := by decide +kernel
theorem d_law_306 : decode code 306 = .ok ((.invokevirtual 54), 3) := by decide +kernel
theorem d_law_309 : decode code 309 = .ok ((.iload 5), 2) := by decide +kernel
theorem d_law_311 : decode code 311 = .ok ((.if_icmp .eq 5), 3) := by decide +kernel
theorem d_law_314 : decode code 314 = .ok ((.iconst 0), 1) := by decide +kernel
theorem d_law_315 : decode code 315 = .ok (.ireturn, 1) := by decide +kernel
theorem d_law_316 : decode code 316 = .ok ((.iload 5), 2) := by decide +kernel
theorem d_law_318 : decode code 318 = .ok ((.ifCond .ne 15), 3) := by decide +kernel
theorem d_law_321 : decode code 321 = .ok ((.aload_n 3), 1) := by decide +kernel
theorem d_law_322 : decode code 322 = .ok ((.iconst 0), 1) := by decide +kernel
theorem d_law_323 : decode code 323 = .ok (.laload, 1) := by decide +kernel
theorem d_law_324 : decode code 324 = .ok ((.iload 6), 2) := by decide +kernel
theorem d_law_326 : decode code 326 = .ok (.i2l, 1) := by decide +kernel
theorem d_law_327 : decode code 327 = .ok (.lcmp, 1) := by decide +kernel
theorem d_law_328 : decode code 328 = .ok ((.ifCond .eq 5), 3) := by decide +kernel
theorem d_law_331 : decode code 331 = .ok ((.iconst 0), 1) := by decide +kernel
theorem d_law_332 : decode code 332 = .ok (.ireturn, 1) := by decide +kernel
theorem d_law_333 : decode code 333 = .ok ((.goto 214), 3) := by decide +kernel
theorem d_law_336 : decode code 336 = .ok ((.aload_n 1), 1) := by decide +kernel
theorem d_law_337 : decode code 337 = .ok ((.aload_n 0), 1) := by decide +kernel
theorem d_law_338 : decode code 338 = .ok ((.iload 4), 2) := by decide +kernel
theorem d_law_340 : decode code 340 = .ok ((.iconst 1), 1) := by decide +kernel
theorem d_law_341 : decode code 341 = .ok (.iadd, 1) := by decide +kernel
theorem d_law_342 : decode code 342 = .ok (.iaload, 1) := by decide +kernel
theorem d_law_343 : decode code 343 = .ok ((.aload_n 3), 1) := by decide +kernel
theorem d_law_344 : decode code 344 = .ok ((.invokestatic 65), 3) := by decide +kernel
theorem d_law_347 : decode code 347 = .ok ((.istore 5), 2) := by decide +kernel
theorem d_law_349 : decode code 349 = .ok ((.aload_n 2), 1) := by decide +kernel
theorem d_law_350 : decode code 350 = .ok ((.aload_n 0), 1) := by decide +kernel
theorem d_law_351 : decode code 351 = .ok ((.iload 4), 2) := by decide +kernel
theorem d_law_353 : decode code 353 = .ok ((.iconst 1), 1) := by decide +kernel
theorem d_law_354 : decode code 354 = .ok (.iadd, 1) := by decide +kernel
theorem d_law_355 : decode code 355 = .ok (.iaload, 1) := by decide +kernel
theorem d_law_356 : decode code 356 = .ok ((.invokevirtual 68), 3) := by decide +kernel
theorem d_law_359 : decode code 359 = .ok ((.istore 6), 2) := by decide +kernel
theorem d_law_361 : decode code 361 = .ok ((.aload_n 2), 1) := by decide +kernel
theorem d_law_362 : decode code 362 = .ok ((.invokevirtual 54), 3) := by decide +kernel
theorem d_law_365 : decode code 365 = .ok ((.iload 5), 2) := by decide +kernel
theorem d_law_367 : decode code 367 = .ok ((.if_icmp .eq 5), 3) := by decide +kernel
theorem d_law_370 : decode code 370 = .ok ((.iconst 0), 1) := by decide +kernel
theorem d_law_371 : decode code 371 = .ok (.ireturn, 1) := by decide +kernel
theorem d_law_372 : decode code 372 = .ok ((.iload 5), 2) := by decide +kernel
theorem d_law_374 : decode code 374 = .ok ((.ifCond .ne 15), 3) := by decide +kernel
theorem d_law_377 : decode code 377 = .ok ((.aload_n 3), 1) := by decide +kernel
theorem d_law_378 : decode code 378 = .ok ((.iconst 0), 1) := by decide +kernel
theorem d_law_379 : decode code 379 = .ok (.laload, 1) := by decide +kernel
theorem d_law_380 : decode code 380 = .ok ((.iload 6), 2) := by decide +kernel
theorem d_law_382 : decode code 382 = .ok (.i2l, 1) := by decide +kernel
theorem d_law_383 : decode code 383 = .ok (.lcmp, 1) := by decide +kernel
theorem d_law_384 : decode code 384 = .ok ((.ifCond .eq 5), 3) := by decide +kernel
theorem d_law_387 : decode code 387 = .ok ((.iconst 0), 1) := by decide +kernel
theorem d_law_388 : decode code 388 = .ok (.ireturn, 1) := by decide +kernel
theorem d_law_389 : decode code 389 = .ok ((.goto 158), 3) := by decide +kernel
theorem d_law_392 : decode code 392 = .ok ((.aload_n 1), 1) := by decide +kernel
theorem d_law_393 : decode code 393 = .ok ((.aload_n 0), 1) := by decide +kernel
theorem d_law_394 : decode code 394 = .ok ((.iload 4), 2) := by decide +kernel
theorem d_law_396 : decode code 396 = .ok ((.iconst 1), 1) := by decide +kernel
theorem d_law_397 : decode code 397 = .ok (.iadd, 1) := by decide +kernel
theorem d_law_398 : decode code 398 = .ok (.iaload, 1) := by decide +kernel
theorem d_law_399 : decode code 399 = .ok ((.invokevirtual 69), 3) := by decide +kernel
theorem d_law_402 : decode code 402 = .ok ((.aload_n 2), 1) := by decide +kernel
theorem d_law_403 : decode code 403 = .ok ((.aload_n 0), 1) := by decide +kernel
theorem d_law_404 : decode code 404 = .ok ((.iload 4), 2) := by decide +kernel
theorem d_law_406 : decode code 406 = .ok ((.iconst 1), 1) := by decide +kernel
theorem d_law_407 : decode code 407 = .ok (.iadd, 1) := by decide +kernel
theorem d_law_408 : decode code 408 = .ok (.iaload, 1) := by decide +kernel
theorem d_law_409 : decode code 409 = .ok ((.invokevirtual 72), 3) := by decide +kernel
theorem d_law_412 : decode code 412 = .ok ((.if_icmp .eq 135), 3) := by decide +kernel
theorem d_law_415 : decode code 415 = .ok ((.iconst 0), 1) := by decide +kernel
theorem d_law_416 : decode code 416 = .ok (.ireturn, 1) := by decide +kernel
theorem d_law_417 : decode code 417 = .ok ((.aload_n 1), 1) := by decide +kernel
theorem d_law_418 : decode code 418 = .ok ((.aload_n 0), 1) := by decide +kernel
theorem d_law_419 : decode code 419 = .ok ((.iload 4), 2) := by decide +kernel
theorem d_law_421 : decode code 421 = .ok ((.iconst 1), 1) := by decide +kernel
theorem d_law_422 : decode code 422 = .ok (.iadd, 1) := by decide +kernel
theorem d_law_423 : decode code 423 = .ok (.iaload, 1) := by decide +kernel
theorem d_law_424 : decode code 424 = .ok ((.aload_n 0), 1) := by decide +kernel
theorem d_law_425 : decode code 425 = .ok ((.iload 4), 2) := by decide +kernel
theorem d_law_427 : decode code 427 = .ok ((.iconst 2), 1) := by decide +kernel
theorem d_law_428 : decode code 428 = .ok (.iadd, 1) := by decide +kernel
theorem d_law_429 : decode code 429 = .ok (.iaload, 1) := by decide +kernel
theorem d_law_430 : decode code 430 = .ok ((.invokevirtual 73), 3) := by decide +kernel
theorem d_law_433 : decode code 433 = .ok ((.aload_n 2), 1) := by decide +kernel
theorem d_law_434 : decode code 434 = .ok ((.aload_n 0), 1) := by decide +kernel
theorem d_law_435 : decode code 435 = .ok ((.iload 4), 2) := by decide +kernel
theorem d_law_437 : decode code 437 = .ok ((.iconst 1), 1) := by decide +kernel
theorem d_law_438 : decode code 438 = .ok (.iadd, 1) := by decide +kernel
theorem d_law_439 : decode code 439 = .ok (.iaload, 1) := by decide +kernel
theorem d_law_440 : decode code 440 = .ok ((.aload_n 0), 1) := by decide +kernel
theorem d_law_441 : decode code 441 = .ok ((.iload 4), 2) := by decide +kernel
theorem d_law_443 : decode code 443 = .ok ((.iconst 2), 1) := by decide +kernel
theorem d_law_444 : decode code 444 = .ok (.iadd, 1) := by decide +kernel
theorem d_law_445 : decode code 445 = .ok (.iaload, 1) := by decide +kernel
theorem d_law_446 : decode code 446 = .ok ((.invokevirtual 76), 3) := by decide +kernel
theorem d_law_449 : decode code 449 = .ok ((.if_icmp .eq 98), 3) := by decide +kernel
theorem d_law_452 : decode code 452 = .ok ((.iconst 0), 1) := by decide +kernel
theorem d_law_453 : decode code 453 = .ok (.ireturn, 1) := by decide +kernel
theorem d_law_454 : decode code 454 = .ok ((.aload_n 1), 1) := by decide +kernel
theorem d_law_455 : decode code 455 = .ok ((.aload_n 0), 1) := by decide +kernel
theorem d_law_456 : decode code 456 = .ok ((.iload 4), 2) := by decide +kernel
theorem d_law_458 : decode code 458 = .ok ((.iconst 1), 1) := by decide +kernel
theorem d_law_459 : decode code 459 = .ok (.iadd, 1) := by decide +kernel
theorem d_law_460 : decode code 460 = .ok (.iaload, 1) := by decide +kernel
theorem d_law_461 : decode code 461 = .ok ((.aload_n 0), 1) := by decide +kernel
theorem d_law_462 : decode code 462 = .ok ((.iload 4), 2) := by decide +kernel
theorem d_law_464 : decode code 464 = .ok ((.iconst 2), 1) := by decide +kernel
theorem d_law_465 : decode code 465 = .ok (.iadd, 1) := by decide +kernel
theorem d_law_466 : decode code 466 = .ok (.iaload, 1) := by decide +kernel
theorem d_law_467 : decode code 467 = .ok ((.invokevirtual 77), 3) := by decide +kernel
theorem d_law_470 : decode code 470 = .ok ((.aload_n 2), 1) := by decide +kernel
theorem d_law_471 : decode code 471 = .ok ((.aload_n 0), 1) := by decide +kernel
theorem d_law_472 : decode code 472 = .ok ((.iload 4), 2) := by decide +kernel
theorem d_law_474 : decode code 474 = .ok ((.iconst 1), 1) := by decide +kernel
theorem d_law_475 : decode code 475 = .ok (.iadd, 1) := by decide +kernel
theorem d_law_476 : decode code 476 = .ok (.iaload, 1) := by decide +kernel
theorem d_law_477 : decode code 477 = .ok ((.aload_n 0), 1) := by decide +kernel
theorem d_law_478 : decode code 478 = .ok ((.iload 4), 2) := by decide +kernel
theorem d_law_480 : decode code 480 = .ok ((.iconst 2), 1) := by decide +kernel
theorem d_law_481 : decode code 481 = .ok (.iadd, 1) := by decide +kernel
theorem d_law_482 : decode code 482 = .ok (.iaload, 1) := by decide +kernel
theorem d_law_483 : decode code 483 = .ok ((.invokevirtual 80), 3) := by decide +kernel
theorem d_law_486 : decode code 486 = .ok ((.if_icmp .eq 61), 3) := by decide +kernel
theorem d_law_489 : decode code 489 = .ok ((.iconst 0), 1) := by decide +kernel
theorem d_law_490 : decode code 490 = .ok (.ireturn, 1) := by decide +kernel
theorem d_law_491 : decode code 491 = .ok ((.aload_n 1), 1) := by decide +kernel
theorem d_law_492 : decode code 492 = .ok ((.aload_n 0), 1) := by decide +kernel
theorem d_law_493 : decode code 493 = .ok ((.iload 4), 2) := by decide +kernel
theorem d_law_495 : decode code 495 = .ok ((.iconst 1), 1) := by decide +kernel
theorem d_law_496 : decode code 496 = .ok (.iadd, 1) := by decide +kernel
theorem d_law_497 : decode code 497 = .ok (.iaload, 1) := by decide +kernel
theorem d_law_498 : decode code 498 = .ok ((.aload_n 3), 1) := by decide +kernel
theorem d_law_499 : decode code 499 = .ok ((.invokestatic 81), 3) := by decide +kernel
theorem d_law_502 : decode code 502 = .ok ((.istore 5), 2) := by decide +kernel
theorem d_law_504 : decode code 504 = .ok ((.aload_n 2), 1) := by decide +kernel
theorem d_law_505 : decode code 505 = .ok ((.aload_n 0), 1) := by decide +kernel
theorem d_law_506 : decode code 506 = .ok ((.iload 4), 2) := by decide +kernel
theorem d_law_508 : decode code 508 = .ok ((.iconst 1), 1) := by decide +kernel
theorem d_law_509 : decode code 509 = .ok (.iadd, 1) := by decide +kernel
theorem d_law_510 : decode code 510 = .ok (.iaload, 1) := by decide +kernel
theorem d_law_511 : decode code 511 = .ok ((.invokevirtual 83), 3) := by decide +kernel
theorem d_law_514 : decode code 514 = .ok ((.istore 6), 2) := by decide +kernel
theorem d_law_516 : decode code 516 = .ok ((.aload_n 2), 1) := by decide +kernel
theorem d_law_517 : decode code 517 = .ok ((.invokevirtual 54), 3) := by decide +kernel
theorem d_law_520 : decode code 520 = .ok ((.iload 5), 2) := by decide +kernel
theorem d_law_522 : decode code 522 = .ok ((.if_icmp .eq 5), 3) := by decide +kernel
theorem d_law_525 : decode code 525 = .ok ((.iconst 0), 1) := by decide +kernel
theorem d_law_526 : decode code 526 = .ok (.ireturn, 1) := by decide +kernel
theorem d_law_527 : decode code 527 = .ok ((.iload 5), 2) := by decide +kernel
theorem d_law_529 : decode code 529 = .ok ((.ifCond .ne 15), 3) := by decide +kernel
theorem d_law_532 : decode code 532 = .ok ((.aload_n 3), 1) := by decide +kernel
theorem d_law_533 : decode code 533 = .ok ((.iconst 0), 1) := by decide +kernel
theorem d_law_534 : decode code 534 = .ok (.laload, 1) := by decide +kernel
theorem d_law_535 : decode code 535 = .ok ((.iload 6), 2) := by decide +kernel
theorem d_law_537 : decode code 537 = .ok (.i2l, 1) := by decide +kernel
theorem d_law_538 : decode code 538 = .ok (.lcmp, 1) := by decide +kernel
theorem d_law_539 : decode code 539 = .ok ((.ifCond .eq 5), 3) := by decide +kernel
theorem d_law_542 : decode code 542 = .ok ((.iconst 0), 1) := by decide +kernel
theorem d_law_543 : decode code 543 = .ok (.ireturn, 1) := by decide +kernel
theorem d_law_544 : decode code 544 = .ok ((.goto 3), 3) := by decide +kernel
theorem d_law_547 : decode code 547 = .ok ((.iinc 4 6), 3) := by decide +kernel
theorem d_law_550 : decode code 550 = .ok ((.goto (-527)), 3) := by decide +kernel
theorem d_law_553 : decode code 553 = .ok ((.iconst 1), 1) := by decide +kernel
theorem d_law_554 : decode code 554 = .ok (.ireturn, 1) := by decide +kernel
