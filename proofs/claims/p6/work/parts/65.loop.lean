/-! the law's loop (by program) -/
theorem dLaw_0 : decode code 0 = .ok (.new 8, 3) := by decide +kernel
theorem dLaw_3 : decode code 3 = .ok (.dup, 1) := by decide +kernel
theorem dLaw_4 : decode code 4 = .ok (.aload_n 0, 1) := by decide +kernel
theorem dLaw_5 : decode code 5 = .ok (.iconst 0, 1) := by decide +kernel
theorem dLaw_6 : decode code 6 = .ok (.invokestatic 41, 3) := by decide +kernel
theorem dLaw_9 : decode code 9 = .ok (.i2l, 1) := by decide +kernel
theorem dLaw_10 : decode code 10 = .ok (.invokespecial 46, 3) := by decide +kernel
theorem dLaw_13 : decode code 13 = .ok (.astore_n 1, 1) := by decide +kernel
theorem dLaw_14 : decode code 14 = .ok (.new 49, 3) := by decide +kernel
theorem dLaw_17 : decode code 17 = .ok (.dup, 1) := by decide +kernel
theorem dLaw_18 : decode code 18 = .ok (.aload_n 0, 1) := by decide +kernel
theorem dLaw_19 : decode code 19 = .ok (.iconst 0, 1) := by decide +kernel
theorem dLaw_20 : decode code 20 = .ok (.invokestatic 41, 3) := by decide +kernel
theorem dLaw_23 : decode code 23 = .ok (.i2l, 1) := by decide +kernel
theorem dLaw_24 : decode code 24 = .ok (.invokespecial 51, 3) := by decide +kernel
theorem dLaw_27 : decode code 27 = .ok (.astore_n 2, 1) := by decide +kernel
theorem dLaw_28 : decode code 28 = .ok (.iconst 1, 1) := by decide +kernel
theorem dLaw_29 : decode code 29 = .ok (.newarray .long, 2) := by decide +kernel
theorem dLaw_31 : decode code 31 = .ok (.astore_n 3, 1) := by decide +kernel
theorem dLaw_32 : decode code 32 = .ok (.iconst 1, 1) := by decide +kernel
theorem dLaw_33 : decode code 33 = .ok (.istore 4, 2) := by decide +kernel
theorem dLaw_35 : decode code 35 = .ok (.iload 4, 2) := by decide +kernel
theorem dLaw_37 : decode code 37 = .ok (.aload_n 0, 1) := by decide +kernel
theorem dLaw_38 : decode code 38 = .ok (.arraylength, 1) := by decide +kernel
theorem dLaw_39 : decode code 39 = .ok (.iconst 5, 1) := by decide +kernel
theorem dLaw_40 : decode code 40 = .ok (.isub, 1) := by decide +kernel
theorem dLaw_41 : decode code 41 = .ok (.if_icmp .gt 375, 3) := by decide +kernel
theorem dLaw_44 : decode code 44 = .ok (.aload_n 0, 1) := by decide +kernel
theorem dLaw_45 : decode code 45 = .ok (.iload 4, 2) := by decide +kernel
theorem dLaw_47 : decode code 47 = .ok (.iaload, 1) := by decide +kernel
theorem dLaw_48 : decode code 48 = .ok (.bipush 15, 2) := by decide +kernel
theorem dLaw_50 : decode code 50 = .ok (.iand, 1) := by decide +kernel
theorem dLaw_51 : decode code 51 = .ok (.tableswitch 359 0 9 #[53, 80, 120, 148, 176, 237, 262, 290, 303, 331], 53) := by decide +kernel
theorem dLaw_104 : decode code 104 = .ok (.aload_n 1, 1) := by decide +kernel
theorem dLaw_105 : decode code 105 = .ok (.aload_n 0, 1) := by decide +kernel
theorem dLaw_106 : decode code 106 = .ok (.iload 4, 2) := by decide +kernel
theorem dLaw_108 : decode code 108 = .ok (.iconst 1, 1) := by decide +kernel
theorem dLaw_109 : decode code 109 = .ok (.iadd, 1) := by decide +kernel
theorem dLaw_110 : decode code 110 = .ok (.iaload, 1) := by decide +kernel
theorem dLaw_111 : decode code 111 = .ok (.i2b, 1) := by decide +kernel
theorem dLaw_112 : decode code 112 = .ok (.invokestatic 52, 3) := by decide +kernel
theorem dLaw_115 : decode code 115 = .ok (.istore 5, 2) := by decide +kernel
theorem dLaw_117 : decode code 117 = .ok (.aload_n 2, 1) := by decide +kernel
theorem dLaw_118 : decode code 118 = .ok (.aload_n 0, 1) := by decide +kernel
theorem dLaw_119 : decode code 119 = .ok (.iload 4, 2) := by decide +kernel
theorem dLaw_121 : decode code 121 = .ok (.iconst 1, 1) := by decide +kernel
theorem dLaw_122 : decode code 122 = .ok (.iadd, 1) := by decide +kernel
theorem dLaw_123 : decode code 123 = .ok (.iaload, 1) := by decide +kernel
theorem dLaw_124 : decode code 124 = .ok (.i2b, 1) := by decide +kernel
theorem dLaw_125 : decode code 125 = .ok (.invokevirtual 55, 3) := by decide +kernel
theorem dLaw_128 : decode code 128 = .ok (.goto 282, 3) := by decide +kernel
theorem dLaw_131 : decode code 131 = .ok (.aload_n 1, 1) := by decide +kernel
theorem dLaw_132 : decode code 132 = .ok (.aload_n 0, 1) := by decide +kernel
theorem dLaw_133 : decode code 133 = .ok (.iload 4, 2) := by decide +kernel
theorem dLaw_135 : decode code 135 = .ok (.iconst 1, 1) := by decide +kernel
theorem dLaw_136 : decode code 136 = .ok (.iadd, 1) := by decide +kernel
theorem dLaw_137 : decode code 137 = .ok (.iaload, 1) := by decide +kernel
theorem dLaw_138 : decode code 138 = .ok (.aload_n 0, 1) := by decide +kernel
theorem dLaw_139 : decode code 139 = .ok (.iload 4, 2) := by decide +kernel
theorem dLaw_141 : decode code 141 = .ok (.iconst 2, 1) := by decide +kernel
theorem dLaw_142 : decode code 142 = .ok (.iadd, 1) := by decide +kernel
theorem dLaw_143 : decode code 143 = .ok (.iaload, 1) := by decide +kernel
theorem dLaw_144 : decode code 144 = .ok (.aload_n 3, 1) := by decide +kernel
theorem dLaw_145 : decode code 145 = .ok (.invokestatic 56, 3) := by decide +kernel
theorem dLaw_148 : decode code 148 = .ok (.istore 5, 2) := by decide +kernel
theorem dLaw_150 : decode code 150 = .ok (.aload_n 2, 1) := by decide +kernel
theorem dLaw_151 : decode code 151 = .ok (.aload_n 0, 1) := by decide +kernel
theorem dLaw_152 : decode code 152 = .ok (.iload 4, 2) := by decide +kernel
theorem dLaw_154 : decode code 154 = .ok (.iconst 1, 1) := by decide +kernel
theorem dLaw_155 : decode code 155 = .ok (.iadd, 1) := by decide +kernel
theorem dLaw_156 : decode code 156 = .ok (.iaload, 1) := by decide +kernel
theorem dLaw_157 : decode code 157 = .ok (.aload_n 0, 1) := by decide +kernel
theorem dLaw_158 : decode code 158 = .ok (.iload 4, 2) := by decide +kernel
theorem dLaw_160 : decode code 160 = .ok (.iconst 2, 1) := by decide +kernel
theorem dLaw_161 : decode code 161 = .ok (.iadd, 1) := by decide +kernel
theorem dLaw_162 : decode code 162 = .ok (.iaload, 1) := by decide +kernel
theorem dLaw_163 : decode code 163 = .ok (.invokevirtual 59, 3) := by decide +kernel
theorem dLaw_166 : decode code 166 = .ok (.istore 6, 2) := by decide +kernel
theorem dLaw_168 : decode code 168 = .ok (.goto 242, 3) := by decide +kernel
theorem dLaw_171 : decode code 171 = .ok (.aload_n 1, 1) := by decide +kernel
theorem dLaw_172 : decode code 172 = .ok (.aload_n 0, 1) := by decide +kernel
theorem dLaw_173 : decode code 173 = .ok (.iload 4, 2) := by decide +kernel
theorem dLaw_175 : decode code 175 = .ok (.iconst 1, 1) := by decide +kernel
theorem dLaw_176 : decode code 176 = .ok (.iadd, 1) := by decide +kernel
theorem dLaw_177 : decode code 177 = .ok (.iaload, 1) := by decide +kernel
theorem dLaw_178 : decode code 178 = .ok (.aload_n 3, 1) := by decide +kernel
theorem dLaw_179 : decode code 179 = .ok (.invokestatic 60, 3) := by decide +kernel
theorem dLaw_182 : decode code 182 = .ok (.istore 5, 2) := by decide +kernel
theorem dLaw_184 : decode code 184 = .ok (.aload_n 2, 1) := by decide +kernel
theorem dLaw_185 : decode code 185 = .ok (.aload_n 0, 1) := by decide +kernel
theorem dLaw_186 : decode code 186 = .ok (.iload 4, 2) := by decide +kernel
theorem dLaw_188 : decode code 188 = .ok (.iconst 1, 1) := by decide +kernel
theorem dLaw_189 : decode code 189 = .ok (.iadd, 1) := by decide +kernel
theorem dLaw_190 : decode code 190 = .ok (.iaload, 1) := by decide +kernel
theorem dLaw_191 : decode code 191 = .ok (.invokevirtual 63, 3) := by decide +kernel
theorem dLaw_194 : decode code 194 = .ok (.istore 6, 2) := by decide +kernel
theorem dLaw_196 : decode code 196 = .ok (.goto 214, 3) := by decide +kernel
theorem dLaw_199 : decode code 199 = .ok (.aload_n 1, 1) := by decide +kernel
theorem dLaw_200 : decode code 200 = .ok (.aload_n 0, 1) := by decide +kernel
theorem dLaw_201 : decode code 201 = .ok (.iload 4, 2) := by decide +kernel
theorem dLaw_203 : decode code 203 = .ok (.iconst 1, 1) := by decide +kernel
theorem dLaw_204 : decode code 204 = .ok (.iadd, 1) := by decide +kernel
theorem dLaw_205 : decode code 205 = .ok (.iaload, 1) := by decide +kernel
theorem dLaw_206 : decode code 206 = .ok (.aload_n 3, 1) := by decide +kernel
theorem dLaw_207 : decode code 207 = .ok (.invokestatic 64, 3) := by decide +kernel
theorem dLaw_210 : decode code 210 = .ok (.istore 5, 2) := by decide +kernel
theorem dLaw_212 : decode code 212 = .ok (.aload_n 2, 1) := by decide +kernel
theorem dLaw_213 : decode code 213 = .ok (.aload_n 0, 1) := by decide +kernel
theorem dLaw_214 : decode code 214 = .ok (.iload 4, 2) := by decide +kernel
theorem dLaw_216 : decode code 216 = .ok (.iconst 1, 1) := by decide +kernel
theorem dLaw_217 : decode code 217 = .ok (.iadd, 1) := by decide +kernel
theorem dLaw_218 : decode code 218 = .ok (.iaload, 1) := by decide +kernel
theorem dLaw_219 : decode code 219 = .ok (.invokevirtual 66, 3) := by decide +kernel
theorem dLaw_222 : decode code 222 = .ok (.istore 6, 2) := by decide +kernel
theorem dLaw_224 : decode code 224 = .ok (.goto 186, 3) := by decide +kernel
theorem dLaw_227 : decode code 227 = .ok (.aload_n 1, 1) := by decide +kernel
theorem dLaw_228 : decode code 228 = .ok (.aload_n 0, 1) := by decide +kernel
theorem dLaw_229 : decode code 229 = .ok (.iload 4, 2) := by decide +kernel
theorem dLaw_231 : decode code 231 = .ok (.iconst 1, 1) := by decide +kernel
theorem dLaw_232 : decode code 232 = .ok (.iadd, 1) := by decide +kernel
theorem dLaw_233 : decode code 233 = .ok (.iaload, 1) := by decide +kernel
theorem dLaw_234 : decode code 234 = .ok (.aload_n 0, 1) := by decide +kernel
theorem dLaw_235 : decode code 235 = .ok (.iload 4, 2) := by decide +kernel
theorem dLaw_237 : decode code 237 = .ok (.iconst 2, 1) := by decide +kernel
theorem dLaw_238 : decode code 238 = .ok (.iadd, 1) := by decide +kernel
theorem dLaw_239 : decode code 239 = .ok (.iaload, 1) := by decide +kernel
theorem dLaw_240 : decode code 240 = .ok (.aload_n 0, 1) := by decide +kernel
theorem dLaw_241 : decode code 241 = .ok (.iload 4, 2) := by decide +kernel
theorem dLaw_243 : decode code 243 = .ok (.iconst 3, 1) := by decide +kernel
theorem dLaw_244 : decode code 244 = .ok (.iadd, 1) := by decide +kernel
theorem dLaw_245 : decode code 245 = .ok (.iaload, 1) := by decide +kernel
theorem dLaw_246 : decode code 246 = .ok (.aload_n 0, 1) := by decide +kernel
theorem dLaw_247 : decode code 247 = .ok (.iload 4, 2) := by decide +kernel
theorem dLaw_249 : decode code 249 = .ok (.iconst 4, 1) := by decide +kernel
theorem dLaw_250 : decode code 250 = .ok (.iadd, 1) := by decide +kernel
theorem dLaw_251 : decode code 251 = .ok (.iaload, 1) := by decide +kernel
theorem dLaw_252 : decode code 252 = .ok (.invokevirtual 67, 3) := by decide +kernel
theorem dLaw_255 : decode code 255 = .ok (.aload_n 2, 1) := by decide +kernel
theorem dLaw_256 : decode code 256 = .ok (.aload_n 0, 1) := by decide +kernel
theorem dLaw_257 : decode code 257 = .ok (.iload 4, 2) := by decide +kernel
theorem dLaw_259 : decode code 259 = .ok (.iconst 1, 1) := by decide +kernel
theorem dLaw_260 : decode code 260 = .ok (.iadd, 1) := by decide +kernel
theorem dLaw_261 : decode code 261 = .ok (.iaload, 1) := by decide +kernel
theorem dLaw_262 : decode code 262 = .ok (.aload_n 0, 1) := by decide +kernel
theorem dLaw_263 : decode code 263 = .ok (.iload 4, 2) := by decide +kernel
theorem dLaw_265 : decode code 265 = .ok (.iconst 2, 1) := by decide +kernel
theorem dLaw_266 : decode code 266 = .ok (.iadd, 1) := by decide +kernel
theorem dLaw_267 : decode code 267 = .ok (.iaload, 1) := by decide +kernel
theorem dLaw_268 : decode code 268 = .ok (.aload_n 0, 1) := by decide +kernel
theorem dLaw_269 : decode code 269 = .ok (.iload 4, 2) := by decide +kernel
theorem dLaw_271 : decode code 271 = .ok (.iconst 3, 1) := by decide +kernel
theorem dLaw_272 : decode code 272 = .ok (.iadd, 1) := by decide +kernel
theorem dLaw_273 : decode code 273 = .ok (.iaload, 1) := by decide +kernel
theorem dLaw_274 : decode code 274 = .ok (.aload_n 0, 1) := by decide +kernel
theorem dLaw_275 : decode code 275 = .ok (.iload 4, 2) := by decide +kernel
theorem dLaw_277 : decode code 277 = .ok (.iconst 4, 1) := by decide +kernel
theorem dLaw_278 : decode code 278 = .ok (.iadd, 1) := by decide +kernel
theorem dLaw_279 : decode code 279 = .ok (.iaload, 1) := by decide +kernel
theorem dLaw_280 : decode code 280 = .ok (.invokevirtual 71, 3) := by decide +kernel
theorem dLaw_283 : decode code 283 = .ok (.if_icmp .eq 127, 3) := by decide +kernel
theorem dLaw_286 : decode code 286 = .ok (.iconst 0, 1) := by decide +kernel
theorem dLaw_287 : decode code 287 = .ok (.ireturn, 1) := by decide +kernel
theorem dLaw_288 : decode code 288 = .ok (.aload_n 1, 1) := by decide +kernel
theorem dLaw_289 : decode code 289 = .ok (.aload_n 0, 1) := by decide +kernel
theorem dLaw_290 : decode code 290 = .ok (.iload 4, 2) := by decide +kernel
theorem dLaw_292 : decode code 292 = .ok (.iconst 1, 1) := by decide +kernel
theorem dLaw_293 : decode code 293 = .ok (.iadd, 1) := by decide +kernel
theorem dLaw_294 : decode code 294 = .ok (.iaload, 1) := by decide +kernel
theorem dLaw_295 : decode code 295 = .ok (.invokevirtual 72, 3) := by decide +kernel
theorem dLaw_298 : decode code 298 = .ok (.pop, 1) := by decide +kernel
theorem dLaw_299 : decode code 299 = .ok (.aload_n 2, 1) := by decide +kernel
theorem dLaw_300 : decode code 300 = .ok (.aload_n 0, 1) := by decide +kernel
theorem dLaw_301 : decode code 301 = .ok (.iload 4, 2) := by decide +kernel
theorem dLaw_303 : decode code 303 = .ok (.iconst 1, 1) := by decide +kernel
theorem dLaw_304 : decode code 304 = .ok (.iadd, 1) := by decide +kernel
theorem dLaw_305 : decode code 305 = .ok (.iaload, 1) := by decide +kernel
theorem dLaw_306 : decode code 306 = .ok (.invokevirtual 75, 3) := by decide +kernel
theorem dLaw_309 : decode code 309 = .ok (.pop, 1) := by decide +kernel
theorem dLaw_310 : decode code 310 = .ok (.goto 100, 3) := by decide +kernel
theorem dLaw_313 : decode code 313 = .ok (.aload_n 1, 1) := by decide +kernel
theorem dLaw_314 : decode code 314 = .ok (.aload_n 0, 1) := by decide +kernel
theorem dLaw_315 : decode code 315 = .ok (.iload 4, 2) := by decide +kernel
theorem dLaw_317 : decode code 317 = .ok (.iconst 1, 1) := by decide +kernel
theorem dLaw_318 : decode code 318 = .ok (.iadd, 1) := by decide +kernel
theorem dLaw_319 : decode code 319 = .ok (.iaload, 1) := by decide +kernel
theorem dLaw_320 : decode code 320 = .ok (.aload_n 3, 1) := by decide +kernel
theorem dLaw_321 : decode code 321 = .ok (.invokestatic 76, 3) := by decide +kernel
theorem dLaw_324 : decode code 324 = .ok (.istore 5, 2) := by decide +kernel
theorem dLaw_326 : decode code 326 = .ok (.aload_n 2, 1) := by decide +kernel
theorem dLaw_327 : decode code 327 = .ok (.aload_n 0, 1) := by decide +kernel
theorem dLaw_328 : decode code 328 = .ok (.iload 4, 2) := by decide +kernel
theorem dLaw_330 : decode code 330 = .ok (.iconst 1, 1) := by decide +kernel
theorem dLaw_331 : decode code 331 = .ok (.iadd, 1) := by decide +kernel
theorem dLaw_332 : decode code 332 = .ok (.iaload, 1) := by decide +kernel
theorem dLaw_333 : decode code 333 = .ok (.invokevirtual 78, 3) := by decide +kernel
theorem dLaw_336 : decode code 336 = .ok (.lstore 6, 2) := by decide +kernel
theorem dLaw_338 : decode code 338 = .ok (.goto 72, 3) := by decide +kernel
theorem dLaw_341 : decode code 341 = .ok (.aload_n 1, 1) := by decide +kernel
theorem dLaw_342 : decode code 342 = .ok (.invokevirtual 79, 3) := by decide +kernel
theorem dLaw_345 : decode code 345 = .ok (.pop, 1) := by decide +kernel
theorem dLaw_346 : decode code 346 = .ok (.aload_n 2, 1) := by decide +kernel
theorem dLaw_347 : decode code 347 = .ok (.invokevirtual 83, 3) := by decide +kernel
theorem dLaw_350 : decode code 350 = .ok (.pop, 1) := by decide +kernel
theorem dLaw_351 : decode code 351 = .ok (.goto 59, 3) := by decide +kernel
theorem dLaw_354 : decode code 354 = .ok (.aload_n 1, 1) := by decide +kernel
theorem dLaw_355 : decode code 355 = .ok (.aload_n 0, 1) := by decide +kernel
theorem dLaw_356 : decode code 356 = .ok (.iload 4, 2) := by decide +kernel
theorem dLaw_358 : decode code 358 = .ok (.iconst 1, 1) := by decide +kernel
theorem dLaw_359 : decode code 359 = .ok (.iadd, 1) := by decide +kernel
theorem dLaw_360 : decode code 360 = .ok (.iaload, 1) := by decide +kernel
theorem dLaw_361 : decode code 361 = .ok (.aload_n 3, 1) := by decide +kernel
theorem dLaw_362 : decode code 362 = .ok (.invokestatic 84, 3) := by decide +kernel
theorem dLaw_365 : decode code 365 = .ok (.istore 5, 2) := by decide +kernel
theorem dLaw_367 : decode code 367 = .ok (.aload_n 2, 1) := by decide +kernel
theorem dLaw_368 : decode code 368 = .ok (.aload_n 0, 1) := by decide +kernel
theorem dLaw_369 : decode code 369 = .ok (.iload 4, 2) := by decide +kernel
theorem dLaw_371 : decode code 371 = .ok (.iconst 1, 1) := by decide +kernel
theorem dLaw_372 : decode code 372 = .ok (.iadd, 1) := by decide +kernel
theorem dLaw_373 : decode code 373 = .ok (.iaload, 1) := by decide +kernel
theorem dLaw_374 : decode code 374 = .ok (.invokevirtual 86, 3) := by decide +kernel
theorem dLaw_377 : decode code 377 = .ok (.istore 6, 2) := by decide +kernel
theorem dLaw_379 : decode code 379 = .ok (.goto 31, 3) := by decide +kernel
theorem dLaw_382 : decode code 382 = .ok (.aload_n 1, 1) := by decide +kernel
theorem dLaw_383 : decode code 383 = .ok (.aload_n 0, 1) := by decide +kernel
theorem dLaw_384 : decode code 384 = .ok (.iload 4, 2) := by decide +kernel
theorem dLaw_386 : decode code 386 = .ok (.iconst 1, 1) := by decide +kernel
theorem dLaw_387 : decode code 387 = .ok (.iadd, 1) := by decide +kernel
theorem dLaw_388 : decode code 388 = .ok (.iaload, 1) := by decide +kernel
theorem dLaw_389 : decode code 389 = .ok (.aload_n 3, 1) := by decide +kernel
theorem dLaw_390 : decode code 390 = .ok (.invokestatic 87, 3) := by decide +kernel
theorem dLaw_393 : decode code 393 = .ok (.istore 5, 2) := by decide +kernel
theorem dLaw_395 : decode code 395 = .ok (.aload_n 2, 1) := by decide +kernel
theorem dLaw_396 : decode code 396 = .ok (.aload_n 0, 1) := by decide +kernel
theorem dLaw_397 : decode code 397 = .ok (.iload 4, 2) := by decide +kernel
theorem dLaw_399 : decode code 399 = .ok (.iconst 1, 1) := by decide +kernel
theorem dLaw_400 : decode code 400 = .ok (.iadd, 1) := by decide +kernel
theorem dLaw_401 : decode code 401 = .ok (.iaload, 1) := by decide +kernel
theorem dLaw_402 : decode code 402 = .ok (.invokevirtual 89, 3) := by decide +kernel
theorem dLaw_405 : decode code 405 = .ok (.istore 6, 2) := by decide +kernel
theorem dLaw_407 : decode code 407 = .ok (.goto 3, 3) := by decide +kernel
theorem dLaw_410 : decode code 410 = .ok (.iinc 4 5, 3) := by decide +kernel
theorem dLaw_413 : decode code 413 = .ok (.goto (-378), 3) := by decide +kernel
theorem dLaw_416 : decode code 416 = .ok (.iconst 1, 1) := by decide +kernel
theorem dLaw_417 : decode code 417 = .ok (.ireturn, 1) := by decide +kernel
theorem i8_r (x : Int32) : -128 ≤ x.toInt8.toInt32.toInt ∧ x.toInt8.toInt32.toInt ≤ 127 := by
  rw [Int8.toInt_toInt32]
  have h1 := Int8.le_toInt x.toInt8
  have h2 := Int8.toInt_lt x.toInt8
  omega
section Loop
variable {p : Program} {l : Launch} {e : Env} {s : State} {m : MethodId} {below : List Frame} {meth : Method} {c : Code} {Q : State → Prop}
variable {D : va_G} {cy : Nat → ClassId} {adsC adsM : List Nat} {aC aM o b L : Nat} {cL : ClassId} {xs : Nat → Int32}
set_option maxHeartbeats 4000000 in
theorem law_loop (S : CallFix p m c code 8 s #[Value.ref b] TB sLaw) (hl0 : l.stackTraces = false) (hX : va_X b L xs s s.heap) (hbl : b < s.heap.size) (hL : L ≤ 2561) (hK : va_K D nCl (tyL cy cL) s) (hG : gL [] s) (haC : adsC[0]? = some aC) (haM : adsM[0]? = some aM) (hAC : ∀ q ∈ adsC, s.heap.size ≤ q) (hAM : ∀ q ∈ adsM, s.heap.size ≤ q) (hAo : s.heap.size ≤ o) (hCM : ∀ q ∈ adsC, q ∉ adsM) (hoC : o ∉ adsC) (hoM : o ∉ adsM)
    (fin : ∀ (ls : Array Slot) (H : Heap) (locs : List Loc) (ce sl : Nat), va_S (fun q => s.heap.size ≤ q) s.heap H locs → ce ≤ 601024 → sl ≤ 7293000 → W p l e room_1 s m #[Value.ref b] below meth c H locs ce sl Q (F0 m 416 ls [])) :
    ∀ (j n : Nat) (i : Int32) (ls : Array Slot) (H : Heap) (locs : List Loc), 520 ≤ j + n → n ≤ 512 → i.toInt = 1 + 5 * n → Lies D nCl cy iCs adsC H → Lies D nCl cy iMs adsM H → OutC D cL o H → va_S (fun q => s.heap.size ≤ q) s.heap H locs → lv_has ls 8 [(4, .int i), (3, .ref o), (2, .ref aM), (1, .ref aC), (0, .ref b)] →
      W p l e room_1 s m #[Value.ref b] below meth c H locs (71 + n) (81699 + 6 * n) Q (F0 m 35 ls [])
  | j, n, i, ls, H, locs, hj, hn, hi, hC, hM, hO, hS, hl => by
    obtain ⟨hx, hb, hml, hown, hts⟩ := id S
    have hbA : ¬ (fun q => s.heap.size ≤ q) b := Nat.not_le.mpr hbl
    have gAll : ∀ (bs : List Nat), (∀ q ∈ bs, s.heap.size ≤ q) → ∀ {H : Heap} {locs : List Loc}, va_S (fun q => s.heap.size ≤ q) s.heap H locs → ∀ U : State, U.heap = H → s.WarmedH U.vm → gL bs U := fun bs hbs H locs hS U hU hW => by
      have := gL_ok [] bs s U hW (by rw [hU]; exact hS.1) (fun q h1 _ => by rw [hU]; exact hS.2.1 q h1 (Nat.not_le.mpr h1)) hbs hG
      rwa [List.nil_append] at this
    have hACo : ∀ q ∈ adsC ++ [o], s.heap.size ≤ q := fun q hq => (List.mem_append.mp hq).elim (hAC q) (fun z => by rw [List.mem_singleton.mp z]; exact hAo)
    have hLi : (Int32.ofNat L).toInt = L := nI_toInt (by omega)
    have z5 : (Int32.ofInt 5).toInt = 5 := by decide
    have hL5 : (Int32.ofNat L - Int32.ofInt 5).toInt = L - 5 := by
      rw [nu_sub (by rw [hLi, z5]; omega) (by rw [hLi, z5]; omega), hLi, z5]
    refine lv_iload hx hb dLaw_35 (lv_at hl 0 rfl) ?_
    refine lv_aload_n hx hb dLaw_37 rfl (lv_at hl 4 rfl) ?_
    refine va_slen hx hb hX hbl hbA hS dLaw_38 ?_
    refine lv_iconst hx hb dLaw_39 rfl ?_
    refine lv_isub hx hb dLaw_40 ?_
    refine lv_icmp_gt hx hb dLaw_41 (tgt := 416) rfl (fun _ => fin ls H locs _ _ hS (by omega) (by omega)) (fun hc => ?_)
    rw [lt_z, hL5, hi] at hc
    have hik : ∀ k : Int, 0 ≤ k → k ≤ 4 → ∀ q : Int32, q.toInt = k → vp_in (i + q) L := fun k k0 k4 q hq => by
      have : (i + q).toInt = i.toInt + q.toInt := nu_add (by rw [hi, hq]; omega) (by rw [hi, hq]; omega)
      exact inb (by rw [this, hi, hq]; omega) (by rw [this, hi, hq]; omega)
    have hin1 : vp_in (i + Int32.ofInt 1) L := hik 1 (by decide) (by decide) _ (by decide)
    have hin2 : vp_in (i + Int32.ofInt 2) L := hik 2 (by decide) (by decide) _ (by decide)
    have hin3 : vp_in (i + Int32.ofInt 3) L := hik 3 (by decide) (by decide) _ (by decide)
    have hin4 : vp_in (i + Int32.ofInt 4) L := hik 4 (by decide) (by decide) _ (by decide)
    have next : ∀ (ls : Array Slot) (H : Heap) (locs : List Loc) (ce sl : Nat), ce ≤ 71 + n + 1 → sl ≤ 81699 + 6 * n + 6 → Lies D nCl cy iCs adsC H → Lies D nCl cy iMs adsM H → OutC D cL o H → va_S (fun q => s.heap.size ≤ q) s.heap H locs → lv_has ls 8 [(4, .int i), (3, .ref o), (2, .ref aM), (1, .ref aC), (0, .ref b)] → W p l e room_1 s m #[Value.ref b] below meth c H locs ce sl Q (F0 m 410 ls []) := fun ls H locs ce sl hce hsl hC hM hO hS hl => by
      refine W.widen (k := 71 + (n + 1)) (n := 81699 + 6 * (n + 1)) (by omega) (by omega) ?_
      refine lv_iinc hx hb dLaw_410 hl (k := 0) rfl rfl (by decide) rfl fun ls hl => ?_
      have hl : lv_has ls 8 [(4, .int (i + Int32.ofInt 5)), (3, .ref o), (2, .ref aM), (1, .ref aC), (0, .ref b)] := hl
      refine lv_goto hx hb dLaw_413 (tgt := 35) rfl ?_
      cases j with
      | zero => omega
      | succ j => exact law_loop S hl0 hX hbl hL hK hG haC haM hAC hAM hAo hCM hoC hoM fin j (n + 1) (i + Int32.ofInt 5) ls H locs (by omega) (by omega) (by rw [nu_add (by rw [hi, z5]; omega) (by rw [hi, z5]; omega), hi, z5]; omega) hC hM hO hS hl
    refine lv_aload_n hx hb dLaw_44 rfl (lv_at hl 4 rfl) ?_
    refine lv_iload hx hb dLaw_45 (lv_at hl 0 rfl) ?_
    refine va_sld hx hb hX hbl hbA hS (inb (by rw [hi]; omega) (by rw [hi]; omega)) dLaw_47 ?_
    refine lv_bipush hx hb dLaw_48 rfl ?_
    refine lv_iand hx hb dLaw_50 ?_
    have hw := i32_and_le (x := xs i.toNatClampNeg) (y := (Int8.ofInt 15).toInt32) (by decide)
    generalize xs i.toNatClampNeg &&& (Int8.ofInt 15).toInt32 = w at hw ⊢
    by_cases w0 : w.toInt = 0
    · refine lv_tableIn hx hb dLaw_51 (by omega) (by omega) (off := 53) (by rw [w0]; rfl) (tgt := 104) rfl ?_
      refine lv_aload_n hx hb dLaw_104 rfl (lv_at hl 3 rfl) ?_
      refine lv_aload_n hx hb dLaw_105 rfl (lv_at hl 4 rfl) ?_
      refine lv_iload hx hb dLaw_106 (lv_at hl 0 rfl) ?_
      refine lv_iconst hx hb dLaw_108 rfl ?_
      refine lv_iadd hx hb dLaw_109 ?_
      refine va_sld hx hb hX hbl hbA hS hin1 dLaw_110 ?_
      refine lv_i2b hx hb dLaw_111 rfl ?_
      refine lw_wrap (n := 2) (A := fun q => s.heap.size ≤ q) (xs := [.ref aC, .int _]) (rest := []) S (wr_add hl0 _ (i8_r _).1 (i8_r _).2 hC haC hO hoC) rfl ⟨inT_ok (i := 403) (by decide +kernel), inT_ok (i := 404) (by decide +kernel), inT_ok (i := 405) (by decide +kernel)⟩ (by decide) ⟨by decide, by decide⟩ ⟨by show 71 + n + 1 ≤ 601024; omega, by show 81699 + 6 * n + 6 ≤ 7293000; omega⟩ hK (fun U hU hW => gAll _ hACo hS U hU hW) (fun q hq => hq.elim (hACo q) (fun z => Nat.le_trans hS.1 z)) hS rfl hl.1 (Nat.le_of_ble_eq_true rfl) dLaw_112 fun r H locs hC hO hS hk => ?_
      have hM := hM.kept fun q hq => hk q (hM.lt q hq) (fun z => hCM q z hq) (fun z => hoM (z ▸ hq))
      refine lv_istore hx hb dLaw_115 hl (by decide) rfl fun ls hl => ?_
      have hl : lv_has ls 8 [(5, .int r), (4, .int i), (3, .ref o), (2, .ref aM), (1, .ref aC), (0, .ref b)] := hl
      refine lv_aload_n hx hb dLaw_117 rfl (lv_at hl 3 rfl) ?_
      refine lv_aload_n hx hb dLaw_118 rfl (lv_at hl 5 rfl) ?_
      refine lv_iload hx hb dLaw_119 (lv_at hl 1 rfl) ?_
      refine lv_iconst hx hb dLaw_121 rfl ?_
      refine lv_iadd hx hb dLaw_122 ?_
      refine va_sld hx hb hX hbl hbA hS hin1 dLaw_123 ?_
      refine lv_i2b hx hb dLaw_124 rfl ?_
      refine lw_call (A := fun q => s.heap.size ≤ q) (As := [.int _]) (rest := []) S (sM_add _ (i8_r _).1 (i8_r _).2 hM haM) rfl rfl (List.mem_of_getElem? (i := 127) rfl) ⟨inT_ok (i := 1149) (by decide +kernel), inT_ok (i := 1150) (by decide +kernel), inT_ok (i := 1151) (by decide +kernel)⟩ (recvM hM haM hK) ⟨by decide, by decide⟩ ⟨by show 71 + n + 1 ≤ 601024; omega, by show 81699 + 6 * n + 6 ≤ 7293000; omega⟩ (tyL.toC hK) gM_ok (fun _ _ _ => trivial) (fun q hq => hq.elim (hAM q) (fun z => Nat.le_trans hS.1 z)) hS rfl hl.1 (Nat.le_of_ble_eq_true rfl) dLaw_125 fun r H locs hr hM hS hk => ?_
      have hC := hC.kept fun q hq => hk q (hC.lt q hq) (hCM q hq)
      have hO := hO.kept (hk o hO.lt hoM)
      have hr : r = none := hr
      subst hr
      exact lv_goto hx hb dLaw_128 (tgt := 410) rfl (next ls H locs _ _ (by omega) (by omega) hC hM hO hS (lv_sub hl [1, 2, 3, 4, 5] rfl))
    by_cases w1 : w.toInt = 1
    · refine lv_tableIn hx hb dLaw_51 (by omega) (by omega) (off := 80) (by rw [w1]; rfl) (tgt := 131) rfl ?_
      refine lv_aload_n hx hb dLaw_131 rfl (lv_at hl 3 rfl) ?_
      refine lv_aload_n hx hb dLaw_132 rfl (lv_at hl 4 rfl) ?_
      refine lv_iload hx hb dLaw_133 (lv_at hl 0 rfl) ?_
      refine lv_iconst hx hb dLaw_135 rfl ?_
      refine lv_iadd hx hb dLaw_136 ?_
      refine va_sld hx hb hX hbl hbA hS hin1 dLaw_137 ?_
      refine lv_aload_n hx hb dLaw_138 rfl (lv_at hl 4 rfl) ?_
      refine lv_iload hx hb dLaw_139 (lv_at hl 0 rfl) ?_
      refine lv_iconst hx hb dLaw_141 rfl ?_
      refine lv_iadd hx hb dLaw_142 ?_
      refine va_sld hx hb hX hbl hbA hS hin2 dLaw_143 ?_
      refine lv_aload_n hx hb dLaw_144 rfl (lv_at hl 1 rfl) ?_
      refine lw_wrap (n := 4) (A := fun q => s.heap.size ≤ q) (xs := [.ref aC, .int _, .int _, .ref o]) (rest := []) S (wr_pack hl0 _ _ hC haC hO hoC) rfl ⟨inT_ok (i := 478) (by decide +kernel), inT_ok (i := 479) (by decide +kernel), inT_ok (i := 480) (by decide +kernel)⟩ (by decide) ⟨by decide, by decide⟩ ⟨by show 71 + n + 1 ≤ 601024; omega, by show 81699 + 6 * n + 6 ≤ 7293000; omega⟩ hK (fun U hU hW => gAll _ hACo hS U hU hW) (fun q hq => hq.elim (hACo q) (fun z => Nat.le_trans hS.1 z)) hS rfl hl.1 (Nat.le_of_ble_eq_true rfl) dLaw_145 fun r H locs hC hO hS hk => ?_
      have hM := hM.kept fun q hq => hk q (hM.lt q hq) (fun z => hCM q z hq) (fun z => hoM (z ▸ hq))
      refine lv_istore hx hb dLaw_148 hl (by decide) rfl fun ls hl => ?_
      have hl : lv_has ls 8 [(5, .int r), (4, .int i), (3, .ref o), (2, .ref aM), (1, .ref aC), (0, .ref b)] := hl
      refine lv_aload_n hx hb dLaw_150 rfl (lv_at hl 3 rfl) ?_
      refine lv_aload_n hx hb dLaw_151 rfl (lv_at hl 5 rfl) ?_
      refine lv_iload hx hb dLaw_152 (lv_at hl 1 rfl) ?_
      refine lv_iconst hx hb dLaw_154 rfl ?_
      refine lv_iadd hx hb dLaw_155 ?_
      refine va_sld hx hb hX hbl hbA hS hin1 dLaw_156 ?_
      refine lv_aload_n hx hb dLaw_157 rfl (lv_at hl 5 rfl) ?_
      refine lv_iload hx hb dLaw_158 (lv_at hl 1 rfl) ?_
      refine lv_iconst hx hb dLaw_160 rfl ?_
      refine lv_iadd hx hb dLaw_161 ?_
      refine va_sld hx hb hX hbl hbA hS hin2 dLaw_162 ?_
      refine lw_call (A := fun q => s.heap.size ≤ q) (As := [.int _, .int _]) (rest := []) S (sM_pack _ _ hM haM) rfl rfl (List.mem_of_getElem? (i := 173) rfl) ⟨inT_ok (i := 1153) (by decide +kernel), inT_ok (i := 1154) (by decide +kernel), inT_ok (i := 1155) (by decide +kernel)⟩ (recvM hM haM hK) ⟨by decide, by decide⟩ ⟨by show 71 + n + 1 ≤ 601024; omega, by show 81699 + 6 * n + 6 ≤ 7293000; omega⟩ (tyL.toC hK) gM_ok (fun _ _ _ => trivial) (fun q hq => hq.elim (hAM q) (fun z => Nat.le_trans hS.1 z)) hS rfl hl.1 (Nat.le_of_ble_eq_true rfl) dLaw_163 fun r H locs hr hM hS hk => ?_
      have hC := hC.kept fun q hq => hk q (hC.lt q hq) (hCM q hq)
      have hO := hO.kept (hk o hO.lt hoM)
      obtain ⟨rn, rfl⟩ := hr
      refine lv_istore hx hb dLaw_166 hl (by decide) rfl fun ls hl => ?_
      have hl : lv_has ls 8 [(6, .int rn), (5, .int r), (4, .int i), (3, .ref o), (2, .ref aM), (1, .ref aC), (0, .ref b)] := hl
      exact lv_goto hx hb dLaw_168 (tgt := 410) rfl (next ls H locs _ _ (by omega) (by omega) hC hM hO hS (lv_sub hl [2, 3, 4, 5, 6] rfl))
    by_cases w2 : w.toInt = 2
    · refine lv_tableIn hx hb dLaw_51 (by omega) (by omega) (off := 120) (by rw [w2]; rfl) (tgt := 171) rfl ?_
      refine lv_aload_n hx hb dLaw_171 rfl (lv_at hl 3 rfl) ?_
      refine lv_aload_n hx hb dLaw_172 rfl (lv_at hl 4 rfl) ?_
      refine lv_iload hx hb dLaw_173 (lv_at hl 0 rfl) ?_
      refine lv_iconst hx hb dLaw_175 rfl ?_
      refine lv_iadd hx hb dLaw_176 ?_
      refine va_sld hx hb hX hbl hbA hS hin1 dLaw_177 ?_
      refine lv_aload_n hx hb dLaw_178 rfl (lv_at hl 1 rfl) ?_
      refine lw_wrap (n := 3) (A := fun q => s.heap.size ≤ q) (xs := [.ref aC, .int _, .ref o]) (rest := []) S (wr_unpack hl0 _ hC haC hO hoC) rfl ⟨inT_ok (i := 782) (by decide +kernel), inT_ok (i := 783) (by decide +kernel), inT_ok (i := 784) (by decide +kernel)⟩ (by decide) ⟨by decide, by decide⟩ ⟨by show 71 + n + 1 ≤ 601024; omega, by show 81699 + 6 * n + 6 ≤ 7293000; omega⟩ hK (fun U hU hW => gAll _ hACo hS U hU hW) (fun q hq => hq.elim (hACo q) (fun z => Nat.le_trans hS.1 z)) hS rfl hl.1 (Nat.le_of_ble_eq_true rfl) dLaw_179 fun r H locs hC hO hS hk => ?_
      have hM := hM.kept fun q hq => hk q (hM.lt q hq) (fun z => hCM q z hq) (fun z => hoM (z ▸ hq))
      refine lv_istore hx hb dLaw_182 hl (by decide) rfl fun ls hl => ?_
      have hl : lv_has ls 8 [(5, .int r), (4, .int i), (3, .ref o), (2, .ref aM), (1, .ref aC), (0, .ref b)] := hl
      refine lv_aload_n hx hb dLaw_184 rfl (lv_at hl 3 rfl) ?_
      refine lv_aload_n hx hb dLaw_185 rfl (lv_at hl 5 rfl) ?_
      refine lv_iload hx hb dLaw_186 (lv_at hl 1 rfl) ?_
      refine lv_iconst hx hb dLaw_188 rfl ?_
      refine lv_iadd hx hb dLaw_189 ?_
      refine va_sld hx hb hX hbl hbA hS hin1 dLaw_190 ?_
      refine lw_call (A := fun q => s.heap.size ≤ q) (As := [.int _]) (rest := []) S (sM_unpack _ hM haM) rfl rfl (List.mem_of_getElem? (i := 197) rfl) ⟨inT_ok (i := 1334) (by decide +kernel), inT_ok (i := 1335) (by decide +kernel), inT_ok (i := 1336) (by decide +kernel)⟩ (recvM hM haM hK) ⟨by decide, by decide⟩ ⟨by show 71 + n + 1 ≤ 601024; omega, by show 81699 + 6 * n + 6 ≤ 7293000; omega⟩ (tyL.toC hK) gM_ok (fun _ _ _ => trivial) (fun q hq => hq.elim (hAM q) (fun z => Nat.le_trans hS.1 z)) hS rfl hl.1 (Nat.le_of_ble_eq_true rfl) dLaw_191 fun r H locs hr hM hS hk => ?_
      have hC := hC.kept fun q hq => hk q (hC.lt q hq) (hCM q hq)
      have hO := hO.kept (hk o hO.lt hoM)
      obtain ⟨rn, rfl⟩ := hr
      refine lv_istore hx hb dLaw_194 hl (by decide) rfl fun ls hl => ?_
      have hl : lv_has ls 8 [(6, .int rn), (5, .int r), (4, .int i), (3, .ref o), (2, .ref aM), (1, .ref aC), (0, .ref b)] := hl
      exact lv_goto hx hb dLaw_196 (tgt := 410) rfl (next ls H locs _ _ (by omega) (by omega) hC hM hO hS (lv_sub hl [2, 3, 4, 5, 6] rfl))
    by_cases w3 : w.toInt = 3
    · refine lv_tableIn hx hb dLaw_51 (by omega) (by omega) (off := 148) (by rw [w3]; rfl) (tgt := 199) rfl ?_
      refine lv_aload_n hx hb dLaw_199 rfl (lv_at hl 3 rfl) ?_
      refine lv_aload_n hx hb dLaw_200 rfl (lv_at hl 4 rfl) ?_
      refine lv_iload hx hb dLaw_201 (lv_at hl 0 rfl) ?_
      refine lv_iconst hx hb dLaw_203 rfl ?_
      refine lv_iadd hx hb dLaw_204 ?_
      refine va_sld hx hb hX hbl hbA hS hin1 dLaw_205 ?_
      refine lv_aload_n hx hb dLaw_206 rfl (lv_at hl 1 rfl) ?_
      refine lw_wrap (n := 3) (A := fun q => s.heap.size ≤ q) (xs := [.ref aC, .int _, .ref o]) (rest := []) S (wr_out hl0 _ hC haC hO hoC) rfl ⟨inT_ok (i := 955) (by decide +kernel), inT_ok (i := 956) (by decide +kernel), inT_ok (i := 957) (by decide +kernel)⟩ (by decide) ⟨by decide, by decide⟩ ⟨by show 71 + n + 1 ≤ 601024; omega, by show 81699 + 6 * n + 6 ≤ 7293000; omega⟩ hK (fun U hU hW => gAll _ hACo hS U hU hW) (fun q hq => hq.elim (hACo q) (fun z => Nat.le_trans hS.1 z)) hS rfl hl.1 (Nat.le_of_ble_eq_true rfl) dLaw_207 fun r H locs hC hO hS hk => ?_
      have hM := hM.kept fun q hq => hk q (hM.lt q hq) (fun z => hCM q z hq) (fun z => hoM (z ▸ hq))
      refine lv_istore hx hb dLaw_210 hl (by decide) rfl fun ls hl => ?_
      have hl : lv_has ls 8 [(5, .int r), (4, .int i), (3, .ref o), (2, .ref aM), (1, .ref aC), (0, .ref b)] := hl
      refine lv_aload_n hx hb dLaw_212 rfl (lv_at hl 3 rfl) ?_
      refine lv_aload_n hx hb dLaw_213 rfl (lv_at hl 5 rfl) ?_
      refine lv_iload hx hb dLaw_214 (lv_at hl 1 rfl) ?_
      refine lv_iconst hx hb dLaw_216 rfl ?_
      refine lv_iadd hx hb dLaw_217 ?_
      refine va_sld hx hb hX hbl hbA hS hin1 dLaw_218 ?_
      refine lw_call (A := fun q => s.heap.size ≤ q) (As := [.int _]) (rest := []) S (sM_out _ hM haM) rfl rfl (List.mem_of_getElem? (i := 198) rfl) ⟨inT_ok (i := 1428) (by decide +kernel), inT_ok (i := 1429) (by decide +kernel), inT_ok (i := 1430) (by decide +kernel)⟩ (recvM hM haM hK) ⟨by decide, by decide⟩ ⟨by show 71 + n + 1 ≤ 601024; omega, by show 81699 + 6 * n + 6 ≤ 7293000; omega⟩ (tyL.toC hK) gM_ok (fun _ _ _ => trivial) (fun q hq => hq.elim (hAM q) (fun z => Nat.le_trans hS.1 z)) hS rfl hl.1 (Nat.le_of_ble_eq_true rfl) dLaw_219 fun r H locs hr hM hS hk => ?_
      have hC := hC.kept fun q hq => hk q (hC.lt q hq) (hCM q hq)
      have hO := hO.kept (hk o hO.lt hoM)
      obtain ⟨rn, rfl⟩ := hr
      refine lv_istore hx hb dLaw_222 hl (by decide) rfl fun ls hl => ?_
      have hl : lv_has ls 8 [(6, .int rn), (5, .int r), (4, .int i), (3, .ref o), (2, .ref aM), (1, .ref aC), (0, .ref b)] := hl
      exact lv_goto hx hb dLaw_224 (tgt := 410) rfl (next ls H locs _ _ (by omega) (by omega) hC hM hO hS (lv_sub hl [2, 3, 4, 5, 6] rfl))
    by_cases w4 : w.toInt = 4
    · refine lv_tableIn hx hb dLaw_51 (by omega) (by omega) (off := 176) (by rw [w4]; rfl) (tgt := 227) rfl ?_
      refine lv_aload_n hx hb dLaw_227 rfl (lv_at hl 3 rfl) ?_
      refine lv_aload_n hx hb dLaw_228 rfl (lv_at hl 4 rfl) ?_
      refine lv_iload hx hb dLaw_229 (lv_at hl 0 rfl) ?_
      refine lv_iconst hx hb dLaw_231 rfl ?_
      refine lv_iadd hx hb dLaw_232 ?_
      refine va_sld hx hb hX hbl hbA hS hin1 dLaw_233 ?_
      refine lv_aload_n hx hb dLaw_234 rfl (lv_at hl 4 rfl) ?_
      refine lv_iload hx hb dLaw_235 (lv_at hl 0 rfl) ?_
      refine lv_iconst hx hb dLaw_237 rfl ?_
      refine lv_iadd hx hb dLaw_238 ?_
      refine va_sld hx hb hX hbl hbA hS hin2 dLaw_239 ?_
      refine lv_aload_n hx hb dLaw_240 rfl (lv_at hl 4 rfl) ?_
      refine lv_iload hx hb dLaw_241 (lv_at hl 0 rfl) ?_
      refine lv_iconst hx hb dLaw_243 rfl ?_
      refine lv_iadd hx hb dLaw_244 ?_
      refine va_sld hx hb hX hbl hbA hS hin3 dLaw_245 ?_
      refine lv_aload_n hx hb dLaw_246 rfl (lv_at hl 4 rfl) ?_
      refine lv_iload hx hb dLaw_247 (lv_at hl 0 rfl) ?_
      refine lv_iconst hx hb dLaw_249 rfl ?_
      refine lv_iadd hx hb dLaw_250 ?_
      refine va_sld hx hb hX hbl hbA hS hin4 dLaw_251 ?_
      refine lw_call (A := fun q => s.heap.size ≤ q) (As := [.int _, .int _, .int _, .int _]) (rest := []) S (sC_predictor _ _ _ _ hC haC) rfl rfl (List.mem_of_getElem? (i := 112) rfl) ⟨inT_ok (i := 380) (by decide +kernel), inT_ok (i := 381) (by decide +kernel), inT_ok (i := 382) (by decide +kernel)⟩ (recvC hC haC hK) ⟨by decide, by decide⟩ ⟨by show 71 + n ≤ 601024; omega, by show 81699 + 6 * n ≤ 7293000; omega⟩ (tyL.toC hK) gC_ok (fun U hU hW => (gAll _ hAC hS U hU hW).1) (fun q hq => hq.elim (hAC q) (fun z => Nat.le_trans hS.1 z)) hS rfl hl.1 (Nat.le_of_ble_eq_true rfl) dLaw_252 fun r H locs hr hC hS hk => ?_
      have hM := hM.kept fun q hq => hk q (hM.lt q hq) (fun z => hCM q z hq)
      have hO := hO.kept (hk o hO.lt hoC)
      obtain ⟨rn, rfl, hrr⟩ := hr
      refine lv_aload_n hx hb dLaw_255 rfl (lv_at hl 2 rfl) ?_
      refine lv_aload_n hx hb dLaw_256 rfl (lv_at hl 4 rfl) ?_
      refine lv_iload hx hb dLaw_257 (lv_at hl 0 rfl) ?_
      refine lv_iconst hx hb dLaw_259 rfl ?_
      refine lv_iadd hx hb dLaw_260 ?_
      refine va_sld hx hb hX hbl hbA hS hin1 dLaw_261 ?_
      refine lv_aload_n hx hb dLaw_262 rfl (lv_at hl 4 rfl) ?_
      refine lv_iload hx hb dLaw_263 (lv_at hl 0 rfl) ?_
      refine lv_iconst hx hb dLaw_265 rfl ?_
      refine lv_iadd hx hb dLaw_266 ?_
      refine va_sld hx hb hX hbl hbA hS hin2 dLaw_267 ?_
      refine lv_aload_n hx hb dLaw_268 rfl (lv_at hl 4 rfl) ?_
      refine lv_iload hx hb dLaw_269 (lv_at hl 0 rfl) ?_
      refine lv_iconst hx hb dLaw_271 rfl ?_
      refine lv_iadd hx hb dLaw_272 ?_
      refine va_sld hx hb hX hbl hbA hS hin3 dLaw_273 ?_
      refine lv_aload_n hx hb dLaw_274 rfl (lv_at hl 4 rfl) ?_
      refine lv_iload hx hb dLaw_275 (lv_at hl 0 rfl) ?_
      refine lv_iconst hx hb dLaw_277 rfl ?_
      refine lv_iadd hx hb dLaw_278 ?_
      refine va_sld hx hb hX hbl hbA hS hin4 dLaw_279 ?_
      refine lw_call (A := fun q => s.heap.size ≤ q) (As := [.int _, .int _, .int _, .int _]) (rest := [.int rn]) S (sM_predictor _ _ _ _ hM haM) rfl rfl (List.mem_of_getElem? (i := 199) rfl) ⟨inT_ok (i := 1432) (by decide +kernel), inT_ok (i := 1433) (by decide +kernel), inT_ok (i := 1434) (by decide +kernel)⟩ (recvM hM haM hK) ⟨by decide, by decide⟩ ⟨by show 71 + n ≤ 601024; omega, by show 81699 + 6 * n ≤ 7293000; omega⟩ (tyL.toC hK) gM_ok (fun _ _ _ => trivial) (fun q hq => hq.elim (hAM q) (fun z => Nat.le_trans hS.1 z)) hS rfl hl.1 (Nat.le_of_ble_eq_true rfl) dLaw_280 fun r H locs hr hM hS hk => ?_
      have hC := hC.kept fun q hq => hk q (hC.lt q hq) (hCM q hq)
      have hO := hO.kept (hk o hO.lt hoM)
      obtain ⟨rm, rfl, hrm⟩ := hr
      refine lv_icmp_eq hx hb dLaw_283 (tgt := 410) rfl (fun _ => next ls H locs (71 + n) (81699 + 6 * n) (by omega) (by omega) hC hM hO hS hl) (fun hne => (hne (Int32.toInt_inj.mp (hrr.trans hrm.symm))).elim)
    by_cases w5 : w.toInt = 5
    · refine lv_tableIn hx hb dLaw_51 (by omega) (by omega) (off := 237) (by rw [w5]; rfl) (tgt := 288) rfl ?_
      refine lv_aload_n hx hb dLaw_288 rfl (lv_at hl 3 rfl) ?_
      refine lv_aload_n hx hb dLaw_289 rfl (lv_at hl 4 rfl) ?_
      refine lv_iload hx hb dLaw_290 (lv_at hl 0 rfl) ?_
      refine lv_iconst hx hb dLaw_292 rfl ?_
      refine lv_iadd hx hb dLaw_293 ?_
      refine va_sld hx hb hX hbl hbA hS hin1 dLaw_294 ?_
      refine lw_call (A := fun q => s.heap.size ≤ q) (As := [.int _]) (rest := []) S (sC_table _ hC haC) rfl rfl (List.mem_of_getElem? (i := 113) rfl) ⟨inT_ok (i := 391) (by decide +kernel), inT_ok (i := 392) (by decide +kernel), inT_ok (i := 393) (by decide +kernel)⟩ (recvC hC haC hK) ⟨by decide, by decide⟩ ⟨by show 71 + n ≤ 601024; omega, by show 81699 + 6 * n ≤ 7293000; omega⟩ (tyL.toC hK) gC_ok (fun U hU hW => (gAll _ hAC hS U hU hW).1) (fun q hq => hq.elim (hAC q) (fun z => Nat.le_trans hS.1 z)) hS rfl hl.1 (Nat.le_of_ble_eq_true rfl) dLaw_295 fun r H locs hr hC hS hk => ?_
      have hM := hM.kept fun q hq => hk q (hM.lt q hq) (fun z => hCM q z hq)
      have hO := hO.kept (hk o hO.lt hoC)
      obtain ⟨rn, rfl⟩ := hr
      refine lv_pop hx hb dLaw_298 rfl ?_
      refine lv_aload_n hx hb dLaw_299 rfl (lv_at hl 2 rfl) ?_
      refine lv_aload_n hx hb dLaw_300 rfl (lv_at hl 4 rfl) ?_
      refine lv_iload hx hb dLaw_301 (lv_at hl 0 rfl) ?_
      refine lv_iconst hx hb dLaw_303 rfl ?_
      refine lv_iadd hx hb dLaw_304 ?_
      refine va_sld hx hb hX hbl hbA hS hin1 dLaw_305 ?_
      refine lw_call (A := fun q => s.heap.size ≤ q) (As := [.int _]) (rest := []) S (sM_table _ hM haM) rfl rfl (List.mem_of_getElem? (i := 200) rfl) ⟨inT_ok (i := 1436) (by decide +kernel), inT_ok (i := 1437) (by decide +kernel), inT_ok (i := 1438) (by decide +kernel)⟩ (recvM hM haM hK) ⟨by decide, by decide⟩ ⟨by show 71 + n ≤ 601024; omega, by show 81699 + 6 * n ≤ 7293000; omega⟩ (tyL.toC hK) gM_ok (fun _ _ _ => trivial) (fun q hq => hq.elim (hAM q) (fun z => Nat.le_trans hS.1 z)) hS rfl hl.1 (Nat.le_of_ble_eq_true rfl) dLaw_306 fun r H locs hr hM hS hk => ?_
      have hC := hC.kept fun q hq => hk q (hC.lt q hq) (hCM q hq)
      have hO := hO.kept (hk o hO.lt hoM)
      obtain ⟨rn, rfl⟩ := hr
      refine lv_pop hx hb dLaw_309 rfl ?_
      exact lv_goto hx hb dLaw_310 (tgt := 410) rfl (next ls H locs _ _ (by omega) (by omega) hC hM hO hS (lv_sub hl [0, 1, 2, 3, 4] rfl))
    by_cases w6 : w.toInt = 6
    · refine lv_tableIn hx hb dLaw_51 (by omega) (by omega) (off := 262) (by rw [w6]; rfl) (tgt := 313) rfl ?_
      refine lv_aload_n hx hb dLaw_313 rfl (lv_at hl 3 rfl) ?_
      refine lv_aload_n hx hb dLaw_314 rfl (lv_at hl 4 rfl) ?_
      refine lv_iload hx hb dLaw_315 (lv_at hl 0 rfl) ?_
      refine lv_iconst hx hb dLaw_317 rfl ?_
      refine lv_iadd hx hb dLaw_318 ?_
      refine va_sld hx hb hX hbl hbA hS hin1 dLaw_319 ?_
      refine lv_aload_n hx hb dLaw_320 rfl (lv_at hl 1 rfl) ?_
      refine lw_wrap (n := 3) (A := fun q => s.heap.size ≤ q) (xs := [.ref aC, .int _, .ref o]) (rest := []) S (wr_sum hl0 _ hC haC hO hoC) rfl ⟨inT_ok (i := 984) (by decide +kernel), inT_ok (i := 985) (by decide +kernel), inT_ok (i := 986) (by decide +kernel)⟩ (by decide) ⟨by decide, by decide⟩ ⟨by show 71 + n + 1 ≤ 601024; omega, by show 81699 + 6 * n + 6 ≤ 7293000; omega⟩ hK (fun U hU hW => gAll _ hACo hS U hU hW) (fun q hq => hq.elim (hACo q) (fun z => Nat.le_trans hS.1 z)) hS rfl hl.1 (Nat.le_of_ble_eq_true rfl) dLaw_321 fun r H locs hC hO hS hk => ?_
      have hM := hM.kept fun q hq => hk q (hM.lt q hq) (fun z => hCM q z hq) (fun z => hoM (z ▸ hq))
      refine lv_istore hx hb dLaw_324 hl (by decide) rfl fun ls hl => ?_
      have hl : lv_has ls 8 [(5, .int r), (4, .int i), (3, .ref o), (2, .ref aM), (1, .ref aC), (0, .ref b)] := hl
      refine lv_aload_n hx hb dLaw_326 rfl (lv_at hl 3 rfl) ?_
      refine lv_aload_n hx hb dLaw_327 rfl (lv_at hl 5 rfl) ?_
      refine lv_iload hx hb dLaw_328 (lv_at hl 1 rfl) ?_
      refine lv_iconst hx hb dLaw_330 rfl ?_
      refine lv_iadd hx hb dLaw_331 ?_
      refine va_sld hx hb hX hbl hbA hS hin1 dLaw_332 ?_
      refine lw_call (A := fun q => s.heap.size ≤ q) (As := [.int _]) (rest := []) S (sM_sum _ hM haM) rfl rfl (List.mem_of_getElem? (i := 201) rfl) ⟨inT_ok (i := 1440) (by decide +kernel), inT_ok (i := 1441) (by decide +kernel), inT_ok (i := 1442) (by decide +kernel)⟩ (recvM hM haM hK) ⟨by decide, by decide⟩ ⟨by show 71 + n + 1 ≤ 601024; omega, by show 81699 + 6 * n + 6 ≤ 7293000; omega⟩ (tyL.toC hK) gM_ok (fun _ _ _ => trivial) (fun q hq => hq.elim (hAM q) (fun z => Nat.le_trans hS.1 z)) hS rfl hl.1 (Nat.le_of_ble_eq_true rfl) dLaw_333 fun r H locs hr hM hS hk => ?_
      have hC := hC.kept fun q hq => hk q (hC.lt q hq) (hCM q hq)
      have hO := hO.kept (hk o hO.lt hoM)
      obtain ⟨rn, rfl⟩ := hr
      refine lv_lstore hx hb dLaw_336 hl (by decide) rfl fun ls hl => ?_
      have hl : lv_has ls 8 [(6, .long rn), (5, .int r), (4, .int i), (3, .ref o), (2, .ref aM), (1, .ref aC), (0, .ref b)] := hl
      exact lv_goto hx hb dLaw_338 (tgt := 410) rfl (next ls H locs _ _ (by omega) (by omega) hC hM hO hS (lv_sub hl [2, 3, 4, 5, 6] rfl))
    by_cases w7 : w.toInt = 7
    · refine lv_tableIn hx hb dLaw_51 (by omega) (by omega) (off := 290) (by rw [w7]; rfl) (tgt := 341) rfl ?_
      refine lv_aload_n hx hb dLaw_341 rfl (lv_at hl 3 rfl) ?_
      refine lw_call (A := fun q => s.heap.size ≤ q) (As := []) (rest := []) S (sC_differs hC haC) rfl rfl (List.mem_of_getElem? (i := 115) rfl) ⟨inT_ok (i := 396) (by decide +kernel), inT_ok (i := 397) (by decide +kernel), inT_ok (i := 398) (by decide +kernel)⟩ (recvC hC haC hK) ⟨by decide, by decide⟩ ⟨by show 71 + n ≤ 601024; omega, by show 81699 + 6 * n ≤ 7293000; omega⟩ (tyL.toC hK) gC_ok (fun U hU hW => (gAll _ hAC hS U hU hW).1) (fun q hq => hq.elim (hAC q) (fun z => Nat.le_trans hS.1 z)) hS rfl hl.1 (Nat.le_of_ble_eq_true rfl) dLaw_342 fun r H locs hr hC hS hk => ?_
      have hM := hM.kept fun q hq => hk q (hM.lt q hq) (fun z => hCM q z hq)
      have hO := hO.kept (hk o hO.lt hoC)
      obtain ⟨rn, rfl⟩ := hr
      refine lv_pop hx hb dLaw_345 rfl ?_
      refine lv_aload_n hx hb dLaw_346 rfl (lv_at hl 2 rfl) ?_
      refine lw_call (A := fun q => s.heap.size ≤ q) (As := []) (rest := []) S (sM_differs hM haM) rfl rfl (List.mem_of_getElem? (i := 202) rfl) ⟨inT_ok (i := 1450) (by decide +kernel), inT_ok (i := 1451) (by decide +kernel), inT_ok (i := 1452) (by decide +kernel)⟩ (recvM hM haM hK) ⟨by decide, by decide⟩ ⟨by show 71 + n ≤ 601024; omega, by show 81699 + 6 * n ≤ 7293000; omega⟩ (tyL.toC hK) gM_ok (fun _ _ _ => trivial) (fun q hq => hq.elim (hAM q) (fun z => Nat.le_trans hS.1 z)) hS rfl hl.1 (Nat.le_of_ble_eq_true rfl) dLaw_347 fun r H locs hr hM hS hk => ?_
      have hC := hC.kept fun q hq => hk q (hC.lt q hq) (hCM q hq)
      have hO := hO.kept (hk o hO.lt hoM)
      obtain ⟨rn, rfl⟩ := hr
      refine lv_pop hx hb dLaw_350 rfl ?_
      exact lv_goto hx hb dLaw_351 (tgt := 410) rfl (next ls H locs _ _ (by omega) (by omega) hC hM hO hS (lv_sub hl [0, 1, 2, 3, 4] rfl))
    by_cases w8 : w.toInt = 8
    · refine lv_tableIn hx hb dLaw_51 (by omega) (by omega) (off := 303) (by rw [w8]; rfl) (tgt := 354) rfl ?_
      refine lv_aload_n hx hb dLaw_354 rfl (lv_at hl 3 rfl) ?_
      refine lv_aload_n hx hb dLaw_355 rfl (lv_at hl 4 rfl) ?_
      refine lv_iload hx hb dLaw_356 (lv_at hl 0 rfl) ?_
      refine lv_iconst hx hb dLaw_358 rfl ?_
      refine lv_iadd hx hb dLaw_359 ?_
      refine va_sld hx hb hX hbl hbA hS hin1 dLaw_360 ?_
      refine lv_aload_n hx hb dLaw_361 rfl (lv_at hl 1 rfl) ?_
      refine lw_wrap (n := 3) (A := fun q => s.heap.size ≤ q) (xs := [.ref aC, .int _, .ref o]) (rest := []) S (wr_chain hl0 _ hC haC hO hoC) rfl ⟨inT_ok (i := 998) (by decide +kernel), inT_ok (i := 999) (by decide +kernel), inT_ok (i := 1000) (by decide +kernel)⟩ (by decide) ⟨by decide, by decide⟩ ⟨by show 71 + n + 1 ≤ 601024; omega, by show 81699 + 6 * n + 6 ≤ 7293000; omega⟩ hK (fun U hU hW => gAll _ hACo hS U hU hW) (fun q hq => hq.elim (hACo q) (fun z => Nat.le_trans hS.1 z)) hS rfl hl.1 (Nat.le_of_ble_eq_true rfl) dLaw_362 fun r H locs hC hO hS hk => ?_
      have hM := hM.kept fun q hq => hk q (hM.lt q hq) (fun z => hCM q z hq) (fun z => hoM (z ▸ hq))
      refine lv_istore hx hb dLaw_365 hl (by decide) rfl fun ls hl => ?_
      have hl : lv_has ls 8 [(5, .int r), (4, .int i), (3, .ref o), (2, .ref aM), (1, .ref aC), (0, .ref b)] := hl
      refine lv_aload_n hx hb dLaw_367 rfl (lv_at hl 3 rfl) ?_
      refine lv_aload_n hx hb dLaw_368 rfl (lv_at hl 5 rfl) ?_
      refine lv_iload hx hb dLaw_369 (lv_at hl 1 rfl) ?_
      refine lv_iconst hx hb dLaw_371 rfl ?_
      refine lv_iadd hx hb dLaw_372 ?_
      refine va_sld hx hb hX hbl hbA hS hin1 dLaw_373 ?_
      refine lw_call (A := fun q => s.heap.size ≤ q) (As := [.int _]) (rest := []) S (sM_chain _ hM haM) rfl rfl (List.mem_of_getElem? (i := 174) rfl) ⟨inT_ok (i := 1330) (by decide +kernel), inT_ok (i := 1331) (by decide +kernel), inT_ok (i := 1332) (by decide +kernel)⟩ (recvM hM haM hK) ⟨by decide, by decide⟩ ⟨by show 71 + n + 1 ≤ 601024; omega, by show 81699 + 6 * n + 6 ≤ 7293000; omega⟩ (tyL.toC hK) gM_ok (fun _ _ _ => trivial) (fun q hq => hq.elim (hAM q) (fun z => Nat.le_trans hS.1 z)) hS rfl hl.1 (Nat.le_of_ble_eq_true rfl) dLaw_374 fun r H locs hr hM hS hk => ?_
      have hC := hC.kept fun q hq => hk q (hC.lt q hq) (hCM q hq)
      have hO := hO.kept (hk o hO.lt hoM)
      obtain ⟨rn, rfl⟩ := hr
      refine lv_istore hx hb dLaw_377 hl (by decide) rfl fun ls hl => ?_
      have hl : lv_has ls 8 [(6, .int rn), (5, .int r), (4, .int i), (3, .ref o), (2, .ref aM), (1, .ref aC), (0, .ref b)] := hl
      exact lv_goto hx hb dLaw_379 (tgt := 410) rfl (next ls H locs _ _ (by omega) (by omega) hC hM hO hS (lv_sub hl [2, 3, 4, 5, 6] rfl))
    by_cases w9 : w.toInt = 9
    · refine lv_tableIn hx hb dLaw_51 (by omega) (by omega) (off := 331) (by rw [w9]; rfl) (tgt := 382) rfl ?_
      refine lv_aload_n hx hb dLaw_382 rfl (lv_at hl 3 rfl) ?_
      refine lv_aload_n hx hb dLaw_383 rfl (lv_at hl 4 rfl) ?_
      refine lv_iload hx hb dLaw_384 (lv_at hl 0 rfl) ?_
      refine lv_iconst hx hb dLaw_386 rfl ?_
      refine lv_iadd hx hb dLaw_387 ?_
      refine va_sld hx hb hX hbl hbA hS hin1 dLaw_388 ?_
      refine lv_aload_n hx hb dLaw_389 rfl (lv_at hl 1 rfl) ?_
      refine lw_wrap (n := 3) (A := fun q => s.heap.size ≤ q) (xs := [.ref aC, .int _, .ref o]) (rest := []) S (wr_cell hl0 _ hC haC hO hoC) rfl ⟨inT_ok (i := 1013) (by decide +kernel), inT_ok (i := 1014) (by decide +kernel), inT_ok (i := 1015) (by decide +kernel)⟩ (by decide) ⟨by decide, by decide⟩ ⟨by show 71 + n + 1 ≤ 601024; omega, by show 81699 + 6 * n + 6 ≤ 7293000; omega⟩ hK (fun U hU hW => gAll _ hACo hS U hU hW) (fun q hq => hq.elim (hACo q) (fun z => Nat.le_trans hS.1 z)) hS rfl hl.1 (Nat.le_of_ble_eq_true rfl) dLaw_390 fun r H locs hC hO hS hk => ?_
      have hM := hM.kept fun q hq => hk q (hM.lt q hq) (fun z => hCM q z hq) (fun z => hoM (z ▸ hq))
      refine lv_istore hx hb dLaw_393 hl (by decide) rfl fun ls hl => ?_
      have hl : lv_has ls 8 [(5, .int r), (4, .int i), (3, .ref o), (2, .ref aM), (1, .ref aC), (0, .ref b)] := hl
      refine lv_aload_n hx hb dLaw_395 rfl (lv_at hl 3 rfl) ?_
      refine lv_aload_n hx hb dLaw_396 rfl (lv_at hl 5 rfl) ?_
      refine lv_iload hx hb dLaw_397 (lv_at hl 1 rfl) ?_
      refine lv_iconst hx hb dLaw_399 rfl ?_
      refine lv_iadd hx hb dLaw_400 ?_
      refine va_sld hx hb hX hbl hbA hS hin1 dLaw_401 ?_
      refine lw_call (A := fun q => s.heap.size ≤ q) (As := [.int _]) (rest := []) S (sM_cell _ hM haM) rfl rfl (List.mem_of_getElem? (i := 203) rfl) ⟨inT_ok (i := 1454) (by decide +kernel), inT_ok (i := 1455) (by decide +kernel), inT_ok (i := 1456) (by decide +kernel)⟩ (recvM hM haM hK) ⟨by decide, by decide⟩ ⟨by show 71 + n + 1 ≤ 601024; omega, by show 81699 + 6 * n + 6 ≤ 7293000; omega⟩ (tyL.toC hK) gM_ok (fun _ _ _ => trivial) (fun q hq => hq.elim (hAM q) (fun z => Nat.le_trans hS.1 z)) hS rfl hl.1 (Nat.le_of_ble_eq_true rfl) dLaw_402 fun r H locs hr hM hS hk => ?_
      have hC := hC.kept fun q hq => hk q (hC.lt q hq) (hCM q hq)
      have hO := hO.kept (hk o hO.lt hoM)
      obtain ⟨rn, rfl⟩ := hr
      refine lv_istore hx hb dLaw_405 hl (by decide) rfl fun ls hl => ?_
      have hl : lv_has ls 8 [(6, .int rn), (5, .int r), (4, .int i), (3, .ref o), (2, .ref aM), (1, .ref aC), (0, .ref b)] := hl
      exact lv_goto hx hb dLaw_407 (tgt := 410) rfl (next ls H locs _ _ (by omega) (by omega) hC hM hO hS (lv_sub hl [2, 3, 4, 5, 6] rfl))
    exact lv_tableOut hx hb dLaw_51 (Or.inr (by omega)) (tgt := 410) rfl (next ls H locs _ _ (by omega) (by omega) hC hM hO hS hl)
end Loop
