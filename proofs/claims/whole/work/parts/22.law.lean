section ZL1
variable {D : va_G} {cI cJ cM cS : ClassId} {n0 : Nat} {p : Program} {l : Launch} {e : Env} {R : Room} {s : State} {m : MethodId} {args : Array Value} {below : List Frame} {meth : Method} {c : Code} {cc : ByteArray} {nL : Nat} {own : String} {Q : State → Prop} {cells slots pc : Nat} {L L' : List (Nat × Value)} {st : List Value} {σ : z_S} {b Ln : Nat} {xs : Nat → Int32}
theorem zl_sld (hX : z_X D cI cJ cM cS p s m args c cc nL own) (hx : va_X b Ln xs s s.heap) (hbl : b < s.heap.size) (hbA : ¬ z_Ab n0 b) (hd : decode cc pc = .ok (.iaload, 1)) {i : Int32} (hi : vp_in i Ln) (kk : z_t D cI cJ cM cS n0 p l e R s m args below meth c nL Q cells slots (pc + 1) L (.int (xs i.toNatClampNeg) :: st) σ) : z_t D cI cJ cM cS n0 p l e R s m args below meth c nL Q cells slots pc L (.int i :: .ref b :: st) σ := fun hN H locs ls hl hR hS => va_sld hX.1.1 hX.1.2.1 hx hbl hbA hS hi hd (kk hN H locs ls hl hR hS)
theorem zl_slen (hX : z_X D cI cJ cM cS p s m args c cc nL own) (hx : va_X b Ln xs s s.heap) (hbl : b < s.heap.size) (hbA : ¬ z_Ab n0 b) (hd : decode cc pc = .ok (.arraylength, 1)) (kk : z_t D cI cJ cM cS n0 p l e R s m args below meth c nL Q cells slots (pc + 1) L (.int (Int32.ofNat Ln) :: st) σ) : z_t D cI cJ cM cS n0 p l e R s m args below meth c nL Q cells slots pc L (.ref b :: st) σ := fun hN H locs ls hl hR hS => va_slen hX.1.1 hX.1.2.1 hx hbl hbA hS hd (kk hN H locs ls hl hR hS)
theorem zt_cs {c1 s1 : Nat} (h1 : cells = c1) (h2 : slots = s1) (kk : z_t D cI cJ cM cS n0 p l e R s m args below meth c nL Q c1 s1 pc L st σ) : z_t D cI cJ cM cS n0 p l e R s m args below meth c nL Q cells slots pc L st σ := h1 ▸ h2 ▸ kk
end ZL1
theorem zl_end {D : va_G} {cI cJ cM cS : ClassId} {n0 : Nat} {p : Program} {l : Launch} {e : Env} {s : State} {m : MethodId} {b : Nat} {below : List Frame} {meth : Method} {c : Code} {cells slots pc : Nat} {L : List (Nat × Value)} {σ : z_S} (hX : z_X D cI cJ cM cS p s m #[Value.ref b] c cL_law 4 RL) (hY : z_Y s meth ret) (hn0 : n0 = s.heap.size) (hc : cells ≤ 600000) (hs : slots ≤ 7302250) (hd : decode cL_law pc = .ok (.ireturn, 1)) : z_t D cI cJ cM cS n0 p l e room_1 s m #[Value.ref b] below meth c 4 (lw_Z below #[Value.ref b] s) cells slots pc L [.int 1] σ := fun hN H locs ls hl hR hS => by
  refine va_forget (fun q hq => by have := hS.2.2 q hq; rw [← hn0]; exact this) ?_
  refine W.widen hc hs ?_
  exact lw_ret (d0 := s.drawn) (Drawn.sameBut.refl s.drawn lw_cs) hX.1.1 hX.1.2.1 hY.2.1 hY.2.2 hd

theorem dL_law_0 : decode cL_law 0 = .ok (.new 7, 3) := by decide +kernel
theorem dL_law_3 : decode cL_law 3 = .ok (.dup, 1) := by decide +kernel
theorem dL_law_4 : decode cL_law 4 = .ok (.invokespecial 9, 3) := by decide +kernel
theorem dL_law_7 : decode cL_law 7 = .ok (.astore_n 1, 1) := by decide +kernel
theorem dL_law_8 : decode cL_law 8 = .ok (.new 10, 3) := by decide +kernel
theorem dL_law_11 : decode cL_law 11 = .ok (.dup, 1) := by decide +kernel
theorem dL_law_12 : decode cL_law 12 = .ok (.invokespecial 12, 3) := by decide +kernel
theorem dL_law_15 : decode cL_law 15 = .ok (.astore_n 2, 1) := by decide +kernel
theorem dL_law_16 : decode cL_law 16 = .ok (.iconst 0, 1) := by decide +kernel
theorem dL_law_17 : decode cL_law 17 = .ok (.istore_n 3, 1) := by decide +kernel
theorem dL_law_18 : decode cL_law 18 = .ok (.iload_n 3, 1) := by decide +kernel
theorem dL_law_19 : decode cL_law 19 = .ok (.aload_n 0, 1) := by decide +kernel
theorem dL_law_20 : decode cL_law 20 = .ok (.arraylength, 1) := by decide +kernel
theorem dL_law_21 : decode cL_law 21 = .ok (.iconst 4, 1) := by decide +kernel
theorem dL_law_22 : decode cL_law 22 = .ok (.isub, 1) := by decide +kernel
theorem dL_law_23 : decode cL_law 23 = .ok (.if_icmp .gt 1221, 3) := by decide +kernel
theorem dL_law_26 : decode cL_law 26 = .ok (.aload_n 0, 1) := by decide +kernel
theorem dL_law_27 : decode cL_law 27 = .ok (.iload_n 3, 1) := by decide +kernel
theorem dL_law_28 : decode cL_law 28 = .ok (.iaload, 1) := by decide +kernel
theorem dL_law_29 : decode cL_law 29 = .ok (.bipush 63, 2) := by decide +kernel
theorem dL_law_31 : decode cL_law 31 = .ok (.iand, 1) := by decide +kernel
theorem dL_law_32 : decode cL_law 32 = .ok (.tableswitch 1206 0 36 #[164, 187, 230, 273, 306, 319, 352, 385, 428, 471, 504, 537, 570, 603, 636, 669, 702, 735, 768, 801, 834, 867, 890, 913, 936, 979, 1002, 1015, 1028, 1061, 1104, 1117, 1130, 1153, 1166, 1179, 1192], 164) := by decide +kernel
theorem dL_law_196 : decode cL_law 196 = .ok (.aload_n 1, 1) := by decide +kernel
theorem dL_law_197 : decode cL_law 197 = .ok (.aload_n 0, 1) := by decide +kernel
theorem dL_law_198 : decode cL_law 198 = .ok (.iload_n 3, 1) := by decide +kernel
theorem dL_law_199 : decode cL_law 199 = .ok (.iconst 1, 1) := by decide +kernel
theorem dL_law_200 : decode cL_law 200 = .ok (.iadd, 1) := by decide +kernel
theorem dL_law_201 : decode cL_law 201 = .ok (.iaload, 1) := by decide +kernel
theorem dL_law_202 : decode cL_law 202 = .ok (.invokevirtual 13, 3) := by decide +kernel
theorem dL_law_205 : decode cL_law 205 = .ok (.aload_n 2, 1) := by decide +kernel
theorem dL_law_206 : decode cL_law 206 = .ok (.aload_n 0, 1) := by decide +kernel
theorem dL_law_207 : decode cL_law 207 = .ok (.iload_n 3, 1) := by decide +kernel
theorem dL_law_208 : decode cL_law 208 = .ok (.iconst 1, 1) := by decide +kernel
theorem dL_law_209 : decode cL_law 209 = .ok (.iadd, 1) := by decide +kernel
theorem dL_law_210 : decode cL_law 210 = .ok (.iaload, 1) := by decide +kernel
theorem dL_law_211 : decode cL_law 211 = .ok (.invokevirtual 17, 3) := by decide +kernel
theorem dL_law_214 : decode cL_law 214 = .ok (.if_icmp .eq 1024, 3) := by decide +kernel
theorem dL_law_217 : decode cL_law 217 = .ok (.iconst 0, 1) := by decide +kernel
theorem dL_law_218 : decode cL_law 218 = .ok (.ireturn, 1) := by decide +kernel
theorem dL_law_219 : decode cL_law 219 = .ok (.aload_n 1, 1) := by decide +kernel
theorem dL_law_220 : decode cL_law 220 = .ok (.aload_n 0, 1) := by decide +kernel
theorem dL_law_221 : decode cL_law 221 = .ok (.iload_n 3, 1) := by decide +kernel
theorem dL_law_222 : decode cL_law 222 = .ok (.iconst 1, 1) := by decide +kernel
theorem dL_law_223 : decode cL_law 223 = .ok (.iadd, 1) := by decide +kernel
theorem dL_law_224 : decode cL_law 224 = .ok (.iaload, 1) := by decide +kernel
theorem dL_law_225 : decode cL_law 225 = .ok (.aload_n 0, 1) := by decide +kernel
theorem dL_law_226 : decode cL_law 226 = .ok (.iload_n 3, 1) := by decide +kernel
theorem dL_law_227 : decode cL_law 227 = .ok (.iconst 2, 1) := by decide +kernel
theorem dL_law_228 : decode cL_law 228 = .ok (.iadd, 1) := by decide +kernel
theorem dL_law_229 : decode cL_law 229 = .ok (.iaload, 1) := by decide +kernel
theorem dL_law_230 : decode cL_law 230 = .ok (.aload_n 0, 1) := by decide +kernel
theorem dL_law_231 : decode cL_law 231 = .ok (.iload_n 3, 1) := by decide +kernel
theorem dL_law_232 : decode cL_law 232 = .ok (.iconst 3, 1) := by decide +kernel
theorem dL_law_233 : decode cL_law 233 = .ok (.iadd, 1) := by decide +kernel
theorem dL_law_234 : decode cL_law 234 = .ok (.iaload, 1) := by decide +kernel
theorem dL_law_235 : decode cL_law 235 = .ok (.invokevirtual 18, 3) := by decide +kernel
theorem dL_law_238 : decode cL_law 238 = .ok (.aload_n 2, 1) := by decide +kernel
theorem dL_law_239 : decode cL_law 239 = .ok (.aload_n 0, 1) := by decide +kernel
theorem dL_law_240 : decode cL_law 240 = .ok (.iload_n 3, 1) := by decide +kernel
theorem dL_law_241 : decode cL_law 241 = .ok (.iconst 1, 1) := by decide +kernel
theorem dL_law_242 : decode cL_law 242 = .ok (.iadd, 1) := by decide +kernel
theorem dL_law_243 : decode cL_law 243 = .ok (.iaload, 1) := by decide +kernel
theorem dL_law_244 : decode cL_law 244 = .ok (.aload_n 0, 1) := by decide +kernel
theorem dL_law_245 : decode cL_law 245 = .ok (.iload_n 3, 1) := by decide +kernel
theorem dL_law_246 : decode cL_law 246 = .ok (.iconst 2, 1) := by decide +kernel
theorem dL_law_247 : decode cL_law 247 = .ok (.iadd, 1) := by decide +kernel
theorem dL_law_248 : decode cL_law 248 = .ok (.iaload, 1) := by decide +kernel
theorem dL_law_249 : decode cL_law 249 = .ok (.aload_n 0, 1) := by decide +kernel
theorem dL_law_250 : decode cL_law 250 = .ok (.iload_n 3, 1) := by decide +kernel
theorem dL_law_251 : decode cL_law 251 = .ok (.iconst 3, 1) := by decide +kernel
theorem dL_law_252 : decode cL_law 252 = .ok (.iadd, 1) := by decide +kernel
theorem dL_law_253 : decode cL_law 253 = .ok (.iaload, 1) := by decide +kernel
theorem dL_law_254 : decode cL_law 254 = .ok (.invokevirtual 22, 3) := by decide +kernel
theorem dL_law_257 : decode cL_law 257 = .ok (.if_icmp .eq 981, 3) := by decide +kernel
theorem dL_law_260 : decode cL_law 260 = .ok (.iconst 0, 1) := by decide +kernel
theorem dL_law_261 : decode cL_law 261 = .ok (.ireturn, 1) := by decide +kernel
theorem dL_law_262 : decode cL_law 262 = .ok (.aload_n 1, 1) := by decide +kernel
theorem dL_law_263 : decode cL_law 263 = .ok (.aload_n 0, 1) := by decide +kernel
theorem dL_law_264 : decode cL_law 264 = .ok (.iload_n 3, 1) := by decide +kernel
theorem dL_law_265 : decode cL_law 265 = .ok (.iconst 1, 1) := by decide +kernel
theorem dL_law_266 : decode cL_law 266 = .ok (.iadd, 1) := by decide +kernel
theorem dL_law_267 : decode cL_law 267 = .ok (.iaload, 1) := by decide +kernel
theorem dL_law_268 : decode cL_law 268 = .ok (.aload_n 0, 1) := by decide +kernel
theorem dL_law_269 : decode cL_law 269 = .ok (.iload_n 3, 1) := by decide +kernel
theorem dL_law_270 : decode cL_law 270 = .ok (.iconst 2, 1) := by decide +kernel
theorem dL_law_271 : decode cL_law 271 = .ok (.iadd, 1) := by decide +kernel
theorem dL_law_272 : decode cL_law 272 = .ok (.iaload, 1) := by decide +kernel
theorem dL_law_273 : decode cL_law 273 = .ok (.aload_n 0, 1) := by decide +kernel
theorem dL_law_274 : decode cL_law 274 = .ok (.iload_n 3, 1) := by decide +kernel
theorem dL_law_275 : decode cL_law 275 = .ok (.iconst 3, 1) := by decide +kernel
theorem dL_law_276 : decode cL_law 276 = .ok (.iadd, 1) := by decide +kernel
theorem dL_law_277 : decode cL_law 277 = .ok (.iaload, 1) := by decide +kernel
theorem dL_law_278 : decode cL_law 278 = .ok (.invokevirtual 23, 3) := by decide +kernel
theorem dL_law_281 : decode cL_law 281 = .ok (.aload_n 2, 1) := by decide +kernel
theorem dL_law_282 : decode cL_law 282 = .ok (.aload_n 0, 1) := by decide +kernel
theorem dL_law_283 : decode cL_law 283 = .ok (.iload_n 3, 1) := by decide +kernel
theorem dL_law_284 : decode cL_law 284 = .ok (.iconst 1, 1) := by decide +kernel
theorem dL_law_285 : decode cL_law 285 = .ok (.iadd, 1) := by decide +kernel
theorem dL_law_286 : decode cL_law 286 = .ok (.iaload, 1) := by decide +kernel
theorem dL_law_287 : decode cL_law 287 = .ok (.aload_n 0, 1) := by decide +kernel
theorem dL_law_288 : decode cL_law 288 = .ok (.iload_n 3, 1) := by decide +kernel
theorem dL_law_289 : decode cL_law 289 = .ok (.iconst 2, 1) := by decide +kernel
theorem dL_law_290 : decode cL_law 290 = .ok (.iadd, 1) := by decide +kernel
theorem dL_law_291 : decode cL_law 291 = .ok (.iaload, 1) := by decide +kernel
theorem dL_law_292 : decode cL_law 292 = .ok (.aload_n 0, 1) := by decide +kernel
theorem dL_law_293 : decode cL_law 293 = .ok (.iload_n 3, 1) := by decide +kernel
theorem dL_law_294 : decode cL_law 294 = .ok (.iconst 3, 1) := by decide +kernel
theorem dL_law_295 : decode cL_law 295 = .ok (.iadd, 1) := by decide +kernel
theorem dL_law_296 : decode cL_law 296 = .ok (.iaload, 1) := by decide +kernel
theorem dL_law_297 : decode cL_law 297 = .ok (.invokevirtual 26, 3) := by decide +kernel
theorem dL_law_300 : decode cL_law 300 = .ok (.if_icmp .eq 938, 3) := by decide +kernel
theorem dL_law_303 : decode cL_law 303 = .ok (.iconst 0, 1) := by decide +kernel
theorem dL_law_304 : decode cL_law 304 = .ok (.ireturn, 1) := by decide +kernel
theorem dL_law_305 : decode cL_law 305 = .ok (.aload_n 1, 1) := by decide +kernel
theorem dL_law_306 : decode cL_law 306 = .ok (.aload_n 0, 1) := by decide +kernel
theorem dL_law_307 : decode cL_law 307 = .ok (.iload_n 3, 1) := by decide +kernel
theorem dL_law_308 : decode cL_law 308 = .ok (.iconst 1, 1) := by decide +kernel
theorem dL_law_309 : decode cL_law 309 = .ok (.iadd, 1) := by decide +kernel
theorem dL_law_310 : decode cL_law 310 = .ok (.iaload, 1) := by decide +kernel
theorem dL_law_311 : decode cL_law 311 = .ok (.aload_n 0, 1) := by decide +kernel
theorem dL_law_312 : decode cL_law 312 = .ok (.iload_n 3, 1) := by decide +kernel
theorem dL_law_313 : decode cL_law 313 = .ok (.iconst 2, 1) := by decide +kernel
theorem dL_law_314 : decode cL_law 314 = .ok (.iadd, 1) := by decide +kernel
theorem dL_law_315 : decode cL_law 315 = .ok (.iaload, 1) := by decide +kernel
theorem dL_law_316 : decode cL_law 316 = .ok (.invokevirtual 27, 3) := by decide +kernel
theorem dL_law_319 : decode cL_law 319 = .ok (.aload_n 2, 1) := by decide +kernel
theorem dL_law_320 : decode cL_law 320 = .ok (.aload_n 0, 1) := by decide +kernel
theorem dL_law_321 : decode cL_law 321 = .ok (.iload_n 3, 1) := by decide +kernel
theorem dL_law_322 : decode cL_law 322 = .ok (.iconst 1, 1) := by decide +kernel
theorem dL_law_323 : decode cL_law 323 = .ok (.iadd, 1) := by decide +kernel
theorem dL_law_324 : decode cL_law 324 = .ok (.iaload, 1) := by decide +kernel
theorem dL_law_325 : decode cL_law 325 = .ok (.aload_n 0, 1) := by decide +kernel
theorem dL_law_326 : decode cL_law 326 = .ok (.iload_n 3, 1) := by decide +kernel
theorem dL_law_327 : decode cL_law 327 = .ok (.iconst 2, 1) := by decide +kernel
theorem dL_law_328 : decode cL_law 328 = .ok (.iadd, 1) := by decide +kernel
theorem dL_law_329 : decode cL_law 329 = .ok (.iaload, 1) := by decide +kernel
theorem dL_law_330 : decode cL_law 330 = .ok (.invokevirtual 31, 3) := by decide +kernel
theorem dL_law_333 : decode cL_law 333 = .ok (.if_icmp .eq 905, 3) := by decide +kernel
theorem dL_law_336 : decode cL_law 336 = .ok (.iconst 0, 1) := by decide +kernel
theorem dL_law_337 : decode cL_law 337 = .ok (.ireturn, 1) := by decide +kernel
theorem dL_law_338 : decode cL_law 338 = .ok (.aload_n 1, 1) := by decide +kernel
theorem dL_law_339 : decode cL_law 339 = .ok (.invokevirtual 32, 3) := by decide +kernel
theorem dL_law_342 : decode cL_law 342 = .ok (.aload_n 2, 1) := by decide +kernel
theorem dL_law_343 : decode cL_law 343 = .ok (.invokevirtual 36, 3) := by decide +kernel
theorem dL_law_346 : decode cL_law 346 = .ok (.if_icmp .eq 892, 3) := by decide +kernel
theorem dL_law_349 : decode cL_law 349 = .ok (.iconst 0, 1) := by decide +kernel
theorem dL_law_350 : decode cL_law 350 = .ok (.ireturn, 1) := by decide +kernel
theorem dL_law_351 : decode cL_law 351 = .ok (.aload_n 1, 1) := by decide +kernel
theorem dL_law_352 : decode cL_law 352 = .ok (.aload_n 0, 1) := by decide +kernel
theorem dL_law_353 : decode cL_law 353 = .ok (.iload_n 3, 1) := by decide +kernel
theorem dL_law_354 : decode cL_law 354 = .ok (.iconst 1, 1) := by decide +kernel
theorem dL_law_355 : decode cL_law 355 = .ok (.iadd, 1) := by decide +kernel
theorem dL_law_356 : decode cL_law 356 = .ok (.iaload, 1) := by decide +kernel
theorem dL_law_357 : decode cL_law 357 = .ok (.aload_n 0, 1) := by decide +kernel
theorem dL_law_358 : decode cL_law 358 = .ok (.iload_n 3, 1) := by decide +kernel
theorem dL_law_359 : decode cL_law 359 = .ok (.iconst 2, 1) := by decide +kernel
theorem dL_law_360 : decode cL_law 360 = .ok (.iadd, 1) := by decide +kernel
theorem dL_law_361 : decode cL_law 361 = .ok (.iaload, 1) := by decide +kernel
theorem dL_law_362 : decode cL_law 362 = .ok (.invokevirtual 37, 3) := by decide +kernel
theorem dL_law_365 : decode cL_law 365 = .ok (.aload_n 2, 1) := by decide +kernel
theorem dL_law_366 : decode cL_law 366 = .ok (.aload_n 0, 1) := by decide +kernel
theorem dL_law_367 : decode cL_law 367 = .ok (.iload_n 3, 1) := by decide +kernel
theorem dL_law_368 : decode cL_law 368 = .ok (.iconst 1, 1) := by decide +kernel
theorem dL_law_369 : decode cL_law 369 = .ok (.iadd, 1) := by decide +kernel
theorem dL_law_370 : decode cL_law 370 = .ok (.iaload, 1) := by decide +kernel
theorem dL_law_371 : decode cL_law 371 = .ok (.aload_n 0, 1) := by decide +kernel
theorem dL_law_372 : decode cL_law 372 = .ok (.iload_n 3, 1) := by decide +kernel
theorem dL_law_373 : decode cL_law 373 = .ok (.iconst 2, 1) := by decide +kernel
theorem dL_law_374 : decode cL_law 374 = .ok (.iadd, 1) := by decide +kernel
theorem dL_law_375 : decode cL_law 375 = .ok (.iaload, 1) := by decide +kernel
theorem dL_law_376 : decode cL_law 376 = .ok (.invokevirtual 40, 3) := by decide +kernel
theorem dL_law_379 : decode cL_law 379 = .ok (.if_icmp .eq 859, 3) := by decide +kernel
theorem dL_law_382 : decode cL_law 382 = .ok (.iconst 0, 1) := by decide +kernel
theorem dL_law_383 : decode cL_law 383 = .ok (.ireturn, 1) := by decide +kernel
theorem dL_law_384 : decode cL_law 384 = .ok (.aload_n 1, 1) := by decide +kernel
theorem dL_law_385 : decode cL_law 385 = .ok (.aload_n 0, 1) := by decide +kernel
theorem dL_law_386 : decode cL_law 386 = .ok (.iload_n 3, 1) := by decide +kernel
theorem dL_law_387 : decode cL_law 387 = .ok (.iconst 1, 1) := by decide +kernel
theorem dL_law_388 : decode cL_law 388 = .ok (.iadd, 1) := by decide +kernel
theorem dL_law_389 : decode cL_law 389 = .ok (.iaload, 1) := by decide +kernel
theorem dL_law_390 : decode cL_law 390 = .ok (.aload_n 0, 1) := by decide +kernel
theorem dL_law_391 : decode cL_law 391 = .ok (.iload_n 3, 1) := by decide +kernel
theorem dL_law_392 : decode cL_law 392 = .ok (.iconst 2, 1) := by decide +kernel
theorem dL_law_393 : decode cL_law 393 = .ok (.iadd, 1) := by decide +kernel
theorem dL_law_394 : decode cL_law 394 = .ok (.iaload, 1) := by decide +kernel
theorem dL_law_395 : decode cL_law 395 = .ok (.invokevirtual 41, 3) := by decide +kernel
theorem dL_law_398 : decode cL_law 398 = .ok (.aload_n 2, 1) := by decide +kernel
theorem dL_law_399 : decode cL_law 399 = .ok (.aload_n 0, 1) := by decide +kernel
theorem dL_law_400 : decode cL_law 400 = .ok (.iload_n 3, 1) := by decide +kernel
theorem dL_law_401 : decode cL_law 401 = .ok (.iconst 1, 1) := by decide +kernel
theorem dL_law_402 : decode cL_law 402 = .ok (.iadd, 1) := by decide +kernel
theorem dL_law_403 : decode cL_law 403 = .ok (.iaload, 1) := by decide +kernel
theorem dL_law_404 : decode cL_law 404 = .ok (.aload_n 0, 1) := by decide +kernel
theorem dL_law_405 : decode cL_law 405 = .ok (.iload_n 3, 1) := by decide +kernel
theorem dL_law_406 : decode cL_law 406 = .ok (.iconst 2, 1) := by decide +kernel
theorem dL_law_407 : decode cL_law 407 = .ok (.iadd, 1) := by decide +kernel
theorem dL_law_408 : decode cL_law 408 = .ok (.iaload, 1) := by decide +kernel
theorem dL_law_409 : decode cL_law 409 = .ok (.invokevirtual 44, 3) := by decide +kernel
theorem dL_law_412 : decode cL_law 412 = .ok (.if_icmp .eq 826, 3) := by decide +kernel
theorem dL_law_415 : decode cL_law 415 = .ok (.iconst 0, 1) := by decide +kernel
theorem dL_law_416 : decode cL_law 416 = .ok (.ireturn, 1) := by decide +kernel
theorem dL_law_417 : decode cL_law 417 = .ok (.aload_n 1, 1) := by decide +kernel
theorem dL_law_418 : decode cL_law 418 = .ok (.aload_n 0, 1) := by decide +kernel
theorem dL_law_419 : decode cL_law 419 = .ok (.iload_n 3, 1) := by decide +kernel
theorem dL_law_420 : decode cL_law 420 = .ok (.iconst 1, 1) := by decide +kernel
theorem dL_law_421 : decode cL_law 421 = .ok (.iadd, 1) := by decide +kernel
theorem dL_law_422 : decode cL_law 422 = .ok (.iaload, 1) := by decide +kernel
theorem dL_law_423 : decode cL_law 423 = .ok (.aload_n 0, 1) := by decide +kernel
theorem dL_law_424 : decode cL_law 424 = .ok (.iload_n 3, 1) := by decide +kernel
theorem dL_law_425 : decode cL_law 425 = .ok (.iconst 2, 1) := by decide +kernel
theorem dL_law_426 : decode cL_law 426 = .ok (.iadd, 1) := by decide +kernel
theorem dL_law_427 : decode cL_law 427 = .ok (.iaload, 1) := by decide +kernel
theorem dL_law_428 : decode cL_law 428 = .ok (.aload_n 0, 1) := by decide +kernel
theorem dL_law_429 : decode cL_law 429 = .ok (.iload_n 3, 1) := by decide +kernel
theorem dL_law_430 : decode cL_law 430 = .ok (.iconst 3, 1) := by decide +kernel
theorem dL_law_431 : decode cL_law 431 = .ok (.iadd, 1) := by decide +kernel
theorem dL_law_432 : decode cL_law 432 = .ok (.iaload, 1) := by decide +kernel
theorem dL_law_433 : decode cL_law 433 = .ok (.invokevirtual 45, 3) := by decide +kernel
theorem dL_law_436 : decode cL_law 436 = .ok (.aload_n 2, 1) := by decide +kernel
theorem dL_law_437 : decode cL_law 437 = .ok (.aload_n 0, 1) := by decide +kernel
theorem dL_law_438 : decode cL_law 438 = .ok (.iload_n 3, 1) := by decide +kernel
theorem dL_law_439 : decode cL_law 439 = .ok (.iconst 1, 1) := by decide +kernel
theorem dL_law_440 : decode cL_law 440 = .ok (.iadd, 1) := by decide +kernel
theorem dL_law_441 : decode cL_law 441 = .ok (.iaload, 1) := by decide +kernel
theorem dL_law_442 : decode cL_law 442 = .ok (.aload_n 0, 1) := by decide +kernel
theorem dL_law_443 : decode cL_law 443 = .ok (.iload_n 3, 1) := by decide +kernel
theorem dL_law_444 : decode cL_law 444 = .ok (.iconst 2, 1) := by decide +kernel
theorem dL_law_445 : decode cL_law 445 = .ok (.iadd, 1) := by decide +kernel
theorem dL_law_446 : decode cL_law 446 = .ok (.iaload, 1) := by decide +kernel
theorem dL_law_447 : decode cL_law 447 = .ok (.aload_n 0, 1) := by decide +kernel
theorem dL_law_448 : decode cL_law 448 = .ok (.iload_n 3, 1) := by decide +kernel
theorem dL_law_449 : decode cL_law 449 = .ok (.iconst 3, 1) := by decide +kernel
theorem dL_law_450 : decode cL_law 450 = .ok (.iadd, 1) := by decide +kernel
theorem dL_law_451 : decode cL_law 451 = .ok (.iaload, 1) := by decide +kernel
theorem dL_law_452 : decode cL_law 452 = .ok (.invokevirtual 48, 3) := by decide +kernel
theorem dL_law_455 : decode cL_law 455 = .ok (.if_icmp .eq 783, 3) := by decide +kernel
theorem dL_law_458 : decode cL_law 458 = .ok (.iconst 0, 1) := by decide +kernel
theorem dL_law_459 : decode cL_law 459 = .ok (.ireturn, 1) := by decide +kernel
theorem dL_law_460 : decode cL_law 460 = .ok (.aload_n 1, 1) := by decide +kernel
theorem dL_law_461 : decode cL_law 461 = .ok (.aload_n 0, 1) := by decide +kernel
theorem dL_law_462 : decode cL_law 462 = .ok (.iload_n 3, 1) := by decide +kernel
theorem dL_law_463 : decode cL_law 463 = .ok (.iconst 1, 1) := by decide +kernel
theorem dL_law_464 : decode cL_law 464 = .ok (.iadd, 1) := by decide +kernel
theorem dL_law_465 : decode cL_law 465 = .ok (.iaload, 1) := by decide +kernel
theorem dL_law_466 : decode cL_law 466 = .ok (.aload_n 0, 1) := by decide +kernel
theorem dL_law_467 : decode cL_law 467 = .ok (.iload_n 3, 1) := by decide +kernel
theorem dL_law_468 : decode cL_law 468 = .ok (.iconst 2, 1) := by decide +kernel
theorem dL_law_469 : decode cL_law 469 = .ok (.iadd, 1) := by decide +kernel
theorem dL_law_470 : decode cL_law 470 = .ok (.iaload, 1) := by decide +kernel
theorem dL_law_471 : decode cL_law 471 = .ok (.aload_n 0, 1) := by decide +kernel
theorem dL_law_472 : decode cL_law 472 = .ok (.iload_n 3, 1) := by decide +kernel
theorem dL_law_473 : decode cL_law 473 = .ok (.iconst 3, 1) := by decide +kernel
theorem dL_law_474 : decode cL_law 474 = .ok (.iadd, 1) := by decide +kernel
theorem dL_law_475 : decode cL_law 475 = .ok (.iaload, 1) := by decide +kernel
theorem dL_law_476 : decode cL_law 476 = .ok (.invokevirtual 49, 3) := by decide +kernel
theorem dL_law_479 : decode cL_law 479 = .ok (.aload_n 2, 1) := by decide +kernel
theorem dL_law_480 : decode cL_law 480 = .ok (.aload_n 0, 1) := by decide +kernel
theorem dL_law_481 : decode cL_law 481 = .ok (.iload_n 3, 1) := by decide +kernel
theorem dL_law_482 : decode cL_law 482 = .ok (.iconst 1, 1) := by decide +kernel
theorem dL_law_483 : decode cL_law 483 = .ok (.iadd, 1) := by decide +kernel
theorem dL_law_484 : decode cL_law 484 = .ok (.iaload, 1) := by decide +kernel
theorem dL_law_485 : decode cL_law 485 = .ok (.aload_n 0, 1) := by decide +kernel
theorem dL_law_486 : decode cL_law 486 = .ok (.iload_n 3, 1) := by decide +kernel
theorem dL_law_487 : decode cL_law 487 = .ok (.iconst 2, 1) := by decide +kernel
theorem dL_law_488 : decode cL_law 488 = .ok (.iadd, 1) := by decide +kernel
theorem dL_law_489 : decode cL_law 489 = .ok (.iaload, 1) := by decide +kernel
theorem dL_law_490 : decode cL_law 490 = .ok (.aload_n 0, 1) := by decide +kernel
theorem dL_law_491 : decode cL_law 491 = .ok (.iload_n 3, 1) := by decide +kernel
theorem dL_law_492 : decode cL_law 492 = .ok (.iconst 3, 1) := by decide +kernel
theorem dL_law_493 : decode cL_law 493 = .ok (.iadd, 1) := by decide +kernel
theorem dL_law_494 : decode cL_law 494 = .ok (.iaload, 1) := by decide +kernel
theorem dL_law_495 : decode cL_law 495 = .ok (.invokevirtual 52, 3) := by decide +kernel
theorem dL_law_498 : decode cL_law 498 = .ok (.if_icmp .eq 740, 3) := by decide +kernel
theorem dL_law_501 : decode cL_law 501 = .ok (.iconst 0, 1) := by decide +kernel
theorem dL_law_502 : decode cL_law 502 = .ok (.ireturn, 1) := by decide +kernel
theorem dL_law_503 : decode cL_law 503 = .ok (.aload_n 1, 1) := by decide +kernel
theorem dL_law_504 : decode cL_law 504 = .ok (.aload_n 0, 1) := by decide +kernel
theorem dL_law_505 : decode cL_law 505 = .ok (.iload_n 3, 1) := by decide +kernel
theorem dL_law_506 : decode cL_law 506 = .ok (.iconst 1, 1) := by decide +kernel
theorem dL_law_507 : decode cL_law 507 = .ok (.iadd, 1) := by decide +kernel
theorem dL_law_508 : decode cL_law 508 = .ok (.iaload, 1) := by decide +kernel
theorem dL_law_509 : decode cL_law 509 = .ok (.aload_n 0, 1) := by decide +kernel
theorem dL_law_510 : decode cL_law 510 = .ok (.iload_n 3, 1) := by decide +kernel
theorem dL_law_511 : decode cL_law 511 = .ok (.iconst 2, 1) := by decide +kernel
theorem dL_law_512 : decode cL_law 512 = .ok (.iadd, 1) := by decide +kernel
theorem dL_law_513 : decode cL_law 513 = .ok (.iaload, 1) := by decide +kernel
theorem dL_law_514 : decode cL_law 514 = .ok (.invokevirtual 53, 3) := by decide +kernel
theorem dL_law_517 : decode cL_law 517 = .ok (.aload_n 2, 1) := by decide +kernel
theorem dL_law_518 : decode cL_law 518 = .ok (.aload_n 0, 1) := by decide +kernel
theorem dL_law_519 : decode cL_law 519 = .ok (.iload_n 3, 1) := by decide +kernel
theorem dL_law_520 : decode cL_law 520 = .ok (.iconst 1, 1) := by decide +kernel
theorem dL_law_521 : decode cL_law 521 = .ok (.iadd, 1) := by decide +kernel
theorem dL_law_522 : decode cL_law 522 = .ok (.iaload, 1) := by decide +kernel
theorem dL_law_523 : decode cL_law 523 = .ok (.aload_n 0, 1) := by decide +kernel
theorem dL_law_524 : decode cL_law 524 = .ok (.iload_n 3, 1) := by decide +kernel
theorem dL_law_525 : decode cL_law 525 = .ok (.iconst 2, 1) := by decide +kernel
theorem dL_law_526 : decode cL_law 526 = .ok (.iadd, 1) := by decide +kernel
theorem dL_law_527 : decode cL_law 527 = .ok (.iaload, 1) := by decide +kernel
theorem dL_law_528 : decode cL_law 528 = .ok (.invokevirtual 56, 3) := by decide +kernel
theorem dL_law_531 : decode cL_law 531 = .ok (.if_icmp .eq 707, 3) := by decide +kernel
theorem dL_law_534 : decode cL_law 534 = .ok (.iconst 0, 1) := by decide +kernel
theorem dL_law_535 : decode cL_law 535 = .ok (.ireturn, 1) := by decide +kernel
theorem dL_law_536 : decode cL_law 536 = .ok (.aload_n 1, 1) := by decide +kernel
theorem dL_law_537 : decode cL_law 537 = .ok (.aload_n 0, 1) := by decide +kernel
theorem dL_law_538 : decode cL_law 538 = .ok (.iload_n 3, 1) := by decide +kernel
theorem dL_law_539 : decode cL_law 539 = .ok (.iconst 1, 1) := by decide +kernel
theorem dL_law_540 : decode cL_law 540 = .ok (.iadd, 1) := by decide +kernel
theorem dL_law_541 : decode cL_law 541 = .ok (.iaload, 1) := by decide +kernel
theorem dL_law_542 : decode cL_law 542 = .ok (.aload_n 0, 1) := by decide +kernel
theorem dL_law_543 : decode cL_law 543 = .ok (.iload_n 3, 1) := by decide +kernel
theorem dL_law_544 : decode cL_law 544 = .ok (.iconst 2, 1) := by decide +kernel
theorem dL_law_545 : decode cL_law 545 = .ok (.iadd, 1) := by decide +kernel
theorem dL_law_546 : decode cL_law 546 = .ok (.iaload, 1) := by decide +kernel
theorem dL_law_547 : decode cL_law 547 = .ok (.invokevirtual 57, 3) := by decide +kernel
theorem dL_law_550 : decode cL_law 550 = .ok (.aload_n 2, 1) := by decide +kernel
theorem dL_law_551 : decode cL_law 551 = .ok (.aload_n 0, 1) := by decide +kernel
theorem dL_law_552 : decode cL_law 552 = .ok (.iload_n 3, 1) := by decide +kernel
theorem dL_law_553 : decode cL_law 553 = .ok (.iconst 1, 1) := by decide +kernel
theorem dL_law_554 : decode cL_law 554 = .ok (.iadd, 1) := by decide +kernel
theorem dL_law_555 : decode cL_law 555 = .ok (.iaload, 1) := by decide +kernel
theorem dL_law_556 : decode cL_law 556 = .ok (.aload_n 0, 1) := by decide +kernel
theorem dL_law_557 : decode cL_law 557 = .ok (.iload_n 3, 1) := by decide +kernel
theorem dL_law_558 : decode cL_law 558 = .ok (.iconst 2, 1) := by decide +kernel
theorem dL_law_559 : decode cL_law 559 = .ok (.iadd, 1) := by decide +kernel
theorem dL_law_560 : decode cL_law 560 = .ok (.iaload, 1) := by decide +kernel
theorem dL_law_561 : decode cL_law 561 = .ok (.invokevirtual 60, 3) := by decide +kernel
theorem dL_law_564 : decode cL_law 564 = .ok (.if_icmp .eq 674, 3) := by decide +kernel
theorem dL_law_567 : decode cL_law 567 = .ok (.iconst 0, 1) := by decide +kernel
theorem dL_law_568 : decode cL_law 568 = .ok (.ireturn, 1) := by decide +kernel
theorem dL_law_569 : decode cL_law 569 = .ok (.aload_n 1, 1) := by decide +kernel
theorem dL_law_570 : decode cL_law 570 = .ok (.aload_n 0, 1) := by decide +kernel
theorem dL_law_571 : decode cL_law 571 = .ok (.iload_n 3, 1) := by decide +kernel
theorem dL_law_572 : decode cL_law 572 = .ok (.iconst 1, 1) := by decide +kernel
theorem dL_law_573 : decode cL_law 573 = .ok (.iadd, 1) := by decide +kernel
theorem dL_law_574 : decode cL_law 574 = .ok (.iaload, 1) := by decide +kernel
theorem dL_law_575 : decode cL_law 575 = .ok (.aload_n 0, 1) := by decide +kernel
theorem dL_law_576 : decode cL_law 576 = .ok (.iload_n 3, 1) := by decide +kernel
theorem dL_law_577 : decode cL_law 577 = .ok (.iconst 2, 1) := by decide +kernel
theorem dL_law_578 : decode cL_law 578 = .ok (.iadd, 1) := by decide +kernel
theorem dL_law_579 : decode cL_law 579 = .ok (.iaload, 1) := by decide +kernel
theorem dL_law_580 : decode cL_law 580 = .ok (.invokevirtual 61, 3) := by decide +kernel
theorem dL_law_583 : decode cL_law 583 = .ok (.aload_n 2, 1) := by decide +kernel
theorem dL_law_584 : decode cL_law 584 = .ok (.aload_n 0, 1) := by decide +kernel
theorem dL_law_585 : decode cL_law 585 = .ok (.iload_n 3, 1) := by decide +kernel
theorem dL_law_586 : decode cL_law 586 = .ok (.iconst 1, 1) := by decide +kernel
theorem dL_law_587 : decode cL_law 587 = .ok (.iadd, 1) := by decide +kernel
theorem dL_law_588 : decode cL_law 588 = .ok (.iaload, 1) := by decide +kernel
theorem dL_law_589 : decode cL_law 589 = .ok (.aload_n 0, 1) := by decide +kernel
theorem dL_law_590 : decode cL_law 590 = .ok (.iload_n 3, 1) := by decide +kernel
theorem dL_law_591 : decode cL_law 591 = .ok (.iconst 2, 1) := by decide +kernel
theorem dL_law_592 : decode cL_law 592 = .ok (.iadd, 1) := by decide +kernel
theorem dL_law_593 : decode cL_law 593 = .ok (.iaload, 1) := by decide +kernel
theorem dL_law_594 : decode cL_law 594 = .ok (.invokevirtual 64, 3) := by decide +kernel
theorem dL_law_597 : decode cL_law 597 = .ok (.if_icmp .eq 641, 3) := by decide +kernel
theorem dL_law_600 : decode cL_law 600 = .ok (.iconst 0, 1) := by decide +kernel
theorem dL_law_601 : decode cL_law 601 = .ok (.ireturn, 1) := by decide +kernel
theorem dL_law_602 : decode cL_law 602 = .ok (.aload_n 1, 1) := by decide +kernel
theorem dL_law_603 : decode cL_law 603 = .ok (.aload_n 0, 1) := by decide +kernel
theorem dL_law_604 : decode cL_law 604 = .ok (.iload_n 3, 1) := by decide +kernel
theorem dL_law_605 : decode cL_law 605 = .ok (.iconst 1, 1) := by decide +kernel
theorem dL_law_606 : decode cL_law 606 = .ok (.iadd, 1) := by decide +kernel
theorem dL_law_607 : decode cL_law 607 = .ok (.iaload, 1) := by decide +kernel
theorem dL_law_608 : decode cL_law 608 = .ok (.aload_n 0, 1) := by decide +kernel
theorem dL_law_609 : decode cL_law 609 = .ok (.iload_n 3, 1) := by decide +kernel
theorem dL_law_610 : decode cL_law 610 = .ok (.iconst 2, 1) := by decide +kernel
theorem dL_law_611 : decode cL_law 611 = .ok (.iadd, 1) := by decide +kernel
theorem dL_law_612 : decode cL_law 612 = .ok (.iaload, 1) := by decide +kernel
theorem dL_law_613 : decode cL_law 613 = .ok (.invokevirtual 65, 3) := by decide +kernel
theorem dL_law_616 : decode cL_law 616 = .ok (.aload_n 2, 1) := by decide +kernel
theorem dL_law_617 : decode cL_law 617 = .ok (.aload_n 0, 1) := by decide +kernel
theorem dL_law_618 : decode cL_law 618 = .ok (.iload_n 3, 1) := by decide +kernel
theorem dL_law_619 : decode cL_law 619 = .ok (.iconst 1, 1) := by decide +kernel
theorem dL_law_620 : decode cL_law 620 = .ok (.iadd, 1) := by decide +kernel
theorem dL_law_621 : decode cL_law 621 = .ok (.iaload, 1) := by decide +kernel
theorem dL_law_622 : decode cL_law 622 = .ok (.aload_n 0, 1) := by decide +kernel
theorem dL_law_623 : decode cL_law 623 = .ok (.iload_n 3, 1) := by decide +kernel
theorem dL_law_624 : decode cL_law 624 = .ok (.iconst 2, 1) := by decide +kernel
theorem dL_law_625 : decode cL_law 625 = .ok (.iadd, 1) := by decide +kernel
theorem dL_law_626 : decode cL_law 626 = .ok (.iaload, 1) := by decide +kernel
theorem dL_law_627 : decode cL_law 627 = .ok (.invokevirtual 68, 3) := by decide +kernel
theorem dL_law_630 : decode cL_law 630 = .ok (.if_icmp .eq 608, 3) := by decide +kernel
theorem dL_law_633 : decode cL_law 633 = .ok (.iconst 0, 1) := by decide +kernel
theorem dL_law_634 : decode cL_law 634 = .ok (.ireturn, 1) := by decide +kernel
theorem dL_law_635 : decode cL_law 635 = .ok (.aload_n 1, 1) := by decide +kernel
theorem dL_law_636 : decode cL_law 636 = .ok (.aload_n 0, 1) := by decide +kernel
theorem dL_law_637 : decode cL_law 637 = .ok (.iload_n 3, 1) := by decide +kernel
theorem dL_law_638 : decode cL_law 638 = .ok (.iconst 1, 1) := by decide +kernel
theorem dL_law_639 : decode cL_law 639 = .ok (.iadd, 1) := by decide +kernel
theorem dL_law_640 : decode cL_law 640 = .ok (.iaload, 1) := by decide +kernel
theorem dL_law_641 : decode cL_law 641 = .ok (.aload_n 0, 1) := by decide +kernel
theorem dL_law_642 : decode cL_law 642 = .ok (.iload_n 3, 1) := by decide +kernel
theorem dL_law_643 : decode cL_law 643 = .ok (.iconst 2, 1) := by decide +kernel
theorem dL_law_644 : decode cL_law 644 = .ok (.iadd, 1) := by decide +kernel
theorem dL_law_645 : decode cL_law 645 = .ok (.iaload, 1) := by decide +kernel
theorem dL_law_646 : decode cL_law 646 = .ok (.invokevirtual 69, 3) := by decide +kernel
theorem dL_law_649 : decode cL_law 649 = .ok (.aload_n 2, 1) := by decide +kernel
theorem dL_law_650 : decode cL_law 650 = .ok (.aload_n 0, 1) := by decide +kernel
theorem dL_law_651 : decode cL_law 651 = .ok (.iload_n 3, 1) := by decide +kernel
theorem dL_law_652 : decode cL_law 652 = .ok (.iconst 1, 1) := by decide +kernel
theorem dL_law_653 : decode cL_law 653 = .ok (.iadd, 1) := by decide +kernel
theorem dL_law_654 : decode cL_law 654 = .ok (.iaload, 1) := by decide +kernel
theorem dL_law_655 : decode cL_law 655 = .ok (.aload_n 0, 1) := by decide +kernel
theorem dL_law_656 : decode cL_law 656 = .ok (.iload_n 3, 1) := by decide +kernel
theorem dL_law_657 : decode cL_law 657 = .ok (.iconst 2, 1) := by decide +kernel
theorem dL_law_658 : decode cL_law 658 = .ok (.iadd, 1) := by decide +kernel
theorem dL_law_659 : decode cL_law 659 = .ok (.iaload, 1) := by decide +kernel
theorem dL_law_660 : decode cL_law 660 = .ok (.invokevirtual 72, 3) := by decide +kernel
theorem dL_law_663 : decode cL_law 663 = .ok (.if_icmp .eq 575, 3) := by decide +kernel
theorem dL_law_666 : decode cL_law 666 = .ok (.iconst 0, 1) := by decide +kernel
theorem dL_law_667 : decode cL_law 667 = .ok (.ireturn, 1) := by decide +kernel
theorem dL_law_668 : decode cL_law 668 = .ok (.aload_n 1, 1) := by decide +kernel
theorem dL_law_669 : decode cL_law 669 = .ok (.aload_n 0, 1) := by decide +kernel
theorem dL_law_670 : decode cL_law 670 = .ok (.iload_n 3, 1) := by decide +kernel
theorem dL_law_671 : decode cL_law 671 = .ok (.iconst 1, 1) := by decide +kernel
theorem dL_law_672 : decode cL_law 672 = .ok (.iadd, 1) := by decide +kernel
theorem dL_law_673 : decode cL_law 673 = .ok (.iaload, 1) := by decide +kernel
theorem dL_law_674 : decode cL_law 674 = .ok (.aload_n 0, 1) := by decide +kernel
theorem dL_law_675 : decode cL_law 675 = .ok (.iload_n 3, 1) := by decide +kernel
theorem dL_law_676 : decode cL_law 676 = .ok (.iconst 2, 1) := by decide +kernel
theorem dL_law_677 : decode cL_law 677 = .ok (.iadd, 1) := by decide +kernel
theorem dL_law_678 : decode cL_law 678 = .ok (.iaload, 1) := by decide +kernel
theorem dL_law_679 : decode cL_law 679 = .ok (.invokevirtual 73, 3) := by decide +kernel
theorem dL_law_682 : decode cL_law 682 = .ok (.aload_n 2, 1) := by decide +kernel
theorem dL_law_683 : decode cL_law 683 = .ok (.aload_n 0, 1) := by decide +kernel
theorem dL_law_684 : decode cL_law 684 = .ok (.iload_n 3, 1) := by decide +kernel
theorem dL_law_685 : decode cL_law 685 = .ok (.iconst 1, 1) := by decide +kernel
theorem dL_law_686 : decode cL_law 686 = .ok (.iadd, 1) := by decide +kernel
theorem dL_law_687 : decode cL_law 687 = .ok (.iaload, 1) := by decide +kernel
theorem dL_law_688 : decode cL_law 688 = .ok (.aload_n 0, 1) := by decide +kernel
theorem dL_law_689 : decode cL_law 689 = .ok (.iload_n 3, 1) := by decide +kernel
theorem dL_law_690 : decode cL_law 690 = .ok (.iconst 2, 1) := by decide +kernel
theorem dL_law_691 : decode cL_law 691 = .ok (.iadd, 1) := by decide +kernel
theorem dL_law_692 : decode cL_law 692 = .ok (.iaload, 1) := by decide +kernel
theorem dL_law_693 : decode cL_law 693 = .ok (.invokevirtual 76, 3) := by decide +kernel
theorem dL_law_696 : decode cL_law 696 = .ok (.if_icmp .eq 542, 3) := by decide +kernel
theorem dL_law_699 : decode cL_law 699 = .ok (.iconst 0, 1) := by decide +kernel
theorem dL_law_700 : decode cL_law 700 = .ok (.ireturn, 1) := by decide +kernel
theorem dL_law_701 : decode cL_law 701 = .ok (.aload_n 1, 1) := by decide +kernel
theorem dL_law_702 : decode cL_law 702 = .ok (.aload_n 0, 1) := by decide +kernel
theorem dL_law_703 : decode cL_law 703 = .ok (.iload_n 3, 1) := by decide +kernel
theorem dL_law_704 : decode cL_law 704 = .ok (.iconst 1, 1) := by decide +kernel
theorem dL_law_705 : decode cL_law 705 = .ok (.iadd, 1) := by decide +kernel
theorem dL_law_706 : decode cL_law 706 = .ok (.iaload, 1) := by decide +kernel
theorem dL_law_707 : decode cL_law 707 = .ok (.aload_n 0, 1) := by decide +kernel
theorem dL_law_708 : decode cL_law 708 = .ok (.iload_n 3, 1) := by decide +kernel
theorem dL_law_709 : decode cL_law 709 = .ok (.iconst 2, 1) := by decide +kernel
theorem dL_law_710 : decode cL_law 710 = .ok (.iadd, 1) := by decide +kernel
theorem dL_law_711 : decode cL_law 711 = .ok (.iaload, 1) := by decide +kernel
theorem dL_law_712 : decode cL_law 712 = .ok (.invokevirtual 77, 3) := by decide +kernel
theorem dL_law_715 : decode cL_law 715 = .ok (.aload_n 2, 1) := by decide +kernel
theorem dL_law_716 : decode cL_law 716 = .ok (.aload_n 0, 1) := by decide +kernel
theorem dL_law_717 : decode cL_law 717 = .ok (.iload_n 3, 1) := by decide +kernel
theorem dL_law_718 : decode cL_law 718 = .ok (.iconst 1, 1) := by decide +kernel
theorem dL_law_719 : decode cL_law 719 = .ok (.iadd, 1) := by decide +kernel
theorem dL_law_720 : decode cL_law 720 = .ok (.iaload, 1) := by decide +kernel
theorem dL_law_721 : decode cL_law 721 = .ok (.aload_n 0, 1) := by decide +kernel
theorem dL_law_722 : decode cL_law 722 = .ok (.iload_n 3, 1) := by decide +kernel
theorem dL_law_723 : decode cL_law 723 = .ok (.iconst 2, 1) := by decide +kernel
theorem dL_law_724 : decode cL_law 724 = .ok (.iadd, 1) := by decide +kernel
theorem dL_law_725 : decode cL_law 725 = .ok (.iaload, 1) := by decide +kernel
theorem dL_law_726 : decode cL_law 726 = .ok (.invokevirtual 80, 3) := by decide +kernel
theorem dL_law_729 : decode cL_law 729 = .ok (.if_icmp .eq 509, 3) := by decide +kernel
theorem dL_law_732 : decode cL_law 732 = .ok (.iconst 0, 1) := by decide +kernel
theorem dL_law_733 : decode cL_law 733 = .ok (.ireturn, 1) := by decide +kernel
theorem dL_law_734 : decode cL_law 734 = .ok (.aload_n 1, 1) := by decide +kernel
theorem dL_law_735 : decode cL_law 735 = .ok (.aload_n 0, 1) := by decide +kernel
theorem dL_law_736 : decode cL_law 736 = .ok (.iload_n 3, 1) := by decide +kernel
theorem dL_law_737 : decode cL_law 737 = .ok (.iconst 1, 1) := by decide +kernel
theorem dL_law_738 : decode cL_law 738 = .ok (.iadd, 1) := by decide +kernel
theorem dL_law_739 : decode cL_law 739 = .ok (.iaload, 1) := by decide +kernel
theorem dL_law_740 : decode cL_law 740 = .ok (.aload_n 0, 1) := by decide +kernel
theorem dL_law_741 : decode cL_law 741 = .ok (.iload_n 3, 1) := by decide +kernel
theorem dL_law_742 : decode cL_law 742 = .ok (.iconst 2, 1) := by decide +kernel
theorem dL_law_743 : decode cL_law 743 = .ok (.iadd, 1) := by decide +kernel
theorem dL_law_744 : decode cL_law 744 = .ok (.iaload, 1) := by decide +kernel
theorem dL_law_745 : decode cL_law 745 = .ok (.invokevirtual 81, 3) := by decide +kernel
theorem dL_law_748 : decode cL_law 748 = .ok (.aload_n 2, 1) := by decide +kernel
theorem dL_law_749 : decode cL_law 749 = .ok (.aload_n 0, 1) := by decide +kernel
theorem dL_law_750 : decode cL_law 750 = .ok (.iload_n 3, 1) := by decide +kernel
theorem dL_law_751 : decode cL_law 751 = .ok (.iconst 1, 1) := by decide +kernel
theorem dL_law_752 : decode cL_law 752 = .ok (.iadd, 1) := by decide +kernel
theorem dL_law_753 : decode cL_law 753 = .ok (.iaload, 1) := by decide +kernel
theorem dL_law_754 : decode cL_law 754 = .ok (.aload_n 0, 1) := by decide +kernel
theorem dL_law_755 : decode cL_law 755 = .ok (.iload_n 3, 1) := by decide +kernel
theorem dL_law_756 : decode cL_law 756 = .ok (.iconst 2, 1) := by decide +kernel
theorem dL_law_757 : decode cL_law 757 = .ok (.iadd, 1) := by decide +kernel
theorem dL_law_758 : decode cL_law 758 = .ok (.iaload, 1) := by decide +kernel
theorem dL_law_759 : decode cL_law 759 = .ok (.invokevirtual 84, 3) := by decide +kernel
theorem dL_law_762 : decode cL_law 762 = .ok (.if_icmp .eq 476, 3) := by decide +kernel
theorem dL_law_765 : decode cL_law 765 = .ok (.iconst 0, 1) := by decide +kernel
theorem dL_law_766 : decode cL_law 766 = .ok (.ireturn, 1) := by decide +kernel
theorem dL_law_767 : decode cL_law 767 = .ok (.aload_n 1, 1) := by decide +kernel
theorem dL_law_768 : decode cL_law 768 = .ok (.aload_n 0, 1) := by decide +kernel
theorem dL_law_769 : decode cL_law 769 = .ok (.iload_n 3, 1) := by decide +kernel
theorem dL_law_770 : decode cL_law 770 = .ok (.iconst 1, 1) := by decide +kernel
theorem dL_law_771 : decode cL_law 771 = .ok (.iadd, 1) := by decide +kernel
theorem dL_law_772 : decode cL_law 772 = .ok (.iaload, 1) := by decide +kernel
theorem dL_law_773 : decode cL_law 773 = .ok (.aload_n 0, 1) := by decide +kernel
theorem dL_law_774 : decode cL_law 774 = .ok (.iload_n 3, 1) := by decide +kernel
theorem dL_law_775 : decode cL_law 775 = .ok (.iconst 2, 1) := by decide +kernel
theorem dL_law_776 : decode cL_law 776 = .ok (.iadd, 1) := by decide +kernel
theorem dL_law_777 : decode cL_law 777 = .ok (.iaload, 1) := by decide +kernel
theorem dL_law_778 : decode cL_law 778 = .ok (.invokevirtual 85, 3) := by decide +kernel
theorem dL_law_781 : decode cL_law 781 = .ok (.aload_n 2, 1) := by decide +kernel
theorem dL_law_782 : decode cL_law 782 = .ok (.aload_n 0, 1) := by decide +kernel
theorem dL_law_783 : decode cL_law 783 = .ok (.iload_n 3, 1) := by decide +kernel
theorem dL_law_784 : decode cL_law 784 = .ok (.iconst 1, 1) := by decide +kernel
theorem dL_law_785 : decode cL_law 785 = .ok (.iadd, 1) := by decide +kernel
theorem dL_law_786 : decode cL_law 786 = .ok (.iaload, 1) := by decide +kernel
theorem dL_law_787 : decode cL_law 787 = .ok (.aload_n 0, 1) := by decide +kernel
theorem dL_law_788 : decode cL_law 788 = .ok (.iload_n 3, 1) := by decide +kernel
theorem dL_law_789 : decode cL_law 789 = .ok (.iconst 2, 1) := by decide +kernel
theorem dL_law_790 : decode cL_law 790 = .ok (.iadd, 1) := by decide +kernel
theorem dL_law_791 : decode cL_law 791 = .ok (.iaload, 1) := by decide +kernel
theorem dL_law_792 : decode cL_law 792 = .ok (.invokevirtual 88, 3) := by decide +kernel
theorem dL_law_795 : decode cL_law 795 = .ok (.if_icmp .eq 443, 3) := by decide +kernel
theorem dL_law_798 : decode cL_law 798 = .ok (.iconst 0, 1) := by decide +kernel
theorem dL_law_799 : decode cL_law 799 = .ok (.ireturn, 1) := by decide +kernel
theorem dL_law_800 : decode cL_law 800 = .ok (.aload_n 1, 1) := by decide +kernel
theorem dL_law_801 : decode cL_law 801 = .ok (.aload_n 0, 1) := by decide +kernel
theorem dL_law_802 : decode cL_law 802 = .ok (.iload_n 3, 1) := by decide +kernel
theorem dL_law_803 : decode cL_law 803 = .ok (.iconst 1, 1) := by decide +kernel
theorem dL_law_804 : decode cL_law 804 = .ok (.iadd, 1) := by decide +kernel
theorem dL_law_805 : decode cL_law 805 = .ok (.iaload, 1) := by decide +kernel
theorem dL_law_806 : decode cL_law 806 = .ok (.aload_n 0, 1) := by decide +kernel
theorem dL_law_807 : decode cL_law 807 = .ok (.iload_n 3, 1) := by decide +kernel
theorem dL_law_808 : decode cL_law 808 = .ok (.iconst 2, 1) := by decide +kernel
theorem dL_law_809 : decode cL_law 809 = .ok (.iadd, 1) := by decide +kernel
theorem dL_law_810 : decode cL_law 810 = .ok (.iaload, 1) := by decide +kernel
theorem dL_law_811 : decode cL_law 811 = .ok (.invokevirtual 89, 3) := by decide +kernel
theorem dL_law_814 : decode cL_law 814 = .ok (.aload_n 2, 1) := by decide +kernel
theorem dL_law_815 : decode cL_law 815 = .ok (.aload_n 0, 1) := by decide +kernel
theorem dL_law_816 : decode cL_law 816 = .ok (.iload_n 3, 1) := by decide +kernel
theorem dL_law_817 : decode cL_law 817 = .ok (.iconst 1, 1) := by decide +kernel
theorem dL_law_818 : decode cL_law 818 = .ok (.iadd, 1) := by decide +kernel
theorem dL_law_819 : decode cL_law 819 = .ok (.iaload, 1) := by decide +kernel
theorem dL_law_820 : decode cL_law 820 = .ok (.aload_n 0, 1) := by decide +kernel
theorem dL_law_821 : decode cL_law 821 = .ok (.iload_n 3, 1) := by decide +kernel
theorem dL_law_822 : decode cL_law 822 = .ok (.iconst 2, 1) := by decide +kernel
theorem dL_law_823 : decode cL_law 823 = .ok (.iadd, 1) := by decide +kernel
theorem dL_law_824 : decode cL_law 824 = .ok (.iaload, 1) := by decide +kernel
theorem dL_law_825 : decode cL_law 825 = .ok (.invokevirtual 92, 3) := by decide +kernel
theorem dL_law_828 : decode cL_law 828 = .ok (.if_icmp .eq 410, 3) := by decide +kernel
theorem dL_law_831 : decode cL_law 831 = .ok (.iconst 0, 1) := by decide +kernel
theorem dL_law_832 : decode cL_law 832 = .ok (.ireturn, 1) := by decide +kernel
theorem dL_law_833 : decode cL_law 833 = .ok (.aload_n 1, 1) := by decide +kernel
theorem dL_law_834 : decode cL_law 834 = .ok (.aload_n 0, 1) := by decide +kernel
theorem dL_law_835 : decode cL_law 835 = .ok (.iload_n 3, 1) := by decide +kernel
theorem dL_law_836 : decode cL_law 836 = .ok (.iconst 1, 1) := by decide +kernel
theorem dL_law_837 : decode cL_law 837 = .ok (.iadd, 1) := by decide +kernel
theorem dL_law_838 : decode cL_law 838 = .ok (.iaload, 1) := by decide +kernel
theorem dL_law_839 : decode cL_law 839 = .ok (.aload_n 0, 1) := by decide +kernel
theorem dL_law_840 : decode cL_law 840 = .ok (.iload_n 3, 1) := by decide +kernel
theorem dL_law_841 : decode cL_law 841 = .ok (.iconst 2, 1) := by decide +kernel
theorem dL_law_842 : decode cL_law 842 = .ok (.iadd, 1) := by decide +kernel
theorem dL_law_843 : decode cL_law 843 = .ok (.iaload, 1) := by decide +kernel
theorem dL_law_844 : decode cL_law 844 = .ok (.invokevirtual 93, 3) := by decide +kernel
theorem dL_law_847 : decode cL_law 847 = .ok (.aload_n 2, 1) := by decide +kernel
theorem dL_law_848 : decode cL_law 848 = .ok (.aload_n 0, 1) := by decide +kernel
theorem dL_law_849 : decode cL_law 849 = .ok (.iload_n 3, 1) := by decide +kernel
theorem dL_law_850 : decode cL_law 850 = .ok (.iconst 1, 1) := by decide +kernel
theorem dL_law_851 : decode cL_law 851 = .ok (.iadd, 1) := by decide +kernel
theorem dL_law_852 : decode cL_law 852 = .ok (.iaload, 1) := by decide +kernel
theorem dL_law_853 : decode cL_law 853 = .ok (.aload_n 0, 1) := by decide +kernel
theorem dL_law_854 : decode cL_law 854 = .ok (.iload_n 3, 1) := by decide +kernel
theorem dL_law_855 : decode cL_law 855 = .ok (.iconst 2, 1) := by decide +kernel
theorem dL_law_856 : decode cL_law 856 = .ok (.iadd, 1) := by decide +kernel
theorem dL_law_857 : decode cL_law 857 = .ok (.iaload, 1) := by decide +kernel
theorem dL_law_858 : decode cL_law 858 = .ok (.invokevirtual 96, 3) := by decide +kernel
theorem dL_law_861 : decode cL_law 861 = .ok (.if_icmp .eq 377, 3) := by decide +kernel
theorem dL_law_864 : decode cL_law 864 = .ok (.iconst 0, 1) := by decide +kernel
theorem dL_law_865 : decode cL_law 865 = .ok (.ireturn, 1) := by decide +kernel
theorem dL_law_866 : decode cL_law 866 = .ok (.aload_n 1, 1) := by decide +kernel
theorem dL_law_867 : decode cL_law 867 = .ok (.aload_n 0, 1) := by decide +kernel
theorem dL_law_868 : decode cL_law 868 = .ok (.iload_n 3, 1) := by decide +kernel
theorem dL_law_869 : decode cL_law 869 = .ok (.iconst 1, 1) := by decide +kernel
theorem dL_law_870 : decode cL_law 870 = .ok (.iadd, 1) := by decide +kernel
theorem dL_law_871 : decode cL_law 871 = .ok (.iaload, 1) := by decide +kernel
theorem dL_law_872 : decode cL_law 872 = .ok (.aload_n 0, 1) := by decide +kernel
theorem dL_law_873 : decode cL_law 873 = .ok (.iload_n 3, 1) := by decide +kernel
theorem dL_law_874 : decode cL_law 874 = .ok (.iconst 2, 1) := by decide +kernel
theorem dL_law_875 : decode cL_law 875 = .ok (.iadd, 1) := by decide +kernel
theorem dL_law_876 : decode cL_law 876 = .ok (.iaload, 1) := by decide +kernel
theorem dL_law_877 : decode cL_law 877 = .ok (.invokevirtual 97, 3) := by decide +kernel
theorem dL_law_880 : decode cL_law 880 = .ok (.aload_n 2, 1) := by decide +kernel
theorem dL_law_881 : decode cL_law 881 = .ok (.aload_n 0, 1) := by decide +kernel
theorem dL_law_882 : decode cL_law 882 = .ok (.iload_n 3, 1) := by decide +kernel
theorem dL_law_883 : decode cL_law 883 = .ok (.iconst 1, 1) := by decide +kernel
theorem dL_law_884 : decode cL_law 884 = .ok (.iadd, 1) := by decide +kernel
theorem dL_law_885 : decode cL_law 885 = .ok (.iaload, 1) := by decide +kernel
theorem dL_law_886 : decode cL_law 886 = .ok (.aload_n 0, 1) := by decide +kernel
theorem dL_law_887 : decode cL_law 887 = .ok (.iload_n 3, 1) := by decide +kernel
theorem dL_law_888 : decode cL_law 888 = .ok (.iconst 2, 1) := by decide +kernel
theorem dL_law_889 : decode cL_law 889 = .ok (.iadd, 1) := by decide +kernel
theorem dL_law_890 : decode cL_law 890 = .ok (.iaload, 1) := by decide +kernel
theorem dL_law_891 : decode cL_law 891 = .ok (.invokevirtual 100, 3) := by decide +kernel
theorem dL_law_894 : decode cL_law 894 = .ok (.if_icmp .eq 344, 3) := by decide +kernel
theorem dL_law_897 : decode cL_law 897 = .ok (.iconst 0, 1) := by decide +kernel
theorem dL_law_898 : decode cL_law 898 = .ok (.ireturn, 1) := by decide +kernel
theorem dL_law_899 : decode cL_law 899 = .ok (.aload_n 1, 1) := by decide +kernel
theorem dL_law_900 : decode cL_law 900 = .ok (.aload_n 0, 1) := by decide +kernel
theorem dL_law_901 : decode cL_law 901 = .ok (.iload_n 3, 1) := by decide +kernel
theorem dL_law_902 : decode cL_law 902 = .ok (.iconst 1, 1) := by decide +kernel
theorem dL_law_903 : decode cL_law 903 = .ok (.iadd, 1) := by decide +kernel
theorem dL_law_904 : decode cL_law 904 = .ok (.iaload, 1) := by decide +kernel
theorem dL_law_905 : decode cL_law 905 = .ok (.invokevirtual 101, 3) := by decide +kernel
theorem dL_law_908 : decode cL_law 908 = .ok (.aload_n 2, 1) := by decide +kernel
theorem dL_law_909 : decode cL_law 909 = .ok (.aload_n 0, 1) := by decide +kernel
theorem dL_law_910 : decode cL_law 910 = .ok (.iload_n 3, 1) := by decide +kernel
theorem dL_law_911 : decode cL_law 911 = .ok (.iconst 1, 1) := by decide +kernel
theorem dL_law_912 : decode cL_law 912 = .ok (.iadd, 1) := by decide +kernel
theorem dL_law_913 : decode cL_law 913 = .ok (.iaload, 1) := by decide +kernel
theorem dL_law_914 : decode cL_law 914 = .ok (.invokevirtual 104, 3) := by decide +kernel
theorem dL_law_917 : decode cL_law 917 = .ok (.if_icmp .eq 321, 3) := by decide +kernel
theorem dL_law_920 : decode cL_law 920 = .ok (.iconst 0, 1) := by decide +kernel
theorem dL_law_921 : decode cL_law 921 = .ok (.ireturn, 1) := by decide +kernel
theorem dL_law_922 : decode cL_law 922 = .ok (.aload_n 1, 1) := by decide +kernel
theorem dL_law_923 : decode cL_law 923 = .ok (.aload_n 0, 1) := by decide +kernel
theorem dL_law_924 : decode cL_law 924 = .ok (.iload_n 3, 1) := by decide +kernel
theorem dL_law_925 : decode cL_law 925 = .ok (.iconst 1, 1) := by decide +kernel
theorem dL_law_926 : decode cL_law 926 = .ok (.iadd, 1) := by decide +kernel
theorem dL_law_927 : decode cL_law 927 = .ok (.iaload, 1) := by decide +kernel
theorem dL_law_928 : decode cL_law 928 = .ok (.invokevirtual 105, 3) := by decide +kernel
theorem dL_law_931 : decode cL_law 931 = .ok (.aload_n 2, 1) := by decide +kernel
theorem dL_law_932 : decode cL_law 932 = .ok (.aload_n 0, 1) := by decide +kernel
theorem dL_law_933 : decode cL_law 933 = .ok (.iload_n 3, 1) := by decide +kernel
theorem dL_law_934 : decode cL_law 934 = .ok (.iconst 1, 1) := by decide +kernel
theorem dL_law_935 : decode cL_law 935 = .ok (.iadd, 1) := by decide +kernel
theorem dL_law_936 : decode cL_law 936 = .ok (.iaload, 1) := by decide +kernel
theorem dL_law_937 : decode cL_law 937 = .ok (.invokevirtual 108, 3) := by decide +kernel
theorem dL_law_940 : decode cL_law 940 = .ok (.if_icmp .eq 298, 3) := by decide +kernel
theorem dL_law_943 : decode cL_law 943 = .ok (.iconst 0, 1) := by decide +kernel
theorem dL_law_944 : decode cL_law 944 = .ok (.ireturn, 1) := by decide +kernel
theorem dL_law_945 : decode cL_law 945 = .ok (.aload_n 1, 1) := by decide +kernel
theorem dL_law_946 : decode cL_law 946 = .ok (.aload_n 0, 1) := by decide +kernel
theorem dL_law_947 : decode cL_law 947 = .ok (.iload_n 3, 1) := by decide +kernel
theorem dL_law_948 : decode cL_law 948 = .ok (.iconst 1, 1) := by decide +kernel
theorem dL_law_949 : decode cL_law 949 = .ok (.iadd, 1) := by decide +kernel
theorem dL_law_950 : decode cL_law 950 = .ok (.iaload, 1) := by decide +kernel
theorem dL_law_951 : decode cL_law 951 = .ok (.invokevirtual 109, 3) := by decide +kernel
theorem dL_law_954 : decode cL_law 954 = .ok (.aload_n 2, 1) := by decide +kernel
theorem dL_law_955 : decode cL_law 955 = .ok (.aload_n 0, 1) := by decide +kernel
theorem dL_law_956 : decode cL_law 956 = .ok (.iload_n 3, 1) := by decide +kernel
theorem dL_law_957 : decode cL_law 957 = .ok (.iconst 1, 1) := by decide +kernel
theorem dL_law_958 : decode cL_law 958 = .ok (.iadd, 1) := by decide +kernel
theorem dL_law_959 : decode cL_law 959 = .ok (.iaload, 1) := by decide +kernel
theorem dL_law_960 : decode cL_law 960 = .ok (.invokevirtual 112, 3) := by decide +kernel
theorem dL_law_963 : decode cL_law 963 = .ok (.if_icmp .eq 275, 3) := by decide +kernel
theorem dL_law_966 : decode cL_law 966 = .ok (.iconst 0, 1) := by decide +kernel
theorem dL_law_967 : decode cL_law 967 = .ok (.ireturn, 1) := by decide +kernel
theorem dL_law_968 : decode cL_law 968 = .ok (.aload_n 1, 1) := by decide +kernel
theorem dL_law_969 : decode cL_law 969 = .ok (.aload_n 0, 1) := by decide +kernel
theorem dL_law_970 : decode cL_law 970 = .ok (.iload_n 3, 1) := by decide +kernel
theorem dL_law_971 : decode cL_law 971 = .ok (.iconst 1, 1) := by decide +kernel
theorem dL_law_972 : decode cL_law 972 = .ok (.iadd, 1) := by decide +kernel
theorem dL_law_973 : decode cL_law 973 = .ok (.iaload, 1) := by decide +kernel
theorem dL_law_974 : decode cL_law 974 = .ok (.aload_n 0, 1) := by decide +kernel
theorem dL_law_975 : decode cL_law 975 = .ok (.iload_n 3, 1) := by decide +kernel
theorem dL_law_976 : decode cL_law 976 = .ok (.iconst 2, 1) := by decide +kernel
theorem dL_law_977 : decode cL_law 977 = .ok (.iadd, 1) := by decide +kernel
theorem dL_law_978 : decode cL_law 978 = .ok (.iaload, 1) := by decide +kernel
theorem dL_law_979 : decode cL_law 979 = .ok (.aload_n 0, 1) := by decide +kernel
theorem dL_law_980 : decode cL_law 980 = .ok (.iload_n 3, 1) := by decide +kernel
theorem dL_law_981 : decode cL_law 981 = .ok (.iconst 3, 1) := by decide +kernel
theorem dL_law_982 : decode cL_law 982 = .ok (.iadd, 1) := by decide +kernel
theorem dL_law_983 : decode cL_law 983 = .ok (.iaload, 1) := by decide +kernel
theorem dL_law_984 : decode cL_law 984 = .ok (.invokevirtual 113, 3) := by decide +kernel
theorem dL_law_987 : decode cL_law 987 = .ok (.aload_n 2, 1) := by decide +kernel
theorem dL_law_988 : decode cL_law 988 = .ok (.aload_n 0, 1) := by decide +kernel
theorem dL_law_989 : decode cL_law 989 = .ok (.iload_n 3, 1) := by decide +kernel
theorem dL_law_990 : decode cL_law 990 = .ok (.iconst 1, 1) := by decide +kernel
theorem dL_law_991 : decode cL_law 991 = .ok (.iadd, 1) := by decide +kernel
theorem dL_law_992 : decode cL_law 992 = .ok (.iaload, 1) := by decide +kernel
theorem dL_law_993 : decode cL_law 993 = .ok (.aload_n 0, 1) := by decide +kernel
theorem dL_law_994 : decode cL_law 994 = .ok (.iload_n 3, 1) := by decide +kernel
theorem dL_law_995 : decode cL_law 995 = .ok (.iconst 2, 1) := by decide +kernel
theorem dL_law_996 : decode cL_law 996 = .ok (.iadd, 1) := by decide +kernel
theorem dL_law_997 : decode cL_law 997 = .ok (.iaload, 1) := by decide +kernel
theorem dL_law_998 : decode cL_law 998 = .ok (.aload_n 0, 1) := by decide +kernel
theorem dL_law_999 : decode cL_law 999 = .ok (.iload_n 3, 1) := by decide +kernel
theorem dL_law_1000 : decode cL_law 1000 = .ok (.iconst 3, 1) := by decide +kernel
theorem dL_law_1001 : decode cL_law 1001 = .ok (.iadd, 1) := by decide +kernel
theorem dL_law_1002 : decode cL_law 1002 = .ok (.iaload, 1) := by decide +kernel
theorem dL_law_1003 : decode cL_law 1003 = .ok (.invokevirtual 116, 3) := by decide +kernel
theorem dL_law_1006 : decode cL_law 1006 = .ok (.if_icmp .eq 232, 3) := by decide +kernel
theorem dL_law_1009 : decode cL_law 1009 = .ok (.iconst 0, 1) := by decide +kernel
theorem dL_law_1010 : decode cL_law 1010 = .ok (.ireturn, 1) := by decide +kernel
theorem dL_law_1011 : decode cL_law 1011 = .ok (.aload_n 1, 1) := by decide +kernel
theorem dL_law_1012 : decode cL_law 1012 = .ok (.aload_n 0, 1) := by decide +kernel
theorem dL_law_1013 : decode cL_law 1013 = .ok (.iload_n 3, 1) := by decide +kernel
theorem dL_law_1014 : decode cL_law 1014 = .ok (.iconst 1, 1) := by decide +kernel
theorem dL_law_1015 : decode cL_law 1015 = .ok (.iadd, 1) := by decide +kernel
theorem dL_law_1016 : decode cL_law 1016 = .ok (.iaload, 1) := by decide +kernel
theorem dL_law_1017 : decode cL_law 1017 = .ok (.invokevirtual 117, 3) := by decide +kernel
theorem dL_law_1020 : decode cL_law 1020 = .ok (.aload_n 2, 1) := by decide +kernel
theorem dL_law_1021 : decode cL_law 1021 = .ok (.aload_n 0, 1) := by decide +kernel
theorem dL_law_1022 : decode cL_law 1022 = .ok (.iload_n 3, 1) := by decide +kernel
theorem dL_law_1023 : decode cL_law 1023 = .ok (.iconst 1, 1) := by decide +kernel
theorem dL_law_1024 : decode cL_law 1024 = .ok (.iadd, 1) := by decide +kernel
theorem dL_law_1025 : decode cL_law 1025 = .ok (.iaload, 1) := by decide +kernel
theorem dL_law_1026 : decode cL_law 1026 = .ok (.invokevirtual 120, 3) := by decide +kernel
theorem dL_law_1029 : decode cL_law 1029 = .ok (.if_icmp .eq 209, 3) := by decide +kernel
theorem dL_law_1032 : decode cL_law 1032 = .ok (.iconst 0, 1) := by decide +kernel
theorem dL_law_1033 : decode cL_law 1033 = .ok (.ireturn, 1) := by decide +kernel
theorem dL_law_1034 : decode cL_law 1034 = .ok (.aload_n 1, 1) := by decide +kernel
theorem dL_law_1035 : decode cL_law 1035 = .ok (.invokevirtual 121, 3) := by decide +kernel
theorem dL_law_1038 : decode cL_law 1038 = .ok (.aload_n 2, 1) := by decide +kernel
theorem dL_law_1039 : decode cL_law 1039 = .ok (.invokevirtual 124, 3) := by decide +kernel
theorem dL_law_1042 : decode cL_law 1042 = .ok (.if_icmp .eq 196, 3) := by decide +kernel
theorem dL_law_1045 : decode cL_law 1045 = .ok (.iconst 0, 1) := by decide +kernel
theorem dL_law_1046 : decode cL_law 1046 = .ok (.ireturn, 1) := by decide +kernel
theorem dL_law_1047 : decode cL_law 1047 = .ok (.aload_n 1, 1) := by decide +kernel
theorem dL_law_1048 : decode cL_law 1048 = .ok (.invokevirtual 125, 3) := by decide +kernel
theorem dL_law_1051 : decode cL_law 1051 = .ok (.aload_n 2, 1) := by decide +kernel
theorem dL_law_1052 : decode cL_law 1052 = .ok (.invokevirtual 128, 3) := by decide +kernel
theorem dL_law_1055 : decode cL_law 1055 = .ok (.if_icmp .eq 183, 3) := by decide +kernel
theorem dL_law_1058 : decode cL_law 1058 = .ok (.iconst 0, 1) := by decide +kernel
theorem dL_law_1059 : decode cL_law 1059 = .ok (.ireturn, 1) := by decide +kernel
theorem dL_law_1060 : decode cL_law 1060 = .ok (.aload_n 1, 1) := by decide +kernel
theorem dL_law_1061 : decode cL_law 1061 = .ok (.aload_n 0, 1) := by decide +kernel
theorem dL_law_1062 : decode cL_law 1062 = .ok (.iload_n 3, 1) := by decide +kernel
theorem dL_law_1063 : decode cL_law 1063 = .ok (.iconst 1, 1) := by decide +kernel
theorem dL_law_1064 : decode cL_law 1064 = .ok (.iadd, 1) := by decide +kernel
theorem dL_law_1065 : decode cL_law 1065 = .ok (.iaload, 1) := by decide +kernel
theorem dL_law_1066 : decode cL_law 1066 = .ok (.aload_n 0, 1) := by decide +kernel
theorem dL_law_1067 : decode cL_law 1067 = .ok (.iload_n 3, 1) := by decide +kernel
theorem dL_law_1068 : decode cL_law 1068 = .ok (.iconst 2, 1) := by decide +kernel
theorem dL_law_1069 : decode cL_law 1069 = .ok (.iadd, 1) := by decide +kernel
theorem dL_law_1070 : decode cL_law 1070 = .ok (.iaload, 1) := by decide +kernel
theorem dL_law_1071 : decode cL_law 1071 = .ok (.invokevirtual 129, 3) := by decide +kernel
theorem dL_law_1074 : decode cL_law 1074 = .ok (.aload_n 2, 1) := by decide +kernel
theorem dL_law_1075 : decode cL_law 1075 = .ok (.aload_n 0, 1) := by decide +kernel
theorem dL_law_1076 : decode cL_law 1076 = .ok (.iload_n 3, 1) := by decide +kernel
theorem dL_law_1077 : decode cL_law 1077 = .ok (.iconst 1, 1) := by decide +kernel
theorem dL_law_1078 : decode cL_law 1078 = .ok (.iadd, 1) := by decide +kernel
theorem dL_law_1079 : decode cL_law 1079 = .ok (.iaload, 1) := by decide +kernel
theorem dL_law_1080 : decode cL_law 1080 = .ok (.aload_n 0, 1) := by decide +kernel
theorem dL_law_1081 : decode cL_law 1081 = .ok (.iload_n 3, 1) := by decide +kernel
theorem dL_law_1082 : decode cL_law 1082 = .ok (.iconst 2, 1) := by decide +kernel
theorem dL_law_1083 : decode cL_law 1083 = .ok (.iadd, 1) := by decide +kernel
theorem dL_law_1084 : decode cL_law 1084 = .ok (.iaload, 1) := by decide +kernel
theorem dL_law_1085 : decode cL_law 1085 = .ok (.invokevirtual 132, 3) := by decide +kernel
theorem dL_law_1088 : decode cL_law 1088 = .ok (.if_icmp .eq 150, 3) := by decide +kernel
theorem dL_law_1091 : decode cL_law 1091 = .ok (.iconst 0, 1) := by decide +kernel
theorem dL_law_1092 : decode cL_law 1092 = .ok (.ireturn, 1) := by decide +kernel
theorem dL_law_1093 : decode cL_law 1093 = .ok (.aload_n 1, 1) := by decide +kernel
theorem dL_law_1094 : decode cL_law 1094 = .ok (.aload_n 0, 1) := by decide +kernel
theorem dL_law_1095 : decode cL_law 1095 = .ok (.iload_n 3, 1) := by decide +kernel
theorem dL_law_1096 : decode cL_law 1096 = .ok (.iconst 1, 1) := by decide +kernel
theorem dL_law_1097 : decode cL_law 1097 = .ok (.iadd, 1) := by decide +kernel
theorem dL_law_1098 : decode cL_law 1098 = .ok (.iaload, 1) := by decide +kernel
theorem dL_law_1099 : decode cL_law 1099 = .ok (.aload_n 0, 1) := by decide +kernel
theorem dL_law_1100 : decode cL_law 1100 = .ok (.iload_n 3, 1) := by decide +kernel
theorem dL_law_1101 : decode cL_law 1101 = .ok (.iconst 2, 1) := by decide +kernel
theorem dL_law_1102 : decode cL_law 1102 = .ok (.iadd, 1) := by decide +kernel
theorem dL_law_1103 : decode cL_law 1103 = .ok (.iaload, 1) := by decide +kernel
theorem dL_law_1104 : decode cL_law 1104 = .ok (.aload_n 0, 1) := by decide +kernel
theorem dL_law_1105 : decode cL_law 1105 = .ok (.iload_n 3, 1) := by decide +kernel
theorem dL_law_1106 : decode cL_law 1106 = .ok (.iconst 3, 1) := by decide +kernel
theorem dL_law_1107 : decode cL_law 1107 = .ok (.iadd, 1) := by decide +kernel
theorem dL_law_1108 : decode cL_law 1108 = .ok (.iaload, 1) := by decide +kernel
theorem dL_law_1109 : decode cL_law 1109 = .ok (.invokevirtual 133, 3) := by decide +kernel
theorem dL_law_1112 : decode cL_law 1112 = .ok (.aload_n 2, 1) := by decide +kernel
theorem dL_law_1113 : decode cL_law 1113 = .ok (.aload_n 0, 1) := by decide +kernel
theorem dL_law_1114 : decode cL_law 1114 = .ok (.iload_n 3, 1) := by decide +kernel
theorem dL_law_1115 : decode cL_law 1115 = .ok (.iconst 1, 1) := by decide +kernel
theorem dL_law_1116 : decode cL_law 1116 = .ok (.iadd, 1) := by decide +kernel
theorem dL_law_1117 : decode cL_law 1117 = .ok (.iaload, 1) := by decide +kernel
theorem dL_law_1118 : decode cL_law 1118 = .ok (.aload_n 0, 1) := by decide +kernel
theorem dL_law_1119 : decode cL_law 1119 = .ok (.iload_n 3, 1) := by decide +kernel
theorem dL_law_1120 : decode cL_law 1120 = .ok (.iconst 2, 1) := by decide +kernel
theorem dL_law_1121 : decode cL_law 1121 = .ok (.iadd, 1) := by decide +kernel
theorem dL_law_1122 : decode cL_law 1122 = .ok (.iaload, 1) := by decide +kernel
theorem dL_law_1123 : decode cL_law 1123 = .ok (.aload_n 0, 1) := by decide +kernel
theorem dL_law_1124 : decode cL_law 1124 = .ok (.iload_n 3, 1) := by decide +kernel
theorem dL_law_1125 : decode cL_law 1125 = .ok (.iconst 3, 1) := by decide +kernel
theorem dL_law_1126 : decode cL_law 1126 = .ok (.iadd, 1) := by decide +kernel
theorem dL_law_1127 : decode cL_law 1127 = .ok (.iaload, 1) := by decide +kernel
theorem dL_law_1128 : decode cL_law 1128 = .ok (.invokevirtual 136, 3) := by decide +kernel
theorem dL_law_1131 : decode cL_law 1131 = .ok (.if_icmp .eq 107, 3) := by decide +kernel
theorem dL_law_1134 : decode cL_law 1134 = .ok (.iconst 0, 1) := by decide +kernel
theorem dL_law_1135 : decode cL_law 1135 = .ok (.ireturn, 1) := by decide +kernel
theorem dL_law_1136 : decode cL_law 1136 = .ok (.aload_n 1, 1) := by decide +kernel
theorem dL_law_1137 : decode cL_law 1137 = .ok (.invokevirtual 137, 3) := by decide +kernel
theorem dL_law_1140 : decode cL_law 1140 = .ok (.aload_n 2, 1) := by decide +kernel
theorem dL_law_1141 : decode cL_law 1141 = .ok (.invokevirtual 140, 3) := by decide +kernel
theorem dL_law_1144 : decode cL_law 1144 = .ok (.if_icmp .eq 94, 3) := by decide +kernel
theorem dL_law_1147 : decode cL_law 1147 = .ok (.iconst 0, 1) := by decide +kernel
theorem dL_law_1148 : decode cL_law 1148 = .ok (.ireturn, 1) := by decide +kernel
theorem dL_law_1149 : decode cL_law 1149 = .ok (.aload_n 1, 1) := by decide +kernel
theorem dL_law_1150 : decode cL_law 1150 = .ok (.invokevirtual 141, 3) := by decide +kernel
theorem dL_law_1153 : decode cL_law 1153 = .ok (.aload_n 2, 1) := by decide +kernel
theorem dL_law_1154 : decode cL_law 1154 = .ok (.invokevirtual 144, 3) := by decide +kernel
theorem dL_law_1157 : decode cL_law 1157 = .ok (.if_icmp .eq 81, 3) := by decide +kernel
theorem dL_law_1160 : decode cL_law 1160 = .ok (.iconst 0, 1) := by decide +kernel
theorem dL_law_1161 : decode cL_law 1161 = .ok (.ireturn, 1) := by decide +kernel
theorem dL_law_1162 : decode cL_law 1162 = .ok (.aload_n 1, 1) := by decide +kernel
theorem dL_law_1163 : decode cL_law 1163 = .ok (.aload_n 0, 1) := by decide +kernel
theorem dL_law_1164 : decode cL_law 1164 = .ok (.iload_n 3, 1) := by decide +kernel
theorem dL_law_1165 : decode cL_law 1165 = .ok (.iconst 1, 1) := by decide +kernel
theorem dL_law_1166 : decode cL_law 1166 = .ok (.iadd, 1) := by decide +kernel
theorem dL_law_1167 : decode cL_law 1167 = .ok (.iaload, 1) := by decide +kernel
theorem dL_law_1168 : decode cL_law 1168 = .ok (.invokevirtual 145, 3) := by decide +kernel
theorem dL_law_1171 : decode cL_law 1171 = .ok (.aload_n 2, 1) := by decide +kernel
theorem dL_law_1172 : decode cL_law 1172 = .ok (.aload_n 0, 1) := by decide +kernel
theorem dL_law_1173 : decode cL_law 1173 = .ok (.iload_n 3, 1) := by decide +kernel
theorem dL_law_1174 : decode cL_law 1174 = .ok (.iconst 1, 1) := by decide +kernel
theorem dL_law_1175 : decode cL_law 1175 = .ok (.iadd, 1) := by decide +kernel
theorem dL_law_1176 : decode cL_law 1176 = .ok (.iaload, 1) := by decide +kernel
theorem dL_law_1177 : decode cL_law 1177 = .ok (.invokevirtual 148, 3) := by decide +kernel
theorem dL_law_1180 : decode cL_law 1180 = .ok (.if_icmp .eq 58, 3) := by decide +kernel
theorem dL_law_1183 : decode cL_law 1183 = .ok (.iconst 0, 1) := by decide +kernel
theorem dL_law_1184 : decode cL_law 1184 = .ok (.ireturn, 1) := by decide +kernel
theorem dL_law_1185 : decode cL_law 1185 = .ok (.aload_n 1, 1) := by decide +kernel
theorem dL_law_1186 : decode cL_law 1186 = .ok (.invokevirtual 149, 3) := by decide +kernel
theorem dL_law_1189 : decode cL_law 1189 = .ok (.aload_n 2, 1) := by decide +kernel
theorem dL_law_1190 : decode cL_law 1190 = .ok (.invokevirtual 152, 3) := by decide +kernel
theorem dL_law_1193 : decode cL_law 1193 = .ok (.if_icmp .eq 45, 3) := by decide +kernel
theorem dL_law_1196 : decode cL_law 1196 = .ok (.iconst 0, 1) := by decide +kernel
theorem dL_law_1197 : decode cL_law 1197 = .ok (.ireturn, 1) := by decide +kernel
theorem dL_law_1198 : decode cL_law 1198 = .ok (.aload_n 1, 1) := by decide +kernel
theorem dL_law_1199 : decode cL_law 1199 = .ok (.invokevirtual 153, 3) := by decide +kernel
theorem dL_law_1202 : decode cL_law 1202 = .ok (.aload_n 2, 1) := by decide +kernel
theorem dL_law_1203 : decode cL_law 1203 = .ok (.invokevirtual 156, 3) := by decide +kernel
theorem dL_law_1206 : decode cL_law 1206 = .ok (.if_icmp .eq 32, 3) := by decide +kernel
theorem dL_law_1209 : decode cL_law 1209 = .ok (.iconst 0, 1) := by decide +kernel
theorem dL_law_1210 : decode cL_law 1210 = .ok (.ireturn, 1) := by decide +kernel
theorem dL_law_1211 : decode cL_law 1211 = .ok (.aload_n 1, 1) := by decide +kernel
theorem dL_law_1212 : decode cL_law 1212 = .ok (.invokevirtual 157, 3) := by decide +kernel
theorem dL_law_1215 : decode cL_law 1215 = .ok (.aload_n 2, 1) := by decide +kernel
theorem dL_law_1216 : decode cL_law 1216 = .ok (.invokevirtual 160, 3) := by decide +kernel
theorem dL_law_1219 : decode cL_law 1219 = .ok (.if_icmp .eq 19, 3) := by decide +kernel
theorem dL_law_1222 : decode cL_law 1222 = .ok (.iconst 0, 1) := by decide +kernel
theorem dL_law_1223 : decode cL_law 1223 = .ok (.ireturn, 1) := by decide +kernel
theorem dL_law_1224 : decode cL_law 1224 = .ok (.aload_n 1, 1) := by decide +kernel
theorem dL_law_1225 : decode cL_law 1225 = .ok (.invokevirtual 161, 3) := by decide +kernel
theorem dL_law_1228 : decode cL_law 1228 = .ok (.aload_n 2, 1) := by decide +kernel
theorem dL_law_1229 : decode cL_law 1229 = .ok (.invokevirtual 165, 3) := by decide +kernel
theorem dL_law_1232 : decode cL_law 1232 = .ok (.lcmp, 1) := by decide +kernel
theorem dL_law_1233 : decode cL_law 1233 = .ok (.ifCond .eq 5, 3) := by decide +kernel
theorem dL_law_1236 : decode cL_law 1236 = .ok (.iconst 0, 1) := by decide +kernel
theorem dL_law_1237 : decode cL_law 1237 = .ok (.ireturn, 1) := by decide +kernel
theorem dL_law_1238 : decode cL_law 1238 = .ok (.iinc 3 4, 3) := by decide +kernel
theorem dL_law_1241 : decode cL_law 1241 = .ok (.goto (-1223), 3) := by decide +kernel
theorem dL_law_1244 : decode cL_law 1244 = .ok (.iconst 1, 1) := by decide +kernel
theorem dL_law_1245 : decode cL_law 1245 = .ok (.ireturn, 1) := by decide +kernel
def wc_law_0 (xs : Nat → Int32) (Ln : Nat) (k : Int32 → z_S → Prop) (x3 : Int32) (σ : z_S) : Prop :=
  vp_in (x3 + (1 : Int32)) Ln ∧ w_X5_addMeter (xs (x3 + (1 : Int32)).toNatClampNeg) σ (fun r5 σ6 => vp_in (x3 + (1 : Int32)) Ln ∧ w_X6_addMeter (xs (x3 + (1 : Int32)).toNatClampNeg) σ6 (fun r8 σ9 => if r5 = r8 then (∀ y11 : Int32, y11 = (x3 + (4 : Int32)) → k y11 σ9) else (False)))
def wc_law_1 (xs : Nat → Int32) (Ln : Nat) (k : Int32 → z_S → Prop) (x3 : Int32) (σ : z_S) : Prop :=
  vp_in (x3 + (1 : Int32)) Ln ∧ vp_in (x3 + (2 : Int32)) Ln ∧ vp_in (x3 + (3 : Int32)) Ln ∧ w_X5_setMeter (xs (x3 + (1 : Int32)).toNatClampNeg) (xs (x3 + (2 : Int32)).toNatClampNeg) (xs (x3 + (3 : Int32)).toNatClampNeg) σ (fun r16 σ17 => vp_in (x3 + (1 : Int32)) Ln ∧ vp_in (x3 + (2 : Int32)) Ln ∧ vp_in (x3 + (3 : Int32)) Ln ∧ w_X6_setMeter (xs (x3 + (1 : Int32)).toNatClampNeg) (xs (x3 + (2 : Int32)).toNatClampNeg) (xs (x3 + (3 : Int32)).toNatClampNeg) σ17 (fun r21 σ22 => if r16 = r21 then (∀ y24 : Int32, y24 = (x3 + (4 : Int32)) → k y24 σ22) else (False)))
def wc_law_2 (xs : Nat → Int32) (Ln : Nat) (k : Int32 → z_S → Prop) (x3 : Int32) (σ : z_S) : Prop :=
  vp_in (x3 + (1 : Int32)) Ln ∧ vp_in (x3 + (2 : Int32)) Ln ∧ vp_in (x3 + (3 : Int32)) Ln ∧ w_X5_setRegister (xs (x3 + (1 : Int32)).toNatClampNeg) (xs (x3 + (2 : Int32)).toNatClampNeg) (xs (x3 + (3 : Int32)).toNatClampNeg) σ (fun r29 σ30 => vp_in (x3 + (1 : Int32)) Ln ∧ vp_in (x3 + (2 : Int32)) Ln ∧ vp_in (x3 + (3 : Int32)) Ln ∧ w_X6_setRegister (xs (x3 + (1 : Int32)).toNatClampNeg) (xs (x3 + (2 : Int32)).toNatClampNeg) (xs (x3 + (3 : Int32)).toNatClampNeg) σ30 (fun r34 σ35 => if r29 = r34 then (∀ y37 : Int32, y37 = (x3 + (4 : Int32)) → k y37 σ35) else (False)))
def wc_law_3 (xs : Nat → Int32) (Ln : Nat) (k : Int32 → z_S → Prop) (x3 : Int32) (σ : z_S) : Prop :=
  vp_in (x3 + (1 : Int32)) Ln ∧ vp_in (x3 + (2 : Int32)) Ln ∧ w_X5_setRules (xs (x3 + (1 : Int32)).toNatClampNeg) (xs (x3 + (2 : Int32)).toNatClampNeg) σ (fun r41 σ42 => vp_in (x3 + (1 : Int32)) Ln ∧ vp_in (x3 + (2 : Int32)) Ln ∧ w_X6_setRules (xs (x3 + (1 : Int32)).toNatClampNeg) (xs (x3 + (2 : Int32)).toNatClampNeg) σ42 (fun r45 σ46 => if r41 = r45 then (∀ y48 : Int32, y48 = (x3 + (4 : Int32)) → k y48 σ46) else (False)))
def wc_law_4 (xs : Nat → Int32) (Ln : Nat) (k : Int32 → z_S → Prop) (x3 : Int32) (σ : z_S) : Prop :=
  w_X5_meters σ (fun r50 σ51 => w_X6_meters σ51 (fun r52 σ53 => if r50 = r52 then (∀ y55 : Int32, y55 = (x3 + (4 : Int32)) → k y55 σ53) else (False)))
def wc_law_5 (xs : Nat → Int32) (Ln : Nat) (k : Int32 → z_S → Prop) (x3 : Int32) (σ : z_S) : Prop :=
  vp_in (x3 + (1 : Int32)) Ln ∧ vp_in (x3 + (2 : Int32)) Ln ∧ w_X5_meter (xs (x3 + (1 : Int32)).toNatClampNeg) (xs (x3 + (2 : Int32)).toNatClampNeg) σ (fun r59 σ60 => vp_in (x3 + (1 : Int32)) Ln ∧ vp_in (x3 + (2 : Int32)) Ln ∧ w_X6_meter (xs (x3 + (1 : Int32)).toNatClampNeg) (xs (x3 + (2 : Int32)).toNatClampNeg) σ60 (fun r63 σ64 => if r59 = r63 then (∀ y66 : Int32, y66 = (x3 + (4 : Int32)) → k y66 σ64) else (False)))
def wc_law_6 (xs : Nat → Int32) (Ln : Nat) (k : Int32 → z_S → Prop) (x3 : Int32) (σ : z_S) : Prop :=
  vp_in (x3 + (1 : Int32)) Ln ∧ vp_in (x3 + (2 : Int32)) Ln ∧ w_X5_child (xs (x3 + (1 : Int32)).toNatClampNeg) (xs (x3 + (2 : Int32)).toNatClampNeg) σ (fun r70 σ71 => vp_in (x3 + (1 : Int32)) Ln ∧ vp_in (x3 + (2 : Int32)) Ln ∧ w_X6_child (xs (x3 + (1 : Int32)).toNatClampNeg) (xs (x3 + (2 : Int32)).toNatClampNeg) σ71 (fun r74 σ75 => if r70 = r74 then (∀ y77 : Int32, y77 = (x3 + (4 : Int32)) → k y77 σ75) else (False)))
def wc_law_7 (xs : Nat → Int32) (Ln : Nat) (k : Int32 → z_S → Prop) (x3 : Int32) (σ : z_S) : Prop :=
  vp_in (x3 + (1 : Int32)) Ln ∧ vp_in (x3 + (2 : Int32)) Ln ∧ vp_in (x3 + (3 : Int32)) Ln ∧ w_X5_setReading (xs (x3 + (1 : Int32)).toNatClampNeg) (xs (x3 + (2 : Int32)).toNatClampNeg) (xs (x3 + (3 : Int32)).toNatClampNeg) σ (fun r82 σ83 => vp_in (x3 + (1 : Int32)) Ln ∧ vp_in (x3 + (2 : Int32)) Ln ∧ vp_in (x3 + (3 : Int32)) Ln ∧ w_X6_setReading (xs (x3 + (1 : Int32)).toNatClampNeg) (xs (x3 + (2 : Int32)).toNatClampNeg) (xs (x3 + (3 : Int32)).toNatClampNeg) σ83 (fun r87 σ88 => if r82 = r87 then (∀ y90 : Int32, y90 = (x3 + (4 : Int32)) → k y90 σ88) else (False)))
def wc_law_8 (xs : Nat → Int32) (Ln : Nat) (k : Int32 → z_S → Prop) (x3 : Int32) (σ : z_S) : Prop :=
  vp_in (x3 + (1 : Int32)) Ln ∧ vp_in (x3 + (2 : Int32)) Ln ∧ vp_in (x3 + (3 : Int32)) Ln ∧ w_X5_setAll (xs (x3 + (1 : Int32)).toNatClampNeg) (xs (x3 + (2 : Int32)).toNatClampNeg) (xs (x3 + (3 : Int32)).toNatClampNeg) σ (fun r95 σ96 => vp_in (x3 + (1 : Int32)) Ln ∧ vp_in (x3 + (2 : Int32)) Ln ∧ vp_in (x3 + (3 : Int32)) Ln ∧ w_X6_setAll (xs (x3 + (1 : Int32)).toNatClampNeg) (xs (x3 + (2 : Int32)).toNatClampNeg) (xs (x3 + (3 : Int32)).toNatClampNeg) σ96 (fun r100 σ101 => if r95 = r100 then (∀ y103 : Int32, y103 = (x3 + (4 : Int32)) → k y103 σ101) else (False)))
def wc_law_9 (xs : Nat → Int32) (Ln : Nat) (k : Int32 → z_S → Prop) (x3 : Int32) (σ : z_S) : Prop :=
  vp_in (x3 + (1 : Int32)) Ln ∧ vp_in (x3 + (2 : Int32)) Ln ∧ w_X5_removeReading (xs (x3 + (1 : Int32)).toNatClampNeg) (xs (x3 + (2 : Int32)).toNatClampNeg) σ (fun r107 σ108 => vp_in (x3 + (1 : Int32)) Ln ∧ vp_in (x3 + (2 : Int32)) Ln ∧ w_X6_removeReading (xs (x3 + (1 : Int32)).toNatClampNeg) (xs (x3 + (2 : Int32)).toNatClampNeg) σ108 (fun r111 σ112 => if r107 = r111 then (∀ y114 : Int32, y114 = (x3 + (4 : Int32)) → k y114 σ112) else (False)))
def wc_law_10 (xs : Nat → Int32) (Ln : Nat) (k : Int32 → z_S → Prop) (x3 : Int32) (σ : z_S) : Prop :=
  vp_in (x3 + (1 : Int32)) Ln ∧ vp_in (x3 + (2 : Int32)) Ln ∧ w_X5_reading (xs (x3 + (1 : Int32)).toNatClampNeg) (xs (x3 + (2 : Int32)).toNatClampNeg) σ (fun r118 σ119 => vp_in (x3 + (1 : Int32)) Ln ∧ vp_in (x3 + (2 : Int32)) Ln ∧ w_X6_reading (xs (x3 + (1 : Int32)).toNatClampNeg) (xs (x3 + (2 : Int32)).toNatClampNeg) σ119 (fun r122 σ123 => if r118 = r122 then (∀ y125 : Int32, y125 = (x3 + (4 : Int32)) → k y125 σ123) else (False)))
def wc_law_11 (xs : Nat → Int32) (Ln : Nat) (k : Int32 → z_S → Prop) (x3 : Int32) (σ : z_S) : Prop :=
  vp_in (x3 + (1 : Int32)) Ln ∧ vp_in (x3 + (2 : Int32)) Ln ∧ w_X5_raw (xs (x3 + (1 : Int32)).toNatClampNeg) (xs (x3 + (2 : Int32)).toNatClampNeg) σ (fun r129 σ130 => vp_in (x3 + (1 : Int32)) Ln ∧ vp_in (x3 + (2 : Int32)) Ln ∧ w_X6_raw (xs (x3 + (1 : Int32)).toNatClampNeg) (xs (x3 + (2 : Int32)).toNatClampNeg) σ130 (fun r133 σ134 => if r129 = r133 then (∀ y136 : Int32, y136 = (x3 + (4 : Int32)) → k y136 σ134) else (False)))
def wc_law_12 (xs : Nat → Int32) (Ln : Nat) (k : Int32 → z_S → Prop) (x3 : Int32) (σ : z_S) : Prop :=
  vp_in (x3 + (1 : Int32)) Ln ∧ vp_in (x3 + (2 : Int32)) Ln ∧ w_X5_status (xs (x3 + (1 : Int32)).toNatClampNeg) (xs (x3 + (2 : Int32)).toNatClampNeg) σ (fun r140 σ141 => vp_in (x3 + (1 : Int32)) Ln ∧ vp_in (x3 + (2 : Int32)) Ln ∧ w_X6_status (xs (x3 + (1 : Int32)).toNatClampNeg) (xs (x3 + (2 : Int32)).toNatClampNeg) σ141 (fun r144 σ145 => if r140 = r144 then (∀ y147 : Int32, y147 = (x3 + (4 : Int32)) → k y147 σ145) else (False)))
def wc_law_13 (xs : Nat → Int32) (Ln : Nat) (k : Int32 → z_S → Prop) (x3 : Int32) (σ : z_S) : Prop :=
  vp_in (x3 + (1 : Int32)) Ln ∧ vp_in (x3 + (2 : Int32)) Ln ∧ w_X5_energy (xs (x3 + (1 : Int32)).toNatClampNeg) (xs (x3 + (2 : Int32)).toNatClampNeg) σ (fun r151 σ152 => vp_in (x3 + (1 : Int32)) Ln ∧ vp_in (x3 + (2 : Int32)) Ln ∧ w_X6_energy (xs (x3 + (1 : Int32)).toNatClampNeg) (xs (x3 + (2 : Int32)).toNatClampNeg) σ152 (fun r155 σ156 => if r151 = r155 then (∀ y158 : Int32, y158 = (x3 + (4 : Int32)) → k y158 σ156) else (False)))
def wc_law_14 (xs : Nat → Int32) (Ln : Nat) (k : Int32 → z_S → Prop) (x3 : Int32) (σ : z_S) : Prop :=
  vp_in (x3 + (1 : Int32)) Ln ∧ vp_in (x3 + (2 : Int32)) Ln ∧ w_X5_quality (xs (x3 + (1 : Int32)).toNatClampNeg) (xs (x3 + (2 : Int32)).toNatClampNeg) σ (fun r162 σ163 => vp_in (x3 + (1 : Int32)) Ln ∧ vp_in (x3 + (2 : Int32)) Ln ∧ w_X6_quality (xs (x3 + (1 : Int32)).toNatClampNeg) (xs (x3 + (2 : Int32)).toNatClampNeg) σ163 (fun r166 σ167 => if r162 = r166 then (∀ y169 : Int32, y169 = (x3 + (4 : Int32)) → k y169 σ167) else (False)))
def wc_law_15 (xs : Nat → Int32) (Ln : Nat) (k : Int32 → z_S → Prop) (x3 : Int32) (σ : z_S) : Prop :=
  vp_in (x3 + (1 : Int32)) Ln ∧ vp_in (x3 + (2 : Int32)) Ln ∧ w_X5_day (xs (x3 + (1 : Int32)).toNatClampNeg) (xs (x3 + (2 : Int32)).toNatClampNeg) σ (fun r173 σ174 => vp_in (x3 + (1 : Int32)) Ln ∧ vp_in (x3 + (2 : Int32)) Ln ∧ w_X6_day (xs (x3 + (1 : Int32)).toNatClampNeg) (xs (x3 + (2 : Int32)).toNatClampNeg) σ174 (fun r177 σ178 => if r173 = r177 then (∀ y180 : Int32, y180 = (x3 + (4 : Int32)) → k y180 σ178) else (False)))
def wc_law_16 (xs : Nat → Int32) (Ln : Nat) (k : Int32 → z_S → Prop) (x3 : Int32) (σ : z_S) : Prop :=
  vp_in (x3 + (1 : Int32)) Ln ∧ vp_in (x3 + (2 : Int32)) Ln ∧ w_X5_loss (xs (x3 + (1 : Int32)).toNatClampNeg) (xs (x3 + (2 : Int32)).toNatClampNeg) σ (fun r184 σ185 => vp_in (x3 + (1 : Int32)) Ln ∧ vp_in (x3 + (2 : Int32)) Ln ∧ w_X6_loss (xs (x3 + (1 : Int32)).toNatClampNeg) (xs (x3 + (2 : Int32)).toNatClampNeg) σ185 (fun r188 σ189 => if r184 = r188 then (∀ y191 : Int32, y191 = (x3 + (4 : Int32)) → k y191 σ189) else (False)))
def wc_law_17 (xs : Nat → Int32) (Ln : Nat) (k : Int32 → z_S → Prop) (x3 : Int32) (σ : z_S) : Prop :=
  vp_in (x3 + (1 : Int32)) Ln ∧ vp_in (x3 + (2 : Int32)) Ln ∧ w_X5_balance (xs (x3 + (1 : Int32)).toNatClampNeg) (xs (x3 + (2 : Int32)).toNatClampNeg) σ (fun r195 σ196 => vp_in (x3 + (1 : Int32)) Ln ∧ vp_in (x3 + (2 : Int32)) Ln ∧ w_X6_balance (xs (x3 + (1 : Int32)).toNatClampNeg) (xs (x3 + (2 : Int32)).toNatClampNeg) σ196 (fun r199 σ200 => if r195 = r199 then (∀ y202 : Int32, y202 = (x3 + (4 : Int32)) → k y202 σ200) else (False)))
def wc_law_18 (xs : Nat → Int32) (Ln : Nat) (k : Int32 → z_S → Prop) (x3 : Int32) (σ : z_S) : Prop :=
  vp_in (x3 + (1 : Int32)) Ln ∧ vp_in (x3 + (2 : Int32)) Ln ∧ w_X5_nextFault (xs (x3 + (1 : Int32)).toNatClampNeg) (xs (x3 + (2 : Int32)).toNatClampNeg) σ (fun r206 σ207 => vp_in (x3 + (1 : Int32)) Ln ∧ vp_in (x3 + (2 : Int32)) Ln ∧ w_X6_nextFault (xs (x3 + (1 : Int32)).toNatClampNeg) (xs (x3 + (2 : Int32)).toNatClampNeg) σ207 (fun r210 σ211 => if r206 = r210 then (∀ y213 : Int32, y213 = (x3 + (4 : Int32)) → k y213 σ211) else (False)))
def wc_law_19 (xs : Nat → Int32) (Ln : Nat) (k : Int32 → z_S → Prop) (x3 : Int32) (σ : z_S) : Prop :=
  vp_in (x3 + (1 : Int32)) Ln ∧ vp_in (x3 + (2 : Int32)) Ln ∧ w_X5_billed (xs (x3 + (1 : Int32)).toNatClampNeg) (xs (x3 + (2 : Int32)).toNatClampNeg) σ (fun r217 σ218 => vp_in (x3 + (1 : Int32)) Ln ∧ vp_in (x3 + (2 : Int32)) Ln ∧ w_X6_billed (xs (x3 + (1 : Int32)).toNatClampNeg) (xs (x3 + (2 : Int32)).toNatClampNeg) σ218 (fun r221 σ222 => if r217 = r221 then (∀ y224 : Int32, y224 = (x3 + (4 : Int32)) → k y224 σ222) else (False)))
def wc_law_20 (xs : Nat → Int32) (Ln : Nat) (k : Int32 → z_S → Prop) (x3 : Int32) (σ : z_S) : Prop :=
  vp_in (x3 + (1 : Int32)) Ln ∧ vp_in (x3 + (2 : Int32)) Ln ∧ w_X5_part (xs (x3 + (1 : Int32)).toNatClampNeg) (xs (x3 + (2 : Int32)).toNatClampNeg) σ (fun r228 σ229 => vp_in (x3 + (1 : Int32)) Ln ∧ vp_in (x3 + (2 : Int32)) Ln ∧ w_X6_part (xs (x3 + (1 : Int32)).toNatClampNeg) (xs (x3 + (2 : Int32)).toNatClampNeg) σ229 (fun r232 σ233 => if r228 = r232 then (∀ y235 : Int32, y235 = (x3 + (4 : Int32)) → k y235 σ233) else (False)))
def wc_law_21 (xs : Nat → Int32) (Ln : Nat) (k : Int32 → z_S → Prop) (x3 : Int32) (σ : z_S) : Prop :=
  vp_in (x3 + (1 : Int32)) Ln ∧ w_X5_shareBits (xs (x3 + (1 : Int32)).toNatClampNeg) σ (fun r238 σ239 => vp_in (x3 + (1 : Int32)) Ln ∧ w_X6_shareBits (xs (x3 + (1 : Int32)).toNatClampNeg) σ239 (fun r241 σ242 => if r238 = r241 then (∀ y244 : Int32, y244 = (x3 + (4 : Int32)) → k y244 σ242) else (False)))
def wc_law_22 (xs : Nat → Int32) (Ln : Nat) (k : Int32 → z_S → Prop) (x3 : Int32) (σ : z_S) : Prop :=
  vp_in (x3 + (1 : Int32)) Ln ∧ w_X5_share (xs (x3 + (1 : Int32)).toNatClampNeg) σ (fun r247 σ248 => vp_in (x3 + (1 : Int32)) Ln ∧ w_X6_share (xs (x3 + (1 : Int32)).toNatClampNeg) σ248 (fun r250 σ251 => if r247 = r250 then (∀ y253 : Int32, y253 = (x3 + (4 : Int32)) → k y253 σ251) else (False)))
def wc_law_23 (xs : Nat → Int32) (Ln : Nat) (k : Int32 → z_S → Prop) (x3 : Int32) (σ : z_S) : Prop :=
  vp_in (x3 + (1 : Int32)) Ln ∧ w_X5_imbalance (xs (x3 + (1 : Int32)).toNatClampNeg) σ (fun r256 σ257 => vp_in (x3 + (1 : Int32)) Ln ∧ w_X6_imbalance (xs (x3 + (1 : Int32)).toNatClampNeg) σ257 (fun r259 σ260 => if r256 = r259 then (∀ y262 : Int32, y262 = (x3 + (4 : Int32)) → k y262 σ260) else (False)))
def wc_law_24 (xs : Nat → Int32) (Ln : Nat) (k : Int32 → z_S → Prop) (x3 : Int32) (σ : z_S) : Prop :=
  vp_in (x3 + (1 : Int32)) Ln ∧ vp_in (x3 + (2 : Int32)) Ln ∧ vp_in (x3 + (3 : Int32)) Ln ∧ w_X5_imbalanceWith (xs (x3 + (1 : Int32)).toNatClampNeg) (xs (x3 + (2 : Int32)).toNatClampNeg) (xs (x3 + (3 : Int32)).toNatClampNeg) σ (fun r267 σ268 => vp_in (x3 + (1 : Int32)) Ln ∧ vp_in (x3 + (2 : Int32)) Ln ∧ vp_in (x3 + (3 : Int32)) Ln ∧ w_X6_imbalanceWith (xs (x3 + (1 : Int32)).toNatClampNeg) (xs (x3 + (2 : Int32)).toNatClampNeg) (xs (x3 + (3 : Int32)).toNatClampNeg) σ268 (fun r272 σ273 => if r267 = r272 then (∀ y275 : Int32, y275 = (x3 + (4 : Int32)) → k y275 σ273) else (False)))
def wc_law_25 (xs : Nat → Int32) (Ln : Nat) (k : Int32 → z_S → Prop) (x3 : Int32) (σ : z_S) : Prop :=
  vp_in (x3 + (1 : Int32)) Ln ∧ w_X5_suspect (xs (x3 + (1 : Int32)).toNatClampNeg) σ (fun r278 σ279 => vp_in (x3 + (1 : Int32)) Ln ∧ w_X6_suspect (xs (x3 + (1 : Int32)).toNatClampNeg) σ279 (fun r281 σ282 => if r278 = r281 then (∀ y284 : Int32, y284 = (x3 + (4 : Int32)) → k y284 σ282) else (False)))
def wc_law_26 (xs : Nat → Int32) (Ln : Nat) (k : Int32 → z_S → Prop) (x3 : Int32) (σ : z_S) : Prop :=
  w_X5_revise σ (fun r286 σ287 => w_X6_revise σ287 (fun r288 σ289 => if r286 = r288 then (∀ y291 : Int32, y291 = (x3 + (4 : Int32)) → k y291 σ289) else (False)))
def wc_law_27 (xs : Nat → Int32) (Ln : Nat) (k : Int32 → z_S → Prop) (x3 : Int32) (σ : z_S) : Prop :=
  w_X5_revisions σ (fun r293 σ294 => w_X6_revisions σ294 (fun r295 σ296 => if r293 = r295 then (∀ y298 : Int32, y298 = (x3 + (4 : Int32)) → k y298 σ296) else (False)))
def wc_law_28 (xs : Nat → Int32) (Ln : Nat) (k : Int32 → z_S → Prop) (x3 : Int32) (σ : z_S) : Prop :=
  vp_in (x3 + (1 : Int32)) Ln ∧ vp_in (x3 + (2 : Int32)) Ln ∧ w_X5_billOf (xs (x3 + (1 : Int32)).toNatClampNeg) (xs (x3 + (2 : Int32)).toNatClampNeg) σ (fun r302 σ303 => vp_in (x3 + (1 : Int32)) Ln ∧ vp_in (x3 + (2 : Int32)) Ln ∧ w_X6_billOf (xs (x3 + (1 : Int32)).toNatClampNeg) (xs (x3 + (2 : Int32)).toNatClampNeg) σ303 (fun r306 σ307 => if r302 = r306 then (∀ y309 : Int32, y309 = (x3 + (4 : Int32)) → k y309 σ307) else (False)))
def wc_law_29 (xs : Nat → Int32) (Ln : Nat) (k : Int32 → z_S → Prop) (x3 : Int32) (σ : z_S) : Prop :=
  vp_in (x3 + (1 : Int32)) Ln ∧ vp_in (x3 + (2 : Int32)) Ln ∧ vp_in (x3 + (3 : Int32)) Ln ∧ w_X5_changed (xs (x3 + (1 : Int32)).toNatClampNeg) (xs (x3 + (2 : Int32)).toNatClampNeg) (xs (x3 + (3 : Int32)).toNatClampNeg) σ (fun r314 σ315 => vp_in (x3 + (1 : Int32)) Ln ∧ vp_in (x3 + (2 : Int32)) Ln ∧ vp_in (x3 + (3 : Int32)) Ln ∧ w_X6_changed (xs (x3 + (1 : Int32)).toNatClampNeg) (xs (x3 + (2 : Int32)).toNatClampNeg) (xs (x3 + (3 : Int32)).toNatClampNeg) σ315 (fun r319 σ320 => if r314 = r319 then (∀ y322 : Int32, y322 = (x3 + (4 : Int32)) → k y322 σ320) else (False)))
def wc_law_30 (xs : Nat → Int32) (Ln : Nat) (k : Int32 → z_S → Prop) (x3 : Int32) (σ : z_S) : Prop :=
  w_X5_clearRevisions σ (fun r324 σ325 => w_X6_clearRevisions σ325 (fun r326 σ327 => if r324 = r326 then (∀ y329 : Int32, y329 = (x3 + (4 : Int32)) → k y329 σ327) else (False)))
def wc_law_31 (xs : Nat → Int32) (Ln : Nat) (k : Int32 → z_S → Prop) (x3 : Int32) (σ : z_S) : Prop :=
  w_X5_undo σ (fun r331 σ332 => w_X6_undo σ332 (fun r333 σ334 => if r331 = r333 then (∀ y336 : Int32, y336 = (x3 + (4 : Int32)) → k y336 σ334) else (False)))
def wc_law_32 (xs : Nat → Int32) (Ln : Nat) (k : Int32 → z_S → Prop) (x3 : Int32) (σ : z_S) : Prop :=
  vp_in (x3 + (1 : Int32)) Ln ∧ w_X5_type (xs (x3 + (1 : Int32)).toNatClampNeg) σ (fun r339 σ340 => vp_in (x3 + (1 : Int32)) Ln ∧ w_X6_type (xs (x3 + (1 : Int32)).toNatClampNeg) σ340 (fun r342 σ343 => if r339 = r342 then (∀ y345 : Int32, y345 = (x3 + (4 : Int32)) → k y345 σ343) else (False)))
def wc_law_33 (xs : Nat → Int32) (Ln : Nat) (k : Int32 → z_S → Prop) (x3 : Int32) (σ : z_S) : Prop :=
  w_X5_clearText σ (fun r347 σ348 => w_X6_clearText σ348 (fun r349 σ350 => if r347 = r349 then (∀ y352 : Int32, y352 = (x3 + (4 : Int32)) → k y352 σ350) else (False)))
def wc_law_34 (xs : Nat → Int32) (Ln : Nat) (k : Int32 → z_S → Prop) (x3 : Int32) (σ : z_S) : Prop :=
  w_X5_textFault σ (fun r354 σ355 => w_X6_textFault σ355 (fun r356 σ357 => if r354 = r356 then (∀ y359 : Int32, y359 = (x3 + (4 : Int32)) → k y359 σ357) else (False)))
def wc_law_35 (xs : Nat → Int32) (Ln : Nat) (k : Int32 → z_S → Prop) (x3 : Int32) (σ : z_S) : Prop :=
  w_X5_load σ (fun r361 σ362 => w_X6_load σ362 (fun r363 σ364 => if r361 = r363 then (∀ y366 : Int32, y366 = (x3 + (4 : Int32)) → k y366 σ364) else (False)))
def wc_law_36 (xs : Nat → Int32) (Ln : Nat) (k : Int32 → z_S → Prop) (x3 : Int32) (σ : z_S) : Prop :=
  w_X5_digest σ (fun r368 σ369 => w_X6_digest σ369 (fun r370 σ371 => if (lg_cmp r368 r370) = 0 then (∀ y373 : Int32, y373 = (x3 + (4 : Int32)) → k y373 σ371) else (False)))
def wb_law (xs : Nat → Int32) (Ln : Nat) (k : Int32 → z_S → Prop) (x3 : Int32) (σ : z_S) : Prop :=
  if ((Int32.ofNat Ln) - (4 : Int32)) < x3 then (True) else (vp_in x3 Ln ∧ if ((xs x3.toNatClampNeg) &&& (63 : Int32)) = (0 : Int32) then (wc_law_0 xs Ln k x3 σ) else (if ((xs x3.toNatClampNeg) &&& (63 : Int32)) = (1 : Int32) then (wc_law_1 xs Ln k x3 σ) else (if ((xs x3.toNatClampNeg) &&& (63 : Int32)) = (2 : Int32) then (wc_law_2 xs Ln k x3 σ) else (if ((xs x3.toNatClampNeg) &&& (63 : Int32)) = (3 : Int32) then (wc_law_3 xs Ln k x3 σ) else (if ((xs x3.toNatClampNeg) &&& (63 : Int32)) = (4 : Int32) then (wc_law_4 xs Ln k x3 σ) else (if ((xs x3.toNatClampNeg) &&& (63 : Int32)) = (5 : Int32) then (wc_law_5 xs Ln k x3 σ) else (if ((xs x3.toNatClampNeg) &&& (63 : Int32)) = (6 : Int32) then (wc_law_6 xs Ln k x3 σ) else (if ((xs x3.toNatClampNeg) &&& (63 : Int32)) = (7 : Int32) then (wc_law_7 xs Ln k x3 σ) else (if ((xs x3.toNatClampNeg) &&& (63 : Int32)) = (8 : Int32) then (wc_law_8 xs Ln k x3 σ) else (if ((xs x3.toNatClampNeg) &&& (63 : Int32)) = (9 : Int32) then (wc_law_9 xs Ln k x3 σ) else (if ((xs x3.toNatClampNeg) &&& (63 : Int32)) = (10 : Int32) then (wc_law_10 xs Ln k x3 σ) else (if ((xs x3.toNatClampNeg) &&& (63 : Int32)) = (11 : Int32) then (wc_law_11 xs Ln k x3 σ) else (if ((xs x3.toNatClampNeg) &&& (63 : Int32)) = (12 : Int32) then (wc_law_12 xs Ln k x3 σ) else (if ((xs x3.toNatClampNeg) &&& (63 : Int32)) = (13 : Int32) then (wc_law_13 xs Ln k x3 σ) else (if ((xs x3.toNatClampNeg) &&& (63 : Int32)) = (14 : Int32) then (wc_law_14 xs Ln k x3 σ) else (if ((xs x3.toNatClampNeg) &&& (63 : Int32)) = (15 : Int32) then (wc_law_15 xs Ln k x3 σ) else (if ((xs x3.toNatClampNeg) &&& (63 : Int32)) = (16 : Int32) then (wc_law_16 xs Ln k x3 σ) else (if ((xs x3.toNatClampNeg) &&& (63 : Int32)) = (17 : Int32) then (wc_law_17 xs Ln k x3 σ) else (if ((xs x3.toNatClampNeg) &&& (63 : Int32)) = (18 : Int32) then (wc_law_18 xs Ln k x3 σ) else (if ((xs x3.toNatClampNeg) &&& (63 : Int32)) = (19 : Int32) then (wc_law_19 xs Ln k x3 σ) else (if ((xs x3.toNatClampNeg) &&& (63 : Int32)) = (20 : Int32) then (wc_law_20 xs Ln k x3 σ) else (if ((xs x3.toNatClampNeg) &&& (63 : Int32)) = (21 : Int32) then (wc_law_21 xs Ln k x3 σ) else (if ((xs x3.toNatClampNeg) &&& (63 : Int32)) = (22 : Int32) then (wc_law_22 xs Ln k x3 σ) else (if ((xs x3.toNatClampNeg) &&& (63 : Int32)) = (23 : Int32) then (wc_law_23 xs Ln k x3 σ) else (if ((xs x3.toNatClampNeg) &&& (63 : Int32)) = (24 : Int32) then (wc_law_24 xs Ln k x3 σ) else (if ((xs x3.toNatClampNeg) &&& (63 : Int32)) = (25 : Int32) then (wc_law_25 xs Ln k x3 σ) else (if ((xs x3.toNatClampNeg) &&& (63 : Int32)) = (26 : Int32) then (wc_law_26 xs Ln k x3 σ) else (if ((xs x3.toNatClampNeg) &&& (63 : Int32)) = (27 : Int32) then (wc_law_27 xs Ln k x3 σ) else (if ((xs x3.toNatClampNeg) &&& (63 : Int32)) = (28 : Int32) then (wc_law_28 xs Ln k x3 σ) else (if ((xs x3.toNatClampNeg) &&& (63 : Int32)) = (29 : Int32) then (wc_law_29 xs Ln k x3 σ) else (if ((xs x3.toNatClampNeg) &&& (63 : Int32)) = (30 : Int32) then (wc_law_30 xs Ln k x3 σ) else (if ((xs x3.toNatClampNeg) &&& (63 : Int32)) = (31 : Int32) then (wc_law_31 xs Ln k x3 σ) else (if ((xs x3.toNatClampNeg) &&& (63 : Int32)) = (32 : Int32) then (wc_law_32 xs Ln k x3 σ) else (if ((xs x3.toNatClampNeg) &&& (63 : Int32)) = (33 : Int32) then (wc_law_33 xs Ln k x3 σ) else (if ((xs x3.toNatClampNeg) &&& (63 : Int32)) = (34 : Int32) then (wc_law_34 xs Ln k x3 σ) else (if ((xs x3.toNatClampNeg) &&& (63 : Int32)) = (35 : Int32) then (wc_law_35 xs Ln k x3 σ) else (if ((xs x3.toNatClampNeg) &&& (63 : Int32)) = (36 : Int32) then (wc_law_36 xs Ln k x3 σ) else (∀ y374 : Int32, y374 = (x3 + (4 : Int32)) → k y374 σ))))))))))))))))))))))))))))))))))))))
set_option maxHeartbeats 40000000 in
set_option maxRecDepth 100000 in
theorem t_law_body {D : va_G} {cI cJ cM cS : ClassId} {n0 : Nat} {p : Program} {l : Launch} {e : Env} {s : State} {m : MethodId} {b Ln : Nat} {xs : Nat → Int32} {below : List Frame} {meth : Method} {c : Code} (hX : z_X D cI cJ cM cS p s m #[Value.ref b] c cL_law 4 RL) (hY : z_Y s meth ret) (hn0 : n0 = s.heap.size) (hx : va_X b Ln xs s s.heap) (hbl : b < s.heap.size) (hbA : ¬ z_Ab n0 b) {k : Int32 → z_S → Prop} {cells slots : Nat} (hc : cells + 26 ≤ 600000) (hs : slots + 289 ≤ 7302250) (hk : ∀ (i : Int32) (σ : z_S), k i σ → z_t D cI cJ cM cS n0 p l e room_1 s m #[Value.ref b] below meth c 4 (lw_Z below #[Value.ref b] s) (cells + 26) (slots + 289) 18 [(0, .ref b), (1, .ref (n0 + 0)), (2, .ref (n0 + 73)), (3, .int i)] [] σ) (x3 : Int32) (σ : z_S) (hf : wb_law xs Ln k x3 σ) : z_t D cI cJ cM cS n0 p l e room_1 s m #[Value.ref b] below meth c 4 (lw_Z below #[Value.ref b] s) cells slots 18 [(0, .ref b), (1, .ref (n0 + 0)), (2, .ref (n0 + 73)), (3, .int x3)] [] σ := by
  unfold wb_law at hf
  refine zt_iload_n hX 3 dL_law_18 rfl rfl ?_
  refine zt_aload_n hX 0 dL_law_19 rfl rfl ?_
  refine zl_slen hX hx hbl hbA dL_law_20 ?_
  refine zt_iconst hX dL_law_21 (v := (4 : Int32)) (by decide) ?_
  refine zt_isub hX dL_law_22 ?_
  refine zt_icmp_gt hX dL_law_23 (tgt := 1244) (by decide) (fun c1 => ?_) (fun c1 => ?_)
  · replace hf := z_pos hf c1
    refine zt_iconst hX dL_law_1244 (v := (1 : Int32)) (by decide) ?_
    exact zl_end hX hY hn0 (by omega) (by omega) dL_law_1245
  · replace hf := z_neg hf c1
    refine zt_aload_n hX 0 dL_law_26 rfl rfl ?_
    refine zt_iload_n hX 3 dL_law_27 rfl rfl ?_
    obtain ⟨h2, hf⟩ := hf
    refine zl_sld hX hx hbl hbA dL_law_28 h2 ?_
    refine zt_bipush hX dL_law_29 (v := (63 : Int32)) (by decide) ?_
    refine zt_iand hX dL_law_31 ?_
    by_cases c3 : ((xs x3.toNatClampNeg) &&& (63 : Int32)) = (0 : Int32)
    · replace hf := z_pos hf c3
      refine zt_tabIn hX dL_law_32 (by rw [c3]; decide) (by rw [c3]; decide) (off := 164) (by rw [c3]; rfl) (tgt := 196) (by decide) ?_
      unfold wc_law_0 at hf
      refine zt_aload_n hX 1 dL_law_196 rfl rfl ?_
      refine zt_aload_n hX 0 dL_law_197 rfl rfl ?_
      refine zt_iload_n hX 3 dL_law_198 rfl rfl ?_
      refine zt_iconst hX dL_law_199 (v := (1 : Int32)) (by decide) ?_
      refine zt_iadd hX dL_law_200 ?_
      obtain ⟨h4, hf⟩ := hf
      refine zl_sld hX hx hbl hbA dL_law_201 h4 ?_
      refine zt_calliV hX hY (av := [.int (xs (x3 + (1 : Int32)).toNatClampNeg)]) (c_X5_addMeter hf) dL_law_202 rfl kw_250 kw_251 kw_252 kw_61 kw_253 ⟨rfl, rfl⟩ hy_X5_addMeter ⟨by decide, by decide⟩ ⟨show cells + 26 ≤ 600000 by omega, show slots + 289 ≤ 7302250 by omega⟩ (Nat.le_of_ble_eq_true rfl) (by decide) (zE_0 _ _) rfl rfl (fun r5 σ6 hf => ?_)
      refine zt_cs (c1 := cells + 26) (s1 := slots + 289) (by omega) (by omega) ?_
      refine zt_aload_n hX 2 dL_law_205 rfl rfl ?_
      refine zt_aload_n hX 0 dL_law_206 rfl rfl ?_
      refine zt_iload_n hX 3 dL_law_207 rfl rfl ?_
      refine zt_iconst hX dL_law_208 (v := (1 : Int32)) (by decide) ?_
      refine zt_iadd hX dL_law_209 ?_
      obtain ⟨h7, hf⟩ := hf
      refine zl_sld hX hx hbl hbA dL_law_210 h7 ?_
      refine zt_calliV hX hY (av := [.int (xs (x3 + (1 : Int32)).toNatClampNeg)]) (c_X6_addMeter hf) dL_law_211 rfl kw_694 kw_695 kw_696 kw_67 kw_697 ⟨rfl, rfl⟩ hy_X6_addMeter ⟨by decide, by decide⟩ ⟨show cells + 26 + 0 ≤ 600000 by omega, show slots + 289 + 0 ≤ 7302250 by omega⟩ (Nat.le_of_ble_eq_true rfl) (by decide) (zE_73 _ _) rfl rfl (fun r8 σ9 hf => ?_)
      refine zt_cs (c1 := cells + 26) (s1 := slots + 289) (by omega) (by omega) ?_
      refine zt_icmp_eq hX dL_law_214 (tgt := 1238) (by decide) (fun c10 => ?_) (fun c10 => ?_)
      · replace hf := z_pos hf c10
        obtain ⟨y11, ey11⟩ : ∃ y : Int32, y = (x3 + (4 : Int32)) := ⟨_, rfl⟩
        replace hf := hf y11 ey11
        refine zt_iinc (L' := [(3, .int y11), (0, .ref b), (1, .ref (n0 + 0)), (2, .ref (n0 + 73))]) hX 3 dL_law_1238 rfl (v := y11) (by rw [ey11]; rfl) (by decide) rfl ?_
        refine zt_goto hX dL_law_1241 (tgt := 18) (by decide) ?_
        exact zt_sub [1, 2, 3, 0] rfl (hk _ _ hf)
      · replace hf := z_neg hf c10
        refine zt_iconst hX dL_law_217 (v := (0 : Int32)) (by decide) ?_
        exact hf.elim
    replace hf := z_neg hf c3
    by_cases c12 : ((xs x3.toNatClampNeg) &&& (63 : Int32)) = (1 : Int32)
    · replace hf := z_pos hf c12
      refine zt_tabIn hX dL_law_32 (by rw [c12]; decide) (by rw [c12]; decide) (off := 187) (by rw [c12]; rfl) (tgt := 219) (by decide) ?_
      unfold wc_law_1 at hf
      refine zt_aload_n hX 1 dL_law_219 rfl rfl ?_
      refine zt_aload_n hX 0 dL_law_220 rfl rfl ?_
      refine zt_iload_n hX 3 dL_law_221 rfl rfl ?_
      refine zt_iconst hX dL_law_222 (v := (1 : Int32)) (by decide) ?_
      refine zt_iadd hX dL_law_223 ?_
      obtain ⟨h13, hf⟩ := hf
      refine zl_sld hX hx hbl hbA dL_law_224 h13 ?_
      refine zt_aload_n hX 0 dL_law_225 rfl rfl ?_
      refine zt_iload_n hX 3 dL_law_226 rfl rfl ?_
      refine zt_iconst hX dL_law_227 (v := (2 : Int32)) (by decide) ?_
      refine zt_iadd hX dL_law_228 ?_
      obtain ⟨h14, hf⟩ := hf
      refine zl_sld hX hx hbl hbA dL_law_229 h14 ?_
      refine zt_aload_n hX 0 dL_law_230 rfl rfl ?_
      refine zt_iload_n hX 3 dL_law_231 rfl rfl ?_
      refine zt_iconst hX dL_law_232 (v := (3 : Int32)) (by decide) ?_
      refine zt_iadd hX dL_law_233 ?_
      obtain ⟨h15, hf⟩ := hf
      refine zl_sld hX hx hbl hbA dL_law_234 h15 ?_
      refine zt_calliV hX hY (av := [.int (xs (x3 + (1 : Int32)).toNatClampNeg), .int (xs (x3 + (2 : Int32)).toNatClampNeg), .int (xs (x3 + (3 : Int32)).toNatClampNeg)]) (c_X5_setMeter hf) dL_law_235 rfl kw_286 kw_287 kw_288 kw_61 kw_289 ⟨rfl, rfl⟩ hy_X5_setMeter ⟨by decide, by decide⟩ ⟨show cells + 26 ≤ 600000 by omega, show slots + 289 ≤ 7302250 by omega⟩ (Nat.le_of_ble_eq_true rfl) (by decide) (zE_0 _ _) rfl rfl (fun r16 σ17 hf => ?_)
      refine zt_cs (c1 := cells + 26) (s1 := slots + 289) (by omega) (by omega) ?_
      refine zt_aload_n hX 2 dL_law_238 rfl rfl ?_
      refine zt_aload_n hX 0 dL_law_239 rfl rfl ?_
      refine zt_iload_n hX 3 dL_law_240 rfl rfl ?_
      refine zt_iconst hX dL_law_241 (v := (1 : Int32)) (by decide) ?_
      refine zt_iadd hX dL_law_242 ?_
      obtain ⟨h18, hf⟩ := hf
      refine zl_sld hX hx hbl hbA dL_law_243 h18 ?_
      refine zt_aload_n hX 0 dL_law_244 rfl rfl ?_
      refine zt_iload_n hX 3 dL_law_245 rfl rfl ?_
      refine zt_iconst hX dL_law_246 (v := (2 : Int32)) (by decide) ?_
      refine zt_iadd hX dL_law_247 ?_
      obtain ⟨h19, hf⟩ := hf
      refine zl_sld hX hx hbl hbA dL_law_248 h19 ?_
      refine zt_aload_n hX 0 dL_law_249 rfl rfl ?_
      refine zt_iload_n hX 3 dL_law_250 rfl rfl ?_
      refine zt_iconst hX dL_law_251 (v := (3 : Int32)) (by decide) ?_
      refine zt_iadd hX dL_law_252 ?_
      obtain ⟨h20, hf⟩ := hf
      refine zl_sld hX hx hbl hbA dL_law_253 h20 ?_
      refine zt_calliV hX hY (av := [.int (xs (x3 + (1 : Int32)).toNatClampNeg), .int (xs (x3 + (2 : Int32)).toNatClampNeg), .int (xs (x3 + (3 : Int32)).toNatClampNeg)]) (c_X6_setMeter hf) dL_law_254 rfl kw_724 kw_725 kw_726 kw_67 kw_727 ⟨rfl, rfl⟩ hy_X6_setMeter ⟨by decide, by decide⟩ ⟨show cells + 26 + 0 ≤ 600000 by omega, show slots + 289 + 0 ≤ 7302250 by omega⟩ (Nat.le_of_ble_eq_true rfl) (by decide) (zE_73 _ _) rfl rfl (fun r21 σ22 hf => ?_)
      refine zt_cs (c1 := cells + 26) (s1 := slots + 289) (by omega) (by omega) ?_
      refine zt_icmp_eq hX dL_law_257 (tgt := 1238) (by decide) (fun c23 => ?_) (fun c23 => ?_)
      · replace hf := z_pos hf c23
        obtain ⟨y24, ey24⟩ : ∃ y : Int32, y = (x3 + (4 : Int32)) := ⟨_, rfl⟩
        replace hf := hf y24 ey24
        refine zt_iinc (L' := [(3, .int y24), (0, .ref b), (1, .ref (n0 + 0)), (2, .ref (n0 + 73))]) hX 3 dL_law_1238 rfl (v := y24) (by rw [ey24]; rfl) (by decide) rfl ?_
        refine zt_goto hX dL_law_1241 (tgt := 18) (by decide) ?_
        exact zt_sub [1, 2, 3, 0] rfl (hk _ _ hf)
      · replace hf := z_neg hf c23
        refine zt_iconst hX dL_law_260 (v := (0 : Int32)) (by decide) ?_
        exact hf.elim
    replace hf := z_neg hf c12
    by_cases c25 : ((xs x3.toNatClampNeg) &&& (63 : Int32)) = (2 : Int32)
    · replace hf := z_pos hf c25
      refine zt_tabIn hX dL_law_32 (by rw [c25]; decide) (by rw [c25]; decide) (off := 230) (by rw [c25]; rfl) (tgt := 262) (by decide) ?_
      unfold wc_law_2 at hf
      refine zt_aload_n hX 1 dL_law_262 rfl rfl ?_
      refine zt_aload_n hX 0 dL_law_263 rfl rfl ?_
      refine zt_iload_n hX 3 dL_law_264 rfl rfl ?_
      refine zt_iconst hX dL_law_265 (v := (1 : Int32)) (by decide) ?_
      refine zt_iadd hX dL_law_266 ?_
      obtain ⟨h26, hf⟩ := hf
      refine zl_sld hX hx hbl hbA dL_law_267 h26 ?_
      refine zt_aload_n hX 0 dL_law_268 rfl rfl ?_
      refine zt_iload_n hX 3 dL_law_269 rfl rfl ?_
      refine zt_iconst hX dL_law_270 (v := (2 : Int32)) (by decide) ?_
      refine zt_iadd hX dL_law_271 ?_
      obtain ⟨h27, hf⟩ := hf
      refine zl_sld hX hx hbl hbA dL_law_272 h27 ?_
      refine zt_aload_n hX 0 dL_law_273 rfl rfl ?_
      refine zt_iload_n hX 3 dL_law_274 rfl rfl ?_
      refine zt_iconst hX dL_law_275 (v := (3 : Int32)) (by decide) ?_
      refine zt_iadd hX dL_law_276 ?_
      obtain ⟨h28, hf⟩ := hf
      refine zl_sld hX hx hbl hbA dL_law_277 h28 ?_
      refine zt_calliV hX hY (av := [.int (xs (x3 + (1 : Int32)).toNatClampNeg), .int (xs (x3 + (2 : Int32)).toNatClampNeg), .int (xs (x3 + (3 : Int32)).toNatClampNeg)]) (c_X5_setRegister hf) dL_law_278 rfl kw_294 kw_295 kw_296 kw_61 kw_297 ⟨rfl, rfl⟩ hy_X5_setRegister ⟨by decide, by decide⟩ ⟨show cells + 26 ≤ 600000 by omega, show slots + 289 ≤ 7302250 by omega⟩ (Nat.le_of_ble_eq_true rfl) (by decide) (zE_0 _ _) rfl rfl (fun r29 σ30 hf => ?_)
      refine zt_cs (c1 := cells + 26) (s1 := slots + 289) (by omega) (by omega) ?_
      refine zt_aload_n hX 2 dL_law_281 rfl rfl ?_
      refine zt_aload_n hX 0 dL_law_282 rfl rfl ?_
      refine zt_iload_n hX 3 dL_law_283 rfl rfl ?_
      refine zt_iconst hX dL_law_284 (v := (1 : Int32)) (by decide) ?_
      refine zt_iadd hX dL_law_285 ?_
      obtain ⟨h31, hf⟩ := hf
      refine zl_sld hX hx hbl hbA dL_law_286 h31 ?_
      refine zt_aload_n hX 0 dL_law_287 rfl rfl ?_
      refine zt_iload_n hX 3 dL_law_288 rfl rfl ?_
      refine zt_iconst hX dL_law_289 (v := (2 : Int32)) (by decide) ?_
      refine zt_iadd hX dL_law_290 ?_
      obtain ⟨h32, hf⟩ := hf
      refine zl_sld hX hx hbl hbA dL_law_291 h32 ?_
      refine zt_aload_n hX 0 dL_law_292 rfl rfl ?_
      refine zt_iload_n hX 3 dL_law_293 rfl rfl ?_
      refine zt_iconst hX dL_law_294 (v := (3 : Int32)) (by decide) ?_
      refine zt_iadd hX dL_law_295 ?_
      obtain ⟨h33, hf⟩ := hf
      refine zl_sld hX hx hbl hbA dL_law_296 h33 ?_
      refine zt_calliV hX hY (av := [.int (xs (x3 + (1 : Int32)).toNatClampNeg), .int (xs (x3 + (2 : Int32)).toNatClampNeg), .int (xs (x3 + (3 : Int32)).toNatClampNeg)]) (c_X6_setRegister hf) dL_law_297 rfl kw_733 kw_734 kw_735 kw_67 kw_736 ⟨rfl, rfl⟩ hy_X6_setRegister ⟨by decide, by decide⟩ ⟨show cells + 26 + 0 ≤ 600000 by omega, show slots + 289 + 0 ≤ 7302250 by omega⟩ (Nat.le_of_ble_eq_true rfl) (by decide) (zE_73 _ _) rfl rfl (fun r34 σ35 hf => ?_)
      refine zt_cs (c1 := cells + 26) (s1 := slots + 289) (by omega) (by omega) ?_
      refine zt_icmp_eq hX dL_law_300 (tgt := 1238) (by decide) (fun c36 => ?_) (fun c36 => ?_)
      · replace hf := z_pos hf c36
        obtain ⟨y37, ey37⟩ : ∃ y : Int32, y = (x3 + (4 : Int32)) := ⟨_, rfl⟩
        replace hf := hf y37 ey37
        refine zt_iinc (L' := [(3, .int y37), (0, .ref b), (1, .ref (n0 + 0)), (2, .ref (n0 + 73))]) hX 3 dL_law_1238 rfl (v := y37) (by rw [ey37]; rfl) (by decide) rfl ?_
        refine zt_goto hX dL_law_1241 (tgt := 18) (by decide) ?_
        exact zt_sub [1, 2, 3, 0] rfl (hk _ _ hf)
      · replace hf := z_neg hf c36
        refine zt_iconst hX dL_law_303 (v := (0 : Int32)) (by decide) ?_
        exact hf.elim
    replace hf := z_neg hf c25
    by_cases c38 : ((xs x3.toNatClampNeg) &&& (63 : Int32)) = (3 : Int32)
    · replace hf := z_pos hf c38
      refine zt_tabIn hX dL_law_32 (by rw [c38]; decide) (by rw [c38]; decide) (off := 273) (by rw [c38]; rfl) (tgt := 305) (by decide) ?_
      unfold wc_law_3 at hf
      refine zt_aload_n hX 1 dL_law_305 rfl rfl ?_
      refine zt_aload_n hX 0 dL_law_306 rfl rfl ?_
      refine zt_iload_n hX 3 dL_law_307 rfl rfl ?_
      refine zt_iconst hX dL_law_308 (v := (1 : Int32)) (by decide) ?_
      refine zt_iadd hX dL_law_309 ?_
      obtain ⟨h39, hf⟩ := hf
      refine zl_sld hX hx hbl hbA dL_law_310 h39 ?_
      refine zt_aload_n hX 0 dL_law_311 rfl rfl ?_
      refine zt_iload_n hX 3 dL_law_312 rfl rfl ?_
      refine zt_iconst hX dL_law_313 (v := (2 : Int32)) (by decide) ?_
      refine zt_iadd hX dL_law_314 ?_
      obtain ⟨h40, hf⟩ := hf
      refine zl_sld hX hx hbl hbA dL_law_315 h40 ?_
      refine zt_calliV hX hY (av := [.int (xs (x3 + (1 : Int32)).toNatClampNeg), .int (xs (x3 + (2 : Int32)).toNatClampNeg)]) (c_X5_setRules hf) dL_law_316 rfl kw_300 kw_301 kw_302 kw_61 kw_303 ⟨rfl, rfl⟩ hy_X5_setRules ⟨by decide, by decide⟩ ⟨show cells + 26 ≤ 600000 by omega, show slots + 289 ≤ 7302250 by omega⟩ (Nat.le_of_ble_eq_true rfl) (by decide) (zE_0 _ _) rfl rfl (fun r41 σ42 hf => ?_)
      refine zt_cs (c1 := cells + 26) (s1 := slots + 289) (by omega) (by omega) ?_
      refine zt_aload_n hX 2 dL_law_319 rfl rfl ?_
      refine zt_aload_n hX 0 dL_law_320 rfl rfl ?_
      refine zt_iload_n hX 3 dL_law_321 rfl rfl ?_
      refine zt_iconst hX dL_law_322 (v := (1 : Int32)) (by decide) ?_
      refine zt_iadd hX dL_law_323 ?_
      obtain ⟨h43, hf⟩ := hf
      refine zl_sld hX hx hbl hbA dL_law_324 h43 ?_
      refine zt_aload_n hX 0 dL_law_325 rfl rfl ?_
      refine zt_iload_n hX 3 dL_law_326 rfl rfl ?_
      refine zt_iconst hX dL_law_327 (v := (2 : Int32)) (by decide) ?_
      refine zt_iadd hX dL_law_328 ?_
      obtain ⟨h44, hf⟩ := hf
      refine zl_sld hX hx hbl hbA dL_law_329 h44 ?_
      refine zt_calliV hX hY (av := [.int (xs (x3 + (1 : Int32)).toNatClampNeg), .int (xs (x3 + (2 : Int32)).toNatClampNeg)]) (c_X6_setRules hf) dL_law_330 rfl kw_738 kw_739 kw_740 kw_67 kw_741 ⟨rfl, rfl⟩ hy_X6_setRules ⟨by decide, by decide⟩ ⟨show cells + 26 + 0 ≤ 600000 by omega, show slots + 289 + 0 ≤ 7302250 by omega⟩ (Nat.le_of_ble_eq_true rfl) (by decide) (zE_73 _ _) rfl rfl (fun r45 σ46 hf => ?_)
      refine zt_cs (c1 := cells + 26) (s1 := slots + 289) (by omega) (by omega) ?_
      refine zt_icmp_eq hX dL_law_333 (tgt := 1238) (by decide) (fun c47 => ?_) (fun c47 => ?_)
      · replace hf := z_pos hf c47
        obtain ⟨y48, ey48⟩ : ∃ y : Int32, y = (x3 + (4 : Int32)) := ⟨_, rfl⟩
        replace hf := hf y48 ey48
        refine zt_iinc (L' := [(3, .int y48), (0, .ref b), (1, .ref (n0 + 0)), (2, .ref (n0 + 73))]) hX 3 dL_law_1238 rfl (v := y48) (by rw [ey48]; rfl) (by decide) rfl ?_
        refine zt_goto hX dL_law_1241 (tgt := 18) (by decide) ?_
        exact zt_sub [1, 2, 3, 0] rfl (hk _ _ hf)
      · replace hf := z_neg hf c47
        refine zt_iconst hX dL_law_336 (v := (0 : Int32)) (by decide) ?_
        exact hf.elim
    replace hf := z_neg hf c38
    by_cases c49 : ((xs x3.toNatClampNeg) &&& (63 : Int32)) = (4 : Int32)
    · replace hf := z_pos hf c49
      refine zt_tabIn hX dL_law_32 (by rw [c49]; decide) (by rw [c49]; decide) (off := 306) (by rw [c49]; rfl) (tgt := 338) (by decide) ?_
      unfold wc_law_4 at hf
      refine zt_aload_n hX 1 dL_law_338 rfl rfl ?_
      refine zt_calliV hX hY (av := []) (c_X5_meters hf) dL_law_339 rfl kw_304 kw_305 kw_306 kw_61 kw_307 ⟨rfl, rfl⟩ hy_X5_meters ⟨by decide, by decide⟩ ⟨show cells + 0 ≤ 600000 by omega, show slots + 0 ≤ 7302250 by omega⟩ (Nat.le_of_ble_eq_true rfl) (by decide) (zE_0 _ _) rfl rfl (fun r50 σ51 hf => ?_)
      refine zt_cs (c1 := cells) (s1 := slots) (by omega) (by omega) ?_
      refine zt_aload_n hX 2 dL_law_342 rfl rfl ?_
      refine zt_calliV hX hY (av := []) (c_X6_meters hf) dL_law_343 rfl kw_742 kw_743 kw_744 kw_67 kw_745 ⟨rfl, rfl⟩ hy_X6_meters ⟨by decide, by decide⟩ ⟨show cells + 0 ≤ 600000 by omega, show slots + 0 ≤ 7302250 by omega⟩ (Nat.le_of_ble_eq_true rfl) (by decide) (zE_73 _ _) rfl rfl (fun r52 σ53 hf => ?_)
      refine zt_cs (c1 := cells) (s1 := slots) (by omega) (by omega) ?_
      refine zt_icmp_eq hX dL_law_346 (tgt := 1238) (by decide) (fun c54 => ?_) (fun c54 => ?_)
      · replace hf := z_pos hf c54
        obtain ⟨y55, ey55⟩ : ∃ y : Int32, y = (x3 + (4 : Int32)) := ⟨_, rfl⟩
        replace hf := hf y55 ey55
        refine zt_iinc (L' := [(3, .int y55), (0, .ref b), (1, .ref (n0 + 0)), (2, .ref (n0 + 73))]) hX 3 dL_law_1238 rfl (v := y55) (by rw [ey55]; rfl) (by decide) rfl ?_
        refine zt_goto hX dL_law_1241 (tgt := 18) (by decide) ?_
        refine zt_widen (c1 := cells + 26) (s1 := slots + 289) (by omega) (by omega) ?_
        exact zt_sub [1, 2, 3, 0] rfl (hk _ _ hf)
      · replace hf := z_neg hf c54
        refine zt_iconst hX dL_law_349 (v := (0 : Int32)) (by decide) ?_
        exact hf.elim
    replace hf := z_neg hf c49
    by_cases c56 : ((xs x3.toNatClampNeg) &&& (63 : Int32)) = (5 : Int32)
    · replace hf := z_pos hf c56
      refine zt_tabIn hX dL_law_32 (by rw [c56]; decide) (by rw [c56]; decide) (off := 319) (by rw [c56]; rfl) (tgt := 351) (by decide) ?_
      unfold wc_law_5 at hf
      refine zt_aload_n hX 1 dL_law_351 rfl rfl ?_
      refine zt_aload_n hX 0 dL_law_352 rfl rfl ?_
      refine zt_iload_n hX 3 dL_law_353 rfl rfl ?_
      refine zt_iconst hX dL_law_354 (v := (1 : Int32)) (by decide) ?_
      refine zt_iadd hX dL_law_355 ?_
      obtain ⟨h57, hf⟩ := hf
      refine zl_sld hX hx hbl hbA dL_law_356 h57 ?_
      refine zt_aload_n hX 0 dL_law_357 rfl rfl ?_
      refine zt_iload_n hX 3 dL_law_358 rfl rfl ?_
      refine zt_iconst hX dL_law_359 (v := (2 : Int32)) (by decide) ?_
      refine zt_iadd hX dL_law_360 ?_
      obtain ⟨h58, hf⟩ := hf
      refine zl_sld hX hx hbl hbA dL_law_361 h58 ?_
      refine zt_calliV hX hY (av := [.int (xs (x3 + (1 : Int32)).toNatClampNeg), .int (xs (x3 + (2 : Int32)).toNatClampNeg)]) (c_X5_meter hf) dL_law_362 rfl kw_308 kw_309 kw_310 kw_61 kw_311 ⟨rfl, rfl⟩ hy_X5_meter ⟨by decide, by decide⟩ ⟨show cells + 0 ≤ 600000 by omega, show slots + 0 ≤ 7302250 by omega⟩ (Nat.le_of_ble_eq_true rfl) (by decide) (zE_0 _ _) rfl rfl (fun r59 σ60 hf => ?_)
      refine zt_cs (c1 := cells) (s1 := slots) (by omega) (by omega) ?_
      refine zt_aload_n hX 2 dL_law_365 rfl rfl ?_
      refine zt_aload_n hX 0 dL_law_366 rfl rfl ?_
      refine zt_iload_n hX 3 dL_law_367 rfl rfl ?_
      refine zt_iconst hX dL_law_368 (v := (1 : Int32)) (by decide) ?_
      refine zt_iadd hX dL_law_369 ?_
      obtain ⟨h61, hf⟩ := hf
      refine zl_sld hX hx hbl hbA dL_law_370 h61 ?_
      refine zt_aload_n hX 0 dL_law_371 rfl rfl ?_
      refine zt_iload_n hX 3 dL_law_372 rfl rfl ?_
      refine zt_iconst hX dL_law_373 (v := (2 : Int32)) (by decide) ?_
      refine zt_iadd hX dL_law_374 ?_
      obtain ⟨h62, hf⟩ := hf
      refine zl_sld hX hx hbl hbA dL_law_375 h62 ?_
      refine zt_calliV hX hY (av := [.int (xs (x3 + (1 : Int32)).toNatClampNeg), .int (xs (x3 + (2 : Int32)).toNatClampNeg)]) (c_X6_meter hf) dL_law_376 rfl kw_746 kw_747 kw_748 kw_67 kw_749 ⟨rfl, rfl⟩ hy_X6_meter ⟨by decide, by decide⟩ ⟨show cells + 0 ≤ 600000 by omega, show slots + 0 ≤ 7302250 by omega⟩ (Nat.le_of_ble_eq_true rfl) (by decide) (zE_73 _ _) rfl rfl (fun r63 σ64 hf => ?_)
      refine zt_cs (c1 := cells) (s1 := slots) (by omega) (by omega) ?_
      refine zt_icmp_eq hX dL_law_379 (tgt := 1238) (by decide) (fun c65 => ?_) (fun c65 => ?_)
      · replace hf := z_pos hf c65
        obtain ⟨y66, ey66⟩ : ∃ y : Int32, y = (x3 + (4 : Int32)) := ⟨_, rfl⟩
        replace hf := hf y66 ey66
        refine zt_iinc (L' := [(3, .int y66), (0, .ref b), (1, .ref (n0 + 0)), (2, .ref (n0 + 73))]) hX 3 dL_law_1238 rfl (v := y66) (by rw [ey66]; rfl) (by decide) rfl ?_
        refine zt_goto hX dL_law_1241 (tgt := 18) (by decide) ?_
        refine zt_widen (c1 := cells + 26) (s1 := slots + 289) (by omega) (by omega) ?_
        exact zt_sub [1, 2, 3, 0] rfl (hk _ _ hf)
      · replace hf := z_neg hf c65
        refine zt_iconst hX dL_law_382 (v := (0 : Int32)) (by decide) ?_
        exact hf.elim
    replace hf := z_neg hf c56
    by_cases c67 : ((xs x3.toNatClampNeg) &&& (63 : Int32)) = (6 : Int32)
    · replace hf := z_pos hf c67
      refine zt_tabIn hX dL_law_32 (by rw [c67]; decide) (by rw [c67]; decide) (off := 352) (by rw [c67]; rfl) (tgt := 384) (by decide) ?_
      unfold wc_law_6 at hf
      refine zt_aload_n hX 1 dL_law_384 rfl rfl ?_
      refine zt_aload_n hX 0 dL_law_385 rfl rfl ?_
      refine zt_iload_n hX 3 dL_law_386 rfl rfl ?_
      refine zt_iconst hX dL_law_387 (v := (1 : Int32)) (by decide) ?_
      refine zt_iadd hX dL_law_388 ?_
      obtain ⟨h68, hf⟩ := hf
      refine zl_sld hX hx hbl hbA dL_law_389 h68 ?_
      refine zt_aload_n hX 0 dL_law_390 rfl rfl ?_
      refine zt_iload_n hX 3 dL_law_391 rfl rfl ?_
      refine zt_iconst hX dL_law_392 (v := (2 : Int32)) (by decide) ?_
      refine zt_iadd hX dL_law_393 ?_
      obtain ⟨h69, hf⟩ := hf
      refine zl_sld hX hx hbl hbA dL_law_394 h69 ?_
      refine zt_calliV hX hY (av := [.int (xs (x3 + (1 : Int32)).toNatClampNeg), .int (xs (x3 + (2 : Int32)).toNatClampNeg)]) (c_X5_child hf) dL_law_395 rfl kw_321 kw_322 kw_323 kw_61 kw_324 ⟨rfl, rfl⟩ hy_X5_child ⟨by decide, by decide⟩ ⟨show cells + 0 ≤ 600000 by omega, show slots + 0 ≤ 7302250 by omega⟩ (Nat.le_of_ble_eq_true rfl) (by decide) (zE_0 _ _) rfl rfl (fun r70 σ71 hf => ?_)
      refine zt_cs (c1 := cells) (s1 := slots) (by omega) (by omega) ?_
      refine zt_aload_n hX 2 dL_law_398 rfl rfl ?_
      refine zt_aload_n hX 0 dL_law_399 rfl rfl ?_
      refine zt_iload_n hX 3 dL_law_400 rfl rfl ?_
      refine zt_iconst hX dL_law_401 (v := (1 : Int32)) (by decide) ?_
      refine zt_iadd hX dL_law_402 ?_
      obtain ⟨h72, hf⟩ := hf
      refine zl_sld hX hx hbl hbA dL_law_403 h72 ?_
      refine zt_aload_n hX 0 dL_law_404 rfl rfl ?_
      refine zt_iload_n hX 3 dL_law_405 rfl rfl ?_
      refine zt_iconst hX dL_law_406 (v := (2 : Int32)) (by decide) ?_
      refine zt_iadd hX dL_law_407 ?_
      obtain ⟨h73, hf⟩ := hf
      refine zl_sld hX hx hbl hbA dL_law_408 h73 ?_
      refine zt_calliV hX hY (av := [.int (xs (x3 + (1 : Int32)).toNatClampNeg), .int (xs (x3 + (2 : Int32)).toNatClampNeg)]) (c_X6_child hf) dL_law_409 rfl kw_758 kw_759 kw_760 kw_67 kw_761 ⟨rfl, rfl⟩ hy_X6_child ⟨by decide, by decide⟩ ⟨show cells + 0 ≤ 600000 by omega, show slots + 0 ≤ 7302250 by omega⟩ (Nat.le_of_ble_eq_true rfl) (by decide) (zE_73 _ _) rfl rfl (fun r74 σ75 hf => ?_)
      refine zt_cs (c1 := cells) (s1 := slots) (by omega) (by omega) ?_
      refine zt_icmp_eq hX dL_law_412 (tgt := 1238) (by decide) (fun c76 => ?_) (fun c76 => ?_)
      · replace hf := z_pos hf c76
        obtain ⟨y77, ey77⟩ : ∃ y : Int32, y = (x3 + (4 : Int32)) := ⟨_, rfl⟩
        replace hf := hf y77 ey77
        refine zt_iinc (L' := [(3, .int y77), (0, .ref b), (1, .ref (n0 + 0)), (2, .ref (n0 + 73))]) hX 3 dL_law_1238 rfl (v := y77) (by rw [ey77]; rfl) (by decide) rfl ?_
        refine zt_goto hX dL_law_1241 (tgt := 18) (by decide) ?_
        refine zt_widen (c1 := cells + 26) (s1 := slots + 289) (by omega) (by omega) ?_
        exact zt_sub [1, 2, 3, 0] rfl (hk _ _ hf)
      · replace hf := z_neg hf c76
        refine zt_iconst hX dL_law_415 (v := (0 : Int32)) (by decide) ?_
        exact hf.elim
    replace hf := z_neg hf c67
    by_cases c78 : ((xs x3.toNatClampNeg) &&& (63 : Int32)) = (7 : Int32)
    · replace hf := z_pos hf c78
      refine zt_tabIn hX dL_law_32 (by rw [c78]; decide) (by rw [c78]; decide) (off := 385) (by rw [c78]; rfl) (tgt := 417) (by decide) ?_
      unfold wc_law_7 at hf
      refine zt_aload_n hX 1 dL_law_417 rfl rfl ?_
      refine zt_aload_n hX 0 dL_law_418 rfl rfl ?_
      refine zt_iload_n hX 3 dL_law_419 rfl rfl ?_
      refine zt_iconst hX dL_law_420 (v := (1 : Int32)) (by decide) ?_
      refine zt_iadd hX dL_law_421 ?_
      obtain ⟨h79, hf⟩ := hf
      refine zl_sld hX hx hbl hbA dL_law_422 h79 ?_
      refine zt_aload_n hX 0 dL_law_423 rfl rfl ?_
      refine zt_iload_n hX 3 dL_law_424 rfl rfl ?_
      refine zt_iconst hX dL_law_425 (v := (2 : Int32)) (by decide) ?_
      refine zt_iadd hX dL_law_426 ?_
      obtain ⟨h80, hf⟩ := hf
      refine zl_sld hX hx hbl hbA dL_law_427 h80 ?_
      refine zt_aload_n hX 0 dL_law_428 rfl rfl ?_
      refine zt_iload_n hX 3 dL_law_429 rfl rfl ?_
      refine zt_iconst hX dL_law_430 (v := (3 : Int32)) (by decide) ?_
      refine zt_iadd hX dL_law_431 ?_
      obtain ⟨h81, hf⟩ := hf
      refine zl_sld hX hx hbl hbA dL_law_432 h81 ?_
      refine zt_calliV hX hY (av := [.int (xs (x3 + (1 : Int32)).toNatClampNeg), .int (xs (x3 + (2 : Int32)).toNatClampNeg), .int (xs (x3 + (3 : Int32)).toNatClampNeg)]) (c_X5_setReading hf) dL_law_433 rfl kw_330 kw_331 kw_332 kw_61 kw_333 ⟨rfl, rfl⟩ hy_X5_setReading ⟨by decide, by decide⟩ ⟨show cells + 26 ≤ 600000 by omega, show slots + 289 ≤ 7302250 by omega⟩ (Nat.le_of_ble_eq_true rfl) (by decide) (zE_0 _ _) rfl rfl (fun r82 σ83 hf => ?_)
      refine zt_cs (c1 := cells + 26) (s1 := slots + 289) (by omega) (by omega) ?_
      refine zt_aload_n hX 2 dL_law_436 rfl rfl ?_
      refine zt_aload_n hX 0 dL_law_437 rfl rfl ?_
      refine zt_iload_n hX 3 dL_law_438 rfl rfl ?_
      refine zt_iconst hX dL_law_439 (v := (1 : Int32)) (by decide) ?_
      refine zt_iadd hX dL_law_440 ?_
      obtain ⟨h84, hf⟩ := hf
      refine zl_sld hX hx hbl hbA dL_law_441 h84 ?_
      refine zt_aload_n hX 0 dL_law_442 rfl rfl ?_
      refine zt_iload_n hX 3 dL_law_443 rfl rfl ?_
      refine zt_iconst hX dL_law_444 (v := (2 : Int32)) (by decide) ?_
      refine zt_iadd hX dL_law_445 ?_
      obtain ⟨h85, hf⟩ := hf
      refine zl_sld hX hx hbl hbA dL_law_446 h85 ?_
      refine zt_aload_n hX 0 dL_law_447 rfl rfl ?_
      refine zt_iload_n hX 3 dL_law_448 rfl rfl ?_
      refine zt_iconst hX dL_law_449 (v := (3 : Int32)) (by decide) ?_
      refine zt_iadd hX dL_law_450 ?_
      obtain ⟨h86, hf⟩ := hf
      refine zl_sld hX hx hbl hbA dL_law_451 h86 ?_
      refine zt_calliV hX hY (av := [.int (xs (x3 + (1 : Int32)).toNatClampNeg), .int (xs (x3 + (2 : Int32)).toNatClampNeg), .int (xs (x3 + (3 : Int32)).toNatClampNeg)]) (c_X6_setReading hf) dL_law_452 rfl kw_766 kw_767 kw_768 kw_67 kw_769 ⟨rfl, rfl⟩ hy_X6_setReading ⟨by decide, by decide⟩ ⟨show cells + 26 + 0 ≤ 600000 by omega, show slots + 289 + 0 ≤ 7302250 by omega⟩ (Nat.le_of_ble_eq_true rfl) (by decide) (zE_73 _ _) rfl rfl (fun r87 σ88 hf => ?_)
      refine zt_cs (c1 := cells + 26) (s1 := slots + 289) (by omega) (by omega) ?_
      refine zt_icmp_eq hX dL_law_455 (tgt := 1238) (by decide) (fun c89 => ?_) (fun c89 => ?_)
      · replace hf := z_pos hf c89
        obtain ⟨y90, ey90⟩ : ∃ y : Int32, y = (x3 + (4 : Int32)) := ⟨_, rfl⟩
        replace hf := hf y90 ey90
        refine zt_iinc (L' := [(3, .int y90), (0, .ref b), (1, .ref (n0 + 0)), (2, .ref (n0 + 73))]) hX 3 dL_law_1238 rfl (v := y90) (by rw [ey90]; rfl) (by decide) rfl ?_
        refine zt_goto hX dL_law_1241 (tgt := 18) (by decide) ?_
        exact zt_sub [1, 2, 3, 0] rfl (hk _ _ hf)
      · replace hf := z_neg hf c89
        refine zt_iconst hX dL_law_458 (v := (0 : Int32)) (by decide) ?_
        exact hf.elim
    replace hf := z_neg hf c78
    by_cases c91 : ((xs x3.toNatClampNeg) &&& (63 : Int32)) = (8 : Int32)
    · replace hf := z_pos hf c91
      refine zt_tabIn hX dL_law_32 (by rw [c91]; decide) (by rw [c91]; decide) (off := 428) (by rw [c91]; rfl) (tgt := 460) (by decide) ?_
      unfold wc_law_8 at hf
      refine zt_aload_n hX 1 dL_law_460 rfl rfl ?_
      refine zt_aload_n hX 0 dL_law_461 rfl rfl ?_
      refine zt_iload_n hX 3 dL_law_462 rfl rfl ?_
      refine zt_iconst hX dL_law_463 (v := (1 : Int32)) (by decide) ?_
      refine zt_iadd hX dL_law_464 ?_
      obtain ⟨h92, hf⟩ := hf
      refine zl_sld hX hx hbl hbA dL_law_465 h92 ?_
      refine zt_aload_n hX 0 dL_law_466 rfl rfl ?_
      refine zt_iload_n hX 3 dL_law_467 rfl rfl ?_
      refine zt_iconst hX dL_law_468 (v := (2 : Int32)) (by decide) ?_
      refine zt_iadd hX dL_law_469 ?_
      obtain ⟨h93, hf⟩ := hf
      refine zl_sld hX hx hbl hbA dL_law_470 h93 ?_
      refine zt_aload_n hX 0 dL_law_471 rfl rfl ?_
      refine zt_iload_n hX 3 dL_law_472 rfl rfl ?_
      refine zt_iconst hX dL_law_473 (v := (3 : Int32)) (by decide) ?_
      refine zt_iadd hX dL_law_474 ?_
      obtain ⟨h94, hf⟩ := hf
      refine zl_sld hX hx hbl hbA dL_law_475 h94 ?_
      refine zt_calliV hX hY (av := [.int (xs (x3 + (1 : Int32)).toNatClampNeg), .int (xs (x3 + (2 : Int32)).toNatClampNeg), .int (xs (x3 + (3 : Int32)).toNatClampNeg)]) (c_X5_setAll hf) dL_law_476 rfl kw_343 kw_344 kw_345 kw_61 kw_346 ⟨rfl, rfl⟩ hy_X5_setAll ⟨by decide, by decide⟩ ⟨show cells + 26 ≤ 600000 by omega, show slots + 289 ≤ 7302250 by omega⟩ (Nat.le_of_ble_eq_true rfl) (by decide) (zE_0 _ _) rfl rfl (fun r95 σ96 hf => ?_)
      refine zt_cs (c1 := cells + 26) (s1 := slots + 289) (by omega) (by omega) ?_
      refine zt_aload_n hX 2 dL_law_479 rfl rfl ?_
      refine zt_aload_n hX 0 dL_law_480 rfl rfl ?_
      refine zt_iload_n hX 3 dL_law_481 rfl rfl ?_
      refine zt_iconst hX dL_law_482 (v := (1 : Int32)) (by decide) ?_
      refine zt_iadd hX dL_law_483 ?_
      obtain ⟨h97, hf⟩ := hf
      refine zl_sld hX hx hbl hbA dL_law_484 h97 ?_
      refine zt_aload_n hX 0 dL_law_485 rfl rfl ?_
      refine zt_iload_n hX 3 dL_law_486 rfl rfl ?_
      refine zt_iconst hX dL_law_487 (v := (2 : Int32)) (by decide) ?_
      refine zt_iadd hX dL_law_488 ?_
      obtain ⟨h98, hf⟩ := hf
      refine zl_sld hX hx hbl hbA dL_law_489 h98 ?_
      refine zt_aload_n hX 0 dL_law_490 rfl rfl ?_
      refine zt_iload_n hX 3 dL_law_491 rfl rfl ?_
      refine zt_iconst hX dL_law_492 (v := (3 : Int32)) (by decide) ?_
      refine zt_iadd hX dL_law_493 ?_
      obtain ⟨h99, hf⟩ := hf
      refine zl_sld hX hx hbl hbA dL_law_494 h99 ?_
      refine zt_calliV hX hY (av := [.int (xs (x3 + (1 : Int32)).toNatClampNeg), .int (xs (x3 + (2 : Int32)).toNatClampNeg), .int (xs (x3 + (3 : Int32)).toNatClampNeg)]) (c_X6_setAll hf) dL_law_495 rfl kw_786 kw_787 kw_788 kw_67 kw_789 ⟨rfl, rfl⟩ hy_X6_setAll ⟨by decide, by decide⟩ ⟨show cells + 26 + 0 ≤ 600000 by omega, show slots + 289 + 0 ≤ 7302250 by omega⟩ (Nat.le_of_ble_eq_true rfl) (by decide) (zE_73 _ _) rfl rfl (fun r100 σ101 hf => ?_)
      refine zt_cs (c1 := cells + 26) (s1 := slots + 289) (by omega) (by omega) ?_
      refine zt_icmp_eq hX dL_law_498 (tgt := 1238) (by decide) (fun c102 => ?_) (fun c102 => ?_)
      · replace hf := z_pos hf c102
        obtain ⟨y103, ey103⟩ : ∃ y : Int32, y = (x3 + (4 : Int32)) := ⟨_, rfl⟩
        replace hf := hf y103 ey103
        refine zt_iinc (L' := [(3, .int y103), (0, .ref b), (1, .ref (n0 + 0)), (2, .ref (n0 + 73))]) hX 3 dL_law_1238 rfl (v := y103) (by rw [ey103]; rfl) (by decide) rfl ?_
        refine zt_goto hX dL_law_1241 (tgt := 18) (by decide) ?_
        exact zt_sub [1, 2, 3, 0] rfl (hk _ _ hf)
      · replace hf := z_neg hf c102
        refine zt_iconst hX dL_law_501 (v := (0 : Int32)) (by decide) ?_
        exact hf.elim
    replace hf := z_neg hf c91
    by_cases c104 : ((xs x3.toNatClampNeg) &&& (63 : Int32)) = (9 : Int32)
    · replace hf := z_pos hf c104
      refine zt_tabIn hX dL_law_32 (by rw [c104]; decide) (by rw [c104]; decide) (off := 471) (by rw [c104]; rfl) (tgt := 503) (by decide) ?_
      unfold wc_law_9 at hf
      refine zt_aload_n hX 1 dL_law_503 rfl rfl ?_
      refine zt_aload_n hX 0 dL_law_504 rfl rfl ?_
      refine zt_iload_n hX 3 dL_law_505 rfl rfl ?_
      refine zt_iconst hX dL_law_506 (v := (1 : Int32)) (by decide) ?_
      refine zt_iadd hX dL_law_507 ?_
      obtain ⟨h105, hf⟩ := hf
      refine zl_sld hX hx hbl hbA dL_law_508 h105 ?_
      refine zt_aload_n hX 0 dL_law_509 rfl rfl ?_
      refine zt_iload_n hX 3 dL_law_510 rfl rfl ?_
      refine zt_iconst hX dL_law_511 (v := (2 : Int32)) (by decide) ?_
      refine zt_iadd hX dL_law_512 ?_
      obtain ⟨h106, hf⟩ := hf
      refine zl_sld hX hx hbl hbA dL_law_513 h106 ?_
      refine zt_calliV hX hY (av := [.int (xs (x3 + (1 : Int32)).toNatClampNeg), .int (xs (x3 + (2 : Int32)).toNatClampNeg)]) (c_X5_removeReading hf) dL_law_514 rfl kw_347 kw_348 kw_349 kw_61 kw_350 ⟨rfl, rfl⟩ hy_X5_removeReading ⟨by decide, by decide⟩ ⟨show cells + 26 ≤ 600000 by omega, show slots + 289 ≤ 7302250 by omega⟩ (Nat.le_of_ble_eq_true rfl) (by decide) (zE_0 _ _) rfl rfl (fun r107 σ108 hf => ?_)
      refine zt_cs (c1 := cells + 26) (s1 := slots + 289) (by omega) (by omega) ?_
      refine zt_aload_n hX 2 dL_law_517 rfl rfl ?_
      refine zt_aload_n hX 0 dL_law_518 rfl rfl ?_
      refine zt_iload_n hX 3 dL_law_519 rfl rfl ?_
      refine zt_iconst hX dL_law_520 (v := (1 : Int32)) (by decide) ?_
      refine zt_iadd hX dL_law_521 ?_
      obtain ⟨h109, hf⟩ := hf
      refine zl_sld hX hx hbl hbA dL_law_522 h109 ?_
      refine zt_aload_n hX 0 dL_law_523 rfl rfl ?_
      refine zt_iload_n hX 3 dL_law_524 rfl rfl ?_
      refine zt_iconst hX dL_law_525 (v := (2 : Int32)) (by decide) ?_
      refine zt_iadd hX dL_law_526 ?_
      obtain ⟨h110, hf⟩ := hf
      refine zl_sld hX hx hbl hbA dL_law_527 h110 ?_
      refine zt_calliV hX hY (av := [.int (xs (x3 + (1 : Int32)).toNatClampNeg), .int (xs (x3 + (2 : Int32)).toNatClampNeg)]) (c_X6_removeReading hf) dL_law_528 rfl kw_790 kw_791 kw_792 kw_67 kw_793 ⟨rfl, rfl⟩ hy_X6_removeReading ⟨by decide, by decide⟩ ⟨show cells + 26 + 0 ≤ 600000 by omega, show slots + 289 + 0 ≤ 7302250 by omega⟩ (Nat.le_of_ble_eq_true rfl) (by decide) (zE_73 _ _) rfl rfl (fun r111 σ112 hf => ?_)
      refine zt_cs (c1 := cells + 26) (s1 := slots + 289) (by omega) (by omega) ?_
      refine zt_icmp_eq hX dL_law_531 (tgt := 1238) (by decide) (fun c113 => ?_) (fun c113 => ?_)
      · replace hf := z_pos hf c113
        obtain ⟨y114, ey114⟩ : ∃ y : Int32, y = (x3 + (4 : Int32)) := ⟨_, rfl⟩
        replace hf := hf y114 ey114
        refine zt_iinc (L' := [(3, .int y114), (0, .ref b), (1, .ref (n0 + 0)), (2, .ref (n0 + 73))]) hX 3 dL_law_1238 rfl (v := y114) (by rw [ey114]; rfl) (by decide) rfl ?_
        refine zt_goto hX dL_law_1241 (tgt := 18) (by decide) ?_
        exact zt_sub [1, 2, 3, 0] rfl (hk _ _ hf)
      · replace hf := z_neg hf c113
        refine zt_iconst hX dL_law_534 (v := (0 : Int32)) (by decide) ?_
        exact hf.elim
    replace hf := z_neg hf c104
    by_cases c115 : ((xs x3.toNatClampNeg) &&& (63 : Int32)) = (10 : Int32)
    · replace hf := z_pos hf c115
      refine zt_tabIn hX dL_law_32 (by rw [c115]; decide) (by rw [c115]; decide) (off := 504) (by rw [c115]; rfl) (tgt := 536) (by decide) ?_
      unfold wc_law_10 at hf
      refine zt_aload_n hX 1 dL_law_536 rfl rfl ?_
      refine zt_aload_n hX 0 dL_law_537 rfl rfl ?_
      refine zt_iload_n hX 3 dL_law_538 rfl rfl ?_
      refine zt_iconst hX dL_law_539 (v := (1 : Int32)) (by decide) ?_
      refine zt_iadd hX dL_law_540 ?_
      obtain ⟨h116, hf⟩ := hf
      refine zl_sld hX hx hbl hbA dL_law_541 h116 ?_
      refine zt_aload_n hX 0 dL_law_542 rfl rfl ?_
      refine zt_iload_n hX 3 dL_law_543 rfl rfl ?_
      refine zt_iconst hX dL_law_544 (v := (2 : Int32)) (by decide) ?_
      refine zt_iadd hX dL_law_545 ?_
      obtain ⟨h117, hf⟩ := hf
      refine zl_sld hX hx hbl hbA dL_law_546 h117 ?_
      refine zt_calliV hX hY (av := [.int (xs (x3 + (1 : Int32)).toNatClampNeg), .int (xs (x3 + (2 : Int32)).toNatClampNeg)]) (c_X5_reading hf) dL_law_547 rfl kw_351 kw_352 kw_353 kw_61 kw_354 ⟨rfl, rfl⟩ hy_X5_reading ⟨by decide, by decide⟩ ⟨show cells + 0 ≤ 600000 by omega, show slots + 0 ≤ 7302250 by omega⟩ (Nat.le_of_ble_eq_true rfl) (by decide) (zE_0 _ _) rfl rfl (fun r118 σ119 hf => ?_)
      refine zt_cs (c1 := cells) (s1 := slots) (by omega) (by omega) ?_
      refine zt_aload_n hX 2 dL_law_550 rfl rfl ?_
      refine zt_aload_n hX 0 dL_law_551 rfl rfl ?_
      refine zt_iload_n hX 3 dL_law_552 rfl rfl ?_
      refine zt_iconst hX dL_law_553 (v := (1 : Int32)) (by decide) ?_
      refine zt_iadd hX dL_law_554 ?_
      obtain ⟨h120, hf⟩ := hf
      refine zl_sld hX hx hbl hbA dL_law_555 h120 ?_
      refine zt_aload_n hX 0 dL_law_556 rfl rfl ?_
      refine zt_iload_n hX 3 dL_law_557 rfl rfl ?_
      refine zt_iconst hX dL_law_558 (v := (2 : Int32)) (by decide) ?_
      refine zt_iadd hX dL_law_559 ?_
      obtain ⟨h121, hf⟩ := hf
      refine zl_sld hX hx hbl hbA dL_law_560 h121 ?_
      refine zt_calliV hX hY (av := [.int (xs (x3 + (1 : Int32)).toNatClampNeg), .int (xs (x3 + (2 : Int32)).toNatClampNeg)]) (c_X6_reading hf) dL_law_561 rfl kw_794 kw_795 kw_796 kw_67 kw_797 ⟨rfl, rfl⟩ hy_X6_reading ⟨by decide, by decide⟩ ⟨show cells + 0 ≤ 600000 by omega, show slots + 0 ≤ 7302250 by omega⟩ (Nat.le_of_ble_eq_true rfl) (by decide) (zE_73 _ _) rfl rfl (fun r122 σ123 hf => ?_)
      refine zt_cs (c1 := cells) (s1 := slots) (by omega) (by omega) ?_
      refine zt_icmp_eq hX dL_law_564 (tgt := 1238) (by decide) (fun c124 => ?_) (fun c124 => ?_)
      · replace hf := z_pos hf c124
        obtain ⟨y125, ey125⟩ : ∃ y : Int32, y = (x3 + (4 : Int32)) := ⟨_, rfl⟩
        replace hf := hf y125 ey125
        refine zt_iinc (L' := [(3, .int y125), (0, .ref b), (1, .ref (n0 + 0)), (2, .ref (n0 + 73))]) hX 3 dL_law_1238 rfl (v := y125) (by rw [ey125]; rfl) (by decide) rfl ?_
        refine zt_goto hX dL_law_1241 (tgt := 18) (by decide) ?_
        refine zt_widen (c1 := cells + 26) (s1 := slots + 289) (by omega) (by omega) ?_
        exact zt_sub [1, 2, 3, 0] rfl (hk _ _ hf)
      · replace hf := z_neg hf c124
        refine zt_iconst hX dL_law_567 (v := (0 : Int32)) (by decide) ?_
        exact hf.elim
    replace hf := z_neg hf c115
    by_cases c126 : ((xs x3.toNatClampNeg) &&& (63 : Int32)) = (11 : Int32)
    · replace hf := z_pos hf c126
      refine zt_tabIn hX dL_law_32 (by rw [c126]; decide) (by rw [c126]; decide) (off := 537) (by rw [c126]; rfl) (tgt := 569) (by decide) ?_
      unfold wc_law_11 at hf
      refine zt_aload_n hX 1 dL_law_569 rfl rfl ?_
      refine zt_aload_n hX 0 dL_law_570 rfl rfl ?_
      refine zt_iload_n hX 3 dL_law_571 rfl rfl ?_
      refine zt_iconst hX dL_law_572 (v := (1 : Int32)) (by decide) ?_
      refine zt_iadd hX dL_law_573 ?_
      obtain ⟨h127, hf⟩ := hf
      refine zl_sld hX hx hbl hbA dL_law_574 h127 ?_
      refine zt_aload_n hX 0 dL_law_575 rfl rfl ?_
      refine zt_iload_n hX 3 dL_law_576 rfl rfl ?_
      refine zt_iconst hX dL_law_577 (v := (2 : Int32)) (by decide) ?_
      refine zt_iadd hX dL_law_578 ?_
      obtain ⟨h128, hf⟩ := hf
      refine zl_sld hX hx hbl hbA dL_law_579 h128 ?_
      refine zt_calliV hX hY (av := [.int (xs (x3 + (1 : Int32)).toNatClampNeg), .int (xs (x3 + (2 : Int32)).toNatClampNeg)]) (c_X5_raw hf) dL_law_580 rfl kw_355 kw_356 kw_357 kw_61 kw_358 ⟨rfl, rfl⟩ hy_X5_raw ⟨by decide, by decide⟩ ⟨show cells + 0 ≤ 600000 by omega, show slots + 0 ≤ 7302250 by omega⟩ (Nat.le_of_ble_eq_true rfl) (by decide) (zE_0 _ _) rfl rfl (fun r129 σ130 hf => ?_)
      refine zt_cs (c1 := cells) (s1 := slots) (by omega) (by omega) ?_
      refine zt_aload_n hX 2 dL_law_583 rfl rfl ?_
      refine zt_aload_n hX 0 dL_law_584 rfl rfl ?_
      refine zt_iload_n hX 3 dL_law_585 rfl rfl ?_
      refine zt_iconst hX dL_law_586 (v := (1 : Int32)) (by decide) ?_
      refine zt_iadd hX dL_law_587 ?_
      obtain ⟨h131, hf⟩ := hf
      refine zl_sld hX hx hbl hbA dL_law_588 h131 ?_
      refine zt_aload_n hX 0 dL_law_589 rfl rfl ?_
      refine zt_iload_n hX 3 dL_law_590 rfl rfl ?_
      refine zt_iconst hX dL_law_591 (v := (2 : Int32)) (by decide) ?_
      refine zt_iadd hX dL_law_592 ?_
      obtain ⟨h132, hf⟩ := hf
      refine zl_sld hX hx hbl hbA dL_law_593 h132 ?_
      refine zt_calliV hX hY (av := [.int (xs (x3 + (1 : Int32)).toNatClampNeg), .int (xs (x3 + (2 : Int32)).toNatClampNeg)]) (c_X6_raw hf) dL_law_594 rfl kw_798 kw_799 kw_800 kw_67 kw_801 ⟨rfl, rfl⟩ hy_X6_raw ⟨by decide, by decide⟩ ⟨show cells + 0 ≤ 600000 by omega, show slots + 0 ≤ 7302250 by omega⟩ (Nat.le_of_ble_eq_true rfl) (by decide) (zE_73 _ _) rfl rfl (fun r133 σ134 hf => ?_)
      refine zt_cs (c1 := cells) (s1 := slots) (by omega) (by omega) ?_
      refine zt_icmp_eq hX dL_law_597 (tgt := 1238) (by decide) (fun c135 => ?_) (fun c135 => ?_)
      · replace hf := z_pos hf c135
        obtain ⟨y136, ey136⟩ : ∃ y : Int32, y = (x3 + (4 : Int32)) := ⟨_, rfl⟩
        replace hf := hf y136 ey136
        refine zt_iinc (L' := [(3, .int y136), (0, .ref b), (1, .ref (n0 + 0)), (2, .ref (n0 + 73))]) hX 3 dL_law_1238 rfl (v := y136) (by rw [ey136]; rfl) (by decide) rfl ?_
        refine zt_goto hX dL_law_1241 (tgt := 18) (by decide) ?_
        refine zt_widen (c1 := cells + 26) (s1 := slots + 289) (by omega) (by omega) ?_
        exact zt_sub [1, 2, 3, 0] rfl (hk _ _ hf)
      · replace hf := z_neg hf c135
        refine zt_iconst hX dL_law_600 (v := (0 : Int32)) (by decide) ?_
        exact hf.elim
    replace hf := z_neg hf c126
    by_cases c137 : ((xs x3.toNatClampNeg) &&& (63 : Int32)) = (12 : Int32)
    · replace hf := z_pos hf c137
      refine zt_tabIn hX dL_law_32 (by rw [c137]; decide) (by rw [c137]; decide) (off := 570) (by rw [c137]; rfl) (tgt := 602) (by decide) ?_
      unfold wc_law_12 at hf
      refine zt_aload_n hX 1 dL_law_602 rfl rfl ?_
      refine zt_aload_n hX 0 dL_law_603 rfl rfl ?_
      refine zt_iload_n hX 3 dL_law_604 rfl rfl ?_
      refine zt_iconst hX dL_law_605 (v := (1 : Int32)) (by decide) ?_
      refine zt_iadd hX dL_law_606 ?_
      obtain ⟨h138, hf⟩ := hf
      refine zl_sld hX hx hbl hbA dL_law_607 h138 ?_
      refine zt_aload_n hX 0 dL_law_608 rfl rfl ?_
      refine zt_iload_n hX 3 dL_law_609 rfl rfl ?_
      refine zt_iconst hX dL_law_610 (v := (2 : Int32)) (by decide) ?_
      refine zt_iadd hX dL_law_611 ?_
      obtain ⟨h139, hf⟩ := hf
      refine zl_sld hX hx hbl hbA dL_law_612 h139 ?_
      refine zt_calliV hX hY (av := [.int (xs (x3 + (1 : Int32)).toNatClampNeg), .int (xs (x3 + (2 : Int32)).toNatClampNeg)]) (c_X5_status hf) dL_law_613 rfl kw_367 kw_368 kw_369 kw_61 kw_370 ⟨rfl, rfl⟩ hy_X5_status ⟨by decide, by decide⟩ ⟨show cells + 0 ≤ 600000 by omega, show slots + 0 ≤ 7302250 by omega⟩ (Nat.le_of_ble_eq_true rfl) (by decide) (zE_0 _ _) rfl rfl (fun r140 σ141 hf => ?_)
      refine zt_cs (c1 := cells) (s1 := slots) (by omega) (by omega) ?_
      refine zt_aload_n hX 2 dL_law_616 rfl rfl ?_
      refine zt_aload_n hX 0 dL_law_617 rfl rfl ?_
      refine zt_iload_n hX 3 dL_law_618 rfl rfl ?_
      refine zt_iconst hX dL_law_619 (v := (1 : Int32)) (by decide) ?_
      refine zt_iadd hX dL_law_620 ?_
      obtain ⟨h142, hf⟩ := hf
      refine zl_sld hX hx hbl hbA dL_law_621 h142 ?_
      refine zt_aload_n hX 0 dL_law_622 rfl rfl ?_
      refine zt_iload_n hX 3 dL_law_623 rfl rfl ?_
      refine zt_iconst hX dL_law_624 (v := (2 : Int32)) (by decide) ?_
      refine zt_iadd hX dL_law_625 ?_
      obtain ⟨h143, hf⟩ := hf
      refine zl_sld hX hx hbl hbA dL_law_626 h143 ?_
      refine zt_calliV hX hY (av := [.int (xs (x3 + (1 : Int32)).toNatClampNeg), .int (xs (x3 + (2 : Int32)).toNatClampNeg)]) (c_X6_status hf) dL_law_627 rfl kw_814 kw_815 kw_816 kw_67 kw_817 ⟨rfl, rfl⟩ hy_X6_status ⟨by decide, by decide⟩ ⟨show cells + 0 ≤ 600000 by omega, show slots + 0 ≤ 7302250 by omega⟩ (Nat.le_of_ble_eq_true rfl) (by decide) (zE_73 _ _) rfl rfl (fun r144 σ145 hf => ?_)
      refine zt_cs (c1 := cells) (s1 := slots) (by omega) (by omega) ?_
      refine zt_icmp_eq hX dL_law_630 (tgt := 1238) (by decide) (fun c146 => ?_) (fun c146 => ?_)
      · replace hf := z_pos hf c146
        obtain ⟨y147, ey147⟩ : ∃ y : Int32, y = (x3 + (4 : Int32)) := ⟨_, rfl⟩
        replace hf := hf y147 ey147
        refine zt_iinc (L' := [(3, .int y147), (0, .ref b), (1, .ref (n0 + 0)), (2, .ref (n0 + 73))]) hX 3 dL_law_1238 rfl (v := y147) (by rw [ey147]; rfl) (by decide) rfl ?_
        refine zt_goto hX dL_law_1241 (tgt := 18) (by decide) ?_
        refine zt_widen (c1 := cells + 26) (s1 := slots + 289) (by omega) (by omega) ?_
        exact zt_sub [1, 2, 3, 0] rfl (hk _ _ hf)
      · replace hf := z_neg hf c146
        refine zt_iconst hX dL_law_633 (v := (0 : Int32)) (by decide) ?_
        exact hf.elim
    replace hf := z_neg hf c137
    by_cases c148 : ((xs x3.toNatClampNeg) &&& (63 : Int32)) = (13 : Int32)
    · replace hf := z_pos hf c148
      refine zt_tabIn hX dL_law_32 (by rw [c148]; decide) (by rw [c148]; decide) (off := 603) (by rw [c148]; rfl) (tgt := 635) (by decide) ?_
      unfold wc_law_13 at hf
      refine zt_aload_n hX 1 dL_law_635 rfl rfl ?_
      refine zt_aload_n hX 0 dL_law_636 rfl rfl ?_
      refine zt_iload_n hX 3 dL_law_637 rfl rfl ?_
      refine zt_iconst hX dL_law_638 (v := (1 : Int32)) (by decide) ?_
      refine zt_iadd hX dL_law_639 ?_
      obtain ⟨h149, hf⟩ := hf
      refine zl_sld hX hx hbl hbA dL_law_640 h149 ?_
      refine zt_aload_n hX 0 dL_law_641 rfl rfl ?_
      refine zt_iload_n hX 3 dL_law_642 rfl rfl ?_
      refine zt_iconst hX dL_law_643 (v := (2 : Int32)) (by decide) ?_
      refine zt_iadd hX dL_law_644 ?_
      obtain ⟨h150, hf⟩ := hf
      refine zl_sld hX hx hbl hbA dL_law_645 h150 ?_
      refine zt_calliV hX hY (av := [.int (xs (x3 + (1 : Int32)).toNatClampNeg), .int (xs (x3 + (2 : Int32)).toNatClampNeg)]) (c_X5_energy hf) dL_law_646 rfl kw_379 kw_380 kw_381 kw_61 kw_382 ⟨rfl, rfl⟩ hy_X5_energy ⟨by decide, by decide⟩ ⟨show cells + 0 ≤ 600000 by omega, show slots + 0 ≤ 7302250 by omega⟩ (Nat.le_of_ble_eq_true rfl) (by decide) (zE_0 _ _) rfl rfl (fun r151 σ152 hf => ?_)
      refine zt_cs (c1 := cells) (s1 := slots) (by omega) (by omega) ?_
      refine zt_aload_n hX 2 dL_law_649 rfl rfl ?_
      refine zt_aload_n hX 0 dL_law_650 rfl rfl ?_
      refine zt_iload_n hX 3 dL_law_651 rfl rfl ?_
      refine zt_iconst hX dL_law_652 (v := (1 : Int32)) (by decide) ?_
      refine zt_iadd hX dL_law_653 ?_
      obtain ⟨h153, hf⟩ := hf
      refine zl_sld hX hx hbl hbA dL_law_654 h153 ?_
      refine zt_aload_n hX 0 dL_law_655 rfl rfl ?_
      refine zt_iload_n hX 3 dL_law_656 rfl rfl ?_
      refine zt_iconst hX dL_law_657 (v := (2 : Int32)) (by decide) ?_
      refine zt_iadd hX dL_law_658 ?_
      obtain ⟨h154, hf⟩ := hf
      refine zl_sld hX hx hbl hbA dL_law_659 h154 ?_
      refine zt_calliV hX hY (av := [.int (xs (x3 + (1 : Int32)).toNatClampNeg), .int (xs (x3 + (2 : Int32)).toNatClampNeg)]) (c_X6_energy hf) dL_law_660 rfl kw_826 kw_827 kw_828 kw_67 kw_829 ⟨rfl, rfl⟩ hy_X6_energy ⟨by decide, by decide⟩ ⟨show cells + 0 ≤ 600000 by omega, show slots + 0 ≤ 7302250 by omega⟩ (Nat.le_of_ble_eq_true rfl) (by decide) (zE_73 _ _) rfl rfl (fun r155 σ156 hf => ?_)
      refine zt_cs (c1 := cells) (s1 := slots) (by omega) (by omega) ?_
      refine zt_icmp_eq hX dL_law_663 (tgt := 1238) (by decide) (fun c157 => ?_) (fun c157 => ?_)
      · replace hf := z_pos hf c157
        obtain ⟨y158, ey158⟩ : ∃ y : Int32, y = (x3 + (4 : Int32)) := ⟨_, rfl⟩
        replace hf := hf y158 ey158
        refine zt_iinc (L' := [(3, .int y158), (0, .ref b), (1, .ref (n0 + 0)), (2, .ref (n0 + 73))]) hX 3 dL_law_1238 rfl (v := y158) (by rw [ey158]; rfl) (by decide) rfl ?_
        refine zt_goto hX dL_law_1241 (tgt := 18) (by decide) ?_
        refine zt_widen (c1 := cells + 26) (s1 := slots + 289) (by omega) (by omega) ?_
        exact zt_sub [1, 2, 3, 0] rfl (hk _ _ hf)
      · replace hf := z_neg hf c157
        refine zt_iconst hX dL_law_666 (v := (0 : Int32)) (by decide) ?_
        exact hf.elim
    replace hf := z_neg hf c148
    by_cases c159 : ((xs x3.toNatClampNeg) &&& (63 : Int32)) = (14 : Int32)
    · replace hf := z_pos hf c159
      refine zt_tabIn hX dL_law_32 (by rw [c159]; decide) (by rw [c159]; decide) (off := 636) (by rw [c159]; rfl) (tgt := 668) (by decide) ?_
      unfold wc_law_14 at hf
      refine zt_aload_n hX 1 dL_law_668 rfl rfl ?_
      refine zt_aload_n hX 0 dL_law_669 rfl rfl ?_
      refine zt_iload_n hX 3 dL_law_670 rfl rfl ?_
      refine zt_iconst hX dL_law_671 (v := (1 : Int32)) (by decide) ?_
      refine zt_iadd hX dL_law_672 ?_
      obtain ⟨h160, hf⟩ := hf
      refine zl_sld hX hx hbl hbA dL_law_673 h160 ?_
      refine zt_aload_n hX 0 dL_law_674 rfl rfl ?_
      refine zt_iload_n hX 3 dL_law_675 rfl rfl ?_
      refine zt_iconst hX dL_law_676 (v := (2 : Int32)) (by decide) ?_
      refine zt_iadd hX dL_law_677 ?_
      obtain ⟨h161, hf⟩ := hf
      refine zl_sld hX hx hbl hbA dL_law_678 h161 ?_
      refine zt_calliV hX hY (av := [.int (xs (x3 + (1 : Int32)).toNatClampNeg), .int (xs (x3 + (2 : Int32)).toNatClampNeg)]) (c_X5_quality hf) dL_law_679 rfl kw_410 kw_411 kw_412 kw_61 kw_413 ⟨rfl, rfl⟩ hy_X5_quality ⟨by decide, by decide⟩ ⟨show cells + 0 ≤ 600000 by omega, show slots + 0 ≤ 7302250 by omega⟩ (Nat.le_of_ble_eq_true rfl) (by decide) (zE_0 _ _) rfl rfl (fun r162 σ163 hf => ?_)
      refine zt_cs (c1 := cells) (s1 := slots) (by omega) (by omega) ?_
      refine zt_aload_n hX 2 dL_law_682 rfl rfl ?_
      refine zt_aload_n hX 0 dL_law_683 rfl rfl ?_
      refine zt_iload_n hX 3 dL_law_684 rfl rfl ?_
      refine zt_iconst hX dL_law_685 (v := (1 : Int32)) (by decide) ?_
      refine zt_iadd hX dL_law_686 ?_
      obtain ⟨h164, hf⟩ := hf
      refine zl_sld hX hx hbl hbA dL_law_687 h164 ?_
      refine zt_aload_n hX 0 dL_law_688 rfl rfl ?_
      refine zt_iload_n hX 3 dL_law_689 rfl rfl ?_
      refine zt_iconst hX dL_law_690 (v := (2 : Int32)) (by decide) ?_
      refine zt_iadd hX dL_law_691 ?_
      obtain ⟨h165, hf⟩ := hf
      refine zl_sld hX hx hbl hbA dL_law_692 h165 ?_
      refine zt_calliV hX hY (av := [.int (xs (x3 + (1 : Int32)).toNatClampNeg), .int (xs (x3 + (2 : Int32)).toNatClampNeg)]) (c_X6_quality hf) dL_law_693 rfl kw_854 kw_855 kw_856 kw_67 kw_857 ⟨rfl, rfl⟩ hy_X6_quality ⟨by decide, by decide⟩ ⟨show cells + 0 ≤ 600000 by omega, show slots + 0 ≤ 7302250 by omega⟩ (Nat.le_of_ble_eq_true rfl) (by decide) (zE_73 _ _) rfl rfl (fun r166 σ167 hf => ?_)
      refine zt_cs (c1 := cells) (s1 := slots) (by omega) (by omega) ?_
      refine zt_icmp_eq hX dL_law_696 (tgt := 1238) (by decide) (fun c168 => ?_) (fun c168 => ?_)
      · replace hf := z_pos hf c168
        obtain ⟨y169, ey169⟩ : ∃ y : Int32, y = (x3 + (4 : Int32)) := ⟨_, rfl⟩
        replace hf := hf y169 ey169
        refine zt_iinc (L' := [(3, .int y169), (0, .ref b), (1, .ref (n0 + 0)), (2, .ref (n0 + 73))]) hX 3 dL_law_1238 rfl (v := y169) (by rw [ey169]; rfl) (by decide) rfl ?_
        refine zt_goto hX dL_law_1241 (tgt := 18) (by decide) ?_
        refine zt_widen (c1 := cells + 26) (s1 := slots + 289) (by omega) (by omega) ?_
        exact zt_sub [1, 2, 3, 0] rfl (hk _ _ hf)
      · replace hf := z_neg hf c168
        refine zt_iconst hX dL_law_699 (v := (0 : Int32)) (by decide) ?_
        exact hf.elim
    replace hf := z_neg hf c159
    by_cases c170 : ((xs x3.toNatClampNeg) &&& (63 : Int32)) = (15 : Int32)
    · replace hf := z_pos hf c170
      refine zt_tabIn hX dL_law_32 (by rw [c170]; decide) (by rw [c170]; decide) (off := 669) (by rw [c170]; rfl) (tgt := 701) (by decide) ?_
      unfold wc_law_15 at hf
      refine zt_aload_n hX 1 dL_law_701 rfl rfl ?_
      refine zt_aload_n hX 0 dL_law_702 rfl rfl ?_
      refine zt_iload_n hX 3 dL_law_703 rfl rfl ?_
      refine zt_iconst hX dL_law_704 (v := (1 : Int32)) (by decide) ?_
      refine zt_iadd hX dL_law_705 ?_
      obtain ⟨h171, hf⟩ := hf
      refine zl_sld hX hx hbl hbA dL_law_706 h171 ?_
      refine zt_aload_n hX 0 dL_law_707 rfl rfl ?_
      refine zt_iload_n hX 3 dL_law_708 rfl rfl ?_
      refine zt_iconst hX dL_law_709 (v := (2 : Int32)) (by decide) ?_
      refine zt_iadd hX dL_law_710 ?_
      obtain ⟨h172, hf⟩ := hf
      refine zl_sld hX hx hbl hbA dL_law_711 h172 ?_
      refine zt_calliV hX hY (av := [.int (xs (x3 + (1 : Int32)).toNatClampNeg), .int (xs (x3 + (2 : Int32)).toNatClampNeg)]) (c_X5_day hf) dL_law_712 rfl kw_414 kw_415 kw_416 kw_61 kw_417 ⟨rfl, rfl⟩ hy_X5_day ⟨by decide, by decide⟩ ⟨show cells + 0 ≤ 600000 by omega, show slots + 0 ≤ 7302250 by omega⟩ (Nat.le_of_ble_eq_true rfl) (by decide) (zE_0 _ _) rfl rfl (fun r173 σ174 hf => ?_)
      refine zt_cs (c1 := cells) (s1 := slots) (by omega) (by omega) ?_
      refine zt_aload_n hX 2 dL_law_715 rfl rfl ?_
      refine zt_aload_n hX 0 dL_law_716 rfl rfl ?_
      refine zt_iload_n hX 3 dL_law_717 rfl rfl ?_
      refine zt_iconst hX dL_law_718 (v := (1 : Int32)) (by decide) ?_
      refine zt_iadd hX dL_law_719 ?_
      obtain ⟨h175, hf⟩ := hf
      refine zl_sld hX hx hbl hbA dL_law_720 h175 ?_
      refine zt_aload_n hX 0 dL_law_721 rfl rfl ?_
      refine zt_iload_n hX 3 dL_law_722 rfl rfl ?_
      refine zt_iconst hX dL_law_723 (v := (2 : Int32)) (by decide) ?_
      refine zt_iadd hX dL_law_724 ?_
      obtain ⟨h176, hf⟩ := hf
      refine zl_sld hX hx hbl hbA dL_law_725 h176 ?_
      refine zt_calliV hX hY (av := [.int (xs (x3 + (1 : Int32)).toNatClampNeg), .int (xs (x3 + (2 : Int32)).toNatClampNeg)]) (c_X6_day hf) dL_law_726 rfl kw_895 kw_896 kw_897 kw_67 kw_898 ⟨rfl, rfl⟩ hy_X6_day ⟨by decide, by decide⟩ ⟨show cells + 0 ≤ 600000 by omega, show slots + 0 ≤ 7302250 by omega⟩ (Nat.le_of_ble_eq_true rfl) (by decide) (zE_73 _ _) rfl rfl (fun r177 σ178 hf => ?_)
      refine zt_cs (c1 := cells) (s1 := slots) (by omega) (by omega) ?_
      refine zt_icmp_eq hX dL_law_729 (tgt := 1238) (by decide) (fun c179 => ?_) (fun c179 => ?_)
      · replace hf := z_pos hf c179
        obtain ⟨y180, ey180⟩ : ∃ y : Int32, y = (x3 + (4 : Int32)) := ⟨_, rfl⟩
        replace hf := hf y180 ey180
        refine zt_iinc (L' := [(3, .int y180), (0, .ref b), (1, .ref (n0 + 0)), (2, .ref (n0 + 73))]) hX 3 dL_law_1238 rfl (v := y180) (by rw [ey180]; rfl) (by decide) rfl ?_
        refine zt_goto hX dL_law_1241 (tgt := 18) (by decide) ?_
        refine zt_widen (c1 := cells + 26) (s1 := slots + 289) (by omega) (by omega) ?_
        exact zt_sub [1, 2, 3, 0] rfl (hk _ _ hf)
      · replace hf := z_neg hf c179
        refine zt_iconst hX dL_law_732 (v := (0 : Int32)) (by decide) ?_
        exact hf.elim
    replace hf := z_neg hf c170
    by_cases c181 : ((xs x3.toNatClampNeg) &&& (63 : Int32)) = (16 : Int32)
    · replace hf := z_pos hf c181
      refine zt_tabIn hX dL_law_32 (by rw [c181]; decide) (by rw [c181]; decide) (off := 702) (by rw [c181]; rfl) (tgt := 734) (by decide) ?_
      unfold wc_law_16 at hf
      refine zt_aload_n hX 1 dL_law_734 rfl rfl ?_
      refine zt_aload_n hX 0 dL_law_735 rfl rfl ?_
      refine zt_iload_n hX 3 dL_law_736 rfl rfl ?_
      refine zt_iconst hX dL_law_737 (v := (1 : Int32)) (by decide) ?_
      refine zt_iadd hX dL_law_738 ?_
      obtain ⟨h182, hf⟩ := hf
      refine zl_sld hX hx hbl hbA dL_law_739 h182 ?_
      refine zt_aload_n hX 0 dL_law_740 rfl rfl ?_
      refine zt_iload_n hX 3 dL_law_741 rfl rfl ?_
      refine zt_iconst hX dL_law_742 (v := (2 : Int32)) (by decide) ?_
      refine zt_iadd hX dL_law_743 ?_
      obtain ⟨h183, hf⟩ := hf
      refine zl_sld hX hx hbl hbA dL_law_744 h183 ?_
      refine zt_calliV hX hY (av := [.int (xs (x3 + (1 : Int32)).toNatClampNeg), .int (xs (x3 + (2 : Int32)).toNatClampNeg)]) (c_X5_loss hf) dL_law_745 rfl kw_470 kw_471 kw_472 kw_61 kw_473 ⟨rfl, rfl⟩ hy_X5_loss ⟨by decide, by decide⟩ ⟨show cells + 0 ≤ 600000 by omega, show slots + 0 ≤ 7302250 by omega⟩ (Nat.le_of_ble_eq_true rfl) (by decide) (zE_0 _ _) rfl rfl (fun r184 σ185 hf => ?_)
      refine zt_cs (c1 := cells) (s1 := slots) (by omega) (by omega) ?_
      refine zt_aload_n hX 2 dL_law_748 rfl rfl ?_
      refine zt_aload_n hX 0 dL_law_749 rfl rfl ?_
      refine zt_iload_n hX 3 dL_law_750 rfl rfl ?_
      refine zt_iconst hX dL_law_751 (v := (1 : Int32)) (by decide) ?_
      refine zt_iadd hX dL_law_752 ?_
      obtain ⟨h186, hf⟩ := hf
      refine zl_sld hX hx hbl hbA dL_law_753 h186 ?_
      refine zt_aload_n hX 0 dL_law_754 rfl rfl ?_
      refine zt_iload_n hX 3 dL_law_755 rfl rfl ?_
      refine zt_iconst hX dL_law_756 (v := (2 : Int32)) (by decide) ?_
      refine zt_iadd hX dL_law_757 ?_
      obtain ⟨h187, hf⟩ := hf
      refine zl_sld hX hx hbl hbA dL_law_758 h187 ?_
      refine zt_calliV hX hY (av := [.int (xs (x3 + (1 : Int32)).toNatClampNeg), .int (xs (x3 + (2 : Int32)).toNatClampNeg)]) (c_X6_loss hf) dL_law_759 rfl kw_858 kw_859 kw_860 kw_67 kw_861 ⟨rfl, rfl⟩ hy_X6_loss ⟨by decide, by decide⟩ ⟨show cells + 0 ≤ 600000 by omega, show slots + 0 ≤ 7302250 by omega⟩ (Nat.le_of_ble_eq_true rfl) (by decide) (zE_73 _ _) rfl rfl (fun r188 σ189 hf => ?_)
      refine zt_cs (c1 := cells) (s1 := slots) (by omega) (by omega) ?_
      refine zt_icmp_eq hX dL_law_762 (tgt := 1238) (by decide) (fun c190 => ?_) (fun c190 => ?_)
      · replace hf := z_pos hf c190
        obtain ⟨y191, ey191⟩ : ∃ y : Int32, y = (x3 + (4 : Int32)) := ⟨_, rfl⟩
        replace hf := hf y191 ey191
        refine zt_iinc (L' := [(3, .int y191), (0, .ref b), (1, .ref (n0 + 0)), (2, .ref (n0 + 73))]) hX 3 dL_law_1238 rfl (v := y191) (by rw [ey191]; rfl) (by decide) rfl ?_
        refine zt_goto hX dL_law_1241 (tgt := 18) (by decide) ?_
        refine zt_widen (c1 := cells + 26) (s1 := slots + 289) (by omega) (by omega) ?_
        exact zt_sub [1, 2, 3, 0] rfl (hk _ _ hf)
      · replace hf := z_neg hf c190
        refine zt_iconst hX dL_law_765 (v := (0 : Int32)) (by decide) ?_
        exact hf.elim
    replace hf := z_neg hf c181
    by_cases c192 : ((xs x3.toNatClampNeg) &&& (63 : Int32)) = (17 : Int32)
    · replace hf := z_pos hf c192
      refine zt_tabIn hX dL_law_32 (by rw [c192]; decide) (by rw [c192]; decide) (off := 735) (by rw [c192]; rfl) (tgt := 767) (by decide) ?_
      unfold wc_law_17 at hf
      refine zt_aload_n hX 1 dL_law_767 rfl rfl ?_
      refine zt_aload_n hX 0 dL_law_768 rfl rfl ?_
      refine zt_iload_n hX 3 dL_law_769 rfl rfl ?_
      refine zt_iconst hX dL_law_770 (v := (1 : Int32)) (by decide) ?_
      refine zt_iadd hX dL_law_771 ?_
      obtain ⟨h193, hf⟩ := hf
      refine zl_sld hX hx hbl hbA dL_law_772 h193 ?_
      refine zt_aload_n hX 0 dL_law_773 rfl rfl ?_
      refine zt_iload_n hX 3 dL_law_774 rfl rfl ?_
      refine zt_iconst hX dL_law_775 (v := (2 : Int32)) (by decide) ?_
      refine zt_iadd hX dL_law_776 ?_
      obtain ⟨h194, hf⟩ := hf
      refine zl_sld hX hx hbl hbA dL_law_777 h194 ?_
      refine zt_calliV hX hY (av := [.int (xs (x3 + (1 : Int32)).toNatClampNeg), .int (xs (x3 + (2 : Int32)).toNatClampNeg)]) (c_X5_balance hf) dL_law_778 rfl kw_474 kw_475 kw_476 kw_61 kw_477 ⟨rfl, rfl⟩ hy_X5_balance ⟨by decide, by decide⟩ ⟨show cells + 0 ≤ 600000 by omega, show slots + 0 ≤ 7302250 by omega⟩ (Nat.le_of_ble_eq_true rfl) (by decide) (zE_0 _ _) rfl rfl (fun r195 σ196 hf => ?_)
      refine zt_cs (c1 := cells) (s1 := slots) (by omega) (by omega) ?_
      refine zt_aload_n hX 2 dL_law_781 rfl rfl ?_
      refine zt_aload_n hX 0 dL_law_782 rfl rfl ?_
      refine zt_iload_n hX 3 dL_law_783 rfl rfl ?_
      refine zt_iconst hX dL_law_784 (v := (1 : Int32)) (by decide) ?_
      refine zt_iadd hX dL_law_785 ?_
      obtain ⟨h197, hf⟩ := hf
      refine zl_sld hX hx hbl hbA dL_law_786 h197 ?_
      refine zt_aload_n hX 0 dL_law_787 rfl rfl ?_
      refine zt_iload_n hX 3 dL_law_788 rfl rfl ?_
      refine zt_iconst hX dL_law_789 (v := (2 : Int32)) (by decide) ?_
      refine zt_iadd hX dL_law_790 ?_
      obtain ⟨h198, hf⟩ := hf
      refine zl_sld hX hx hbl hbA dL_law_791 h198 ?_
      refine zt_calliV hX hY (av := [.int (xs (x3 + (1 : Int32)).toNatClampNeg), .int (xs (x3 + (2 : Int32)).toNatClampNeg)]) (c_X6_balance hf) dL_law_792 rfl kw_866 kw_867 kw_868 kw_67 kw_869 ⟨rfl, rfl⟩ hy_X6_balance ⟨by decide, by decide⟩ ⟨show cells + 0 ≤ 600000 by omega, show slots + 0 ≤ 7302250 by omega⟩ (Nat.le_of_ble_eq_true rfl) (by decide) (zE_73 _ _) rfl rfl (fun r199 σ200 hf => ?_)
      refine zt_cs (c1 := cells) (s1 := slots) (by omega) (by omega) ?_
      refine zt_icmp_eq hX dL_law_795 (tgt := 1238) (by decide) (fun c201 => ?_) (fun c201 => ?_)
      · replace hf := z_pos hf c201
        obtain ⟨y202, ey202⟩ : ∃ y : Int32, y = (x3 + (4 : Int32)) := ⟨_, rfl⟩
        replace hf := hf y202 ey202
        refine zt_iinc (L' := [(3, .int y202), (0, .ref b), (1, .ref (n0 + 0)), (2, .ref (n0 + 73))]) hX 3 dL_law_1238 rfl (v := y202) (by rw [ey202]; rfl) (by decide) rfl ?_
        refine zt_goto hX dL_law_1241 (tgt := 18) (by decide) ?_
        refine zt_widen (c1 := cells + 26) (s1 := slots + 289) (by omega) (by omega) ?_
        exact zt_sub [1, 2, 3, 0] rfl (hk _ _ hf)
      · replace hf := z_neg hf c201
        refine zt_iconst hX dL_law_798 (v := (0 : Int32)) (by decide) ?_
        exact hf.elim
    replace hf := z_neg hf c192
    by_cases c203 : ((xs x3.toNatClampNeg) &&& (63 : Int32)) = (18 : Int32)
    · replace hf := z_pos hf c203
      refine zt_tabIn hX dL_law_32 (by rw [c203]; decide) (by rw [c203]; decide) (off := 768) (by rw [c203]; rfl) (tgt := 800) (by decide) ?_
      unfold wc_law_18 at hf
      refine zt_aload_n hX 1 dL_law_800 rfl rfl ?_
      refine zt_aload_n hX 0 dL_law_801 rfl rfl ?_
      refine zt_iload_n hX 3 dL_law_802 rfl rfl ?_
      refine zt_iconst hX dL_law_803 (v := (1 : Int32)) (by decide) ?_
      refine zt_iadd hX dL_law_804 ?_
      obtain ⟨h204, hf⟩ := hf
      refine zl_sld hX hx hbl hbA dL_law_805 h204 ?_
      refine zt_aload_n hX 0 dL_law_806 rfl rfl ?_
      refine zt_iload_n hX 3 dL_law_807 rfl rfl ?_
      refine zt_iconst hX dL_law_808 (v := (2 : Int32)) (by decide) ?_
      refine zt_iadd hX dL_law_809 ?_
      obtain ⟨h205, hf⟩ := hf
      refine zl_sld hX hx hbl hbA dL_law_810 h205 ?_
      refine zt_calliV hX hY (av := [.int (xs (x3 + (1 : Int32)).toNatClampNeg), .int (xs (x3 + (2 : Int32)).toNatClampNeg)]) (c_X5_nextFault hf) dL_law_811 rfl kw_484 kw_485 kw_486 kw_61 kw_487 ⟨rfl, rfl⟩ hy_X5_nextFault ⟨by decide, by decide⟩ ⟨show cells + 0 ≤ 600000 by omega, show slots + 0 ≤ 7302250 by omega⟩ (Nat.le_of_ble_eq_true rfl) (by decide) (zE_0 _ _) rfl rfl (fun r206 σ207 hf => ?_)
      refine zt_cs (c1 := cells) (s1 := slots) (by omega) (by omega) ?_
      refine zt_aload_n hX 2 dL_law_814 rfl rfl ?_
      refine zt_aload_n hX 0 dL_law_815 rfl rfl ?_
      refine zt_iload_n hX 3 dL_law_816 rfl rfl ?_
      refine zt_iconst hX dL_law_817 (v := (1 : Int32)) (by decide) ?_
      refine zt_iadd hX dL_law_818 ?_
      obtain ⟨h208, hf⟩ := hf
      refine zl_sld hX hx hbl hbA dL_law_819 h208 ?_
      refine zt_aload_n hX 0 dL_law_820 rfl rfl ?_
      refine zt_iload_n hX 3 dL_law_821 rfl rfl ?_
      refine zt_iconst hX dL_law_822 (v := (2 : Int32)) (by decide) ?_
      refine zt_iadd hX dL_law_823 ?_
      obtain ⟨h209, hf⟩ := hf
      refine zl_sld hX hx hbl hbA dL_law_824 h209 ?_
      refine zt_calliV hX hY (av := [.int (xs (x3 + (1 : Int32)).toNatClampNeg), .int (xs (x3 + (2 : Int32)).toNatClampNeg)]) (c_X6_nextFault hf) dL_law_825 rfl kw_875 kw_876 kw_877 kw_67 kw_878 ⟨rfl, rfl⟩ hy_X6_nextFault ⟨by decide, by decide⟩ ⟨show cells + 0 ≤ 600000 by omega, show slots + 0 ≤ 7302250 by omega⟩ (Nat.le_of_ble_eq_true rfl) (by decide) (zE_73 _ _) rfl rfl (fun r210 σ211 hf => ?_)
      refine zt_cs (c1 := cells) (s1 := slots) (by omega) (by omega) ?_
      refine zt_icmp_eq hX dL_law_828 (tgt := 1238) (by decide) (fun c212 => ?_) (fun c212 => ?_)
      · replace hf := z_pos hf c212
        obtain ⟨y213, ey213⟩ : ∃ y : Int32, y = (x3 + (4 : Int32)) := ⟨_, rfl⟩
        replace hf := hf y213 ey213
        refine zt_iinc (L' := [(3, .int y213), (0, .ref b), (1, .ref (n0 + 0)), (2, .ref (n0 + 73))]) hX 3 dL_law_1238 rfl (v := y213) (by rw [ey213]; rfl) (by decide) rfl ?_
        refine zt_goto hX dL_law_1241 (tgt := 18) (by decide) ?_
        refine zt_widen (c1 := cells + 26) (s1 := slots + 289) (by omega) (by omega) ?_
        exact zt_sub [1, 2, 3, 0] rfl (hk _ _ hf)
      · replace hf := z_neg hf c212
        refine zt_iconst hX dL_law_831 (v := (0 : Int32)) (by decide) ?_
        exact hf.elim
    replace hf := z_neg hf c203
    by_cases c214 : ((xs x3.toNatClampNeg) &&& (63 : Int32)) = (19 : Int32)
    · replace hf := z_pos hf c214
      refine zt_tabIn hX dL_law_32 (by rw [c214]; decide) (by rw [c214]; decide) (off := 801) (by rw [c214]; rfl) (tgt := 833) (by decide) ?_
      unfold wc_law_19 at hf
      refine zt_aload_n hX 1 dL_law_833 rfl rfl ?_
      refine zt_aload_n hX 0 dL_law_834 rfl rfl ?_
      refine zt_iload_n hX 3 dL_law_835 rfl rfl ?_
      refine zt_iconst hX dL_law_836 (v := (1 : Int32)) (by decide) ?_
      refine zt_iadd hX dL_law_837 ?_
      obtain ⟨h215, hf⟩ := hf
      refine zl_sld hX hx hbl hbA dL_law_838 h215 ?_
      refine zt_aload_n hX 0 dL_law_839 rfl rfl ?_
      refine zt_iload_n hX 3 dL_law_840 rfl rfl ?_
      refine zt_iconst hX dL_law_841 (v := (2 : Int32)) (by decide) ?_
      refine zt_iadd hX dL_law_842 ?_
      obtain ⟨h216, hf⟩ := hf
      refine zl_sld hX hx hbl hbA dL_law_843 h216 ?_
      refine zt_calliV hX hY (av := [.int (xs (x3 + (1 : Int32)).toNatClampNeg), .int (xs (x3 + (2 : Int32)).toNatClampNeg)]) (c_X5_billed hf) dL_law_844 rfl kw_488 kw_489 kw_490 kw_61 kw_491 ⟨rfl, rfl⟩ hy_X5_billed ⟨by decide, by decide⟩ ⟨show cells + 0 ≤ 600000 by omega, show slots + 0 ≤ 7302250 by omega⟩ (Nat.le_of_ble_eq_true rfl) (by decide) (zE_0 _ _) rfl rfl (fun r217 σ218 hf => ?_)
      refine zt_cs (c1 := cells) (s1 := slots) (by omega) (by omega) ?_
      refine zt_aload_n hX 2 dL_law_847 rfl rfl ?_
      refine zt_aload_n hX 0 dL_law_848 rfl rfl ?_
      refine zt_iload_n hX 3 dL_law_849 rfl rfl ?_
      refine zt_iconst hX dL_law_850 (v := (1 : Int32)) (by decide) ?_
      refine zt_iadd hX dL_law_851 ?_
      obtain ⟨h219, hf⟩ := hf
      refine zl_sld hX hx hbl hbA dL_law_852 h219 ?_
      refine zt_aload_n hX 0 dL_law_853 rfl rfl ?_
      refine zt_iload_n hX 3 dL_law_854 rfl rfl ?_
      refine zt_iconst hX dL_law_855 (v := (2 : Int32)) (by decide) ?_
      refine zt_iadd hX dL_law_856 ?_
      obtain ⟨h220, hf⟩ := hf
      refine zl_sld hX hx hbl hbA dL_law_857 h220 ?_
      refine zt_calliV hX hY (av := [.int (xs (x3 + (1 : Int32)).toNatClampNeg), .int (xs (x3 + (2 : Int32)).toNatClampNeg)]) (c_X6_billed hf) dL_law_858 rfl kw_879 kw_880 kw_881 kw_67 kw_882 ⟨rfl, rfl⟩ hy_X6_billed ⟨by decide, by decide⟩ ⟨show cells + 0 ≤ 600000 by omega, show slots + 0 ≤ 7302250 by omega⟩ (Nat.le_of_ble_eq_true rfl) (by decide) (zE_73 _ _) rfl rfl (fun r221 σ222 hf => ?_)
      refine zt_cs (c1 := cells) (s1 := slots) (by omega) (by omega) ?_
      refine zt_icmp_eq hX dL_law_861 (tgt := 1238) (by decide) (fun c223 => ?_) (fun c223 => ?_)
      · replace hf := z_pos hf c223
        obtain ⟨y224, ey224⟩ : ∃ y : Int32, y = (x3 + (4 : Int32)) := ⟨_, rfl⟩
        replace hf := hf y224 ey224
        refine zt_iinc (L' := [(3, .int y224), (0, .ref b), (1, .ref (n0 + 0)), (2, .ref (n0 + 73))]) hX 3 dL_law_1238 rfl (v := y224) (by rw [ey224]; rfl) (by decide) rfl ?_
        refine zt_goto hX dL_law_1241 (tgt := 18) (by decide) ?_
        refine zt_widen (c1 := cells + 26) (s1 := slots + 289) (by omega) (by omega) ?_
        exact zt_sub [1, 2, 3, 0] rfl (hk _ _ hf)
      · replace hf := z_neg hf c223
        refine zt_iconst hX dL_law_864 (v := (0 : Int32)) (by decide) ?_
        exact hf.elim
    replace hf := z_neg hf c214
    by_cases c225 : ((xs x3.toNatClampNeg) &&& (63 : Int32)) = (20 : Int32)
    · replace hf := z_pos hf c225
      refine zt_tabIn hX dL_law_32 (by rw [c225]; decide) (by rw [c225]; decide) (off := 834) (by rw [c225]; rfl) (tgt := 866) (by decide) ?_
      unfold wc_law_20 at hf
      refine zt_aload_n hX 1 dL_law_866 rfl rfl ?_
      refine zt_aload_n hX 0 dL_law_867 rfl rfl ?_
      refine zt_iload_n hX 3 dL_law_868 rfl rfl ?_
      refine zt_iconst hX dL_law_869 (v := (1 : Int32)) (by decide) ?_
      refine zt_iadd hX dL_law_870 ?_
      obtain ⟨h226, hf⟩ := hf
      refine zl_sld hX hx hbl hbA dL_law_871 h226 ?_
      refine zt_aload_n hX 0 dL_law_872 rfl rfl ?_
      refine zt_iload_n hX 3 dL_law_873 rfl rfl ?_
      refine zt_iconst hX dL_law_874 (v := (2 : Int32)) (by decide) ?_
      refine zt_iadd hX dL_law_875 ?_
      obtain ⟨h227, hf⟩ := hf
      refine zl_sld hX hx hbl hbA dL_law_876 h227 ?_
      refine zt_calliV hX hY (av := [.int (xs (x3 + (1 : Int32)).toNatClampNeg), .int (xs (x3 + (2 : Int32)).toNatClampNeg)]) (c_X5_part hf) dL_law_877 rfl kw_492 kw_493 kw_494 kw_61 kw_495 ⟨rfl, rfl⟩ hy_X5_part ⟨by decide, by decide⟩ ⟨show cells + 0 ≤ 600000 by omega, show slots + 0 ≤ 7302250 by omega⟩ (Nat.le_of_ble_eq_true rfl) (by decide) (zE_0 _ _) rfl rfl (fun r228 σ229 hf => ?_)
      refine zt_cs (c1 := cells) (s1 := slots) (by omega) (by omega) ?_
      refine zt_aload_n hX 2 dL_law_880 rfl rfl ?_
      refine zt_aload_n hX 0 dL_law_881 rfl rfl ?_
      refine zt_iload_n hX 3 dL_law_882 rfl rfl ?_
      refine zt_iconst hX dL_law_883 (v := (1 : Int32)) (by decide) ?_
      refine zt_iadd hX dL_law_884 ?_
      obtain ⟨h230, hf⟩ := hf
      refine zl_sld hX hx hbl hbA dL_law_885 h230 ?_
      refine zt_aload_n hX 0 dL_law_886 rfl rfl ?_
      refine zt_iload_n hX 3 dL_law_887 rfl rfl ?_
      refine zt_iconst hX dL_law_888 (v := (2 : Int32)) (by decide) ?_
      refine zt_iadd hX dL_law_889 ?_
      obtain ⟨h231, hf⟩ := hf
      refine zl_sld hX hx hbl hbA dL_law_890 h231 ?_
      refine zt_calliV hX hY (av := [.int (xs (x3 + (1 : Int32)).toNatClampNeg), .int (xs (x3 + (2 : Int32)).toNatClampNeg)]) (c_X6_part hf) dL_law_891 rfl kw_891 kw_892 kw_893 kw_67 kw_894 ⟨rfl, rfl⟩ hy_X6_part ⟨by decide, by decide⟩ ⟨show cells + 0 ≤ 600000 by omega, show slots + 0 ≤ 7302250 by omega⟩ (Nat.le_of_ble_eq_true rfl) (by decide) (zE_73 _ _) rfl rfl (fun r232 σ233 hf => ?_)
      refine zt_cs (c1 := cells) (s1 := slots) (by omega) (by omega) ?_
      refine zt_icmp_eq hX dL_law_894 (tgt := 1238) (by decide) (fun c234 => ?_) (fun c234 => ?_)
      · replace hf := z_pos hf c234
        obtain ⟨y235, ey235⟩ : ∃ y : Int32, y = (x3 + (4 : Int32)) := ⟨_, rfl⟩
        replace hf := hf y235 ey235
        refine zt_iinc (L' := [(3, .int y235), (0, .ref b), (1, .ref (n0 + 0)), (2, .ref (n0 + 73))]) hX 3 dL_law_1238 rfl (v := y235) (by rw [ey235]; rfl) (by decide) rfl ?_
        refine zt_goto hX dL_law_1241 (tgt := 18) (by decide) ?_
        refine zt_widen (c1 := cells + 26) (s1 := slots + 289) (by omega) (by omega) ?_
        exact zt_sub [1, 2, 3, 0] rfl (hk _ _ hf)
      · replace hf := z_neg hf c234
        refine zt_iconst hX dL_law_897 (v := (0 : Int32)) (by decide) ?_
        exact hf.elim
    replace hf := z_neg hf c225
    by_cases c236 : ((xs x3.toNatClampNeg) &&& (63 : Int32)) = (21 : Int32)
    · replace hf := z_pos hf c236
      refine zt_tabIn hX dL_law_32 (by rw [c236]; decide) (by rw [c236]; decide) (off := 867) (by rw [c236]; rfl) (tgt := 899) (by decide) ?_
      unfold wc_law_21 at hf
      refine zt_aload_n hX 1 dL_law_899 rfl rfl ?_
      refine zt_aload_n hX 0 dL_law_900 rfl rfl ?_
      refine zt_iload_n hX 3 dL_law_901 rfl rfl ?_
      refine zt_iconst hX dL_law_902 (v := (1 : Int32)) (by decide) ?_
      refine zt_iadd hX dL_law_903 ?_
      obtain ⟨h237, hf⟩ := hf
      refine zl_sld hX hx hbl hbA dL_law_904 h237 ?_
      refine zt_calliV hX hY (av := [.int (xs (x3 + (1 : Int32)).toNatClampNeg)]) (c_X5_shareBits hf) dL_law_905 rfl kw_496 kw_497 kw_498 kw_61 kw_499 ⟨rfl, rfl⟩ hy_X5_shareBits ⟨by decide, by decide⟩ ⟨show cells + 0 ≤ 600000 by omega, show slots + 0 ≤ 7302250 by omega⟩ (Nat.le_of_ble_eq_true rfl) (by decide) (zE_0 _ _) rfl rfl (fun r238 σ239 hf => ?_)
      refine zt_cs (c1 := cells) (s1 := slots) (by omega) (by omega) ?_
      refine zt_aload_n hX 2 dL_law_908 rfl rfl ?_
      refine zt_aload_n hX 0 dL_law_909 rfl rfl ?_
      refine zt_iload_n hX 3 dL_law_910 rfl rfl ?_
      refine zt_iconst hX dL_law_911 (v := (1 : Int32)) (by decide) ?_
      refine zt_iadd hX dL_law_912 ?_
      obtain ⟨h240, hf⟩ := hf
      refine zl_sld hX hx hbl hbA dL_law_913 h240 ?_
      refine zt_calliV hX hY (av := [.int (xs (x3 + (1 : Int32)).toNatClampNeg)]) (c_X6_shareBits hf) dL_law_914 rfl kw_907 kw_908 kw_909 kw_67 kw_910 ⟨rfl, rfl⟩ hy_X6_shareBits ⟨by decide, by decide⟩ ⟨show cells + 0 ≤ 600000 by omega, show slots + 0 ≤ 7302250 by omega⟩ (Nat.le_of_ble_eq_true rfl) (by decide) (zE_73 _ _) rfl rfl (fun r241 σ242 hf => ?_)
      refine zt_cs (c1 := cells) (s1 := slots) (by omega) (by omega) ?_
      refine zt_icmp_eq hX dL_law_917 (tgt := 1238) (by decide) (fun c243 => ?_) (fun c243 => ?_)
      · replace hf := z_pos hf c243
        obtain ⟨y244, ey244⟩ : ∃ y : Int32, y = (x3 + (4 : Int32)) := ⟨_, rfl⟩
        replace hf := hf y244 ey244
        refine zt_iinc (L' := [(3, .int y244), (0, .ref b), (1, .ref (n0 + 0)), (2, .ref (n0 + 73))]) hX 3 dL_law_1238 rfl (v := y244) (by rw [ey244]; rfl) (by decide) rfl ?_
        refine zt_goto hX dL_law_1241 (tgt := 18) (by decide) ?_
        refine zt_widen (c1 := cells + 26) (s1 := slots + 289) (by omega) (by omega) ?_
        exact zt_sub [1, 2, 3, 0] rfl (hk _ _ hf)
      · replace hf := z_neg hf c243
        refine zt_iconst hX dL_law_920 (v := (0 : Int32)) (by decide) ?_
        exact hf.elim
    replace hf := z_neg hf c236
    by_cases c245 : ((xs x3.toNatClampNeg) &&& (63 : Int32)) = (22 : Int32)
    · replace hf := z_pos hf c245
      refine zt_tabIn hX dL_law_32 (by rw [c245]; decide) (by rw [c245]; decide) (off := 890) (by rw [c245]; rfl) (tgt := 922) (by decide) ?_
      unfold wc_law_22 at hf
      refine zt_aload_n hX 1 dL_law_922 rfl rfl ?_
      refine zt_aload_n hX 0 dL_law_923 rfl rfl ?_
      refine zt_iload_n hX 3 dL_law_924 rfl rfl ?_
      refine zt_iconst hX dL_law_925 (v := (1 : Int32)) (by decide) ?_
      refine zt_iadd hX dL_law_926 ?_
      obtain ⟨h246, hf⟩ := hf
      refine zl_sld hX hx hbl hbA dL_law_927 h246 ?_
      refine zt_calliV hX hY (av := [.int (xs (x3 + (1 : Int32)).toNatClampNeg)]) (c_X5_share hf) dL_law_928 rfl kw_510 kw_511 kw_512 kw_61 kw_513 ⟨rfl, rfl⟩ hy_X5_share ⟨by decide, by decide⟩ ⟨show cells + 0 ≤ 600000 by omega, show slots + 0 ≤ 7302250 by omega⟩ (Nat.le_of_ble_eq_true rfl) (by decide) (zE_0 _ _) rfl rfl (fun r247 σ248 hf => ?_)
      refine zt_cs (c1 := cells) (s1 := slots) (by omega) (by omega) ?_
      refine zt_aload_n hX 2 dL_law_931 rfl rfl ?_
      refine zt_aload_n hX 0 dL_law_932 rfl rfl ?_
      refine zt_iload_n hX 3 dL_law_933 rfl rfl ?_
      refine zt_iconst hX dL_law_934 (v := (1 : Int32)) (by decide) ?_
      refine zt_iadd hX dL_law_935 ?_
      obtain ⟨h249, hf⟩ := hf
      refine zl_sld hX hx hbl hbA dL_law_936 h249 ?_
      refine zt_calliV hX hY (av := [.int (xs (x3 + (1 : Int32)).toNatClampNeg)]) (c_X6_share hf) dL_law_937 rfl kw_925 kw_926 kw_927 kw_67 kw_928 ⟨rfl, rfl⟩ hy_X6_share ⟨by decide, by decide⟩ ⟨show cells + 0 ≤ 600000 by omega, show slots + 0 ≤ 7302250 by omega⟩ (Nat.le_of_ble_eq_true rfl) (by decide) (zE_73 _ _) rfl rfl (fun r250 σ251 hf => ?_)
      refine zt_cs (c1 := cells) (s1 := slots) (by omega) (by omega) ?_
      refine zt_icmp_eq hX dL_law_940 (tgt := 1238) (by decide) (fun c252 => ?_) (fun c252 => ?_)
      · replace hf := z_pos hf c252
        obtain ⟨y253, ey253⟩ : ∃ y : Int32, y = (x3 + (4 : Int32)) := ⟨_, rfl⟩
        replace hf := hf y253 ey253
        refine zt_iinc (L' := [(3, .int y253), (0, .ref b), (1, .ref (n0 + 0)), (2, .ref (n0 + 73))]) hX 3 dL_law_1238 rfl (v := y253) (by rw [ey253]; rfl) (by decide) rfl ?_
        refine zt_goto hX dL_law_1241 (tgt := 18) (by decide) ?_
        refine zt_widen (c1 := cells + 26) (s1 := slots + 289) (by omega) (by omega) ?_
        exact zt_sub [1, 2, 3, 0] rfl (hk _ _ hf)
      · replace hf := z_neg hf c252
        refine zt_iconst hX dL_law_943 (v := (0 : Int32)) (by decide) ?_
        exact hf.elim
    replace hf := z_neg hf c245
    by_cases c254 : ((xs x3.toNatClampNeg) &&& (63 : Int32)) = (23 : Int32)
    · replace hf := z_pos hf c254
      refine zt_tabIn hX dL_law_32 (by rw [c254]; decide) (by rw [c254]; decide) (off := 913) (by rw [c254]; rfl) (tgt := 945) (by decide) ?_
      unfold wc_law_23 at hf
      refine zt_aload_n hX 1 dL_law_945 rfl rfl ?_
      refine zt_aload_n hX 0 dL_law_946 rfl rfl ?_
      refine zt_iload_n hX 3 dL_law_947 rfl rfl ?_
      refine zt_iconst hX dL_law_948 (v := (1 : Int32)) (by decide) ?_
      refine zt_iadd hX dL_law_949 ?_
      obtain ⟨h255, hf⟩ := hf
      refine zl_sld hX hx hbl hbA dL_law_950 h255 ?_
      refine zt_calliV hX hY (av := [.int (xs (x3 + (1 : Int32)).toNatClampNeg)]) (c_X5_imbalance hf) dL_law_951 rfl kw_515 kw_516 kw_517 kw_61 kw_518 ⟨rfl, rfl⟩ hy_X5_imbalance ⟨by decide, by decide⟩ ⟨show cells + 0 ≤ 600000 by omega, show slots + 0 ≤ 7302250 by omega⟩ (Nat.le_of_ble_eq_true rfl) (by decide) (zE_0 _ _) rfl rfl (fun r256 σ257 hf => ?_)
      refine zt_cs (c1 := cells) (s1 := slots) (by omega) (by omega) ?_
      refine zt_aload_n hX 2 dL_law_954 rfl rfl ?_
      refine zt_aload_n hX 0 dL_law_955 rfl rfl ?_
      refine zt_iload_n hX 3 dL_law_956 rfl rfl ?_
      refine zt_iconst hX dL_law_957 (v := (1 : Int32)) (by decide) ?_
      refine zt_iadd hX dL_law_958 ?_
      obtain ⟨h258, hf⟩ := hf
      refine zl_sld hX hx hbl hbA dL_law_959 h258 ?_
      refine zt_calliV hX hY (av := [.int (xs (x3 + (1 : Int32)).toNatClampNeg)]) (c_X6_imbalance hf) dL_law_960 rfl kw_930 kw_931 kw_932 kw_67 kw_933 ⟨rfl, rfl⟩ hy_X6_imbalance ⟨by decide, by decide⟩ ⟨show cells + 0 ≤ 600000 by omega, show slots + 0 ≤ 7302250 by omega⟩ (Nat.le_of_ble_eq_true rfl) (by decide) (zE_73 _ _) rfl rfl (fun r259 σ260 hf => ?_)
      refine zt_cs (c1 := cells) (s1 := slots) (by omega) (by omega) ?_
      refine zt_icmp_eq hX dL_law_963 (tgt := 1238) (by decide) (fun c261 => ?_) (fun c261 => ?_)
      · replace hf := z_pos hf c261
        obtain ⟨y262, ey262⟩ : ∃ y : Int32, y = (x3 + (4 : Int32)) := ⟨_, rfl⟩
        replace hf := hf y262 ey262
        refine zt_iinc (L' := [(3, .int y262), (0, .ref b), (1, .ref (n0 + 0)), (2, .ref (n0 + 73))]) hX 3 dL_law_1238 rfl (v := y262) (by rw [ey262]; rfl) (by decide) rfl ?_
        refine zt_goto hX dL_law_1241 (tgt := 18) (by decide) ?_
        refine zt_widen (c1 := cells + 26) (s1 := slots + 289) (by omega) (by omega) ?_
        exact zt_sub [1, 2, 3, 0] rfl (hk _ _ hf)
      · replace hf := z_neg hf c261
        refine zt_iconst hX dL_law_966 (v := (0 : Int32)) (by decide) ?_
        exact hf.elim
    replace hf := z_neg hf c254
    by_cases c263 : ((xs x3.toNatClampNeg) &&& (63 : Int32)) = (24 : Int32)
    · replace hf := z_pos hf c263
      refine zt_tabIn hX dL_law_32 (by rw [c263]; decide) (by rw [c263]; decide) (off := 936) (by rw [c263]; rfl) (tgt := 968) (by decide) ?_
      unfold wc_law_24 at hf
      refine zt_aload_n hX 1 dL_law_968 rfl rfl ?_
      refine zt_aload_n hX 0 dL_law_969 rfl rfl ?_
      refine zt_iload_n hX 3 dL_law_970 rfl rfl ?_
      refine zt_iconst hX dL_law_971 (v := (1 : Int32)) (by decide) ?_
      refine zt_iadd hX dL_law_972 ?_
      obtain ⟨h264, hf⟩ := hf
      refine zl_sld hX hx hbl hbA dL_law_973 h264 ?_
      refine zt_aload_n hX 0 dL_law_974 rfl rfl ?_
      refine zt_iload_n hX 3 dL_law_975 rfl rfl ?_
      refine zt_iconst hX dL_law_976 (v := (2 : Int32)) (by decide) ?_
      refine zt_iadd hX dL_law_977 ?_
      obtain ⟨h265, hf⟩ := hf
      refine zl_sld hX hx hbl hbA dL_law_978 h265 ?_
      refine zt_aload_n hX 0 dL_law_979 rfl rfl ?_
      refine zt_iload_n hX 3 dL_law_980 rfl rfl ?_
      refine zt_iconst hX dL_law_981 (v := (3 : Int32)) (by decide) ?_
      refine zt_iadd hX dL_law_982 ?_
      obtain ⟨h266, hf⟩ := hf
      refine zl_sld hX hx hbl hbA dL_law_983 h266 ?_
      refine zt_calliV hX hY (av := [.int (xs (x3 + (1 : Int32)).toNatClampNeg), .int (xs (x3 + (2 : Int32)).toNatClampNeg), .int (xs (x3 + (3 : Int32)).toNatClampNeg)]) (c_X5_imbalanceWith hf) dL_law_984 rfl kw_526 kw_527 kw_528 kw_61 kw_529 ⟨rfl, rfl⟩ hy_X5_imbalanceWith ⟨by decide, by decide⟩ ⟨show cells + 0 ≤ 600000 by omega, show slots + 0 ≤ 7302250 by omega⟩ (Nat.le_of_ble_eq_true rfl) (by decide) (zE_0 _ _) rfl rfl (fun r267 σ268 hf => ?_)
      refine zt_cs (c1 := cells) (s1 := slots) (by omega) (by omega) ?_
      refine zt_aload_n hX 2 dL_law_987 rfl rfl ?_
      refine zt_aload_n hX 0 dL_law_988 rfl rfl ?_
      refine zt_iload_n hX 3 dL_law_989 rfl rfl ?_
      refine zt_iconst hX dL_law_990 (v := (1 : Int32)) (by decide) ?_
      refine zt_iadd hX dL_law_991 ?_
      obtain ⟨h269, hf⟩ := hf
      refine zl_sld hX hx hbl hbA dL_law_992 h269 ?_
      refine zt_aload_n hX 0 dL_law_993 rfl rfl ?_
      refine zt_iload_n hX 3 dL_law_994 rfl rfl ?_
      refine zt_iconst hX dL_law_995 (v := (2 : Int32)) (by decide) ?_
      refine zt_iadd hX dL_law_996 ?_
      obtain ⟨h270, hf⟩ := hf
      refine zl_sld hX hx hbl hbA dL_law_997 h270 ?_
      refine zt_aload_n hX 0 dL_law_998 rfl rfl ?_
      refine zt_iload_n hX 3 dL_law_999 rfl rfl ?_
      refine zt_iconst hX dL_law_1000 (v := (3 : Int32)) (by decide) ?_
      refine zt_iadd hX dL_law_1001 ?_
      obtain ⟨h271, hf⟩ := hf
      refine zl_sld hX hx hbl hbA dL_law_1002 h271 ?_
      refine zt_calliV hX hY (av := [.int (xs (x3 + (1 : Int32)).toNatClampNeg), .int (xs (x3 + (2 : Int32)).toNatClampNeg), .int (xs (x3 + (3 : Int32)).toNatClampNeg)]) (c_X6_imbalanceWith hf) dL_law_1003 rfl kw_941 kw_942 kw_943 kw_67 kw_944 ⟨rfl, rfl⟩ hy_X6_imbalanceWith ⟨by decide, by decide⟩ ⟨show cells + 0 ≤ 600000 by omega, show slots + 0 ≤ 7302250 by omega⟩ (Nat.le_of_ble_eq_true rfl) (by decide) (zE_73 _ _) rfl rfl (fun r272 σ273 hf => ?_)
      refine zt_cs (c1 := cells) (s1 := slots) (by omega) (by omega) ?_
      refine zt_icmp_eq hX dL_law_1006 (tgt := 1238) (by decide) (fun c274 => ?_) (fun c274 => ?_)
      · replace hf := z_pos hf c274
        obtain ⟨y275, ey275⟩ : ∃ y : Int32, y = (x3 + (4 : Int32)) := ⟨_, rfl⟩
        replace hf := hf y275 ey275
        refine zt_iinc (L' := [(3, .int y275), (0, .ref b), (1, .ref (n0 + 0)), (2, .ref (n0 + 73))]) hX 3 dL_law_1238 rfl (v := y275) (by rw [ey275]; rfl) (by decide) rfl ?_
        refine zt_goto hX dL_law_1241 (tgt := 18) (by decide) ?_
        refine zt_widen (c1 := cells + 26) (s1 := slots + 289) (by omega) (by omega) ?_
        exact zt_sub [1, 2, 3, 0] rfl (hk _ _ hf)
      · replace hf := z_neg hf c274
        refine zt_iconst hX dL_law_1009 (v := (0 : Int32)) (by decide) ?_
        exact hf.elim
    replace hf := z_neg hf c263
    by_cases c276 : ((xs x3.toNatClampNeg) &&& (63 : Int32)) = (25 : Int32)
    · replace hf := z_pos hf c276
      refine zt_tabIn hX dL_law_32 (by rw [c276]; decide) (by rw [c276]; decide) (off := 979) (by rw [c276]; rfl) (tgt := 1011) (by decide) ?_
      unfold wc_law_25 at hf
      refine zt_aload_n hX 1 dL_law_1011 rfl rfl ?_
      refine zt_aload_n hX 0 dL_law_1012 rfl rfl ?_
      refine zt_iload_n hX 3 dL_law_1013 rfl rfl ?_
      refine zt_iconst hX dL_law_1014 (v := (1 : Int32)) (by decide) ?_
      refine zt_iadd hX dL_law_1015 ?_
      obtain ⟨h277, hf⟩ := hf
      refine zl_sld hX hx hbl hbA dL_law_1016 h277 ?_
      refine zt_calliV hX hY (av := [.int (xs (x3 + (1 : Int32)).toNatClampNeg)]) (c_X5_suspect hf) dL_law_1017 rfl kw_537 kw_538 kw_539 kw_61 kw_540 ⟨rfl, rfl⟩ hy_X5_suspect ⟨by decide, by decide⟩ ⟨show cells + 0 ≤ 600000 by omega, show slots + 0 ≤ 7302250 by omega⟩ (Nat.le_of_ble_eq_true rfl) (by decide) (zE_0 _ _) rfl rfl (fun r278 σ279 hf => ?_)
      refine zt_cs (c1 := cells) (s1 := slots) (by omega) (by omega) ?_
      refine zt_aload_n hX 2 dL_law_1020 rfl rfl ?_
      refine zt_aload_n hX 0 dL_law_1021 rfl rfl ?_
      refine zt_iload_n hX 3 dL_law_1022 rfl rfl ?_
      refine zt_iconst hX dL_law_1023 (v := (1 : Int32)) (by decide) ?_
      refine zt_iadd hX dL_law_1024 ?_
      obtain ⟨h280, hf⟩ := hf
      refine zl_sld hX hx hbl hbA dL_law_1025 h280 ?_
      refine zt_calliV hX hY (av := [.int (xs (x3 + (1 : Int32)).toNatClampNeg)]) (c_X6_suspect hf) dL_law_1026 rfl kw_945 kw_946 kw_947 kw_67 kw_948 ⟨rfl, rfl⟩ hy_X6_suspect ⟨by decide, by decide⟩ ⟨show cells + 0 ≤ 600000 by omega, show slots + 0 ≤ 7302250 by omega⟩ (Nat.le_of_ble_eq_true rfl) (by decide) (zE_73 _ _) rfl rfl (fun r281 σ282 hf => ?_)
      refine zt_cs (c1 := cells) (s1 := slots) (by omega) (by omega) ?_
      refine zt_icmp_eq hX dL_law_1029 (tgt := 1238) (by decide) (fun c283 => ?_) (fun c283 => ?_)
      · replace hf := z_pos hf c283
        obtain ⟨y284, ey284⟩ : ∃ y : Int32, y = (x3 + (4 : Int32)) := ⟨_, rfl⟩
        replace hf := hf y284 ey284
        refine zt_iinc (L' := [(3, .int y284), (0, .ref b), (1, .ref (n0 + 0)), (2, .ref (n0 + 73))]) hX 3 dL_law_1238 rfl (v := y284) (by rw [ey284]; rfl) (by decide) rfl ?_
        refine zt_goto hX dL_law_1241 (tgt := 18) (by decide) ?_
        refine zt_widen (c1 := cells + 26) (s1 := slots + 289) (by omega) (by omega) ?_
        exact zt_sub [1, 2, 3, 0] rfl (hk _ _ hf)
      · replace hf := z_neg hf c283
        refine zt_iconst hX dL_law_1032 (v := (0 : Int32)) (by decide) ?_
        exact hf.elim
    replace hf := z_neg hf c276
    by_cases c285 : ((xs x3.toNatClampNeg) &&& (63 : Int32)) = (26 : Int32)
    · replace hf := z_pos hf c285
      refine zt_tabIn hX dL_law_32 (by rw [c285]; decide) (by rw [c285]; decide) (off := 1002) (by rw [c285]; rfl) (tgt := 1034) (by decide) ?_
      unfold wc_law_26 at hf
      refine zt_aload_n hX 1 dL_law_1034 rfl rfl ?_
      refine zt_calliV hX hY (av := []) (c_X5_revise hf) dL_law_1035 rfl kw_548 kw_549 kw_550 kw_61 kw_551 ⟨rfl, rfl⟩ hy_X5_revise ⟨by decide, by decide⟩ ⟨show cells + 26 ≤ 600000 by omega, show slots + 289 ≤ 7302250 by omega⟩ (Nat.le_of_ble_eq_true rfl) (by decide) (zE_0 _ _) rfl rfl (fun r286 σ287 hf => ?_)
      refine zt_cs (c1 := cells + 26) (s1 := slots + 289) (by omega) (by omega) ?_
      refine zt_aload_n hX 2 dL_law_1038 rfl rfl ?_
      refine zt_calliV hX hY (av := []) (c_X6_revise hf) dL_law_1039 rfl kw_950 kw_951 kw_952 kw_67 kw_953 ⟨rfl, rfl⟩ hy_X6_revise ⟨by decide, by decide⟩ ⟨show cells + 26 + 0 ≤ 600000 by omega, show slots + 289 + 0 ≤ 7302250 by omega⟩ (Nat.le_of_ble_eq_true rfl) (by decide) (zE_73 _ _) rfl rfl (fun r288 σ289 hf => ?_)
      refine zt_cs (c1 := cells + 26) (s1 := slots + 289) (by omega) (by omega) ?_
      refine zt_icmp_eq hX dL_law_1042 (tgt := 1238) (by decide) (fun c290 => ?_) (fun c290 => ?_)
      · replace hf := z_pos hf c290
        obtain ⟨y291, ey291⟩ : ∃ y : Int32, y = (x3 + (4 : Int32)) := ⟨_, rfl⟩
        replace hf := hf y291 ey291
        refine zt_iinc (L' := [(3, .int y291), (0, .ref b), (1, .ref (n0 + 0)), (2, .ref (n0 + 73))]) hX 3 dL_law_1238 rfl (v := y291) (by rw [ey291]; rfl) (by decide) rfl ?_
        refine zt_goto hX dL_law_1241 (tgt := 18) (by decide) ?_
        exact zt_sub [1, 2, 3, 0] rfl (hk _ _ hf)
      · replace hf := z_neg hf c290
        refine zt_iconst hX dL_law_1045 (v := (0 : Int32)) (by decide) ?_
        exact hf.elim
    replace hf := z_neg hf c285
    by_cases c292 : ((xs x3.toNatClampNeg) &&& (63 : Int32)) = (27 : Int32)
    · replace hf := z_pos hf c292
      refine zt_tabIn hX dL_law_32 (by rw [c292]; decide) (by rw [c292]; decide) (off := 1015) (by rw [c292]; rfl) (tgt := 1047) (by decide) ?_
      unfold wc_law_27 at hf
      refine zt_aload_n hX 1 dL_law_1047 rfl rfl ?_
      refine zt_calliV hX hY (av := []) (c_X5_revisions hf) dL_law_1048 rfl kw_553 kw_554 kw_555 kw_61 kw_556 ⟨rfl, rfl⟩ hy_X5_revisions ⟨by decide, by decide⟩ ⟨show cells + 0 ≤ 600000 by omega, show slots + 0 ≤ 7302250 by omega⟩ (Nat.le_of_ble_eq_true rfl) (by decide) (zE_0 _ _) rfl rfl (fun r293 σ294 hf => ?_)
      refine zt_cs (c1 := cells) (s1 := slots) (by omega) (by omega) ?_
      refine zt_aload_n hX 2 dL_law_1051 rfl rfl ?_
      refine zt_calliV hX hY (av := []) (c_X6_revisions hf) dL_law_1052 rfl kw_955 kw_956 kw_957 kw_67 kw_958 ⟨rfl, rfl⟩ hy_X6_revisions ⟨by decide, by decide⟩ ⟨show cells + 0 ≤ 600000 by omega, show slots + 0 ≤ 7302250 by omega⟩ (Nat.le_of_ble_eq_true rfl) (by decide) (zE_73 _ _) rfl rfl (fun r295 σ296 hf => ?_)
      refine zt_cs (c1 := cells) (s1 := slots) (by omega) (by omega) ?_
      refine zt_icmp_eq hX dL_law_1055 (tgt := 1238) (by decide) (fun c297 => ?_) (fun c297 => ?_)
      · replace hf := z_pos hf c297
        obtain ⟨y298, ey298⟩ : ∃ y : Int32, y = (x3 + (4 : Int32)) := ⟨_, rfl⟩
        replace hf := hf y298 ey298
        refine zt_iinc (L' := [(3, .int y298), (0, .ref b), (1, .ref (n0 + 0)), (2, .ref (n0 + 73))]) hX 3 dL_law_1238 rfl (v := y298) (by rw [ey298]; rfl) (by decide) rfl ?_
        refine zt_goto hX dL_law_1241 (tgt := 18) (by decide) ?_
        refine zt_widen (c1 := cells + 26) (s1 := slots + 289) (by omega) (by omega) ?_
        exact zt_sub [1, 2, 3, 0] rfl (hk _ _ hf)
      · replace hf := z_neg hf c297
        refine zt_iconst hX dL_law_1058 (v := (0 : Int32)) (by decide) ?_
        exact hf.elim
    replace hf := z_neg hf c292
    by_cases c299 : ((xs x3.toNatClampNeg) &&& (63 : Int32)) = (28 : Int32)
    · replace hf := z_pos hf c299
      refine zt_tabIn hX dL_law_32 (by rw [c299]; decide) (by rw [c299]; decide) (off := 1028) (by rw [c299]; rfl) (tgt := 1060) (by decide) ?_
      unfold wc_law_28 at hf
      refine zt_aload_n hX 1 dL_law_1060 rfl rfl ?_
      refine zt_aload_n hX 0 dL_law_1061 rfl rfl ?_
      refine zt_iload_n hX 3 dL_law_1062 rfl rfl ?_
      refine zt_iconst hX dL_law_1063 (v := (1 : Int32)) (by decide) ?_
      refine zt_iadd hX dL_law_1064 ?_
      obtain ⟨h300, hf⟩ := hf
      refine zl_sld hX hx hbl hbA dL_law_1065 h300 ?_
      refine zt_aload_n hX 0 dL_law_1066 rfl rfl ?_
      refine zt_iload_n hX 3 dL_law_1067 rfl rfl ?_
      refine zt_iconst hX dL_law_1068 (v := (2 : Int32)) (by decide) ?_
      refine zt_iadd hX dL_law_1069 ?_
      obtain ⟨h301, hf⟩ := hf
      refine zl_sld hX hx hbl hbA dL_law_1070 h301 ?_
      refine zt_calliV hX hY (av := [.int (xs (x3 + (1 : Int32)).toNatClampNeg), .int (xs (x3 + (2 : Int32)).toNatClampNeg)]) (c_X5_billOf hf) dL_law_1071 rfl kw_557 kw_558 kw_559 kw_61 kw_560 ⟨rfl, rfl⟩ hy_X5_billOf ⟨by decide, by decide⟩ ⟨show cells + 0 ≤ 600000 by omega, show slots + 0 ≤ 7302250 by omega⟩ (Nat.le_of_ble_eq_true rfl) (by decide) (zE_0 _ _) rfl rfl (fun r302 σ303 hf => ?_)
      refine zt_cs (c1 := cells) (s1 := slots) (by omega) (by omega) ?_
      refine zt_aload_n hX 2 dL_law_1074 rfl rfl ?_
      refine zt_aload_n hX 0 dL_law_1075 rfl rfl ?_
      refine zt_iload_n hX 3 dL_law_1076 rfl rfl ?_
      refine zt_iconst hX dL_law_1077 (v := (1 : Int32)) (by decide) ?_
      refine zt_iadd hX dL_law_1078 ?_
      obtain ⟨h304, hf⟩ := hf
      refine zl_sld hX hx hbl hbA dL_law_1079 h304 ?_
      refine zt_aload_n hX 0 dL_law_1080 rfl rfl ?_
      refine zt_iload_n hX 3 dL_law_1081 rfl rfl ?_
      refine zt_iconst hX dL_law_1082 (v := (2 : Int32)) (by decide) ?_
      refine zt_iadd hX dL_law_1083 ?_
      obtain ⟨h305, hf⟩ := hf
      refine zl_sld hX hx hbl hbA dL_law_1084 h305 ?_
      refine zt_calliV hX hY (av := [.int (xs (x3 + (1 : Int32)).toNatClampNeg), .int (xs (x3 + (2 : Int32)).toNatClampNeg)]) (c_X6_billOf hf) dL_law_1085 rfl kw_959 kw_960 kw_961 kw_67 kw_962 ⟨rfl, rfl⟩ hy_X6_billOf ⟨by decide, by decide⟩ ⟨show cells + 0 ≤ 600000 by omega, show slots + 0 ≤ 7302250 by omega⟩ (Nat.le_of_ble_eq_true rfl) (by decide) (zE_73 _ _) rfl rfl (fun r306 σ307 hf => ?_)
      refine zt_cs (c1 := cells) (s1 := slots) (by omega) (by omega) ?_
      refine zt_icmp_eq hX dL_law_1088 (tgt := 1238) (by decide) (fun c308 => ?_) (fun c308 => ?_)
      · replace hf := z_pos hf c308
        obtain ⟨y309, ey309⟩ : ∃ y : Int32, y = (x3 + (4 : Int32)) := ⟨_, rfl⟩
        replace hf := hf y309 ey309
        refine zt_iinc (L' := [(3, .int y309), (0, .ref b), (1, .ref (n0 + 0)), (2, .ref (n0 + 73))]) hX 3 dL_law_1238 rfl (v := y309) (by rw [ey309]; rfl) (by decide) rfl ?_
        refine zt_goto hX dL_law_1241 (tgt := 18) (by decide) ?_
        refine zt_widen (c1 := cells + 26) (s1 := slots + 289) (by omega) (by omega) ?_
        exact zt_sub [1, 2, 3, 0] rfl (hk _ _ hf)
      · replace hf := z_neg hf c308
        refine zt_iconst hX dL_law_1091 (v := (0 : Int32)) (by decide) ?_
        exact hf.elim
    replace hf := z_neg hf c299
    by_cases c310 : ((xs x3.toNatClampNeg) &&& (63 : Int32)) = (29 : Int32)
    · replace hf := z_pos hf c310
      refine zt_tabIn hX dL_law_32 (by rw [c310]; decide) (by rw [c310]; decide) (off := 1061) (by rw [c310]; rfl) (tgt := 1093) (by decide) ?_
      unfold wc_law_29 at hf
      refine zt_aload_n hX 1 dL_law_1093 rfl rfl ?_
      refine zt_aload_n hX 0 dL_law_1094 rfl rfl ?_
      refine zt_iload_n hX 3 dL_law_1095 rfl rfl ?_
      refine zt_iconst hX dL_law_1096 (v := (1 : Int32)) (by decide) ?_
      refine zt_iadd hX dL_law_1097 ?_
      obtain ⟨h311, hf⟩ := hf
      refine zl_sld hX hx hbl hbA dL_law_1098 h311 ?_
      refine zt_aload_n hX 0 dL_law_1099 rfl rfl ?_
      refine zt_iload_n hX 3 dL_law_1100 rfl rfl ?_
      refine zt_iconst hX dL_law_1101 (v := (2 : Int32)) (by decide) ?_
      refine zt_iadd hX dL_law_1102 ?_
      obtain ⟨h312, hf⟩ := hf
      refine zl_sld hX hx hbl hbA dL_law_1103 h312 ?_
      refine zt_aload_n hX 0 dL_law_1104 rfl rfl ?_
      refine zt_iload_n hX 3 dL_law_1105 rfl rfl ?_
      refine zt_iconst hX dL_law_1106 (v := (3 : Int32)) (by decide) ?_
      refine zt_iadd hX dL_law_1107 ?_
      obtain ⟨h313, hf⟩ := hf
      refine zl_sld hX hx hbl hbA dL_law_1108 h313 ?_
      refine zt_calliV hX hY (av := [.int (xs (x3 + (1 : Int32)).toNatClampNeg), .int (xs (x3 + (2 : Int32)).toNatClampNeg), .int (xs (x3 + (3 : Int32)).toNatClampNeg)]) (c_X5_changed hf) dL_law_1109 rfl kw_565 kw_566 kw_567 kw_61 kw_568 ⟨rfl, rfl⟩ hy_X5_changed ⟨by decide, by decide⟩ ⟨show cells + 0 ≤ 600000 by omega, show slots + 0 ≤ 7302250 by omega⟩ (Nat.le_of_ble_eq_true rfl) (by decide) (zE_0 _ _) rfl rfl (fun r314 σ315 hf => ?_)
      refine zt_cs (c1 := cells) (s1 := slots) (by omega) (by omega) ?_
      refine zt_aload_n hX 2 dL_law_1112 rfl rfl ?_
      refine zt_aload_n hX 0 dL_law_1113 rfl rfl ?_
      refine zt_iload_n hX 3 dL_law_1114 rfl rfl ?_
      refine zt_iconst hX dL_law_1115 (v := (1 : Int32)) (by decide) ?_
      refine zt_iadd hX dL_law_1116 ?_
      obtain ⟨h316, hf⟩ := hf
      refine zl_sld hX hx hbl hbA dL_law_1117 h316 ?_
      refine zt_aload_n hX 0 dL_law_1118 rfl rfl ?_
      refine zt_iload_n hX 3 dL_law_1119 rfl rfl ?_
      refine zt_iconst hX dL_law_1120 (v := (2 : Int32)) (by decide) ?_
      refine zt_iadd hX dL_law_1121 ?_
      obtain ⟨h317, hf⟩ := hf
      refine zl_sld hX hx hbl hbA dL_law_1122 h317 ?_
      refine zt_aload_n hX 0 dL_law_1123 rfl rfl ?_
      refine zt_iload_n hX 3 dL_law_1124 rfl rfl ?_
      refine zt_iconst hX dL_law_1125 (v := (3 : Int32)) (by decide) ?_
      refine zt_iadd hX dL_law_1126 ?_
      obtain ⟨h318, hf⟩ := hf
      refine zl_sld hX hx hbl hbA dL_law_1127 h318 ?_
      refine zt_calliV hX hY (av := [.int (xs (x3 + (1 : Int32)).toNatClampNeg), .int (xs (x3 + (2 : Int32)).toNatClampNeg), .int (xs (x3 + (3 : Int32)).toNatClampNeg)]) (c_X6_changed hf) dL_law_1128 rfl kw_971 kw_972 kw_973 kw_67 kw_974 ⟨rfl, rfl⟩ hy_X6_changed ⟨by decide, by decide⟩ ⟨show cells + 0 ≤ 600000 by omega, show slots + 0 ≤ 7302250 by omega⟩ (Nat.le_of_ble_eq_true rfl) (by decide) (zE_73 _ _) rfl rfl (fun r319 σ320 hf => ?_)
      refine zt_cs (c1 := cells) (s1 := slots) (by omega) (by omega) ?_
      refine zt_icmp_eq hX dL_law_1131 (tgt := 1238) (by decide) (fun c321 => ?_) (fun c321 => ?_)
      · replace hf := z_pos hf c321
        obtain ⟨y322, ey322⟩ : ∃ y : Int32, y = (x3 + (4 : Int32)) := ⟨_, rfl⟩
        replace hf := hf y322 ey322
        refine zt_iinc (L' := [(3, .int y322), (0, .ref b), (1, .ref (n0 + 0)), (2, .ref (n0 + 73))]) hX 3 dL_law_1238 rfl (v := y322) (by rw [ey322]; rfl) (by decide) rfl ?_
        refine zt_goto hX dL_law_1241 (tgt := 18) (by decide) ?_
        refine zt_widen (c1 := cells + 26) (s1 := slots + 289) (by omega) (by omega) ?_
        exact zt_sub [1, 2, 3, 0] rfl (hk _ _ hf)
      · replace hf := z_neg hf c321
        refine zt_iconst hX dL_law_1134 (v := (0 : Int32)) (by decide) ?_
        exact hf.elim
    replace hf := z_neg hf c310
    by_cases c323 : ((xs x3.toNatClampNeg) &&& (63 : Int32)) = (30 : Int32)
    · replace hf := z_pos hf c323
      refine zt_tabIn hX dL_law_32 (by rw [c323]; decide) (by rw [c323]; decide) (off := 1104) (by rw [c323]; rfl) (tgt := 1136) (by decide) ?_
      unfold wc_law_30 at hf
      refine zt_aload_n hX 1 dL_law_1136 rfl rfl ?_
      refine zt_calliV hX hY (av := []) (c_X5_clearRevisions hf) dL_law_1137 rfl kw_572 kw_573 kw_574 kw_61 kw_575 ⟨rfl, rfl⟩ hy_X5_clearRevisions ⟨by decide, by decide⟩ ⟨show cells + 26 ≤ 600000 by omega, show slots + 289 ≤ 7302250 by omega⟩ (Nat.le_of_ble_eq_true rfl) (by decide) (zE_0 _ _) rfl rfl (fun r324 σ325 hf => ?_)
      refine zt_cs (c1 := cells + 26) (s1 := slots + 289) (by omega) (by omega) ?_
      refine zt_aload_n hX 2 dL_law_1140 rfl rfl ?_
      refine zt_calliV hX hY (av := []) (c_X6_clearRevisions hf) dL_law_1141 rfl kw_975 kw_976 kw_977 kw_67 kw_978 ⟨rfl, rfl⟩ hy_X6_clearRevisions ⟨by decide, by decide⟩ ⟨show cells + 26 + 0 ≤ 600000 by omega, show slots + 289 + 0 ≤ 7302250 by omega⟩ (Nat.le_of_ble_eq_true rfl) (by decide) (zE_73 _ _) rfl rfl (fun r326 σ327 hf => ?_)
      refine zt_cs (c1 := cells + 26) (s1 := slots + 289) (by omega) (by omega) ?_
      refine zt_icmp_eq hX dL_law_1144 (tgt := 1238) (by decide) (fun c328 => ?_) (fun c328 => ?_)
      · replace hf := z_pos hf c328
        obtain ⟨y329, ey329⟩ : ∃ y : Int32, y = (x3 + (4 : Int32)) := ⟨_, rfl⟩
        replace hf := hf y329 ey329
        refine zt_iinc (L' := [(3, .int y329), (0, .ref b), (1, .ref (n0 + 0)), (2, .ref (n0 + 73))]) hX 3 dL_law_1238 rfl (v := y329) (by rw [ey329]; rfl) (by decide) rfl ?_
        refine zt_goto hX dL_law_1241 (tgt := 18) (by decide) ?_
        exact zt_sub [1, 2, 3, 0] rfl (hk _ _ hf)
      · replace hf := z_neg hf c328
        refine zt_iconst hX dL_law_1147 (v := (0 : Int32)) (by decide) ?_
        exact hf.elim
    replace hf := z_neg hf c323
    by_cases c330 : ((xs x3.toNatClampNeg) &&& (63 : Int32)) = (31 : Int32)
    · replace hf := z_pos hf c330
      refine zt_tabIn hX dL_law_32 (by rw [c330]; decide) (by rw [c330]; decide) (off := 1117) (by rw [c330]; rfl) (tgt := 1149) (by decide) ?_
      unfold wc_law_31 at hf
      refine zt_aload_n hX 1 dL_law_1149 rfl rfl ?_
      refine zt_calliV hX hY (av := []) (c_X5_undo hf) dL_law_1150 rfl kw_576 kw_577 kw_578 kw_61 kw_579 ⟨rfl, rfl⟩ hy_X5_undo ⟨by decide, by decide⟩ ⟨show cells + 0 ≤ 600000 by omega, show slots + 0 ≤ 7302250 by omega⟩ (Nat.le_of_ble_eq_true rfl) (by decide) (zE_0 _ _) rfl rfl (fun r331 σ332 hf => ?_)
      refine zt_cs (c1 := cells) (s1 := slots) (by omega) (by omega) ?_
      refine zt_aload_n hX 2 dL_law_1153 rfl rfl ?_
      refine zt_calliV hX hY (av := []) (c_X6_undo hf) dL_law_1154 rfl kw_979 kw_980 kw_981 kw_67 kw_982 ⟨rfl, rfl⟩ hy_X6_undo ⟨by decide, by decide⟩ ⟨show cells + 0 ≤ 600000 by omega, show slots + 0 ≤ 7302250 by omega⟩ (Nat.le_of_ble_eq_true rfl) (by decide) (zE_73 _ _) rfl rfl (fun r333 σ334 hf => ?_)
      refine zt_cs (c1 := cells) (s1 := slots) (by omega) (by omega) ?_
      refine zt_icmp_eq hX dL_law_1157 (tgt := 1238) (by decide) (fun c335 => ?_) (fun c335 => ?_)
      · replace hf := z_pos hf c335
        obtain ⟨y336, ey336⟩ : ∃ y : Int32, y = (x3 + (4 : Int32)) := ⟨_, rfl⟩
        replace hf := hf y336 ey336
        refine zt_iinc (L' := [(3, .int y336), (0, .ref b), (1, .ref (n0 + 0)), (2, .ref (n0 + 73))]) hX 3 dL_law_1238 rfl (v := y336) (by rw [ey336]; rfl) (by decide) rfl ?_
        refine zt_goto hX dL_law_1241 (tgt := 18) (by decide) ?_
        refine zt_widen (c1 := cells + 26) (s1 := slots + 289) (by omega) (by omega) ?_
        exact zt_sub [1, 2, 3, 0] rfl (hk _ _ hf)
      · replace hf := z_neg hf c335
        refine zt_iconst hX dL_law_1160 (v := (0 : Int32)) (by decide) ?_
        exact hf.elim
    replace hf := z_neg hf c330
    by_cases c337 : ((xs x3.toNatClampNeg) &&& (63 : Int32)) = (32 : Int32)
    · replace hf := z_pos hf c337
      refine zt_tabIn hX dL_law_32 (by rw [c337]; decide) (by rw [c337]; decide) (off := 1130) (by rw [c337]; rfl) (tgt := 1162) (by decide) ?_
      unfold wc_law_32 at hf
      refine zt_aload_n hX 1 dL_law_1162 rfl rfl ?_
      refine zt_aload_n hX 0 dL_law_1163 rfl rfl ?_
      refine zt_iload_n hX 3 dL_law_1164 rfl rfl ?_
      refine zt_iconst hX dL_law_1165 (v := (1 : Int32)) (by decide) ?_
      refine zt_iadd hX dL_law_1166 ?_
      obtain ⟨h338, hf⟩ := hf
      refine zl_sld hX hx hbl hbA dL_law_1167 h338 ?_
      refine zt_calliV hX hY (av := [.int (xs (x3 + (1 : Int32)).toNatClampNeg)]) (c_X5_type hf) dL_law_1168 rfl kw_584 kw_585 kw_586 kw_61 kw_587 ⟨rfl, rfl⟩ hy_X5_type ⟨by decide, by decide⟩ ⟨show cells + 0 ≤ 600000 by omega, show slots + 0 ≤ 7302250 by omega⟩ (Nat.le_of_ble_eq_true rfl) (by decide) (zE_0 _ _) rfl rfl (fun r339 σ340 hf => ?_)
      refine zt_cs (c1 := cells) (s1 := slots) (by omega) (by omega) ?_
      refine zt_aload_n hX 2 dL_law_1171 rfl rfl ?_
      refine zt_aload_n hX 0 dL_law_1172 rfl rfl ?_
      refine zt_iload_n hX 3 dL_law_1173 rfl rfl ?_
      refine zt_iconst hX dL_law_1174 (v := (1 : Int32)) (by decide) ?_
      refine zt_iadd hX dL_law_1175 ?_
      obtain ⟨h341, hf⟩ := hf
      refine zl_sld hX hx hbl hbA dL_law_1176 h341 ?_
      refine zt_calliV hX hY (av := [.int (xs (x3 + (1 : Int32)).toNatClampNeg)]) (c_X6_type hf) dL_law_1177 rfl kw_983 kw_984 kw_985 kw_67 kw_986 ⟨rfl, rfl⟩ hy_X6_type ⟨by decide, by decide⟩ ⟨show cells + 0 ≤ 600000 by omega, show slots + 0 ≤ 7302250 by omega⟩ (Nat.le_of_ble_eq_true rfl) (by decide) (zE_73 _ _) rfl rfl (fun r342 σ343 hf => ?_)
      refine zt_cs (c1 := cells) (s1 := slots) (by omega) (by omega) ?_
      refine zt_icmp_eq hX dL_law_1180 (tgt := 1238) (by decide) (fun c344 => ?_) (fun c344 => ?_)
      · replace hf := z_pos hf c344
        obtain ⟨y345, ey345⟩ : ∃ y : Int32, y = (x3 + (4 : Int32)) := ⟨_, rfl⟩
        replace hf := hf y345 ey345
        refine zt_iinc (L' := [(3, .int y345), (0, .ref b), (1, .ref (n0 + 0)), (2, .ref (n0 + 73))]) hX 3 dL_law_1238 rfl (v := y345) (by rw [ey345]; rfl) (by decide) rfl ?_
        refine zt_goto hX dL_law_1241 (tgt := 18) (by decide) ?_
        refine zt_widen (c1 := cells + 26) (s1 := slots + 289) (by omega) (by omega) ?_
        exact zt_sub [1, 2, 3, 0] rfl (hk _ _ hf)
      · replace hf := z_neg hf c344
        refine zt_iconst hX dL_law_1183 (v := (0 : Int32)) (by decide) ?_
        exact hf.elim
    replace hf := z_neg hf c337
    by_cases c346 : ((xs x3.toNatClampNeg) &&& (63 : Int32)) = (33 : Int32)
    · replace hf := z_pos hf c346
      refine zt_tabIn hX dL_law_32 (by rw [c346]; decide) (by rw [c346]; decide) (off := 1153) (by rw [c346]; rfl) (tgt := 1185) (by decide) ?_
      unfold wc_law_33 at hf
      refine zt_aload_n hX 1 dL_law_1185 rfl rfl ?_
      refine zt_calliV hX hY (av := []) (c_X5_clearText hf) dL_law_1186 rfl kw_588 kw_589 kw_590 kw_61 kw_591 ⟨rfl, rfl⟩ hy_X5_clearText ⟨by decide, by decide⟩ ⟨show cells + 0 ≤ 600000 by omega, show slots + 0 ≤ 7302250 by omega⟩ (Nat.le_of_ble_eq_true rfl) (by decide) (zE_0 _ _) rfl rfl (fun r347 σ348 hf => ?_)
      refine zt_cs (c1 := cells) (s1 := slots) (by omega) (by omega) ?_
      refine zt_aload_n hX 2 dL_law_1189 rfl rfl ?_
      refine zt_calliV hX hY (av := []) (c_X6_clearText hf) dL_law_1190 rfl kw_987 kw_988 kw_989 kw_67 kw_990 ⟨rfl, rfl⟩ hy_X6_clearText ⟨by decide, by decide⟩ ⟨show cells + 0 ≤ 600000 by omega, show slots + 0 ≤ 7302250 by omega⟩ (Nat.le_of_ble_eq_true rfl) (by decide) (zE_73 _ _) rfl rfl (fun r349 σ350 hf => ?_)
      refine zt_cs (c1 := cells) (s1 := slots) (by omega) (by omega) ?_
      refine zt_icmp_eq hX dL_law_1193 (tgt := 1238) (by decide) (fun c351 => ?_) (fun c351 => ?_)
      · replace hf := z_pos hf c351
        obtain ⟨y352, ey352⟩ : ∃ y : Int32, y = (x3 + (4 : Int32)) := ⟨_, rfl⟩
        replace hf := hf y352 ey352
        refine zt_iinc (L' := [(3, .int y352), (0, .ref b), (1, .ref (n0 + 0)), (2, .ref (n0 + 73))]) hX 3 dL_law_1238 rfl (v := y352) (by rw [ey352]; rfl) (by decide) rfl ?_
        refine zt_goto hX dL_law_1241 (tgt := 18) (by decide) ?_
        refine zt_widen (c1 := cells + 26) (s1 := slots + 289) (by omega) (by omega) ?_
        exact zt_sub [1, 2, 3, 0] rfl (hk _ _ hf)
      · replace hf := z_neg hf c351
        refine zt_iconst hX dL_law_1196 (v := (0 : Int32)) (by decide) ?_
        exact hf.elim
    replace hf := z_neg hf c346
    by_cases c353 : ((xs x3.toNatClampNeg) &&& (63 : Int32)) = (34 : Int32)
    · replace hf := z_pos hf c353
      refine zt_tabIn hX dL_law_32 (by rw [c353]; decide) (by rw [c353]; decide) (off := 1166) (by rw [c353]; rfl) (tgt := 1198) (by decide) ?_
      unfold wc_law_34 at hf
      refine zt_aload_n hX 1 dL_law_1198 rfl rfl ?_
      refine zt_calliV hX hY (av := []) (c_X5_textFault hf) dL_law_1199 rfl kw_592 kw_593 kw_594 kw_61 kw_595 ⟨rfl, rfl⟩ hy_X5_textFault ⟨by decide, by decide⟩ ⟨show cells + 0 ≤ 600000 by omega, show slots + 0 ≤ 7302250 by omega⟩ (Nat.le_of_ble_eq_true rfl) (by decide) (zE_0 _ _) rfl rfl (fun r354 σ355 hf => ?_)
      refine zt_cs (c1 := cells) (s1 := slots) (by omega) (by omega) ?_
      refine zt_aload_n hX 2 dL_law_1202 rfl rfl ?_
      refine zt_calliV hX hY (av := []) (c_X6_textFault hf) dL_law_1203 rfl kw_991 kw_992 kw_993 kw_67 kw_994 ⟨rfl, rfl⟩ hy_X6_textFault ⟨by decide, by decide⟩ ⟨show cells + 0 ≤ 600000 by omega, show slots + 0 ≤ 7302250 by omega⟩ (Nat.le_of_ble_eq_true rfl) (by decide) (zE_73 _ _) rfl rfl (fun r356 σ357 hf => ?_)
      refine zt_cs (c1 := cells) (s1 := slots) (by omega) (by omega) ?_
      refine zt_icmp_eq hX dL_law_1206 (tgt := 1238) (by decide) (fun c358 => ?_) (fun c358 => ?_)
      · replace hf := z_pos hf c358
        obtain ⟨y359, ey359⟩ : ∃ y : Int32, y = (x3 + (4 : Int32)) := ⟨_, rfl⟩
        replace hf := hf y359 ey359
        refine zt_iinc (L' := [(3, .int y359), (0, .ref b), (1, .ref (n0 + 0)), (2, .ref (n0 + 73))]) hX 3 dL_law_1238 rfl (v := y359) (by rw [ey359]; rfl) (by decide) rfl ?_
        refine zt_goto hX dL_law_1241 (tgt := 18) (by decide) ?_
        refine zt_widen (c1 := cells + 26) (s1 := slots + 289) (by omega) (by omega) ?_
        exact zt_sub [1, 2, 3, 0] rfl (hk _ _ hf)
      · replace hf := z_neg hf c358
        refine zt_iconst hX dL_law_1209 (v := (0 : Int32)) (by decide) ?_
        exact hf.elim
    replace hf := z_neg hf c353
    by_cases c360 : ((xs x3.toNatClampNeg) &&& (63 : Int32)) = (35 : Int32)
    · replace hf := z_pos hf c360
      refine zt_tabIn hX dL_law_32 (by rw [c360]; decide) (by rw [c360]; decide) (off := 1179) (by rw [c360]; rfl) (tgt := 1211) (by decide) ?_
      unfold wc_law_35 at hf
      refine zt_aload_n hX 1 dL_law_1211 rfl rfl ?_
      refine zt_calliV hX hY (av := []) (c_X5_load hf) dL_law_1212 rfl kw_630 kw_631 kw_632 kw_61 kw_633 ⟨rfl, rfl⟩ hy_X5_load ⟨by decide, by decide⟩ ⟨show cells + 26 ≤ 600000 by omega, show slots + 289 ≤ 7302250 by omega⟩ (Nat.le_of_ble_eq_true rfl) (by decide) (zE_0 _ _) rfl rfl (fun r361 σ362 hf => ?_)
      refine zt_cs (c1 := cells + 26) (s1 := slots + 289) (by omega) (by omega) ?_
      refine zt_aload_n hX 2 dL_law_1215 rfl rfl ?_
      refine zt_calliV hX hY (av := []) (c_X6_load hf) dL_law_1216 rfl kw_1015 kw_1016 kw_1017 kw_67 kw_1018 ⟨rfl, rfl⟩ hy_X6_load ⟨by decide, by decide⟩ ⟨show cells + 26 + 0 ≤ 600000 by omega, show slots + 289 + 0 ≤ 7302250 by omega⟩ (Nat.le_of_ble_eq_true rfl) (by decide) (zE_73 _ _) rfl rfl (fun r363 σ364 hf => ?_)
      refine zt_cs (c1 := cells + 26) (s1 := slots + 289) (by omega) (by omega) ?_
      refine zt_icmp_eq hX dL_law_1219 (tgt := 1238) (by decide) (fun c365 => ?_) (fun c365 => ?_)
      · replace hf := z_pos hf c365
        obtain ⟨y366, ey366⟩ : ∃ y : Int32, y = (x3 + (4 : Int32)) := ⟨_, rfl⟩
        replace hf := hf y366 ey366
        refine zt_iinc (L' := [(3, .int y366), (0, .ref b), (1, .ref (n0 + 0)), (2, .ref (n0 + 73))]) hX 3 dL_law_1238 rfl (v := y366) (by rw [ey366]; rfl) (by decide) rfl ?_
        refine zt_goto hX dL_law_1241 (tgt := 18) (by decide) ?_
        exact zt_sub [1, 2, 3, 0] rfl (hk _ _ hf)
      · replace hf := z_neg hf c365
        refine zt_iconst hX dL_law_1222 (v := (0 : Int32)) (by decide) ?_
        exact hf.elim
    replace hf := z_neg hf c360
    by_cases c367 : ((xs x3.toNatClampNeg) &&& (63 : Int32)) = (36 : Int32)
    · replace hf := z_pos hf c367
      refine zt_tabIn hX dL_law_32 (by rw [c367]; decide) (by rw [c367]; decide) (off := 1192) (by rw [c367]; rfl) (tgt := 1224) (by decide) ?_
      unfold wc_law_36 at hf
      refine zt_aload_n hX 1 dL_law_1224 rfl rfl ?_
      refine zt_calllV hX hY (av := []) (c_X5_digest hf) dL_law_1225 rfl kw_639 kw_640 kw_641 kw_61 kw_642 ⟨rfl, rfl⟩ hy_X5_digest ⟨by decide, by decide⟩ ⟨show cells + 0 ≤ 600000 by omega, show slots + 0 ≤ 7302250 by omega⟩ (Nat.le_of_ble_eq_true rfl) (by decide) (zE_0 _ _) rfl rfl (fun r368 σ369 hf => ?_)
      refine zt_cs (c1 := cells) (s1 := slots) (by omega) (by omega) ?_
      refine zt_aload_n hX 2 dL_law_1228 rfl rfl ?_
      refine zt_calllV hX hY (av := []) (c_X6_digest hf) dL_law_1229 rfl kw_1019 kw_1020 kw_1021 kw_67 kw_1022 ⟨rfl, rfl⟩ hy_X6_digest ⟨by decide, by decide⟩ ⟨show cells + 0 ≤ 600000 by omega, show slots + 0 ≤ 7302250 by omega⟩ (Nat.le_of_ble_eq_true rfl) (by decide) (zE_73 _ _) rfl rfl (fun r370 σ371 hf => ?_)
      refine zt_cs (c1 := cells) (s1 := slots) (by omega) (by omega) ?_
      refine zt_lcmp hX dL_law_1232 ?_
      refine zt_if_eq hX dL_law_1233 (tgt := 1238) (by decide) (fun c372 => ?_) (fun c372 => ?_)
      · replace hf := z_pos hf c372
        obtain ⟨y373, ey373⟩ : ∃ y : Int32, y = (x3 + (4 : Int32)) := ⟨_, rfl⟩
        replace hf := hf y373 ey373
        refine zt_iinc (L' := [(3, .int y373), (0, .ref b), (1, .ref (n0 + 0)), (2, .ref (n0 + 73))]) hX 3 dL_law_1238 rfl (v := y373) (by rw [ey373]; rfl) (by decide) rfl ?_
        refine zt_goto hX dL_law_1241 (tgt := 18) (by decide) ?_
        refine zt_widen (c1 := cells + 26) (s1 := slots + 289) (by omega) (by omega) ?_
        exact zt_sub [1, 2, 3, 0] rfl (hk _ _ hf)
      · replace hf := z_neg hf c372
        refine zt_iconst hX dL_law_1236 (v := (0 : Int32)) (by decide) ?_
        exact hf.elim
    replace hf := z_neg hf c367
    have qc3 := lv_neT c3 (show (0 : Int32).toInt = 0 from rfl)
    have qc12 := lv_neT c12 (show (1 : Int32).toInt = 1 from rfl)
    have qc25 := lv_neT c25 (show (2 : Int32).toInt = 2 from rfl)
    have qc38 := lv_neT c38 (show (3 : Int32).toInt = 3 from rfl)
    have qc49 := lv_neT c49 (show (4 : Int32).toInt = 4 from rfl)
    have qc56 := lv_neT c56 (show (5 : Int32).toInt = 5 from rfl)
    have qc67 := lv_neT c67 (show (6 : Int32).toInt = 6 from rfl)
    have qc78 := lv_neT c78 (show (7 : Int32).toInt = 7 from rfl)
    have qc91 := lv_neT c91 (show (8 : Int32).toInt = 8 from rfl)
    have qc104 := lv_neT c104 (show (9 : Int32).toInt = 9 from rfl)
    have qc115 := lv_neT c115 (show (10 : Int32).toInt = 10 from rfl)
    have qc126 := lv_neT c126 (show (11 : Int32).toInt = 11 from rfl)
    have qc137 := lv_neT c137 (show (12 : Int32).toInt = 12 from rfl)
    have qc148 := lv_neT c148 (show (13 : Int32).toInt = 13 from rfl)
    have qc159 := lv_neT c159 (show (14 : Int32).toInt = 14 from rfl)
    have qc170 := lv_neT c170 (show (15 : Int32).toInt = 15 from rfl)
    have qc181 := lv_neT c181 (show (16 : Int32).toInt = 16 from rfl)
    have qc192 := lv_neT c192 (show (17 : Int32).toInt = 17 from rfl)
    have qc203 := lv_neT c203 (show (18 : Int32).toInt = 18 from rfl)
    have qc214 := lv_neT c214 (show (19 : Int32).toInt = 19 from rfl)
    have qc225 := lv_neT c225 (show (20 : Int32).toInt = 20 from rfl)
    have qc236 := lv_neT c236 (show (21 : Int32).toInt = 21 from rfl)
    have qc245 := lv_neT c245 (show (22 : Int32).toInt = 22 from rfl)
    have qc254 := lv_neT c254 (show (23 : Int32).toInt = 23 from rfl)
    have qc263 := lv_neT c263 (show (24 : Int32).toInt = 24 from rfl)
    have qc276 := lv_neT c276 (show (25 : Int32).toInt = 25 from rfl)
    have qc285 := lv_neT c285 (show (26 : Int32).toInt = 26 from rfl)
    have qc292 := lv_neT c292 (show (27 : Int32).toInt = 27 from rfl)
    have qc299 := lv_neT c299 (show (28 : Int32).toInt = 28 from rfl)
    have qc310 := lv_neT c310 (show (29 : Int32).toInt = 29 from rfl)
    have qc323 := lv_neT c323 (show (30 : Int32).toInt = 30 from rfl)
    have qc330 := lv_neT c330 (show (31 : Int32).toInt = 31 from rfl)
    have qc337 := lv_neT c337 (show (32 : Int32).toInt = 32 from rfl)
    have qc346 := lv_neT c346 (show (33 : Int32).toInt = 33 from rfl)
    have qc353 := lv_neT c353 (show (34 : Int32).toInt = 34 from rfl)
    have qc360 := lv_neT c360 (show (35 : Int32).toInt = 35 from rfl)
    have qc367 := lv_neT c367 (show (36 : Int32).toInt = 36 from rfl)
    refine zt_tabOut hX dL_law_32 (by omega) (tgt := 1238) (by decide) ?_
    obtain ⟨y374, ey374⟩ : ∃ y : Int32, y = (x3 + (4 : Int32)) := ⟨_, rfl⟩
    replace hf := hf y374 ey374
    refine zt_iinc (L' := [(3, .int y374), (0, .ref b), (1, .ref (n0 + 0)), (2, .ref (n0 + 73))]) hX 3 dL_law_1238 rfl (v := y374) (by rw [ey374]; rfl) (by decide) rfl ?_
    refine zt_goto hX dL_law_1241 (tgt := 18) (by decide) ?_
    refine zt_widen (c1 := cells + 26) (s1 := slots + 289) (by omega) (by omega) ?_
    exact zt_sub [1, 2, 3, 0] rfl (hk _ _ hf)
