def R_law : String := "AloneRoomsLaw"
def lw_P (b : Addr) (xs : List Int32) (args : Array Value) (s : State) : Prop := args = #[.ref b] ∧ s.IntsAt b xs ∧ xs.length ≤ 2048 ∧ (Jvm.Cond.and given_1 narrow_1).before args s = true
def lw_Q (_ : Array Value) (s : State) (o : Outcome) (t : State) : Prop := o = .returned (some (.int 1)) ∧ Framed s o t [] 600000 7302250
def lw_Z (below : List Frame) (a : Array Value) (s : State) : State → Prop := fun t => ∃ o, t.status = .running ∧ Ended t below o ∧ lw_Q a s o t
/-- the law's own end, with 1 on the stack, nothing written that was there before, its room as the claim has it -/
theorem lw_ret {p : Program} {l : Launch} {e : Env} {s : State} {m : MethodId} {below : List Frame} {meth : Method} {c : Code} {b : Nat} (hx : p.tables.exec = Jvm.exec) (hb : c.code = code) (hr : meth.sig.returnType = ret) (hlocks : meth.locks = false) {pc : Nat} {H : Heap} {ls : Array Slot} (hdg : decode code pc = .ok (.ireturn, 1)) : W p l e room_1 s m #[Value.ref b] below meth c H [] 600000 7302250 (lw_Z below #[Value.ref b] s) (F0 m pc ls [.int 1]) := by
  intro T hT X
  obtain ⟨fs, hret, hrun, hended, hW, hframe⟩ := X.leave (v := some (.int 1)) (hlocks := hlocks) (fun h => by rw [hr] at h; cases h)
  have hmeth' : T.vm.method? m = some meth := X.method'
  refine ⟨T.setFrames fs, ?_, .returned (some (.int 1)), hrun, hended, rfl, ⟨_, rfl⟩, hW, hframe⟩
  jvm_step X.here [X.here.top, hx, hb, hdg, hmeth', hr, ret, narrow_b1]
  (try refine ⟨rfl, ?_⟩); (try refine ⟨rfl, ?_⟩)
  first | (intro acts; rw [hret _ acts rfl rfl rfl]) | rw [hret _ _ rfl rfl rfl]
  exact Steps.refl _
/-- what holds at the law's entry: the machine, the code, the tables' words (any of lw_tbl by 'hts w (by decide +kernel)'), the script of L ints xs at the cell b, what the Statement gives of the start (any of its parts by flat_of_before) -/
def lw_At (p : Program) (s : State) (m : MethodId) (meth : Method) (c : Code) (b L : Nat) (xs : Nat → Int32) : Prop :=
  p.tables.exec = Jvm.exec ∧ c.code = code ∧ meth.sig.returnType = ret ∧ c.maxLocals = 4 ∧ s.vm.findClass R_law = some m.cls ∧ (∀ w ∈ lw_tbl, w.before #[Value.ref b] s = true) ∧ va_X b L xs s s.heap ∧ b < s.heap.size ∧ meth.locks = false ∧ (Jvm.Cond.and given_1 narrow_1).before #[Value.ref b] s = true
theorem dL_0 : decode code 0 = .ok (.new 7, 3) := by decide +kernel
theorem dL_3 : decode code 3 = .ok (.dup, 1) := by decide +kernel
theorem dL_4 : decode code 4 = .ok (.invokespecial 9, 3) := by decide +kernel
theorem dL_7 : decode code 7 = .ok (.astore_n 1, 1) := by decide +kernel
theorem dL_8 : decode code 8 = .ok (.new 10, 3) := by decide +kernel
theorem dL_11 : decode code 11 = .ok (.dup, 1) := by decide +kernel
theorem dL_12 : decode code 12 = .ok (.invokespecial 12, 3) := by decide +kernel
theorem dL_15 : decode code 15 = .ok (.astore_n 2, 1) := by decide +kernel
theorem dL_16 : decode code 16 = .ok (.iconst 0, 1) := by decide +kernel
theorem dL_17 : decode code 17 = .ok (.istore_n 3, 1) := by decide +kernel
theorem dL_18 : decode code 18 = .ok (.iload_n 3, 1) := by decide +kernel
theorem dL_19 : decode code 19 = .ok (.aload_n 0, 1) := by decide +kernel
theorem dL_20 : decode code 20 = .ok (.arraylength, 1) := by decide +kernel
theorem dL_21 : decode code 21 = .ok (.iconst 4, 1) := by decide +kernel
theorem dL_22 : decode code 22 = .ok (.isub, 1) := by decide +kernel
theorem dL_23 : decode code 23 = .ok (.if_icmp .gt 1099, 3) := by decide +kernel
theorem dL_26 : decode code 26 = .ok (.aload_n 0, 1) := by decide +kernel
theorem dL_27 : decode code 27 = .ok (.iload_n 3, 1) := by decide +kernel
theorem dL_28 : decode code 28 = .ok (.iaload, 1) := by decide +kernel
theorem dL_29 : decode code 29 = .ok (.bipush 63, 2) := by decide +kernel
theorem dL_31 : decode code 31 = .ok (.iand, 1) := by decide +kernel
theorem dL_32 : decode code 32 = .ok (.tableswitch 1084 0 34 #[156, 179, 238, 287, 320, 343, 366, 409, 472, 485, 498, 521, 534, 547, 570, 593, 616, 639, 652, 665, 688, 721, 744, 757, 800, 823, 856, 869, 902, 935, 978, 1001, 1024, 1047, 1070], 156) := by decide +kernel
theorem dL_188 : decode code 188 = .ok (.aload_n 1, 1) := by decide +kernel
theorem dL_189 : decode code 189 = .ok (.aload_n 0, 1) := by decide +kernel
theorem dL_190 : decode code 190 = .ok (.iload_n 3, 1) := by decide +kernel
theorem dL_191 : decode code 191 = .ok (.iconst 1, 1) := by decide +kernel
theorem dL_192 : decode code 192 = .ok (.iadd, 1) := by decide +kernel
theorem dL_193 : decode code 193 = .ok (.iaload, 1) := by decide +kernel
theorem dL_194 : decode code 194 = .ok (.invokevirtual 13, 3) := by decide +kernel
theorem dL_197 : decode code 197 = .ok (.aload_n 2, 1) := by decide +kernel
theorem dL_198 : decode code 198 = .ok (.aload_n 0, 1) := by decide +kernel
theorem dL_199 : decode code 199 = .ok (.iload_n 3, 1) := by decide +kernel
theorem dL_200 : decode code 200 = .ok (.iconst 1, 1) := by decide +kernel
theorem dL_201 : decode code 201 = .ok (.iadd, 1) := by decide +kernel
theorem dL_202 : decode code 202 = .ok (.iaload, 1) := by decide +kernel
theorem dL_203 : decode code 203 = .ok (.invokevirtual 17, 3) := by decide +kernel
theorem dL_206 : decode code 206 = .ok (.if_icmp .eq 910, 3) := by decide +kernel
theorem dL_209 : decode code 209 = .ok (.iconst 0, 1) := by decide +kernel
theorem dL_210 : decode code 210 = .ok (.ireturn, 1) := by decide +kernel
theorem dL_211 : decode code 211 = .ok (.aload_n 1, 1) := by decide +kernel
theorem dL_212 : decode code 212 = .ok (.aload_n 0, 1) := by decide +kernel
theorem dL_213 : decode code 213 = .ok (.iload_n 3, 1) := by decide +kernel
theorem dL_214 : decode code 214 = .ok (.iconst 1, 1) := by decide +kernel
theorem dL_215 : decode code 215 = .ok (.iadd, 1) := by decide +kernel
theorem dL_216 : decode code 216 = .ok (.iaload, 1) := by decide +kernel
theorem dL_217 : decode code 217 = .ok (.aload_n 0, 1) := by decide +kernel
theorem dL_218 : decode code 218 = .ok (.iload_n 3, 1) := by decide +kernel
theorem dL_219 : decode code 219 = .ok (.iconst 2, 1) := by decide +kernel
theorem dL_220 : decode code 220 = .ok (.iadd, 1) := by decide +kernel
theorem dL_221 : decode code 221 = .ok (.iaload, 1) := by decide +kernel
theorem dL_222 : decode code 222 = .ok (.aload_n 0, 1) := by decide +kernel
theorem dL_223 : decode code 223 = .ok (.iload_n 3, 1) := by decide +kernel
theorem dL_224 : decode code 224 = .ok (.iconst 3, 1) := by decide +kernel
theorem dL_225 : decode code 225 = .ok (.iadd, 1) := by decide +kernel
theorem dL_226 : decode code 226 = .ok (.iaload, 1) := by decide +kernel
theorem dL_227 : decode code 227 = .ok (.ifCond .eq 7, 3) := by decide +kernel
theorem dL_230 : decode code 230 = .ok (.iconst 1, 1) := by decide +kernel
theorem dL_231 : decode code 231 = .ok (.goto 4, 3) := by decide +kernel
theorem dL_234 : decode code 234 = .ok (.iconst 0, 1) := by decide +kernel
theorem dL_235 : decode code 235 = .ok (.invokevirtual 18, 3) := by decide +kernel
theorem dL_238 : decode code 238 = .ok (.aload_n 2, 1) := by decide +kernel
theorem dL_239 : decode code 239 = .ok (.aload_n 0, 1) := by decide +kernel
theorem dL_240 : decode code 240 = .ok (.iload_n 3, 1) := by decide +kernel
theorem dL_241 : decode code 241 = .ok (.iconst 1, 1) := by decide +kernel
theorem dL_242 : decode code 242 = .ok (.iadd, 1) := by decide +kernel
theorem dL_243 : decode code 243 = .ok (.iaload, 1) := by decide +kernel
theorem dL_244 : decode code 244 = .ok (.aload_n 0, 1) := by decide +kernel
theorem dL_245 : decode code 245 = .ok (.iload_n 3, 1) := by decide +kernel
theorem dL_246 : decode code 246 = .ok (.iconst 2, 1) := by decide +kernel
theorem dL_247 : decode code 247 = .ok (.iadd, 1) := by decide +kernel
theorem dL_248 : decode code 248 = .ok (.iaload, 1) := by decide +kernel
theorem dL_249 : decode code 249 = .ok (.aload_n 0, 1) := by decide +kernel
theorem dL_250 : decode code 250 = .ok (.iload_n 3, 1) := by decide +kernel
theorem dL_251 : decode code 251 = .ok (.iconst 3, 1) := by decide +kernel
theorem dL_252 : decode code 252 = .ok (.iadd, 1) := by decide +kernel
theorem dL_253 : decode code 253 = .ok (.iaload, 1) := by decide +kernel
theorem dL_254 : decode code 254 = .ok (.ifCond .eq 7, 3) := by decide +kernel
theorem dL_257 : decode code 257 = .ok (.iconst 1, 1) := by decide +kernel
theorem dL_258 : decode code 258 = .ok (.goto 4, 3) := by decide +kernel
theorem dL_261 : decode code 261 = .ok (.iconst 0, 1) := by decide +kernel
theorem dL_262 : decode code 262 = .ok (.invokevirtual 22, 3) := by decide +kernel
theorem dL_265 : decode code 265 = .ok (.if_icmp .eq 851, 3) := by decide +kernel
theorem dL_268 : decode code 268 = .ok (.iconst 0, 1) := by decide +kernel
theorem dL_269 : decode code 269 = .ok (.ireturn, 1) := by decide +kernel
theorem dL_270 : decode code 270 = .ok (.aload_n 1, 1) := by decide +kernel
theorem dL_271 : decode code 271 = .ok (.aload_n 0, 1) := by decide +kernel
theorem dL_272 : decode code 272 = .ok (.iload_n 3, 1) := by decide +kernel
theorem dL_273 : decode code 273 = .ok (.iconst 1, 1) := by decide +kernel
theorem dL_274 : decode code 274 = .ok (.iadd, 1) := by decide +kernel
theorem dL_275 : decode code 275 = .ok (.iaload, 1) := by decide +kernel
theorem dL_276 : decode code 276 = .ok (.aload_n 0, 1) := by decide +kernel
theorem dL_277 : decode code 277 = .ok (.iload_n 3, 1) := by decide +kernel
theorem dL_278 : decode code 278 = .ok (.iconst 2, 1) := by decide +kernel
theorem dL_279 : decode code 279 = .ok (.iadd, 1) := by decide +kernel
theorem dL_280 : decode code 280 = .ok (.iaload, 1) := by decide +kernel
theorem dL_281 : decode code 281 = .ok (.ifCond .eq 7, 3) := by decide +kernel
theorem dL_284 : decode code 284 = .ok (.iconst 1, 1) := by decide +kernel
theorem dL_285 : decode code 285 = .ok (.goto 4, 3) := by decide +kernel
theorem dL_288 : decode code 288 = .ok (.iconst 0, 1) := by decide +kernel
theorem dL_289 : decode code 289 = .ok (.invokevirtual 23, 3) := by decide +kernel
theorem dL_292 : decode code 292 = .ok (.aload_n 2, 1) := by decide +kernel
theorem dL_293 : decode code 293 = .ok (.aload_n 0, 1) := by decide +kernel
theorem dL_294 : decode code 294 = .ok (.iload_n 3, 1) := by decide +kernel
theorem dL_295 : decode code 295 = .ok (.iconst 1, 1) := by decide +kernel
theorem dL_296 : decode code 296 = .ok (.iadd, 1) := by decide +kernel
theorem dL_297 : decode code 297 = .ok (.iaload, 1) := by decide +kernel
theorem dL_298 : decode code 298 = .ok (.aload_n 0, 1) := by decide +kernel
theorem dL_299 : decode code 299 = .ok (.iload_n 3, 1) := by decide +kernel
theorem dL_300 : decode code 300 = .ok (.iconst 2, 1) := by decide +kernel
theorem dL_301 : decode code 301 = .ok (.iadd, 1) := by decide +kernel
theorem dL_302 : decode code 302 = .ok (.iaload, 1) := by decide +kernel
theorem dL_303 : decode code 303 = .ok (.ifCond .eq 7, 3) := by decide +kernel
theorem dL_306 : decode code 306 = .ok (.iconst 1, 1) := by decide +kernel
theorem dL_307 : decode code 307 = .ok (.goto 4, 3) := by decide +kernel
theorem dL_310 : decode code 310 = .ok (.iconst 0, 1) := by decide +kernel
theorem dL_311 : decode code 311 = .ok (.invokevirtual 27, 3) := by decide +kernel
theorem dL_314 : decode code 314 = .ok (.if_icmp .eq 802, 3) := by decide +kernel
theorem dL_317 : decode code 317 = .ok (.iconst 0, 1) := by decide +kernel
theorem dL_318 : decode code 318 = .ok (.ireturn, 1) := by decide +kernel
theorem dL_319 : decode code 319 = .ok (.aload_n 1, 1) := by decide +kernel
theorem dL_320 : decode code 320 = .ok (.aload_n 0, 1) := by decide +kernel
theorem dL_321 : decode code 321 = .ok (.iload_n 3, 1) := by decide +kernel
theorem dL_322 : decode code 322 = .ok (.iconst 1, 1) := by decide +kernel
theorem dL_323 : decode code 323 = .ok (.iadd, 1) := by decide +kernel
theorem dL_324 : decode code 324 = .ok (.iaload, 1) := by decide +kernel
theorem dL_325 : decode code 325 = .ok (.aload_n 0, 1) := by decide +kernel
theorem dL_326 : decode code 326 = .ok (.iload_n 3, 1) := by decide +kernel
theorem dL_327 : decode code 327 = .ok (.iconst 2, 1) := by decide +kernel
theorem dL_328 : decode code 328 = .ok (.iadd, 1) := by decide +kernel
theorem dL_329 : decode code 329 = .ok (.iaload, 1) := by decide +kernel
theorem dL_330 : decode code 330 = .ok (.invokevirtual 28, 3) := by decide +kernel
theorem dL_333 : decode code 333 = .ok (.aload_n 2, 1) := by decide +kernel
theorem dL_334 : decode code 334 = .ok (.aload_n 0, 1) := by decide +kernel
theorem dL_335 : decode code 335 = .ok (.iload_n 3, 1) := by decide +kernel
theorem dL_336 : decode code 336 = .ok (.iconst 1, 1) := by decide +kernel
theorem dL_337 : decode code 337 = .ok (.iadd, 1) := by decide +kernel
theorem dL_338 : decode code 338 = .ok (.iaload, 1) := by decide +kernel
theorem dL_339 : decode code 339 = .ok (.aload_n 0, 1) := by decide +kernel
theorem dL_340 : decode code 340 = .ok (.iload_n 3, 1) := by decide +kernel
theorem dL_341 : decode code 341 = .ok (.iconst 2, 1) := by decide +kernel
theorem dL_342 : decode code 342 = .ok (.iadd, 1) := by decide +kernel
theorem dL_343 : decode code 343 = .ok (.iaload, 1) := by decide +kernel
theorem dL_344 : decode code 344 = .ok (.invokevirtual 32, 3) := by decide +kernel
theorem dL_347 : decode code 347 = .ok (.if_icmp .eq 769, 3) := by decide +kernel
theorem dL_350 : decode code 350 = .ok (.iconst 0, 1) := by decide +kernel
theorem dL_351 : decode code 351 = .ok (.ireturn, 1) := by decide +kernel
theorem dL_352 : decode code 352 = .ok (.aload_n 1, 1) := by decide +kernel
theorem dL_353 : decode code 353 = .ok (.aload_n 0, 1) := by decide +kernel
theorem dL_354 : decode code 354 = .ok (.iload_n 3, 1) := by decide +kernel
theorem dL_355 : decode code 355 = .ok (.iconst 1, 1) := by decide +kernel
theorem dL_356 : decode code 356 = .ok (.iadd, 1) := by decide +kernel
theorem dL_357 : decode code 357 = .ok (.iaload, 1) := by decide +kernel
theorem dL_358 : decode code 358 = .ok (.invokevirtual 33, 3) := by decide +kernel
theorem dL_361 : decode code 361 = .ok (.aload_n 2, 1) := by decide +kernel
theorem dL_362 : decode code 362 = .ok (.aload_n 0, 1) := by decide +kernel
theorem dL_363 : decode code 363 = .ok (.iload_n 3, 1) := by decide +kernel
theorem dL_364 : decode code 364 = .ok (.iconst 1, 1) := by decide +kernel
theorem dL_365 : decode code 365 = .ok (.iadd, 1) := by decide +kernel
theorem dL_366 : decode code 366 = .ok (.iaload, 1) := by decide +kernel
theorem dL_367 : decode code 367 = .ok (.invokevirtual 36, 3) := by decide +kernel
theorem dL_370 : decode code 370 = .ok (.if_icmp .eq 746, 3) := by decide +kernel
theorem dL_373 : decode code 373 = .ok (.iconst 0, 1) := by decide +kernel
theorem dL_374 : decode code 374 = .ok (.ireturn, 1) := by decide +kernel
theorem dL_375 : decode code 375 = .ok (.aload_n 1, 1) := by decide +kernel
theorem dL_376 : decode code 376 = .ok (.aload_n 0, 1) := by decide +kernel
theorem dL_377 : decode code 377 = .ok (.iload_n 3, 1) := by decide +kernel
theorem dL_378 : decode code 378 = .ok (.iconst 1, 1) := by decide +kernel
theorem dL_379 : decode code 379 = .ok (.iadd, 1) := by decide +kernel
theorem dL_380 : decode code 380 = .ok (.iaload, 1) := by decide +kernel
theorem dL_381 : decode code 381 = .ok (.invokevirtual 37, 3) := by decide +kernel
theorem dL_384 : decode code 384 = .ok (.aload_n 2, 1) := by decide +kernel
theorem dL_385 : decode code 385 = .ok (.aload_n 0, 1) := by decide +kernel
theorem dL_386 : decode code 386 = .ok (.iload_n 3, 1) := by decide +kernel
theorem dL_387 : decode code 387 = .ok (.iconst 1, 1) := by decide +kernel
theorem dL_388 : decode code 388 = .ok (.iadd, 1) := by decide +kernel
theorem dL_389 : decode code 389 = .ok (.iaload, 1) := by decide +kernel
theorem dL_390 : decode code 390 = .ok (.invokevirtual 40, 3) := by decide +kernel
theorem dL_393 : decode code 393 = .ok (.if_icmp .eq 723, 3) := by decide +kernel
theorem dL_396 : decode code 396 = .ok (.iconst 0, 1) := by decide +kernel
theorem dL_397 : decode code 397 = .ok (.ireturn, 1) := by decide +kernel
theorem dL_398 : decode code 398 = .ok (.aload_n 1, 1) := by decide +kernel
theorem dL_399 : decode code 399 = .ok (.aload_n 0, 1) := by decide +kernel
theorem dL_400 : decode code 400 = .ok (.iload_n 3, 1) := by decide +kernel
theorem dL_401 : decode code 401 = .ok (.iconst 1, 1) := by decide +kernel
theorem dL_402 : decode code 402 = .ok (.iadd, 1) := by decide +kernel
theorem dL_403 : decode code 403 = .ok (.iaload, 1) := by decide +kernel
theorem dL_404 : decode code 404 = .ok (.aload_n 0, 1) := by decide +kernel
theorem dL_405 : decode code 405 = .ok (.iload_n 3, 1) := by decide +kernel
theorem dL_406 : decode code 406 = .ok (.iconst 2, 1) := by decide +kernel
theorem dL_407 : decode code 407 = .ok (.iadd, 1) := by decide +kernel
theorem dL_408 : decode code 408 = .ok (.iaload, 1) := by decide +kernel
theorem dL_409 : decode code 409 = .ok (.aload_n 0, 1) := by decide +kernel
theorem dL_410 : decode code 410 = .ok (.iload_n 3, 1) := by decide +kernel
theorem dL_411 : decode code 411 = .ok (.iconst 3, 1) := by decide +kernel
theorem dL_412 : decode code 412 = .ok (.iadd, 1) := by decide +kernel
theorem dL_413 : decode code 413 = .ok (.iaload, 1) := by decide +kernel
theorem dL_414 : decode code 414 = .ok (.invokevirtual 41, 3) := by decide +kernel
theorem dL_417 : decode code 417 = .ok (.aload_n 2, 1) := by decide +kernel
theorem dL_418 : decode code 418 = .ok (.aload_n 0, 1) := by decide +kernel
theorem dL_419 : decode code 419 = .ok (.iload_n 3, 1) := by decide +kernel
theorem dL_420 : decode code 420 = .ok (.iconst 1, 1) := by decide +kernel
theorem dL_421 : decode code 421 = .ok (.iadd, 1) := by decide +kernel
theorem dL_422 : decode code 422 = .ok (.iaload, 1) := by decide +kernel
theorem dL_423 : decode code 423 = .ok (.aload_n 0, 1) := by decide +kernel
theorem dL_424 : decode code 424 = .ok (.iload_n 3, 1) := by decide +kernel
theorem dL_425 : decode code 425 = .ok (.iconst 2, 1) := by decide +kernel
theorem dL_426 : decode code 426 = .ok (.iadd, 1) := by decide +kernel
theorem dL_427 : decode code 427 = .ok (.iaload, 1) := by decide +kernel
theorem dL_428 : decode code 428 = .ok (.aload_n 0, 1) := by decide +kernel
theorem dL_429 : decode code 429 = .ok (.iload_n 3, 1) := by decide +kernel
theorem dL_430 : decode code 430 = .ok (.iconst 3, 1) := by decide +kernel
theorem dL_431 : decode code 431 = .ok (.iadd, 1) := by decide +kernel
theorem dL_432 : decode code 432 = .ok (.iaload, 1) := by decide +kernel
theorem dL_433 : decode code 433 = .ok (.invokevirtual 45, 3) := by decide +kernel
theorem dL_436 : decode code 436 = .ok (.if_icmp .eq 680, 3) := by decide +kernel
theorem dL_439 : decode code 439 = .ok (.iconst 0, 1) := by decide +kernel
theorem dL_440 : decode code 440 = .ok (.ireturn, 1) := by decide +kernel
theorem dL_441 : decode code 441 = .ok (.aload_n 1, 1) := by decide +kernel
theorem dL_442 : decode code 442 = .ok (.aload_n 0, 1) := by decide +kernel
theorem dL_443 : decode code 443 = .ok (.iload_n 3, 1) := by decide +kernel
theorem dL_444 : decode code 444 = .ok (.iconst 1, 1) := by decide +kernel
theorem dL_445 : decode code 445 = .ok (.iadd, 1) := by decide +kernel
theorem dL_446 : decode code 446 = .ok (.iaload, 1) := by decide +kernel
theorem dL_447 : decode code 447 = .ok (.i2l, 1) := by decide +kernel
theorem dL_448 : decode code 448 = .ok (.bipush 32, 2) := by decide +kernel
theorem dL_450 : decode code 450 = .ok (.lshl, 1) := by decide +kernel
theorem dL_451 : decode code 451 = .ok (.aload_n 0, 1) := by decide +kernel
theorem dL_452 : decode code 452 = .ok (.iload_n 3, 1) := by decide +kernel
theorem dL_453 : decode code 453 = .ok (.iconst 2, 1) := by decide +kernel
theorem dL_454 : decode code 454 = .ok (.iadd, 1) := by decide +kernel
theorem dL_455 : decode code 455 = .ok (.iaload, 1) := by decide +kernel
theorem dL_456 : decode code 456 = .ok (.i2l, 1) := by decide +kernel
theorem dL_457 : decode code 457 = .ok (.ldc2_w 46, 3) := by decide +kernel
theorem dL_460 : decode code 460 = .ok (.land, 1) := by decide +kernel
theorem dL_461 : decode code 461 = .ok (.lor, 1) := by decide +kernel
theorem dL_462 : decode code 462 = .ok (.aload_n 0, 1) := by decide +kernel
theorem dL_463 : decode code 463 = .ok (.iload_n 3, 1) := by decide +kernel
theorem dL_464 : decode code 464 = .ok (.iconst 3, 1) := by decide +kernel
theorem dL_465 : decode code 465 = .ok (.iadd, 1) := by decide +kernel
theorem dL_466 : decode code 466 = .ok (.iaload, 1) := by decide +kernel
theorem dL_467 : decode code 467 = .ok (.invokevirtual 48, 3) := by decide +kernel
theorem dL_470 : decode code 470 = .ok (.aload_n 2, 1) := by decide +kernel
theorem dL_471 : decode code 471 = .ok (.aload_n 0, 1) := by decide +kernel
theorem dL_472 : decode code 472 = .ok (.iload_n 3, 1) := by decide +kernel
theorem dL_473 : decode code 473 = .ok (.iconst 1, 1) := by decide +kernel
theorem dL_474 : decode code 474 = .ok (.iadd, 1) := by decide +kernel
theorem dL_475 : decode code 475 = .ok (.iaload, 1) := by decide +kernel
theorem dL_476 : decode code 476 = .ok (.i2l, 1) := by decide +kernel
theorem dL_477 : decode code 477 = .ok (.bipush 32, 2) := by decide +kernel
theorem dL_479 : decode code 479 = .ok (.lshl, 1) := by decide +kernel
theorem dL_480 : decode code 480 = .ok (.aload_n 0, 1) := by decide +kernel
theorem dL_481 : decode code 481 = .ok (.iload_n 3, 1) := by decide +kernel
theorem dL_482 : decode code 482 = .ok (.iconst 2, 1) := by decide +kernel
theorem dL_483 : decode code 483 = .ok (.iadd, 1) := by decide +kernel
theorem dL_484 : decode code 484 = .ok (.iaload, 1) := by decide +kernel
theorem dL_485 : decode code 485 = .ok (.i2l, 1) := by decide +kernel
theorem dL_486 : decode code 486 = .ok (.ldc2_w 46, 3) := by decide +kernel
theorem dL_489 : decode code 489 = .ok (.land, 1) := by decide +kernel
theorem dL_490 : decode code 490 = .ok (.lor, 1) := by decide +kernel
theorem dL_491 : decode code 491 = .ok (.aload_n 0, 1) := by decide +kernel
theorem dL_492 : decode code 492 = .ok (.iload_n 3, 1) := by decide +kernel
theorem dL_493 : decode code 493 = .ok (.iconst 3, 1) := by decide +kernel
theorem dL_494 : decode code 494 = .ok (.iadd, 1) := by decide +kernel
theorem dL_495 : decode code 495 = .ok (.iaload, 1) := by decide +kernel
theorem dL_496 : decode code 496 = .ok (.invokevirtual 52, 3) := by decide +kernel
theorem dL_499 : decode code 499 = .ok (.if_icmp .eq 617, 3) := by decide +kernel
theorem dL_502 : decode code 502 = .ok (.iconst 0, 1) := by decide +kernel
theorem dL_503 : decode code 503 = .ok (.ireturn, 1) := by decide +kernel
theorem dL_504 : decode code 504 = .ok (.aload_n 1, 1) := by decide +kernel
theorem dL_505 : decode code 505 = .ok (.invokevirtual 53, 3) := by decide +kernel
theorem dL_508 : decode code 508 = .ok (.aload_n 2, 1) := by decide +kernel
theorem dL_509 : decode code 509 = .ok (.invokevirtual 57, 3) := by decide +kernel
theorem dL_512 : decode code 512 = .ok (.if_icmp .eq 604, 3) := by decide +kernel
theorem dL_515 : decode code 515 = .ok (.iconst 0, 1) := by decide +kernel
theorem dL_516 : decode code 516 = .ok (.ireturn, 1) := by decide +kernel
theorem dL_517 : decode code 517 = .ok (.aload_n 1, 1) := by decide +kernel
theorem dL_518 : decode code 518 = .ok (.invokevirtual 58, 3) := by decide +kernel
theorem dL_521 : decode code 521 = .ok (.aload_n 2, 1) := by decide +kernel
theorem dL_522 : decode code 522 = .ok (.invokevirtual 61, 3) := by decide +kernel
theorem dL_525 : decode code 525 = .ok (.if_icmp .eq 591, 3) := by decide +kernel
theorem dL_528 : decode code 528 = .ok (.iconst 0, 1) := by decide +kernel
theorem dL_529 : decode code 529 = .ok (.ireturn, 1) := by decide +kernel
theorem dL_530 : decode code 530 = .ok (.aload_n 1, 1) := by decide +kernel
theorem dL_531 : decode code 531 = .ok (.aload_n 0, 1) := by decide +kernel
theorem dL_532 : decode code 532 = .ok (.iload_n 3, 1) := by decide +kernel
theorem dL_533 : decode code 533 = .ok (.iconst 1, 1) := by decide +kernel
theorem dL_534 : decode code 534 = .ok (.iadd, 1) := by decide +kernel
theorem dL_535 : decode code 535 = .ok (.iaload, 1) := by decide +kernel
theorem dL_536 : decode code 536 = .ok (.invokevirtual 62, 3) := by decide +kernel
theorem dL_539 : decode code 539 = .ok (.aload_n 2, 1) := by decide +kernel
theorem dL_540 : decode code 540 = .ok (.aload_n 0, 1) := by decide +kernel
theorem dL_541 : decode code 541 = .ok (.iload_n 3, 1) := by decide +kernel
theorem dL_542 : decode code 542 = .ok (.iconst 1, 1) := by decide +kernel
theorem dL_543 : decode code 543 = .ok (.iadd, 1) := by decide +kernel
theorem dL_544 : decode code 544 = .ok (.iaload, 1) := by decide +kernel
theorem dL_545 : decode code 545 = .ok (.invokevirtual 65, 3) := by decide +kernel
theorem dL_548 : decode code 548 = .ok (.if_icmp .eq 568, 3) := by decide +kernel
theorem dL_551 : decode code 551 = .ok (.iconst 0, 1) := by decide +kernel
theorem dL_552 : decode code 552 = .ok (.ireturn, 1) := by decide +kernel
theorem dL_553 : decode code 553 = .ok (.aload_n 1, 1) := by decide +kernel
theorem dL_554 : decode code 554 = .ok (.invokevirtual 66, 3) := by decide +kernel
theorem dL_557 : decode code 557 = .ok (.aload_n 2, 1) := by decide +kernel
theorem dL_558 : decode code 558 = .ok (.invokevirtual 69, 3) := by decide +kernel
theorem dL_561 : decode code 561 = .ok (.if_icmp .eq 555, 3) := by decide +kernel
theorem dL_564 : decode code 564 = .ok (.iconst 0, 1) := by decide +kernel
theorem dL_565 : decode code 565 = .ok (.ireturn, 1) := by decide +kernel
theorem dL_566 : decode code 566 = .ok (.aload_n 1, 1) := by decide +kernel
theorem dL_567 : decode code 567 = .ok (.invokevirtual 70, 3) := by decide +kernel
theorem dL_570 : decode code 570 = .ok (.aload_n 2, 1) := by decide +kernel
theorem dL_571 : decode code 571 = .ok (.invokevirtual 73, 3) := by decide +kernel
theorem dL_574 : decode code 574 = .ok (.if_icmp .eq 542, 3) := by decide +kernel
theorem dL_577 : decode code 577 = .ok (.iconst 0, 1) := by decide +kernel
theorem dL_578 : decode code 578 = .ok (.ireturn, 1) := by decide +kernel
theorem dL_579 : decode code 579 = .ok (.aload_n 1, 1) := by decide +kernel
theorem dL_580 : decode code 580 = .ok (.aload_n 0, 1) := by decide +kernel
theorem dL_581 : decode code 581 = .ok (.iload_n 3, 1) := by decide +kernel
theorem dL_582 : decode code 582 = .ok (.iconst 1, 1) := by decide +kernel
theorem dL_583 : decode code 583 = .ok (.iadd, 1) := by decide +kernel
theorem dL_584 : decode code 584 = .ok (.iaload, 1) := by decide +kernel
theorem dL_585 : decode code 585 = .ok (.invokevirtual 74, 3) := by decide +kernel
theorem dL_588 : decode code 588 = .ok (.aload_n 2, 1) := by decide +kernel
theorem dL_589 : decode code 589 = .ok (.aload_n 0, 1) := by decide +kernel
theorem dL_590 : decode code 590 = .ok (.iload_n 3, 1) := by decide +kernel
theorem dL_591 : decode code 591 = .ok (.iconst 1, 1) := by decide +kernel
theorem dL_592 : decode code 592 = .ok (.iadd, 1) := by decide +kernel
theorem dL_593 : decode code 593 = .ok (.iaload, 1) := by decide +kernel
theorem dL_594 : decode code 594 = .ok (.invokevirtual 77, 3) := by decide +kernel
theorem dL_597 : decode code 597 = .ok (.if_icmp .eq 519, 3) := by decide +kernel
theorem dL_600 : decode code 600 = .ok (.iconst 0, 1) := by decide +kernel
theorem dL_601 : decode code 601 = .ok (.ireturn, 1) := by decide +kernel
theorem dL_602 : decode code 602 = .ok (.aload_n 1, 1) := by decide +kernel
theorem dL_603 : decode code 603 = .ok (.aload_n 0, 1) := by decide +kernel
theorem dL_604 : decode code 604 = .ok (.iload_n 3, 1) := by decide +kernel
theorem dL_605 : decode code 605 = .ok (.iconst 1, 1) := by decide +kernel
theorem dL_606 : decode code 606 = .ok (.iadd, 1) := by decide +kernel
theorem dL_607 : decode code 607 = .ok (.iaload, 1) := by decide +kernel
theorem dL_608 : decode code 608 = .ok (.invokevirtual 78, 3) := by decide +kernel
theorem dL_611 : decode code 611 = .ok (.aload_n 2, 1) := by decide +kernel
theorem dL_612 : decode code 612 = .ok (.aload_n 0, 1) := by decide +kernel
theorem dL_613 : decode code 613 = .ok (.iload_n 3, 1) := by decide +kernel
theorem dL_614 : decode code 614 = .ok (.iconst 1, 1) := by decide +kernel
theorem dL_615 : decode code 615 = .ok (.iadd, 1) := by decide +kernel
theorem dL_616 : decode code 616 = .ok (.iaload, 1) := by decide +kernel
theorem dL_617 : decode code 617 = .ok (.invokevirtual 81, 3) := by decide +kernel
theorem dL_620 : decode code 620 = .ok (.if_icmp .eq 496, 3) := by decide +kernel
theorem dL_623 : decode code 623 = .ok (.iconst 0, 1) := by decide +kernel
theorem dL_624 : decode code 624 = .ok (.ireturn, 1) := by decide +kernel
theorem dL_625 : decode code 625 = .ok (.aload_n 1, 1) := by decide +kernel
theorem dL_626 : decode code 626 = .ok (.aload_n 0, 1) := by decide +kernel
theorem dL_627 : decode code 627 = .ok (.iload_n 3, 1) := by decide +kernel
theorem dL_628 : decode code 628 = .ok (.iconst 1, 1) := by decide +kernel
theorem dL_629 : decode code 629 = .ok (.iadd, 1) := by decide +kernel
theorem dL_630 : decode code 630 = .ok (.iaload, 1) := by decide +kernel
theorem dL_631 : decode code 631 = .ok (.invokevirtual 82, 3) := by decide +kernel
theorem dL_634 : decode code 634 = .ok (.aload_n 2, 1) := by decide +kernel
theorem dL_635 : decode code 635 = .ok (.aload_n 0, 1) := by decide +kernel
theorem dL_636 : decode code 636 = .ok (.iload_n 3, 1) := by decide +kernel
theorem dL_637 : decode code 637 = .ok (.iconst 1, 1) := by decide +kernel
theorem dL_638 : decode code 638 = .ok (.iadd, 1) := by decide +kernel
theorem dL_639 : decode code 639 = .ok (.iaload, 1) := by decide +kernel
theorem dL_640 : decode code 640 = .ok (.invokevirtual 85, 3) := by decide +kernel
theorem dL_643 : decode code 643 = .ok (.if_icmp .eq 473, 3) := by decide +kernel
theorem dL_646 : decode code 646 = .ok (.iconst 0, 1) := by decide +kernel
theorem dL_647 : decode code 647 = .ok (.ireturn, 1) := by decide +kernel
theorem dL_648 : decode code 648 = .ok (.aload_n 1, 1) := by decide +kernel
theorem dL_649 : decode code 649 = .ok (.aload_n 0, 1) := by decide +kernel
theorem dL_650 : decode code 650 = .ok (.iload_n 3, 1) := by decide +kernel
theorem dL_651 : decode code 651 = .ok (.iconst 1, 1) := by decide +kernel
theorem dL_652 : decode code 652 = .ok (.iadd, 1) := by decide +kernel
theorem dL_653 : decode code 653 = .ok (.iaload, 1) := by decide +kernel
theorem dL_654 : decode code 654 = .ok (.invokevirtual 86, 3) := by decide +kernel
theorem dL_657 : decode code 657 = .ok (.aload_n 2, 1) := by decide +kernel
theorem dL_658 : decode code 658 = .ok (.aload_n 0, 1) := by decide +kernel
theorem dL_659 : decode code 659 = .ok (.iload_n 3, 1) := by decide +kernel
theorem dL_660 : decode code 660 = .ok (.iconst 1, 1) := by decide +kernel
theorem dL_661 : decode code 661 = .ok (.iadd, 1) := by decide +kernel
theorem dL_662 : decode code 662 = .ok (.iaload, 1) := by decide +kernel
theorem dL_663 : decode code 663 = .ok (.invokevirtual 89, 3) := by decide +kernel
theorem dL_666 : decode code 666 = .ok (.if_icmp .eq 450, 3) := by decide +kernel
theorem dL_669 : decode code 669 = .ok (.iconst 0, 1) := by decide +kernel
theorem dL_670 : decode code 670 = .ok (.ireturn, 1) := by decide +kernel
theorem dL_671 : decode code 671 = .ok (.aload_n 1, 1) := by decide +kernel
theorem dL_672 : decode code 672 = .ok (.invokevirtual 90, 3) := by decide +kernel
theorem dL_675 : decode code 675 = .ok (.aload_n 2, 1) := by decide +kernel
theorem dL_676 : decode code 676 = .ok (.invokevirtual 93, 3) := by decide +kernel
theorem dL_679 : decode code 679 = .ok (.if_icmp .eq 437, 3) := by decide +kernel
theorem dL_682 : decode code 682 = .ok (.iconst 0, 1) := by decide +kernel
theorem dL_683 : decode code 683 = .ok (.ireturn, 1) := by decide +kernel
theorem dL_684 : decode code 684 = .ok (.aload_n 1, 1) := by decide +kernel
theorem dL_685 : decode code 685 = .ok (.invokevirtual 94, 3) := by decide +kernel
theorem dL_688 : decode code 688 = .ok (.aload_n 2, 1) := by decide +kernel
theorem dL_689 : decode code 689 = .ok (.invokevirtual 97, 3) := by decide +kernel
theorem dL_692 : decode code 692 = .ok (.if_icmp .eq 424, 3) := by decide +kernel
theorem dL_695 : decode code 695 = .ok (.iconst 0, 1) := by decide +kernel
theorem dL_696 : decode code 696 = .ok (.ireturn, 1) := by decide +kernel
theorem dL_697 : decode code 697 = .ok (.aload_n 1, 1) := by decide +kernel
theorem dL_698 : decode code 698 = .ok (.aload_n 0, 1) := by decide +kernel
theorem dL_699 : decode code 699 = .ok (.iload_n 3, 1) := by decide +kernel
theorem dL_700 : decode code 700 = .ok (.iconst 1, 1) := by decide +kernel
theorem dL_701 : decode code 701 = .ok (.iadd, 1) := by decide +kernel
theorem dL_702 : decode code 702 = .ok (.iaload, 1) := by decide +kernel
theorem dL_703 : decode code 703 = .ok (.invokevirtual 98, 3) := by decide +kernel
theorem dL_706 : decode code 706 = .ok (.aload_n 2, 1) := by decide +kernel
theorem dL_707 : decode code 707 = .ok (.aload_n 0, 1) := by decide +kernel
theorem dL_708 : decode code 708 = .ok (.iload_n 3, 1) := by decide +kernel
theorem dL_709 : decode code 709 = .ok (.iconst 1, 1) := by decide +kernel
theorem dL_710 : decode code 710 = .ok (.iadd, 1) := by decide +kernel
theorem dL_711 : decode code 711 = .ok (.iaload, 1) := by decide +kernel
theorem dL_712 : decode code 712 = .ok (.invokevirtual 101, 3) := by decide +kernel
theorem dL_715 : decode code 715 = .ok (.if_icmp .eq 401, 3) := by decide +kernel
theorem dL_718 : decode code 718 = .ok (.iconst 0, 1) := by decide +kernel
theorem dL_719 : decode code 719 = .ok (.ireturn, 1) := by decide +kernel
theorem dL_720 : decode code 720 = .ok (.aload_n 1, 1) := by decide +kernel
theorem dL_721 : decode code 721 = .ok (.aload_n 0, 1) := by decide +kernel
theorem dL_722 : decode code 722 = .ok (.iload_n 3, 1) := by decide +kernel
theorem dL_723 : decode code 723 = .ok (.iconst 1, 1) := by decide +kernel
theorem dL_724 : decode code 724 = .ok (.iadd, 1) := by decide +kernel
theorem dL_725 : decode code 725 = .ok (.iaload, 1) := by decide +kernel
theorem dL_726 : decode code 726 = .ok (.aload_n 0, 1) := by decide +kernel
theorem dL_727 : decode code 727 = .ok (.iload_n 3, 1) := by decide +kernel
theorem dL_728 : decode code 728 = .ok (.iconst 2, 1) := by decide +kernel
theorem dL_729 : decode code 729 = .ok (.iadd, 1) := by decide +kernel
theorem dL_730 : decode code 730 = .ok (.iaload, 1) := by decide +kernel
theorem dL_731 : decode code 731 = .ok (.invokevirtual 102, 3) := by decide +kernel
theorem dL_734 : decode code 734 = .ok (.aload_n 2, 1) := by decide +kernel
theorem dL_735 : decode code 735 = .ok (.aload_n 0, 1) := by decide +kernel
theorem dL_736 : decode code 736 = .ok (.iload_n 3, 1) := by decide +kernel
theorem dL_737 : decode code 737 = .ok (.iconst 1, 1) := by decide +kernel
theorem dL_738 : decode code 738 = .ok (.iadd, 1) := by decide +kernel
theorem dL_739 : decode code 739 = .ok (.iaload, 1) := by decide +kernel
theorem dL_740 : decode code 740 = .ok (.aload_n 0, 1) := by decide +kernel
theorem dL_741 : decode code 741 = .ok (.iload_n 3, 1) := by decide +kernel
theorem dL_742 : decode code 742 = .ok (.iconst 2, 1) := by decide +kernel
theorem dL_743 : decode code 743 = .ok (.iadd, 1) := by decide +kernel
theorem dL_744 : decode code 744 = .ok (.iaload, 1) := by decide +kernel
theorem dL_745 : decode code 745 = .ok (.invokevirtual 105, 3) := by decide +kernel
theorem dL_748 : decode code 748 = .ok (.if_icmp .eq 368, 3) := by decide +kernel
theorem dL_751 : decode code 751 = .ok (.iconst 0, 1) := by decide +kernel
theorem dL_752 : decode code 752 = .ok (.ireturn, 1) := by decide +kernel
theorem dL_753 : decode code 753 = .ok (.aload_n 1, 1) := by decide +kernel
theorem dL_754 : decode code 754 = .ok (.aload_n 0, 1) := by decide +kernel
theorem dL_755 : decode code 755 = .ok (.iload_n 3, 1) := by decide +kernel
theorem dL_756 : decode code 756 = .ok (.iconst 1, 1) := by decide +kernel
theorem dL_757 : decode code 757 = .ok (.iadd, 1) := by decide +kernel
theorem dL_758 : decode code 758 = .ok (.iaload, 1) := by decide +kernel
theorem dL_759 : decode code 759 = .ok (.invokevirtual 106, 3) := by decide +kernel
theorem dL_762 : decode code 762 = .ok (.aload_n 2, 1) := by decide +kernel
theorem dL_763 : decode code 763 = .ok (.aload_n 0, 1) := by decide +kernel
theorem dL_764 : decode code 764 = .ok (.iload_n 3, 1) := by decide +kernel
theorem dL_765 : decode code 765 = .ok (.iconst 1, 1) := by decide +kernel
theorem dL_766 : decode code 766 = .ok (.iadd, 1) := by decide +kernel
theorem dL_767 : decode code 767 = .ok (.iaload, 1) := by decide +kernel
theorem dL_768 : decode code 768 = .ok (.invokevirtual 109, 3) := by decide +kernel
theorem dL_771 : decode code 771 = .ok (.if_icmp .eq 345, 3) := by decide +kernel
theorem dL_774 : decode code 774 = .ok (.iconst 0, 1) := by decide +kernel
theorem dL_775 : decode code 775 = .ok (.ireturn, 1) := by decide +kernel
theorem dL_776 : decode code 776 = .ok (.aload_n 1, 1) := by decide +kernel
theorem dL_777 : decode code 777 = .ok (.invokevirtual 110, 3) := by decide +kernel
theorem dL_780 : decode code 780 = .ok (.aload_n 2, 1) := by decide +kernel
theorem dL_781 : decode code 781 = .ok (.invokevirtual 113, 3) := by decide +kernel
theorem dL_784 : decode code 784 = .ok (.if_icmp .eq 332, 3) := by decide +kernel
theorem dL_787 : decode code 787 = .ok (.iconst 0, 1) := by decide +kernel
theorem dL_788 : decode code 788 = .ok (.ireturn, 1) := by decide +kernel
theorem dL_789 : decode code 789 = .ok (.aload_n 1, 1) := by decide +kernel
theorem dL_790 : decode code 790 = .ok (.aload_n 0, 1) := by decide +kernel
theorem dL_791 : decode code 791 = .ok (.iload_n 3, 1) := by decide +kernel
theorem dL_792 : decode code 792 = .ok (.iconst 1, 1) := by decide +kernel
theorem dL_793 : decode code 793 = .ok (.iadd, 1) := by decide +kernel
theorem dL_794 : decode code 794 = .ok (.iaload, 1) := by decide +kernel
theorem dL_795 : decode code 795 = .ok (.aload_n 0, 1) := by decide +kernel
theorem dL_796 : decode code 796 = .ok (.iload_n 3, 1) := by decide +kernel
theorem dL_797 : decode code 797 = .ok (.iconst 2, 1) := by decide +kernel
theorem dL_798 : decode code 798 = .ok (.iadd, 1) := by decide +kernel
theorem dL_799 : decode code 799 = .ok (.iaload, 1) := by decide +kernel
theorem dL_800 : decode code 800 = .ok (.aload_n 0, 1) := by decide +kernel
theorem dL_801 : decode code 801 = .ok (.iload_n 3, 1) := by decide +kernel
theorem dL_802 : decode code 802 = .ok (.iconst 3, 1) := by decide +kernel
theorem dL_803 : decode code 803 = .ok (.iadd, 1) := by decide +kernel
theorem dL_804 : decode code 804 = .ok (.iaload, 1) := by decide +kernel
theorem dL_805 : decode code 805 = .ok (.invokevirtual 114, 3) := by decide +kernel
theorem dL_808 : decode code 808 = .ok (.aload_n 2, 1) := by decide +kernel
theorem dL_809 : decode code 809 = .ok (.aload_n 0, 1) := by decide +kernel
theorem dL_810 : decode code 810 = .ok (.iload_n 3, 1) := by decide +kernel
theorem dL_811 : decode code 811 = .ok (.iconst 1, 1) := by decide +kernel
theorem dL_812 : decode code 812 = .ok (.iadd, 1) := by decide +kernel
theorem dL_813 : decode code 813 = .ok (.iaload, 1) := by decide +kernel
theorem dL_814 : decode code 814 = .ok (.aload_n 0, 1) := by decide +kernel
theorem dL_815 : decode code 815 = .ok (.iload_n 3, 1) := by decide +kernel
theorem dL_816 : decode code 816 = .ok (.iconst 2, 1) := by decide +kernel
theorem dL_817 : decode code 817 = .ok (.iadd, 1) := by decide +kernel
theorem dL_818 : decode code 818 = .ok (.iaload, 1) := by decide +kernel
theorem dL_819 : decode code 819 = .ok (.aload_n 0, 1) := by decide +kernel
theorem dL_820 : decode code 820 = .ok (.iload_n 3, 1) := by decide +kernel
theorem dL_821 : decode code 821 = .ok (.iconst 3, 1) := by decide +kernel
theorem dL_822 : decode code 822 = .ok (.iadd, 1) := by decide +kernel
theorem dL_823 : decode code 823 = .ok (.iaload, 1) := by decide +kernel
theorem dL_824 : decode code 824 = .ok (.invokevirtual 117, 3) := by decide +kernel
theorem dL_827 : decode code 827 = .ok (.if_icmp .eq 289, 3) := by decide +kernel
theorem dL_830 : decode code 830 = .ok (.iconst 0, 1) := by decide +kernel
theorem dL_831 : decode code 831 = .ok (.ireturn, 1) := by decide +kernel
theorem dL_832 : decode code 832 = .ok (.aload_n 1, 1) := by decide +kernel
theorem dL_833 : decode code 833 = .ok (.aload_n 0, 1) := by decide +kernel
theorem dL_834 : decode code 834 = .ok (.iload_n 3, 1) := by decide +kernel
theorem dL_835 : decode code 835 = .ok (.iconst 1, 1) := by decide +kernel
theorem dL_836 : decode code 836 = .ok (.iadd, 1) := by decide +kernel
theorem dL_837 : decode code 837 = .ok (.iaload, 1) := by decide +kernel
theorem dL_838 : decode code 838 = .ok (.invokevirtual 118, 3) := by decide +kernel
theorem dL_841 : decode code 841 = .ok (.aload_n 2, 1) := by decide +kernel
theorem dL_842 : decode code 842 = .ok (.aload_n 0, 1) := by decide +kernel
theorem dL_843 : decode code 843 = .ok (.iload_n 3, 1) := by decide +kernel
theorem dL_844 : decode code 844 = .ok (.iconst 1, 1) := by decide +kernel
theorem dL_845 : decode code 845 = .ok (.iadd, 1) := by decide +kernel
theorem dL_846 : decode code 846 = .ok (.iaload, 1) := by decide +kernel
theorem dL_847 : decode code 847 = .ok (.invokevirtual 121, 3) := by decide +kernel
theorem dL_850 : decode code 850 = .ok (.if_icmp .eq 266, 3) := by decide +kernel
theorem dL_853 : decode code 853 = .ok (.iconst 0, 1) := by decide +kernel
theorem dL_854 : decode code 854 = .ok (.ireturn, 1) := by decide +kernel
theorem dL_855 : decode code 855 = .ok (.aload_n 1, 1) := by decide +kernel
theorem dL_856 : decode code 856 = .ok (.aload_n 0, 1) := by decide +kernel
theorem dL_857 : decode code 857 = .ok (.iload_n 3, 1) := by decide +kernel
theorem dL_858 : decode code 858 = .ok (.iconst 1, 1) := by decide +kernel
theorem dL_859 : decode code 859 = .ok (.iadd, 1) := by decide +kernel
theorem dL_860 : decode code 860 = .ok (.iaload, 1) := by decide +kernel
theorem dL_861 : decode code 861 = .ok (.aload_n 0, 1) := by decide +kernel
theorem dL_862 : decode code 862 = .ok (.iload_n 3, 1) := by decide +kernel
theorem dL_863 : decode code 863 = .ok (.iconst 2, 1) := by decide +kernel
theorem dL_864 : decode code 864 = .ok (.iadd, 1) := by decide +kernel
theorem dL_865 : decode code 865 = .ok (.iaload, 1) := by decide +kernel
theorem dL_866 : decode code 866 = .ok (.invokevirtual 122, 3) := by decide +kernel
theorem dL_869 : decode code 869 = .ok (.aload_n 2, 1) := by decide +kernel
theorem dL_870 : decode code 870 = .ok (.aload_n 0, 1) := by decide +kernel
theorem dL_871 : decode code 871 = .ok (.iload_n 3, 1) := by decide +kernel
theorem dL_872 : decode code 872 = .ok (.iconst 1, 1) := by decide +kernel
theorem dL_873 : decode code 873 = .ok (.iadd, 1) := by decide +kernel
theorem dL_874 : decode code 874 = .ok (.iaload, 1) := by decide +kernel
theorem dL_875 : decode code 875 = .ok (.aload_n 0, 1) := by decide +kernel
theorem dL_876 : decode code 876 = .ok (.iload_n 3, 1) := by decide +kernel
theorem dL_877 : decode code 877 = .ok (.iconst 2, 1) := by decide +kernel
theorem dL_878 : decode code 878 = .ok (.iadd, 1) := by decide +kernel
theorem dL_879 : decode code 879 = .ok (.iaload, 1) := by decide +kernel
theorem dL_880 : decode code 880 = .ok (.invokevirtual 125, 3) := by decide +kernel
theorem dL_883 : decode code 883 = .ok (.if_icmp .eq 233, 3) := by decide +kernel
theorem dL_886 : decode code 886 = .ok (.iconst 0, 1) := by decide +kernel
theorem dL_887 : decode code 887 = .ok (.ireturn, 1) := by decide +kernel
theorem dL_888 : decode code 888 = .ok (.aload_n 1, 1) := by decide +kernel
theorem dL_889 : decode code 889 = .ok (.invokevirtual 126, 3) := by decide +kernel
theorem dL_892 : decode code 892 = .ok (.aload_n 2, 1) := by decide +kernel
theorem dL_893 : decode code 893 = .ok (.invokevirtual 129, 3) := by decide +kernel
theorem dL_896 : decode code 896 = .ok (.if_icmp .eq 220, 3) := by decide +kernel
theorem dL_899 : decode code 899 = .ok (.iconst 0, 1) := by decide +kernel
theorem dL_900 : decode code 900 = .ok (.ireturn, 1) := by decide +kernel
theorem dL_901 : decode code 901 = .ok (.aload_n 1, 1) := by decide +kernel
theorem dL_902 : decode code 902 = .ok (.aload_n 0, 1) := by decide +kernel
theorem dL_903 : decode code 903 = .ok (.iload_n 3, 1) := by decide +kernel
theorem dL_904 : decode code 904 = .ok (.iconst 1, 1) := by decide +kernel
theorem dL_905 : decode code 905 = .ok (.iadd, 1) := by decide +kernel
theorem dL_906 : decode code 906 = .ok (.iaload, 1) := by decide +kernel
theorem dL_907 : decode code 907 = .ok (.aload_n 0, 1) := by decide +kernel
theorem dL_908 : decode code 908 = .ok (.iload_n 3, 1) := by decide +kernel
theorem dL_909 : decode code 909 = .ok (.iconst 2, 1) := by decide +kernel
theorem dL_910 : decode code 910 = .ok (.iadd, 1) := by decide +kernel
theorem dL_911 : decode code 911 = .ok (.iaload, 1) := by decide +kernel
theorem dL_912 : decode code 912 = .ok (.invokevirtual 130, 3) := by decide +kernel
theorem dL_915 : decode code 915 = .ok (.aload_n 2, 1) := by decide +kernel
theorem dL_916 : decode code 916 = .ok (.aload_n 0, 1) := by decide +kernel
theorem dL_917 : decode code 917 = .ok (.iload_n 3, 1) := by decide +kernel
theorem dL_918 : decode code 918 = .ok (.iconst 1, 1) := by decide +kernel
theorem dL_919 : decode code 919 = .ok (.iadd, 1) := by decide +kernel
theorem dL_920 : decode code 920 = .ok (.iaload, 1) := by decide +kernel
theorem dL_921 : decode code 921 = .ok (.aload_n 0, 1) := by decide +kernel
theorem dL_922 : decode code 922 = .ok (.iload_n 3, 1) := by decide +kernel
theorem dL_923 : decode code 923 = .ok (.iconst 2, 1) := by decide +kernel
theorem dL_924 : decode code 924 = .ok (.iadd, 1) := by decide +kernel
theorem dL_925 : decode code 925 = .ok (.iaload, 1) := by decide +kernel
theorem dL_926 : decode code 926 = .ok (.invokevirtual 133, 3) := by decide +kernel
theorem dL_929 : decode code 929 = .ok (.if_icmp .eq 187, 3) := by decide +kernel
theorem dL_932 : decode code 932 = .ok (.iconst 0, 1) := by decide +kernel
theorem dL_933 : decode code 933 = .ok (.ireturn, 1) := by decide +kernel
theorem dL_934 : decode code 934 = .ok (.aload_n 1, 1) := by decide +kernel
theorem dL_935 : decode code 935 = .ok (.aload_n 0, 1) := by decide +kernel
theorem dL_936 : decode code 936 = .ok (.iload_n 3, 1) := by decide +kernel
theorem dL_937 : decode code 937 = .ok (.iconst 1, 1) := by decide +kernel
theorem dL_938 : decode code 938 = .ok (.iadd, 1) := by decide +kernel
theorem dL_939 : decode code 939 = .ok (.iaload, 1) := by decide +kernel
theorem dL_940 : decode code 940 = .ok (.aload_n 0, 1) := by decide +kernel
theorem dL_941 : decode code 941 = .ok (.iload_n 3, 1) := by decide +kernel
theorem dL_942 : decode code 942 = .ok (.iconst 2, 1) := by decide +kernel
theorem dL_943 : decode code 943 = .ok (.iadd, 1) := by decide +kernel
theorem dL_944 : decode code 944 = .ok (.iaload, 1) := by decide +kernel
theorem dL_945 : decode code 945 = .ok (.invokevirtual 134, 3) := by decide +kernel
theorem dL_948 : decode code 948 = .ok (.aload_n 2, 1) := by decide +kernel
theorem dL_949 : decode code 949 = .ok (.aload_n 0, 1) := by decide +kernel
theorem dL_950 : decode code 950 = .ok (.iload_n 3, 1) := by decide +kernel
theorem dL_951 : decode code 951 = .ok (.iconst 1, 1) := by decide +kernel
theorem dL_952 : decode code 952 = .ok (.iadd, 1) := by decide +kernel
theorem dL_953 : decode code 953 = .ok (.iaload, 1) := by decide +kernel
theorem dL_954 : decode code 954 = .ok (.aload_n 0, 1) := by decide +kernel
theorem dL_955 : decode code 955 = .ok (.iload_n 3, 1) := by decide +kernel
theorem dL_956 : decode code 956 = .ok (.iconst 2, 1) := by decide +kernel
theorem dL_957 : decode code 957 = .ok (.iadd, 1) := by decide +kernel
theorem dL_958 : decode code 958 = .ok (.iaload, 1) := by decide +kernel
theorem dL_959 : decode code 959 = .ok (.invokevirtual 137, 3) := by decide +kernel
theorem dL_962 : decode code 962 = .ok (.if_icmp .eq 154, 3) := by decide +kernel
theorem dL_965 : decode code 965 = .ok (.iconst 0, 1) := by decide +kernel
theorem dL_966 : decode code 966 = .ok (.ireturn, 1) := by decide +kernel
theorem dL_967 : decode code 967 = .ok (.aload_n 1, 1) := by decide +kernel
theorem dL_968 : decode code 968 = .ok (.aload_n 0, 1) := by decide +kernel
theorem dL_969 : decode code 969 = .ok (.iload_n 3, 1) := by decide +kernel
theorem dL_970 : decode code 970 = .ok (.iconst 1, 1) := by decide +kernel
theorem dL_971 : decode code 971 = .ok (.iadd, 1) := by decide +kernel
theorem dL_972 : decode code 972 = .ok (.iaload, 1) := by decide +kernel
theorem dL_973 : decode code 973 = .ok (.aload_n 0, 1) := by decide +kernel
theorem dL_974 : decode code 974 = .ok (.iload_n 3, 1) := by decide +kernel
theorem dL_975 : decode code 975 = .ok (.iconst 2, 1) := by decide +kernel
theorem dL_976 : decode code 976 = .ok (.iadd, 1) := by decide +kernel
theorem dL_977 : decode code 977 = .ok (.iaload, 1) := by decide +kernel
theorem dL_978 : decode code 978 = .ok (.aload_n 0, 1) := by decide +kernel
theorem dL_979 : decode code 979 = .ok (.iload_n 3, 1) := by decide +kernel
theorem dL_980 : decode code 980 = .ok (.iconst 3, 1) := by decide +kernel
theorem dL_981 : decode code 981 = .ok (.iadd, 1) := by decide +kernel
theorem dL_982 : decode code 982 = .ok (.iaload, 1) := by decide +kernel
theorem dL_983 : decode code 983 = .ok (.invokevirtual 138, 3) := by decide +kernel
theorem dL_986 : decode code 986 = .ok (.aload_n 2, 1) := by decide +kernel
theorem dL_987 : decode code 987 = .ok (.aload_n 0, 1) := by decide +kernel
theorem dL_988 : decode code 988 = .ok (.iload_n 3, 1) := by decide +kernel
theorem dL_989 : decode code 989 = .ok (.iconst 1, 1) := by decide +kernel
theorem dL_990 : decode code 990 = .ok (.iadd, 1) := by decide +kernel
theorem dL_991 : decode code 991 = .ok (.iaload, 1) := by decide +kernel
theorem dL_992 : decode code 992 = .ok (.aload_n 0, 1) := by decide +kernel
theorem dL_993 : decode code 993 = .ok (.iload_n 3, 1) := by decide +kernel
theorem dL_994 : decode code 994 = .ok (.iconst 2, 1) := by decide +kernel
theorem dL_995 : decode code 995 = .ok (.iadd, 1) := by decide +kernel
theorem dL_996 : decode code 996 = .ok (.iaload, 1) := by decide +kernel
theorem dL_997 : decode code 997 = .ok (.aload_n 0, 1) := by decide +kernel
theorem dL_998 : decode code 998 = .ok (.iload_n 3, 1) := by decide +kernel
theorem dL_999 : decode code 999 = .ok (.iconst 3, 1) := by decide +kernel
theorem dL_1000 : decode code 1000 = .ok (.iadd, 1) := by decide +kernel
theorem dL_1001 : decode code 1001 = .ok (.iaload, 1) := by decide +kernel
theorem dL_1002 : decode code 1002 = .ok (.invokevirtual 141, 3) := by decide +kernel
theorem dL_1005 : decode code 1005 = .ok (.if_icmp .eq 111, 3) := by decide +kernel
theorem dL_1008 : decode code 1008 = .ok (.iconst 0, 1) := by decide +kernel
theorem dL_1009 : decode code 1009 = .ok (.ireturn, 1) := by decide +kernel
theorem dL_1010 : decode code 1010 = .ok (.aload_n 1, 1) := by decide +kernel
theorem dL_1011 : decode code 1011 = .ok (.aload_n 0, 1) := by decide +kernel
theorem dL_1012 : decode code 1012 = .ok (.iload_n 3, 1) := by decide +kernel
theorem dL_1013 : decode code 1013 = .ok (.iconst 1, 1) := by decide +kernel
theorem dL_1014 : decode code 1014 = .ok (.iadd, 1) := by decide +kernel
theorem dL_1015 : decode code 1015 = .ok (.iaload, 1) := by decide +kernel
theorem dL_1016 : decode code 1016 = .ok (.invokevirtual 142, 3) := by decide +kernel
theorem dL_1019 : decode code 1019 = .ok (.aload_n 2, 1) := by decide +kernel
theorem dL_1020 : decode code 1020 = .ok (.aload_n 0, 1) := by decide +kernel
theorem dL_1021 : decode code 1021 = .ok (.iload_n 3, 1) := by decide +kernel
theorem dL_1022 : decode code 1022 = .ok (.iconst 1, 1) := by decide +kernel
theorem dL_1023 : decode code 1023 = .ok (.iadd, 1) := by decide +kernel
theorem dL_1024 : decode code 1024 = .ok (.iaload, 1) := by decide +kernel
theorem dL_1025 : decode code 1025 = .ok (.invokevirtual 145, 3) := by decide +kernel
theorem dL_1028 : decode code 1028 = .ok (.if_icmp .eq 88, 3) := by decide +kernel
theorem dL_1031 : decode code 1031 = .ok (.iconst 0, 1) := by decide +kernel
theorem dL_1032 : decode code 1032 = .ok (.ireturn, 1) := by decide +kernel
theorem dL_1033 : decode code 1033 = .ok (.aload_n 1, 1) := by decide +kernel
theorem dL_1034 : decode code 1034 = .ok (.aload_n 0, 1) := by decide +kernel
theorem dL_1035 : decode code 1035 = .ok (.iload_n 3, 1) := by decide +kernel
theorem dL_1036 : decode code 1036 = .ok (.iconst 1, 1) := by decide +kernel
theorem dL_1037 : decode code 1037 = .ok (.iadd, 1) := by decide +kernel
theorem dL_1038 : decode code 1038 = .ok (.iaload, 1) := by decide +kernel
theorem dL_1039 : decode code 1039 = .ok (.invokevirtual 146, 3) := by decide +kernel
theorem dL_1042 : decode code 1042 = .ok (.aload_n 2, 1) := by decide +kernel
theorem dL_1043 : decode code 1043 = .ok (.aload_n 0, 1) := by decide +kernel
theorem dL_1044 : decode code 1044 = .ok (.iload_n 3, 1) := by decide +kernel
theorem dL_1045 : decode code 1045 = .ok (.iconst 1, 1) := by decide +kernel
theorem dL_1046 : decode code 1046 = .ok (.iadd, 1) := by decide +kernel
theorem dL_1047 : decode code 1047 = .ok (.iaload, 1) := by decide +kernel
theorem dL_1048 : decode code 1048 = .ok (.invokevirtual 149, 3) := by decide +kernel
theorem dL_1051 : decode code 1051 = .ok (.if_icmp .eq 65, 3) := by decide +kernel
theorem dL_1054 : decode code 1054 = .ok (.iconst 0, 1) := by decide +kernel
theorem dL_1055 : decode code 1055 = .ok (.ireturn, 1) := by decide +kernel
theorem dL_1056 : decode code 1056 = .ok (.aload_n 1, 1) := by decide +kernel
theorem dL_1057 : decode code 1057 = .ok (.aload_n 0, 1) := by decide +kernel
theorem dL_1058 : decode code 1058 = .ok (.iload_n 3, 1) := by decide +kernel
theorem dL_1059 : decode code 1059 = .ok (.iconst 1, 1) := by decide +kernel
theorem dL_1060 : decode code 1060 = .ok (.iadd, 1) := by decide +kernel
theorem dL_1061 : decode code 1061 = .ok (.iaload, 1) := by decide +kernel
theorem dL_1062 : decode code 1062 = .ok (.invokevirtual 150, 3) := by decide +kernel
theorem dL_1065 : decode code 1065 = .ok (.aload_n 2, 1) := by decide +kernel
theorem dL_1066 : decode code 1066 = .ok (.aload_n 0, 1) := by decide +kernel
theorem dL_1067 : decode code 1067 = .ok (.iload_n 3, 1) := by decide +kernel
theorem dL_1068 : decode code 1068 = .ok (.iconst 1, 1) := by decide +kernel
theorem dL_1069 : decode code 1069 = .ok (.iadd, 1) := by decide +kernel
theorem dL_1070 : decode code 1070 = .ok (.iaload, 1) := by decide +kernel
theorem dL_1071 : decode code 1071 = .ok (.invokevirtual 153, 3) := by decide +kernel
theorem dL_1074 : decode code 1074 = .ok (.if_icmp .eq 42, 3) := by decide +kernel
theorem dL_1077 : decode code 1077 = .ok (.iconst 0, 1) := by decide +kernel
theorem dL_1078 : decode code 1078 = .ok (.ireturn, 1) := by decide +kernel
theorem dL_1079 : decode code 1079 = .ok (.aload_n 1, 1) := by decide +kernel
theorem dL_1080 : decode code 1080 = .ok (.aload_n 0, 1) := by decide +kernel
theorem dL_1081 : decode code 1081 = .ok (.iload_n 3, 1) := by decide +kernel
theorem dL_1082 : decode code 1082 = .ok (.iconst 1, 1) := by decide +kernel
theorem dL_1083 : decode code 1083 = .ok (.iadd, 1) := by decide +kernel
theorem dL_1084 : decode code 1084 = .ok (.iaload, 1) := by decide +kernel
theorem dL_1085 : decode code 1085 = .ok (.invokevirtual 154, 3) := by decide +kernel
theorem dL_1088 : decode code 1088 = .ok (.aload_n 2, 1) := by decide +kernel
theorem dL_1089 : decode code 1089 = .ok (.aload_n 0, 1) := by decide +kernel
theorem dL_1090 : decode code 1090 = .ok (.iload_n 3, 1) := by decide +kernel
theorem dL_1091 : decode code 1091 = .ok (.iconst 1, 1) := by decide +kernel
theorem dL_1092 : decode code 1092 = .ok (.iadd, 1) := by decide +kernel
theorem dL_1093 : decode code 1093 = .ok (.iaload, 1) := by decide +kernel
theorem dL_1094 : decode code 1094 = .ok (.invokevirtual 157, 3) := by decide +kernel
theorem dL_1097 : decode code 1097 = .ok (.if_icmp .eq 19, 3) := by decide +kernel
theorem dL_1100 : decode code 1100 = .ok (.iconst 0, 1) := by decide +kernel
theorem dL_1101 : decode code 1101 = .ok (.ireturn, 1) := by decide +kernel
theorem dL_1102 : decode code 1102 = .ok (.aload_n 1, 1) := by decide +kernel
theorem dL_1103 : decode code 1103 = .ok (.invokevirtual 158, 3) := by decide +kernel
theorem dL_1106 : decode code 1106 = .ok (.aload_n 2, 1) := by decide +kernel
theorem dL_1107 : decode code 1107 = .ok (.invokevirtual 162, 3) := by decide +kernel
theorem dL_1110 : decode code 1110 = .ok (.lcmp, 1) := by decide +kernel
theorem dL_1111 : decode code 1111 = .ok (.ifCond .eq 5, 3) := by decide +kernel
theorem dL_1114 : decode code 1114 = .ok (.iconst 0, 1) := by decide +kernel
theorem dL_1115 : decode code 1115 = .ok (.ireturn, 1) := by decide +kernel
theorem dL_1116 : decode code 1116 = .ok (.iinc 3 4, 3) := by decide +kernel
theorem dL_1119 : decode code 1119 = .ok (.goto (-1101), 3) := by decide +kernel
theorem dL_1122 : decode code 1122 = .ok (.iconst 1, 1) := by decide +kernel
theorem dL_1123 : decode code 1123 = .ok (.ireturn, 1) := by decide +kernel
abbrev kL : MD := (⟨RL, "law", "([I)Z"⟩, code, 4, ret)
/-- the script -/
def SX (E : EV) (b N : Nat) (xs : Nat → Int32) (args : Array Value) (s : State) : Prop := args = #[Value.ref b] ∧ va_X b N xs s s.heap ∧ b < s.heap.size ∧ s.heap.size = E.2.2.2.2.2 ∧ eAd E 2000 = b
def QL (E : EV) (b N : Nat) (xs : Nat → Int32) : List Frame → Array Value → State → State → Prop := fun below args s t => SX E b N xs args s → lw_Z below args s t
theorem QL.assume {E : EV} {b N : Nat} {xs : Nat → Int32} {p : Program} {l : Launch} {e : Env} {R : Room} {s : State} {m : MethodId} {args : Array Value} {below : List Frame} {meth : Method} {c : Code} {H : Heap} {locs : List Loc} {ce sl : Nat} {g : JFrame} (h : SX E b N xs args s → W p l e R s m args below meth c H locs ce sl (QL E b N xs below args s) g) : W p l e R s m args below meth c H locs ce sl (QL E b N xs below args s) g := by
  by_cases hx : SX E b N xs args s
  · exact h hx
  · exact fun T hT X => ⟨_, Steps.refl _, fun h9 => absurd h9 hx⟩
def LL (j : Nat) : List (Option Value) := [some (.ref 2000), some (.ref 0), some (.ref 74), some (.int (nI j))]
section LAW
variable {E : EV} {b N : Nat} {xs : Nat → Int32} {pc : Nat} {L : List (Option Value)} {st : List Value} {w : KS}
theorem GK.sld {k : MD} {i : Int32} (hd : decode k.2.1 pc = .ok (.iaload, 1)) (hin : vp_in i N) (kk : GK E room_1 (QL E b N xs) k (pc + 1) L (.int (xs i.toNatClampNeg) :: st) w) : GK E room_1 (QL E b N xs) k pc L (.int i :: .ref 2000 :: st) w := by
  intro p e s m args below meth c H locs ls C hk hP hS hl
  refine QL.assume fun hX => ?_
  obtain ⟨x0, x1, x2, x3, x4⟩ := hX
  have e1 : ((.int i :: .ref 2000 :: st : List Value).map (tv E)) = .int i :: .ref b :: st.map (tv E) := by
    show Value.int i :: Value.ref (eAd E 2000) :: _ = _
    rw [x4]
  rw [e1]
  exact va_sld C.1 C.2.1 x1 x2 (fun h => by have h2 : E.2.2.2.2.2 ≤ b := h; omega) hS hin hd (kk p e s m args below meth c H locs ls C hk hP hS hl)
theorem GK.slen {k : MD} (hd : decode k.2.1 pc = .ok (.arraylength, 1)) (kk : GK E room_1 (QL E b N xs) k (pc + 1) L (.int (nI N) :: st) w) : GK E room_1 (QL E b N xs) k pc L (.ref 2000 :: st) w := by
  intro p e s m args below meth c H locs ls C hk hP hS hl
  refine QL.assume fun hX => ?_
  obtain ⟨x0, x1, x2, x3, x4⟩ := hX
  have e1 : ((.ref 2000 :: st : List Value).map (tv E)) = .ref b :: st.map (tv E) := by
    show Value.ref (eAd E 2000) :: _ = _
    rw [x4]
  rw [e1]
  exact va_slen C.1 C.2.1 x1 x2 (fun h => by have h2 : E.2.2.2.2.2 ≤ b := h; omega) hS hd (kk p e s m args below meth c H locs ls C hk hP hS hl)
theorem GK.lend (hd : decode code pc = .ok (.ireturn, 1)) (h1 : w.1 ≤ 600000) (h2 : w.2.1 ≤ 7302250) : GK E room_1 (QL E b N xs) kL pc L [.int 1] w := by
  intro p e s m args below meth c H locs ls C hk hP hS hl
  refine QL.assume fun hX => ?_
  obtain ⟨x0, x1, x2, x3, x4⟩ := hX
  subst x0
  refine va_forget (fun q hq => by have h9 : E.2.2.2.2.2 ≤ q.base := hS.2.2 q hq; omega) ?_
  refine W.widen h1 h2 ?_
  intro T hT X
  obtain ⟨t, a1, b1⟩ := lw_ret (l := E.1) (H := H) (ls := ls) C.1 C.2.1 C.2.2.1 C.2.2.2.2.2.1 hd T hT X
  exact ⟨t, a1, fun _ => b1⟩
theorem GK.bz {k : MD} {R : Room} {QQ : List Frame → Array Value → State → State → Prop} {x : Int32} (d1 : decode k.2.1 pc = .ok (.ifCond .eq 7, 3)) (d2 : decode k.2.1 (pc + 3) = .ok (.iconst 1, 1)) (d3 : decode k.2.1 (pc + 3 + 1) = .ok (.goto 4, 3)) (d4 : decode k.2.1 (pc + 7) = .ok (.iconst 0, 1)) (kk : GK E R QQ k (pc + 8) L (.int (b2i (!(decide (x = 0)))) :: st) w) : GK E R QQ k pc L (.int x :: st) w := by
  refine GK.if_eq (tgt := pc + 7) d1 (by omega) (fun h => ?_) (fun h => ?_)
  · refine GK.iconst (v := 0) d4 (by decide) ?_
    have e : b2i (!(decide (x = 0))) = 0 := by rw [h]; rfl
    rw [e] at kk
    exact kk
  · refine GK.iconst (v := 1) d2 (by decide) ?_
    refine GK.goto (tgt := pc + 8) d3 (by omega) ?_
    have e : b2i (!(decide (x = 0))) = 1 := by rw [decide_eq_false h]; rfl
    rw [e] at kk
    exact kk
/-- an int of the script -/
theorem GK.arg {j : Nat} (q : Nat) {kq : Int} (d1 : decode code pc = .ok (.aload_n 0, 1)) (d2 : decode code (pc + 1) = .ok (.iload_n 3, 1)) (d3 : decode code (pc + 1 + 1) = .ok (.iconst kq, 1)) (d4 : decode code (pc + 1 + 1 + 1) = .ok (.iadd, 1)) (d5 : decode code (pc + 1 + 1 + 1 + 1) = .ok (.iaload, 1)) (hk : Int32.ofInt kq = nI q) (hj : j + q < N) (hN : N < 2 ^ 31) (kk : GK E room_1 (QL E b N xs) kL (pc + 5) (LL j) (.int (xs (j + q)) :: st) w) : GK E room_1 (QL E b N xs) kL pc (LL j) st w := by
  refine GK.aload_n d1 rfl rfl ?_
  refine GK.iload_n d2 rfl rfl ?_
  refine GK.iconst d3 hk ?_
  refine GK.iadd d4 ?_
  refine GK.sld d5 (by rw [nI_add]; exact vp_in_nI hj hN) ?_
  rw [nI_add, nI_clamp (by omega)]
  exact kk
variable {ce sl T j : Nat} {F : KF} {I : Mem}
theorem lc_0 (hF : FE F) (h1 : ce ≤ 600000) (h2 : sl ≤ 7302250) (hS : Sim T I) (hT : T ≤ 600) (hj : j + 4 ≤ N) (hN : N < 2 ^ 31) (kk : ∀ K, Sim (T + 1) K → GK E room_1 (QL E b N xs) kL 1116 (LL j) [] (ce, sl, 85, F, K)) : GK E room_1 (QL E b N xs) kL 188 (LL j) [] (ce, sl, 85, F, I) := by
  obtain ⟨v, J, K, f1, f2, f3⟩ := ok_rooms hS (xs (j + 1))
  refine GK.aload_n dL_188 rfl rfl ?_
  refine GK.arg 1 dL_189 dL_190 dL_191 dL_192 dL_193 (by decide) (by omega) hN ?_
  refine GK.callV (d := 0 + 2) (v := some (.int v)) (av := [.int (xs (j + 1))]) (rest := []) hF dL_194 mvL_13 (gX11_rooms E 0 _ _ f1) (by decide) rfl rfl rfl (by decide) (by decide) h1 h2 (Nat.le_of_ble_eq_true rfl) ?_
  refine GK.aload_n dL_197 rfl rfl ?_
  refine GK.arg 1 dL_198 dL_199 dL_200 dL_201 dL_202 (by decide) (by omega) hN ?_
  refine GK.callV (d := 0 + 2) (v := some (.int v)) (av := [.int (xs (j + 1))]) (rest := [.int v]) hF dL_203 mvL_17 (gX12_rooms E 0 _ _ f2) (by decide) rfl rfl rfl (by decide) (by decide) h1 h2 (Nat.le_of_ble_eq_true rfl) ?_
  exact GK.icmp_eq (tgt := 1116) dL_206 (by decide) (fun _ => kk _ f3) (fun h => absurd rfl h)
theorem lc_1 (hF : FE F) (h1 : ce ≤ 600000) (h2 : sl ≤ 7302250) (hS : Sim T I) (hT : T ≤ 600) (hj : j + 4 ≤ N) (hN : N < 2 ^ 31) (kk : ∀ K, Sim (T + 1) K → GK E room_1 (QL E b N xs) kL 1116 (LL j) [] (ce, sl, 85, F, K)) : GK E room_1 (QL E b N xs) kL 211 (LL j) [] (ce, sl, 85, F, I) := by
  obtain ⟨v, J, K, f1, f2, f3⟩ := ok_door hS (xs (j + 1)) (xs (j + 2)) (!(decide ((xs (j + 3)) = 0)))
  refine GK.aload_n dL_211 rfl rfl ?_
  refine GK.arg 1 dL_212 dL_213 dL_214 dL_215 dL_216 (by decide) (by omega) hN ?_
  refine GK.arg 2 dL_217 dL_218 dL_219 dL_220 dL_221 (by decide) (by omega) hN ?_
  refine GK.arg 3 dL_222 dL_223 dL_224 dL_225 dL_226 (by decide) (by omega) hN ?_
  refine GK.bz dL_227 dL_230 dL_231 dL_234 ?_
  refine GK.callV (d := 0 + 1) (v := some (.int v)) (av := [.int (xs (j + 1)), .int (xs (j + 2)), .int (b2i (!(decide ((xs (j + 3)) = 0))))]) (rest := []) hF dL_235 mvL_18 (gX11_door E 0 _ _ _ _ f1) (by decide) rfl rfl rfl (by decide) (by decide) h1 h2 (Nat.le_of_ble_eq_true rfl) ?_
  refine GK.aload_n dL_238 rfl rfl ?_
  refine GK.arg 1 dL_239 dL_240 dL_241 dL_242 dL_243 (by decide) (by omega) hN ?_
  refine GK.arg 2 dL_244 dL_245 dL_246 dL_247 dL_248 (by decide) (by omega) hN ?_
  refine GK.arg 3 dL_249 dL_250 dL_251 dL_252 dL_253 (by decide) (by omega) hN ?_
  refine GK.bz dL_254 dL_257 dL_258 dL_261 ?_
  refine GK.callV (d := 0 + 2) (v := some (.int v)) (av := [.int (xs (j + 1)), .int (xs (j + 2)), .int (b2i (!(decide ((xs (j + 3)) = 0))))]) (rest := [.int v]) hF dL_262 mvL_22 (gX12_door E 0 _ _ _ _ f2) (by decide) rfl rfl rfl (by decide) (by decide) h1 h2 (Nat.le_of_ble_eq_true rfl) ?_
  exact GK.icmp_eq (tgt := 1116) dL_265 (by decide) (fun _ => kk _ f3) (fun h => absurd rfl h)
theorem lc_2 (hF : FE F) (h1 : ce ≤ 600000) (h2 : sl ≤ 7302250) (hS : Sim T I) (hT : T ≤ 600) (hj : j + 4 ≤ N) (hN : N < 2 ^ 31) (kk : ∀ K, Sim (T + 1) K → GK E room_1 (QL E b N xs) kL 1116 (LL j) [] (ce, sl, 85, F, K)) : GK E room_1 (QL E b N xs) kL 270 (LL j) [] (ce, sl, 85, F, I) := by
  obtain ⟨v, J, K, f1, f2, f3⟩ := ok_cat hS (xs (j + 1)) (b2i (!(decide ((xs (j + 2)) = 0))))
  refine GK.aload_n dL_270 rfl rfl ?_
  refine GK.arg 1 dL_271 dL_272 dL_273 dL_274 dL_275 (by decide) (by omega) hN ?_
  refine GK.arg 2 dL_276 dL_277 dL_278 dL_279 dL_280 (by decide) (by omega) hN ?_
  refine GK.bz dL_281 dL_284 dL_285 dL_288 ?_
  refine GK.callV (d := 0 + 1) (v := some (.int v)) (av := [.int (xs (j + 1)), .int (b2i (!(decide ((xs (j + 2)) = 0))))]) (rest := []) hF dL_289 mvL_23 (gX11_cat E 0 _ _ _ f1) (by decide) rfl rfl rfl (by decide) (by decide) h1 h2 (Nat.le_of_ble_eq_true rfl) ?_
  refine GK.aload_n dL_292 rfl rfl ?_
  refine GK.arg 1 dL_293 dL_294 dL_295 dL_296 dL_297 (by decide) (by omega) hN ?_
  refine GK.arg 2 dL_298 dL_299 dL_300 dL_301 dL_302 (by decide) (by omega) hN ?_
  refine GK.bz dL_303 dL_306 dL_307 dL_310 ?_
  refine GK.callV (d := 0 + 2) (v := some (.int v)) (av := [.int (xs (j + 1)), .int (b2i (!(decide ((xs (j + 2)) = 0))))]) (rest := [.int v]) hF dL_311 mvL_27 (gX12_cat E 0 _ _ _ f2) (by decide) rfl rfl rfl (by decide) (by decide) h1 h2 (Nat.le_of_ble_eq_true rfl) ?_
  exact GK.icmp_eq (tgt := 1116) dL_314 (by decide) (fun _ => kk _ f3) (fun h => absurd rfl h)
theorem lc_3 (hF : FE F) (h1 : ce ≤ 600000) (h2 : sl ≤ 7302250) (hS : Sim T I) (hT : T ≤ 600) (hj : j + 4 ≤ N) (hN : N < 2 ^ 31) (kk : ∀ K, Sim (T + 1) K → GK E room_1 (QL E b N xs) kL 1116 (LL j) [] (ce, sl, 85, F, K)) : GK E room_1 (QL E b N xs) kL 319 (LL j) [] (ce, sl, 85, F, I) := by
  obtain ⟨v, J, K, f1, f2, f3⟩ := ok_lay hS (xs (j + 1)) (xs (j + 2))
  refine GK.aload_n dL_319 rfl rfl ?_
  refine GK.arg 1 dL_320 dL_321 dL_322 dL_323 dL_324 (by decide) (by omega) hN ?_
  refine GK.arg 2 dL_325 dL_326 dL_327 dL_328 dL_329 (by decide) (by omega) hN ?_
  refine GK.callV (d := 0 + 1) (v := some (.int v)) (av := [.int (xs (j + 1)), .int (xs (j + 2))]) (rest := []) hF dL_330 mvL_28 (gX11_lay E 0 _ _ _ f1) (by decide) rfl rfl rfl (by decide) (by decide) h1 h2 (Nat.le_of_ble_eq_true rfl) ?_
  refine GK.aload_n dL_333 rfl rfl ?_
  refine GK.arg 1 dL_334 dL_335 dL_336 dL_337 dL_338 (by decide) (by omega) hN ?_
  refine GK.arg 2 dL_339 dL_340 dL_341 dL_342 dL_343 (by decide) (by omega) hN ?_
  refine GK.callV (d := 0 + 2) (v := some (.int v)) (av := [.int (xs (j + 1)), .int (xs (j + 2))]) (rest := [.int v]) hF dL_344 mvL_32 (gX12_lay E 0 _ _ _ f2) (by decide) rfl rfl rfl (by decide) (by decide) h1 h2 (Nat.le_of_ble_eq_true rfl) ?_
  exact GK.icmp_eq (tgt := 1116) dL_347 (by decide) (fun _ => kk _ f3) (fun h => absurd rfl h)
theorem lc_4 (hF : FE F) (h1 : ce ≤ 600000) (h2 : sl ≤ 7302250) (hS : Sim T I) (hT : T ≤ 600) (hj : j + 4 ≤ N) (hN : N < 2 ^ 31) (kk : ∀ K, Sim (T + 1) K → GK E room_1 (QL E b N xs) kL 1116 (LL j) [] (ce, sl, 85, F, K)) : GK E room_1 (QL E b N xs) kL 352 (LL j) [] (ce, sl, 85, F, I) := by
  obtain ⟨v, J, K, f1, f2, f3⟩ := ok_person hS (xs (j + 1))
  refine GK.aload_n dL_352 rfl rfl ?_
  refine GK.arg 1 dL_353 dL_354 dL_355 dL_356 dL_357 (by decide) (by omega) hN ?_
  refine GK.callV (d := 0 + 1) (v := some (.int v)) (av := [.int (xs (j + 1))]) (rest := []) hF dL_358 mvL_33 (gX11_person E 0 _ _ f1) (by decide) rfl rfl rfl (by decide) (by decide) h1 h2 (Nat.le_of_ble_eq_true rfl) ?_
  refine GK.aload_n dL_361 rfl rfl ?_
  refine GK.arg 1 dL_362 dL_363 dL_364 dL_365 dL_366 (by decide) (by omega) hN ?_
  refine GK.callV (d := 0 + 2) (v := some (.int v)) (av := [.int (xs (j + 1))]) (rest := [.int v]) hF dL_367 mvL_36 (gX12_person E 0 _ _ f2) (by decide) rfl rfl rfl (by decide) (by decide) h1 h2 (Nat.le_of_ble_eq_true rfl) ?_
  exact GK.icmp_eq (tgt := 1116) dL_370 (by decide) (fun _ => kk _ f3) (fun h => absurd rfl h)
theorem lc_5 (hF : FE F) (h1 : ce ≤ 600000) (h2 : sl ≤ 7302250) (hS : Sim T I) (hT : T ≤ 600) (hj : j + 4 ≤ N) (hN : N < 2 ^ 31) (kk : ∀ K, Sim (T + 1) K → GK E room_1 (QL E b N xs) kL 1116 (LL j) [] (ce, sl, 85, F, K)) : GK E room_1 (QL E b N xs) kL 375 (LL j) [] (ce, sl, 85, F, I) := by
  obtain ⟨v, J, K, f1, f2, f3⟩ := ok_law hS (xs (j + 1))
  refine GK.aload_n dL_375 rfl rfl ?_
  refine GK.arg 1 dL_376 dL_377 dL_378 dL_379 dL_380 (by decide) (by omega) hN ?_
  refine GK.callV (d := 0 + 1) (v := some (.int v)) (av := [.int (xs (j + 1))]) (rest := []) hF dL_381 mvL_37 (gX11_law E 0 _ _ f1) (by decide) rfl rfl rfl (by decide) (by decide) h1 h2 (Nat.le_of_ble_eq_true rfl) ?_
  refine GK.aload_n dL_384 rfl rfl ?_
  refine GK.arg 1 dL_385 dL_386 dL_387 dL_388 dL_389 (by decide) (by omega) hN ?_
  refine GK.callV (d := 0 + 1) (v := some (.int v)) (av := [.int (xs (j + 1))]) (rest := [.int v]) hF dL_390 mvL_40 (gX12_law E 0 _ _ f2) (by decide) rfl rfl rfl (by decide) (by decide) h1 h2 (Nat.le_of_ble_eq_true rfl) ?_
  exact GK.icmp_eq (tgt := 1116) dL_393 (by decide) (fun _ => kk _ f3) (fun h => absurd rfl h)
theorem lc_6 (hF : FE F) (h1 : ce ≤ 600000) (h2 : sl ≤ 7302250) (hS : Sim T I) (hT : T ≤ 600) (hj : j + 4 ≤ N) (hN : N < 2 ^ 31) (kk : ∀ K, Sim (T + 1) K → GK E room_1 (QL E b N xs) kL 1116 (LL j) [] (ce, sl, 85, F, K)) : GK E room_1 (QL E b N xs) kL 398 (LL j) [] (ce, sl, 85, F, I) := by
  obtain ⟨v, J, K, f1, f2, f3⟩ := ok_wish hS (xs (j + 1)) (xs (j + 2)) (xs (j + 3))
  refine GK.aload_n dL_398 rfl rfl ?_
  refine GK.arg 1 dL_399 dL_400 dL_401 dL_402 dL_403 (by decide) (by omega) hN ?_
  refine GK.arg 2 dL_404 dL_405 dL_406 dL_407 dL_408 (by decide) (by omega) hN ?_
  refine GK.arg 3 dL_409 dL_410 dL_411 dL_412 dL_413 (by decide) (by omega) hN ?_
  refine GK.callV (d := 0 + 1) (v := some (.int v)) (av := [.int (xs (j + 1)), .int (xs (j + 2)), .int (xs (j + 3))]) (rest := []) hF dL_414 mvL_41 (gX11_wish E 0 _ _ _ _ f1) (by decide) rfl rfl rfl (by decide) (by decide) h1 h2 (Nat.le_of_ble_eq_true rfl) ?_
  refine GK.aload_n dL_417 rfl rfl ?_
  refine GK.arg 1 dL_418 dL_419 dL_420 dL_421 dL_422 (by decide) (by omega) hN ?_
  refine GK.arg 2 dL_423 dL_424 dL_425 dL_426 dL_427 (by decide) (by omega) hN ?_
  refine GK.arg 3 dL_428 dL_429 dL_430 dL_431 dL_432 (by decide) (by omega) hN ?_
  refine GK.callV (d := 0 + 2) (v := some (.int v)) (av := [.int (xs (j + 1)), .int (xs (j + 2)), .int (xs (j + 3))]) (rest := [.int v]) hF dL_433 mvL_45 (gX12_wish E 0 _ _ _ _ f2) (by decide) rfl rfl rfl (by decide) (by decide) h1 h2 (Nat.le_of_ble_eq_true rfl) ?_
  exact GK.icmp_eq (tgt := 1116) dL_436 (by decide) (fun _ => kk _ f3) (fun h => absurd rfl h)
theorem lc_7 (hF : FE F) (h1 : ce ≤ 600000) (h2 : sl ≤ 7302250) (hS : Sim T I) (hT : T ≤ 600) (hj : j + 4 ≤ N) (hN : N < 2 ^ 31) (kk : ∀ K, Sim (T + 1) K → GK E room_1 (QL E b N xs) kL 1116 (LL j) [] (ce, sl, 85, F, K)) : GK E room_1 (QL E b N xs) kL 441 (LL j) [] (ce, sl, 85, F, I) := by
  obtain ⟨v, J, K, f1, f2, f3⟩ := ok_type hS ((((xs (j + 1)).toInt64) <<< (((32 : Int32)).toInt64 &&& 63)) ||| (((xs (j + 2)).toInt64) &&& (4294967295))) (xs (j + 3))
  refine GK.aload_n dL_441 rfl rfl ?_
  refine GK.arg 1 dL_442 dL_443 dL_444 dL_445 dL_446 (by decide) (by omega) hN ?_
  refine GK.i2l dL_447 ?_
  refine GK.bipush (v := 32) dL_448 (by decide) ?_
  refine GK.lshl dL_450 ?_
  refine GK.arg 2 dL_451 dL_452 dL_453 dL_454 dL_455 (by decide) (by omega) hN ?_
  refine GK.i2l dL_456 ?_
  refine GK.ldc2 dL_457 kcL_46 ?_
  refine GK.land dL_460 ?_
  refine GK.lor dL_461 ?_
  refine GK.arg 3 dL_462 dL_463 dL_464 dL_465 dL_466 (by decide) (by omega) hN ?_
  refine GK.callV (d := 0 + 1) (v := some (.int v)) (av := [.long ((((xs (j + 1)).toInt64) <<< (((32 : Int32)).toInt64 &&& 63)) ||| (((xs (j + 2)).toInt64) &&& (4294967295))), .int (xs (j + 3))]) (rest := []) hF dL_467 mvL_48 (gX11_type E 0 _ _ _ f1) (by decide) rfl rfl rfl (by decide) (by decide) h1 h2 (Nat.le_of_ble_eq_true rfl) ?_
  refine GK.aload_n dL_470 rfl rfl ?_
  refine GK.arg 1 dL_471 dL_472 dL_473 dL_474 dL_475 (by decide) (by omega) hN ?_
  refine GK.i2l dL_476 ?_
  refine GK.bipush (v := 32) dL_477 (by decide) ?_
  refine GK.lshl dL_479 ?_
  refine GK.arg 2 dL_480 dL_481 dL_482 dL_483 dL_484 (by decide) (by omega) hN ?_
  refine GK.i2l dL_485 ?_
  refine GK.ldc2 dL_486 kcL_46 ?_
  refine GK.land dL_489 ?_
  refine GK.lor dL_490 ?_
  refine GK.arg 3 dL_491 dL_492 dL_493 dL_494 dL_495 (by decide) (by omega) hN ?_
  refine GK.callV (d := 0 + 1) (v := some (.int v)) (av := [.long ((((xs (j + 1)).toInt64) <<< (((32 : Int32)).toInt64 &&& 63)) ||| (((xs (j + 2)).toInt64) &&& (4294967295))), .int (xs (j + 3))]) (rest := [.int v]) hF dL_496 mvL_52 (gX12_type E 0 _ _ _ f2) (by decide) rfl rfl rfl (by decide) (by decide) h1 h2 (Nat.le_of_ble_eq_true rfl) ?_
  exact GK.icmp_eq (tgt := 1116) dL_499 (by decide) (fun _ => kk _ f3) (fun h => absurd rfl h)
theorem lc_8 (hF : FE F) (h1 : ce ≤ 600000) (h2 : sl ≤ 7302250) (hS : Sim T I) (hT : T ≤ 600) (hj : j + 4 ≤ N) (hN : N < 2 ^ 31) (kk : ∀ K, Sim (T + 1) K → GK E room_1 (QL E b N xs) kL 1116 (LL j) [] (ce, sl, 85, F, K)) : GK E room_1 (QL E b N xs) kL 504 (LL j) [] (ce, sl, 85, F, I) := by
  obtain ⟨v, J, K, f1, f2, f3⟩ := ok_clear hS 
  refine GK.aload_n dL_504 rfl rfl ?_
  refine GK.callV (d := 0 + 0) (v := some (.int v)) (av := []) (rest := []) hF dL_505 mvL_53 (gX11_clear E 0 _ f1) (by decide) rfl rfl rfl (by decide) (by decide) h1 h2 (Nat.le_of_ble_eq_true rfl) ?_
  refine GK.aload_n dL_508 rfl rfl ?_
  refine GK.callV (d := 0 + 0) (v := some (.int v)) (av := []) (rest := [.int v]) hF dL_509 mvL_57 (gX12_clear E 0 _ f2) (by decide) rfl rfl rfl (by decide) (by decide) h1 h2 (Nat.le_of_ble_eq_true rfl) ?_
  exact GK.icmp_eq (tgt := 1116) dL_512 (by decide) (fun _ => kk _ f3) (fun h => absurd rfl h)
theorem lc_9 (hF : FE F) (h1 : ce ≤ 600000) (h2 : sl ≤ 7302250) (hS : Sim T I) (hT : T ≤ 600) (hj : j + 4 ≤ N) (hN : N < 2 ^ 31) (kk : ∀ K, Sim (T + 1) K → GK E room_1 (QL E b N xs) kL 1116 (LL j) [] (ce, sl, 85, F, K)) : GK E room_1 (QL E b N xs) kL 517 (LL j) [] (ce, sl, 85, F, I) := by
  obtain ⟨v, J, K, f1, f2, f3⟩ := ok_read hS 
  refine GK.aload_n dL_517 rfl rfl ?_
  refine GK.callV (d := 0 + 10) (v := some (.int v)) (av := []) (rest := []) hF dL_518 mvL_58 (gX11_read E 0 _ f1) (by decide) rfl rfl rfl (by decide) (by decide) h1 h2 (Nat.le_of_ble_eq_true rfl) ?_
  refine GK.aload_n dL_521 rfl rfl ?_
  refine GK.callV (d := 0 + 6) (v := some (.int v)) (av := []) (rest := [.int v]) hF dL_522 mvL_61 (gX12_read E 0 _ f2) (by decide) rfl rfl rfl (by decide) (by decide) h1 h2 (Nat.le_of_ble_eq_true rfl) ?_
  exact GK.icmp_eq (tgt := 1116) dL_525 (by decide) (fun _ => kk _ f3) (fun h => absurd rfl h)
theorem lc_10 (hF : FE F) (h1 : ce ≤ 600000) (h2 : sl ≤ 7302250) (hS : Sim T I) (hT : T ≤ 600) (hj : j + 4 ≤ N) (hN : N < 2 ^ 31) (kk : ∀ K, Sim (T + 1) K → GK E room_1 (QL E b N xs) kL 1116 (LL j) [] (ce, sl, 85, F, K)) : GK E room_1 (QL E b N xs) kL 530 (LL j) [] (ce, sl, 85, F, I) := by
  obtain ⟨v, J, K, f1, f2, f3⟩ := ok_beat hS (show T ≤ 1000 by omega) (xs (j + 1))
  refine GK.aload_n dL_530 rfl rfl ?_
  refine GK.arg 1 dL_531 dL_532 dL_533 dL_534 dL_535 (by decide) (by omega) hN ?_
  refine GK.callV (d := 0 + 4) (v := some (.int v)) (av := [.int (xs (j + 1))]) (rest := []) hF dL_536 mvL_62 (gX11_beat E 0 _ _ f1) (by decide) rfl rfl rfl (by decide) (by decide) h1 h2 (Nat.le_of_ble_eq_true rfl) ?_
  refine GK.aload_n dL_539 rfl rfl ?_
  refine GK.arg 1 dL_540 dL_541 dL_542 dL_543 dL_544 (by decide) (by omega) hN ?_
  refine GK.callV (d := 0 + 4) (v := some (.int v)) (av := [.int (xs (j + 1))]) (rest := [.int v]) hF dL_545 mvL_65 (gX12_beat E 0 _ _ f2) (by decide) rfl rfl rfl (by decide) (by decide) h1 h2 (Nat.le_of_ble_eq_true rfl) ?_
  exact GK.icmp_eq (tgt := 1116) dL_548 (by decide) (fun _ => kk _ f3) (fun h => absurd rfl h)
theorem lc_11 (hF : FE F) (h1 : ce ≤ 600000) (h2 : sl ≤ 7302250) (hS : Sim T I) (hT : T ≤ 600) (hj : j + 4 ≤ N) (hN : N < 2 ^ 31) (kk : ∀ K, Sim (T + 1) K → GK E room_1 (QL E b N xs) kL 1116 (LL j) [] (ce, sl, 85, F, K)) : GK E room_1 (QL E b N xs) kL 553 (LL j) [] (ce, sl, 85, F, I) := by
  obtain ⟨v, J, K, f1, f2, f3⟩ := ok_undo hS 
  refine GK.aload_n dL_553 rfl rfl ?_
  refine GK.callV (d := 0 + 2) (v := some (.int v)) (av := []) (rest := []) hF dL_554 mvL_66 (gX11_undo E 0 _ f1) (by decide) rfl rfl rfl (by decide) (by decide) h1 h2 (Nat.le_of_ble_eq_true rfl) ?_
  refine GK.aload_n dL_557 rfl rfl ?_
  refine GK.callV (d := 0 + 1) (v := some (.int v)) (av := []) (rest := [.int v]) hF dL_558 mvL_69 (gX12_undo E 0 _ f2) (by decide) rfl rfl rfl (by decide) (by decide) h1 h2 (Nat.le_of_ble_eq_true rfl) ?_
  exact GK.icmp_eq (tgt := 1116) dL_561 (by decide) (fun _ => kk _ f3) (fun h => absurd rfl h)
theorem lc_12 (hF : FE F) (h1 : ce ≤ 600000) (h2 : sl ≤ 7302250) (hS : Sim T I) (hT : T ≤ 600) (hj : j + 4 ≤ N) (hN : N < 2 ^ 31) (kk : ∀ K, Sim (T + 1) K → GK E room_1 (QL E b N xs) kL 1116 (LL j) [] (ce, sl, 85, F, K)) : GK E room_1 (QL E b N xs) kL 566 (LL j) [] (ce, sl, 85, F, I) := by
  obtain ⟨v, f1, f2⟩ := ok_standing hS 
  have f3 : Sim (T + 1) I := hS.mono (by omega)
  refine GK.aload_n dL_566 rfl rfl ?_
  refine GK.callV (d := 0 + 0) (v := some (.int v)) (av := []) (rest := []) hF dL_567 mvL_70 (gX11_standing E 0 _ f1) (by decide) rfl rfl rfl (by decide) (by decide) h1 h2 (Nat.le_of_ble_eq_true rfl) ?_
  refine GK.aload_n dL_570 rfl rfl ?_
  refine GK.callV (d := 0 + 1) (v := some (.int v)) (av := []) (rest := [.int v]) hF dL_571 mvL_73 (gX12_standing E 0 _ f2) (by decide) rfl rfl rfl (by decide) (by decide) h1 h2 (Nat.le_of_ble_eq_true rfl) ?_
  exact GK.icmp_eq (tgt := 1116) dL_574 (by decide) (fun _ => kk _ f3) (fun h => absurd rfl h)
theorem lc_13 (hF : FE F) (h1 : ce ≤ 600000) (h2 : sl ≤ 7302250) (hS : Sim T I) (hT : T ≤ 600) (hj : j + 4 ≤ N) (hN : N < 2 ^ 31) (kk : ∀ K, Sim (T + 1) K → GK E room_1 (QL E b N xs) kL 1116 (LL j) [] (ce, sl, 85, F, K)) : GK E room_1 (QL E b N xs) kL 579 (LL j) [] (ce, sl, 85, F, I) := by
  obtain ⟨v, J, K, f1, f2, f3⟩ := ok_sill hS (xs (j + 1))
  refine GK.aload_n dL_579 rfl rfl ?_
  refine GK.arg 1 dL_580 dL_581 dL_582 dL_583 dL_584 (by decide) (by omega) hN ?_
  refine GK.callV (d := 0 + 1) (v := some (.int v)) (av := [.int (xs (j + 1))]) (rest := []) hF dL_585 mvL_74 (gX11_sill E 0 _ _ f1) (by decide) rfl rfl rfl (by decide) (by decide) h1 h2 (Nat.le_of_ble_eq_true rfl) ?_
  refine GK.aload_n dL_588 rfl rfl ?_
  refine GK.arg 1 dL_589 dL_590 dL_591 dL_592 dL_593 (by decide) (by omega) hN ?_
  refine GK.callV (d := 0 + 2) (v := some (.int v)) (av := [.int (xs (j + 1))]) (rest := [.int v]) hF dL_594 mvL_77 (gX12_sill E 0 _ _ f2) (by decide) rfl rfl rfl (by decide) (by decide) h1 h2 (Nat.le_of_ble_eq_true rfl) ?_
  exact GK.icmp_eq (tgt := 1116) dL_597 (by decide) (fun _ => kk _ f3) (fun h => absurd rfl h)
theorem lc_14 (hF : FE F) (h1 : ce ≤ 600000) (h2 : sl ≤ 7302250) (hS : Sim T I) (hT : T ≤ 600) (hj : j + 4 ≤ N) (hN : N < 2 ^ 31) (kk : ∀ K, Sim (T + 1) K → GK E room_1 (QL E b N xs) kL 1116 (LL j) [] (ce, sl, 85, F, K)) : GK E room_1 (QL E b N xs) kL 602 (LL j) [] (ce, sl, 85, F, I) := by
  obtain ⟨v, J, K, f1, f2, f3⟩ := ok_purse hS (xs (j + 1))
  refine GK.aload_n dL_602 rfl rfl ?_
  refine GK.arg 1 dL_603 dL_604 dL_605 dL_606 dL_607 (by decide) (by omega) hN ?_
  refine GK.callV (d := 0 + 1) (v := some (.int v)) (av := [.int (xs (j + 1))]) (rest := []) hF dL_608 mvL_78 (gX11_purse E 0 _ _ f1) (by decide) rfl rfl rfl (by decide) (by decide) h1 h2 (Nat.le_of_ble_eq_true rfl) ?_
  refine GK.aload_n dL_611 rfl rfl ?_
  refine GK.arg 1 dL_612 dL_613 dL_614 dL_615 dL_616 (by decide) (by omega) hN ?_
  refine GK.callV (d := 0 + 2) (v := some (.int v)) (av := [.int (xs (j + 1))]) (rest := [.int v]) hF dL_617 mvL_81 (gX12_purse E 0 _ _ f2) (by decide) rfl rfl rfl (by decide) (by decide) h1 h2 (Nat.le_of_ble_eq_true rfl) ?_
  exact GK.icmp_eq (tgt := 1116) dL_620 (by decide) (fun _ => kk _ f3) (fun h => absurd rfl h)
theorem lc_15 (hF : FE F) (h1 : ce ≤ 600000) (h2 : sl ≤ 7302250) (hS : Sim T I) (hT : T ≤ 600) (hj : j + 4 ≤ N) (hN : N < 2 ^ 31) (kk : ∀ K, Sim (T + 1) K → GK E room_1 (QL E b N xs) kL 1116 (LL j) [] (ce, sl, 85, F, K)) : GK E room_1 (QL E b N xs) kL 625 (LL j) [] (ce, sl, 85, F, I) := by
  obtain ⟨v, J, K, f1, f2, f3⟩ := ok_alone hS (xs (j + 1))
  refine GK.aload_n dL_625 rfl rfl ?_
  refine GK.arg 1 dL_626 dL_627 dL_628 dL_629 dL_630 (by decide) (by omega) hN ?_
  refine GK.callV (d := 0 + 2) (v := some (.int v)) (av := [.int (xs (j + 1))]) (rest := []) hF dL_631 mvL_82 (gX11_alone E 0 _ _ f1) (by decide) rfl rfl rfl (by decide) (by decide) h1 h2 (Nat.le_of_ble_eq_true rfl) ?_
  refine GK.aload_n dL_634 rfl rfl ?_
  refine GK.arg 1 dL_635 dL_636 dL_637 dL_638 dL_639 (by decide) (by omega) hN ?_
  refine GK.callV (d := 0 + 2) (v := some (.int v)) (av := [.int (xs (j + 1))]) (rest := [.int v]) hF dL_640 mvL_85 (gX12_alone E 0 _ _ f2) (by decide) rfl rfl rfl (by decide) (by decide) h1 h2 (Nat.le_of_ble_eq_true rfl) ?_
  exact GK.icmp_eq (tgt := 1116) dL_643 (by decide) (fun _ => kk _ f3) (fun h => absurd rfl h)
theorem lc_16 (hF : FE F) (h1 : ce ≤ 600000) (h2 : sl ≤ 7302250) (hS : Sim T I) (hT : T ≤ 600) (hj : j + 4 ≤ N) (hN : N < 2 ^ 31) (kk : ∀ K, Sim (T + 1) K → GK E room_1 (QL E b N xs) kL 1116 (LL j) [] (ce, sl, 85, F, K)) : GK E room_1 (QL E b N xs) kL 648 (LL j) [] (ce, sl, 85, F, I) := by
  obtain ⟨v, J, K, f1, f2, f3⟩ := ok_plan hS (xs (j + 1))
  refine GK.aload_n dL_648 rfl rfl ?_
  refine GK.arg 1 dL_649 dL_650 dL_651 dL_652 dL_653 (by decide) (by omega) hN ?_
  refine GK.callV (d := 0 + 2) (v := some (.int v)) (av := [.int (xs (j + 1))]) (rest := []) hF dL_654 mvL_86 (gX11_plan E 0 _ _ f1) (by decide) rfl rfl rfl (by decide) (by decide) h1 h2 (Nat.le_of_ble_eq_true rfl) ?_
  refine GK.aload_n dL_657 rfl rfl ?_
  refine GK.arg 1 dL_658 dL_659 dL_660 dL_661 dL_662 (by decide) (by omega) hN ?_
  refine GK.callV (d := 0 + 3) (v := some (.int v)) (av := [.int (xs (j + 1))]) (rest := [.int v]) hF dL_663 mvL_89 (gX12_plan E 0 _ _ f2) (by decide) rfl rfl rfl (by decide) (by decide) h1 h2 (Nat.le_of_ble_eq_true rfl) ?_
  exact GK.icmp_eq (tgt := 1116) dL_666 (by decide) (fun _ => kk _ f3) (fun h => absurd rfl h)
theorem lc_17 (hF : FE F) (h1 : ce ≤ 600000) (h2 : sl ≤ 7302250) (hS : Sim T I) (hT : T ≤ 600) (hj : j + 4 ≤ N) (hN : N < 2 ^ 31) (kk : ∀ K, Sim (T + 1) K → GK E room_1 (QL E b N xs) kL 1116 (LL j) [] (ce, sl, 85, F, K)) : GK E room_1 (QL E b N xs) kL 671 (LL j) [] (ce, sl, 85, F, I) := by
  obtain ⟨v, J, K, f1, f2, f3⟩ := ok_scrap hS 
  refine GK.aload_n dL_671 rfl rfl ?_
  refine GK.callV (d := 0 + 0) (v := some (.int v)) (av := []) (rest := []) hF dL_672 mvL_90 (gX11_scrap E 0 _ f1) (by decide) rfl rfl rfl (by decide) (by decide) h1 h2 (Nat.le_of_ble_eq_true rfl) ?_
  refine GK.aload_n dL_675 rfl rfl ?_
  refine GK.callV (d := 0 + 0) (v := some (.int v)) (av := []) (rest := [.int v]) hF dL_676 mvL_93 (gX12_scrap E 0 _ f2) (by decide) rfl rfl rfl (by decide) (by decide) h1 h2 (Nat.le_of_ble_eq_true rfl) ?_
  exact GK.icmp_eq (tgt := 1116) dL_679 (by decide) (fun _ => kk _ f3) (fun h => absurd rfl h)
theorem lc_18 (hF : FE F) (h1 : ce ≤ 600000) (h2 : sl ≤ 7302250) (hS : Sim T I) (hT : T ≤ 600) (hj : j + 4 ≤ N) (hN : N < 2 ^ 31) (kk : ∀ K, Sim (T + 1) K → GK E room_1 (QL E b N xs) kL 1116 (LL j) [] (ce, sl, 85, F, K)) : GK E room_1 (QL E b N xs) kL 684 (LL j) [] (ce, sl, 85, F, I) := by
  obtain ⟨v, f1, f2⟩ := ok_judge hS 
  have f3 : Sim (T + 1) I := hS.mono (by omega)
  refine GK.aload_n dL_684 rfl rfl ?_
  refine GK.callV (d := 0 + 2) (v := some (.int v)) (av := []) (rest := []) hF dL_685 mvL_94 (gX11_judge E 0 _ f1) (by decide) rfl rfl rfl (by decide) (by decide) h1 h2 (Nat.le_of_ble_eq_true rfl) ?_
  refine GK.aload_n dL_688 rfl rfl ?_
  refine GK.callV (d := 0 + 3) (v := some (.int v)) (av := []) (rest := [.int v]) hF dL_689 mvL_97 (gX12_judge E 0 _ f2) (by decide) rfl rfl rfl (by decide) (by decide) h1 h2 (Nat.le_of_ble_eq_true rfl) ?_
  exact GK.icmp_eq (tgt := 1116) dL_692 (by decide) (fun _ => kk _ f3) (fun h => absurd rfl h)
theorem lc_19 (hF : FE F) (h1 : ce ≤ 600000) (h2 : sl ≤ 7302250) (hS : Sim T I) (hT : T ≤ 600) (hj : j + 4 ≤ N) (hN : N < 2 ^ 31) (kk : ∀ K, Sim (T + 1) K → GK E room_1 (QL E b N xs) kL 1116 (LL j) [] (ce, sl, 85, F, K)) : GK E room_1 (QL E b N xs) kL 697 (LL j) [] (ce, sl, 85, F, I) := by
  obtain ⟨v, J, K, f1, f2, f3⟩ := ok_cost hS (show T ≤ 1000 by omega) (xs (j + 1))
  refine GK.aload_n dL_697 rfl rfl ?_
  refine GK.arg 1 dL_698 dL_699 dL_700 dL_701 dL_702 (by decide) (by omega) hN ?_
  refine GK.callV (d := 0 + 4) (v := some (.int v)) (av := [.int (xs (j + 1))]) (rest := []) hF dL_703 mvL_98 (gX11_cost E 0 _ _ f1) (by decide) rfl rfl rfl (by decide) (by decide) h1 h2 (Nat.le_of_ble_eq_true rfl) ?_
  refine GK.aload_n dL_706 rfl rfl ?_
  refine GK.arg 1 dL_707 dL_708 dL_709 dL_710 dL_711 (by decide) (by omega) hN ?_
  refine GK.callV (d := 0 + 4) (v := some (.int v)) (av := [.int (xs (j + 1))]) (rest := [.int v]) hF dL_712 mvL_101 (gX12_cost E 0 _ _ f2) (by decide) rfl rfl rfl (by decide) (by decide) h1 h2 (Nat.le_of_ble_eq_true rfl) ?_
  exact GK.icmp_eq (tgt := 1116) dL_715 (by decide) (fun _ => kk _ f3) (fun h => absurd rfl h)
theorem lc_20 (hF : FE F) (h1 : ce ≤ 600000) (h2 : sl ≤ 7302250) (hS : Sim T I) (hT : T ≤ 600) (hj : j + 4 ≤ N) (hN : N < 2 ^ 31) (kk : ∀ K, Sim (T + 1) K → GK E room_1 (QL E b N xs) kL 1116 (LL j) [] (ce, sl, 85, F, K)) : GK E room_1 (QL E b N xs) kL 720 (LL j) [] (ce, sl, 85, F, I) := by
  obtain ⟨v, J, K, f1, f2, f3⟩ := ok_least hS (show T ≤ 1000 by omega) (xs (j + 1)) (xs (j + 2))
  refine GK.aload_n dL_720 rfl rfl ?_
  refine GK.arg 1 dL_721 dL_722 dL_723 dL_724 dL_725 (by decide) (by omega) hN ?_
  refine GK.arg 2 dL_726 dL_727 dL_728 dL_729 dL_730 (by decide) (by omega) hN ?_
  refine GK.callV (d := 0 + 6) (v := some (.int v)) (av := [.int (xs (j + 1)), .int (xs (j + 2))]) (rest := []) hF dL_731 mvL_102 (gX11_least E 0 _ _ _ f1) (by decide) rfl rfl rfl (by decide) (by decide) h1 h2 (Nat.le_of_ble_eq_true rfl) ?_
  refine GK.aload_n dL_734 rfl rfl ?_
  refine GK.arg 1 dL_735 dL_736 dL_737 dL_738 dL_739 (by decide) (by omega) hN ?_
  refine GK.arg 2 dL_740 dL_741 dL_742 dL_743 dL_744 (by decide) (by omega) hN ?_
  refine GK.callV (d := 0 + 6) (v := some (.int v)) (av := [.int (xs (j + 1)), .int (xs (j + 2))]) (rest := [.int v]) hF dL_745 mvL_105 (gX12_least E 0 _ _ _ f2) (by decide) rfl rfl rfl (by decide) (by decide) h1 h2 (Nat.le_of_ble_eq_true rfl) ?_
  exact GK.icmp_eq (tgt := 1116) dL_748 (by decide) (fun _ => kk _ f3) (fun h => absurd rfl h)
theorem lc_21 (hF : FE F) (h1 : ce ≤ 600000) (h2 : sl ≤ 7302250) (hS : Sim T I) (hT : T ≤ 600) (hj : j + 4 ≤ N) (hN : N < 2 ^ 31) (kk : ∀ K, Sim (T + 1) K → GK E room_1 (QL E b N xs) kL 1116 (LL j) [] (ce, sl, 85, F, K)) : GK E room_1 (QL E b N xs) kL 753 (LL j) [] (ce, sl, 85, F, I) := by
  obtain ⟨v, J, K, f1, f2, f3⟩ := ok_fewest hS (show T ≤ 1000 by omega) (xs (j + 1))
  refine GK.aload_n dL_753 rfl rfl ?_
  refine GK.arg 1 dL_754 dL_755 dL_756 dL_757 dL_758 (by decide) (by omega) hN ?_
  refine GK.callV (d := 0 + 5) (v := some (.int v)) (av := [.int (xs (j + 1))]) (rest := []) hF dL_759 mvL_106 (gX11_fewest E 0 _ _ f1) (by decide) rfl rfl rfl (by decide) (by decide) h1 h2 (Nat.le_of_ble_eq_true rfl) ?_
  refine GK.aload_n dL_762 rfl rfl ?_
  refine GK.arg 1 dL_763 dL_764 dL_765 dL_766 dL_767 (by decide) (by omega) hN ?_
  refine GK.callV (d := 0 + 4) (v := some (.int v)) (av := [.int (xs (j + 1))]) (rest := [.int v]) hF dL_768 mvL_109 (gX12_fewest E 0 _ _ f2) (by decide) rfl rfl rfl (by decide) (by decide) h1 h2 (Nat.le_of_ble_eq_true rfl) ?_
  exact GK.icmp_eq (tgt := 1116) dL_771 (by decide) (fun _ => kk _ f3) (fun h => absurd rfl h)
theorem lc_22 (hF : FE F) (h1 : ce ≤ 600000) (h2 : sl ≤ 7302250) (hS : Sim T I) (hT : T ≤ 600) (hj : j + 4 ≤ N) (hN : N < 2 ^ 31) (kk : ∀ K, Sim (T + 1) K → GK E room_1 (QL E b N xs) kL 1116 (LL j) [] (ce, sl, 85, F, K)) : GK E room_1 (QL E b N xs) kL 776 (LL j) [] (ce, sl, 85, F, I) := by
  obtain ⟨v, J, f1, f2, f3⟩ := ok_quiet hS 
  refine GK.aload_n dL_776 rfl rfl ?_
  refine GK.callV (d := 0 + 3) (v := some (.int v)) (av := []) (rest := []) hF dL_777 mvL_110 (gX11_quiet E 0 _ f1) (by decide) rfl rfl rfl (by decide) (by decide) h1 h2 (Nat.le_of_ble_eq_true rfl) ?_
  refine GK.aload_n dL_780 rfl rfl ?_
  refine GK.callV (d := 0 + 2) (v := some (.int v)) (av := []) (rest := [.int v]) hF dL_781 mvL_113 (gX12_quiet E 0 _ f2) (by decide) rfl rfl rfl (by decide) (by decide) h1 h2 (Nat.le_of_ble_eq_true rfl) ?_
  exact GK.icmp_eq (tgt := 1116) dL_784 (by decide) (fun _ => kk _ f3) (fun h => absurd rfl h)
theorem lc_23 (hF : FE F) (h1 : ce ≤ 600000) (h2 : sl ≤ 7302250) (hS : Sim T I) (hT : T ≤ 600) (hj : j + 4 ≤ N) (hN : N < 2 ^ 31) (kk : ∀ K, Sim (T + 1) K → GK E room_1 (QL E b N xs) kL 1116 (LL j) [] (ce, sl, 85, F, K)) : GK E room_1 (QL E b N xs) kL 789 (LL j) [] (ce, sl, 85, F, I) := by
  obtain ⟨v, J, K, f1, f2, f3⟩ := ok_picks hS (show T ≤ 1000 by omega) (xs (j + 1)) (xs (j + 2)) (xs (j + 3))
  refine GK.aload_n dL_789 rfl rfl ?_
  refine GK.arg 1 dL_790 dL_791 dL_792 dL_793 dL_794 (by decide) (by omega) hN ?_
  refine GK.arg 2 dL_795 dL_796 dL_797 dL_798 dL_799 (by decide) (by omega) hN ?_
  refine GK.arg 3 dL_800 dL_801 dL_802 dL_803 dL_804 (by decide) (by omega) hN ?_
  refine GK.callV (d := 0 + 11) (v := some (.int v)) (av := [.int (xs (j + 1)), .int (xs (j + 2)), .int (xs (j + 3))]) (rest := []) hF dL_805 mvL_114 (gX11_picks E 0 _ _ _ _ f1) (by decide) rfl rfl rfl (by decide) (by decide) h1 h2 (Nat.le_of_ble_eq_true rfl) ?_
  refine GK.aload_n dL_808 rfl rfl ?_
  refine GK.arg 1 dL_809 dL_810 dL_811 dL_812 dL_813 (by decide) (by omega) hN ?_
  refine GK.arg 2 dL_814 dL_815 dL_816 dL_817 dL_818 (by decide) (by omega) hN ?_
  refine GK.arg 3 dL_819 dL_820 dL_821 dL_822 dL_823 (by decide) (by omega) hN ?_
  refine GK.callV (d := 0 + 3) (v := some (.int v)) (av := [.int (xs (j + 1)), .int (xs (j + 2)), .int (xs (j + 3))]) (rest := [.int v]) hF dL_824 mvL_117 (gX12_picks E 0 _ _ _ _ f2) (by decide) rfl rfl rfl (by decide) (by decide) h1 h2 (Nat.le_of_ble_eq_true rfl) ?_
  exact GK.icmp_eq (tgt := 1116) dL_827 (by decide) (fun _ => kk _ f3) (fun h => absurd rfl h)
theorem lc_24 (hF : FE F) (h1 : ce ≤ 600000) (h2 : sl ≤ 7302250) (hS : Sim T I) (hT : T ≤ 600) (hj : j + 4 ≤ N) (hN : N < 2 ^ 31) (kk : ∀ K, Sim (T + 1) K → GK E room_1 (QL E b N xs) kL 1116 (LL j) [] (ce, sl, 85, F, K)) : GK E room_1 (QL E b N xs) kL 832 (LL j) [] (ce, sl, 85, F, I) := by
  obtain ⟨v, J, K, f1, f2, f3⟩ := ok_join hS (show T ≤ 1000 by omega) (xs (j + 1))
  refine GK.aload_n dL_832 rfl rfl ?_
  refine GK.arg 1 dL_833 dL_834 dL_835 dL_836 dL_837 (by decide) (by omega) hN ?_
  refine GK.callV (d := 0 + 6) (v := some (.int v)) (av := [.int (xs (j + 1))]) (rest := []) hF dL_838 mvL_118 (gX11_join E 0 _ _ f1) (by decide) rfl rfl rfl (by decide) (by decide) h1 h2 (Nat.le_of_ble_eq_true rfl) ?_
  refine GK.aload_n dL_841 rfl rfl ?_
  refine GK.arg 1 dL_842 dL_843 dL_844 dL_845 dL_846 (by decide) (by omega) hN ?_
  refine GK.callV (d := 0 + 7) (v := some (.int v)) (av := [.int (xs (j + 1))]) (rest := [.int v]) hF dL_847 mvL_121 (gX12_join E 0 _ _ f2) (by decide) rfl rfl rfl (by decide) (by decide) h1 h2 (Nat.le_of_ble_eq_true rfl) ?_
  exact GK.icmp_eq (tgt := 1116) dL_850 (by decide) (fun _ => kk _ f3) (fun h => absurd rfl h)
theorem lc_25 (hF : FE F) (h1 : ce ≤ 600000) (h2 : sl ≤ 7302250) (hS : Sim T I) (hT : T ≤ 600) (hj : j + 4 ≤ N) (hN : N < 2 ^ 31) (kk : ∀ K, Sim (T + 1) K → GK E room_1 (QL E b N xs) kL 1116 (LL j) [] (ce, sl, 85, F, K)) : GK E room_1 (QL E b N xs) kL 855 (LL j) [] (ce, sl, 85, F, I) := by
  obtain ⟨v, J, K, f1, f2, f3⟩ := ok_spy hS (xs (j + 1)) (xs (j + 2))
  refine GK.aload_n dL_855 rfl rfl ?_
  refine GK.arg 1 dL_856 dL_857 dL_858 dL_859 dL_860 (by decide) (by omega) hN ?_
  refine GK.arg 2 dL_861 dL_862 dL_863 dL_864 dL_865 (by decide) (by omega) hN ?_
  refine GK.callV (d := 0 + 1) (v := some (.int v)) (av := [.int (xs (j + 1)), .int (xs (j + 2))]) (rest := []) hF dL_866 mvL_122 (gX11_spy E 0 _ _ _ f1) (by decide) rfl rfl rfl (by decide) (by decide) h1 h2 (Nat.le_of_ble_eq_true rfl) ?_
  refine GK.aload_n dL_869 rfl rfl ?_
  refine GK.arg 1 dL_870 dL_871 dL_872 dL_873 dL_874 (by decide) (by omega) hN ?_
  refine GK.arg 2 dL_875 dL_876 dL_877 dL_878 dL_879 (by decide) (by omega) hN ?_
  refine GK.callV (d := 0 + 2) (v := some (.int v)) (av := [.int (xs (j + 1)), .int (xs (j + 2))]) (rest := [.int v]) hF dL_880 mvL_125 (gX12_spy E 0 _ _ _ f2) (by decide) rfl rfl rfl (by decide) (by decide) h1 h2 (Nat.le_of_ble_eq_true rfl) ?_
  exact GK.icmp_eq (tgt := 1116) dL_883 (by decide) (fun _ => kk _ f3) (fun h => absurd rfl h)
theorem lc_26 (hF : FE F) (h1 : ce ≤ 600000) (h2 : sl ≤ 7302250) (hS : Sim T I) (hT : T ≤ 600) (hj : j + 4 ≤ N) (hN : N < 2 ^ 31) (kk : ∀ K, Sim (T + 1) K → GK E room_1 (QL E b N xs) kL 1116 (LL j) [] (ce, sl, 85, F, K)) : GK E room_1 (QL E b N xs) kL 888 (LL j) [] (ce, sl, 85, F, I) := by
  obtain ⟨v, J, K, f1, f2, f3⟩ := ok_fits hS (show T ≤ 1000 by omega)
  refine GK.aload_n dL_888 rfl rfl ?_
  refine GK.callV (d := 0 + 5) (v := some (.int v)) (av := []) (rest := []) hF dL_889 mvL_126 (gX11_fits E 0 _ f1) (by decide) rfl rfl rfl (by decide) (by decide) h1 h2 (Nat.le_of_ble_eq_true rfl) ?_
  refine GK.aload_n dL_892 rfl rfl ?_
  refine GK.callV (d := 0 + 5) (v := some (.int v)) (av := []) (rest := [.int v]) hF dL_893 mvL_129 (gX12_fits E 0 _ f2) (by decide) rfl rfl rfl (by decide) (by decide) h1 h2 (Nat.le_of_ble_eq_true rfl) ?_
  exact GK.icmp_eq (tgt := 1116) dL_896 (by decide) (fun _ => kk _ f3) (fun h => absurd rfl h)
theorem lc_27 (hF : FE F) (h1 : ce ≤ 600000) (h2 : sl ≤ 7302250) (hS : Sim T I) (hT : T ≤ 600) (hj : j + 4 ≤ N) (hN : N < 2 ^ 31) (kk : ∀ K, Sim (T + 1) K → GK E room_1 (QL E b N xs) kL 1116 (LL j) [] (ce, sl, 85, F, K)) : GK E room_1 (QL E b N xs) kL 901 (LL j) [] (ce, sl, 85, F, I) := by
  obtain ⟨v, J, K, f1, f2, f3⟩ := ok_was hS (show T ≤ 1000 by omega) (xs (j + 1)) (xs (j + 2))
  refine GK.aload_n dL_901 rfl rfl ?_
  refine GK.arg 1 dL_902 dL_903 dL_904 dL_905 dL_906 (by decide) (by omega) hN ?_
  refine GK.arg 2 dL_907 dL_908 dL_909 dL_910 dL_911 (by decide) (by omega) hN ?_
  refine GK.callV (d := 0 + 5) (v := some (.int v)) (av := [.int (xs (j + 1)), .int (xs (j + 2))]) (rest := []) hF dL_912 mvL_130 (gX11_was E 0 _ _ _ f1) (by decide) rfl rfl rfl (by decide) (by decide) h1 h2 (Nat.le_of_ble_eq_true rfl) ?_
  refine GK.aload_n dL_915 rfl rfl ?_
  refine GK.arg 1 dL_916 dL_917 dL_918 dL_919 dL_920 (by decide) (by omega) hN ?_
  refine GK.arg 2 dL_921 dL_922 dL_923 dL_924 dL_925 (by decide) (by omega) hN ?_
  refine GK.callV (d := 0 + 5) (v := some (.int v)) (av := [.int (xs (j + 1)), .int (xs (j + 2))]) (rest := [.int v]) hF dL_926 mvL_133 (gX12_was E 0 _ _ _ f2) (by decide) rfl rfl rfl (by decide) (by decide) h1 h2 (Nat.le_of_ble_eq_true rfl) ?_
  exact GK.icmp_eq (tgt := 1116) dL_929 (by decide) (fun _ => kk _ f3) (fun h => absurd rfl h)
theorem lc_28 (hF : FE F) (h1 : ce ≤ 600000) (h2 : sl ≤ 7302250) (hS : Sim T I) (hT : T ≤ 600) (hj : j + 4 ≤ N) (hN : N < 2 ^ 31) (kk : ∀ K, Sim (T + 1) K → GK E room_1 (QL E b N xs) kL 1116 (LL j) [] (ce, sl, 85, F, K)) : GK E room_1 (QL E b N xs) kL 934 (LL j) [] (ce, sl, 85, F, I) := by
  obtain ⟨v, J, K, f1, f2, f3⟩ := ok_rent hS (show T ≤ 1000 by omega) (xs (j + 1)) (xs (j + 2))
  refine GK.aload_n dL_934 rfl rfl ?_
  refine GK.arg 1 dL_935 dL_936 dL_937 dL_938 dL_939 (by decide) (by omega) hN ?_
  refine GK.arg 2 dL_940 dL_941 dL_942 dL_943 dL_944 (by decide) (by omega) hN ?_
  refine GK.callV (d := 0 + 2) (v := some (.int v)) (av := [.int (xs (j + 1)), .int (xs (j + 2))]) (rest := []) hF dL_945 mvL_134 (gX11_rent E 0 _ _ _ f1) (by decide) rfl rfl rfl (by decide) (by decide) h1 h2 (Nat.le_of_ble_eq_true rfl) ?_
  refine GK.aload_n dL_948 rfl rfl ?_
  refine GK.arg 1 dL_949 dL_950 dL_951 dL_952 dL_953 (by decide) (by omega) hN ?_
  refine GK.arg 2 dL_954 dL_955 dL_956 dL_957 dL_958 (by decide) (by omega) hN ?_
  refine GK.callV (d := 0 + 1) (v := some (.int v)) (av := [.int (xs (j + 1)), .int (xs (j + 2))]) (rest := [.int v]) hF dL_959 mvL_137 (gX12_rent E 0 _ _ _ f2) (by decide) rfl rfl rfl (by decide) (by decide) h1 h2 (Nat.le_of_ble_eq_true rfl) ?_
  exact GK.icmp_eq (tgt := 1116) dL_962 (by decide) (fun _ => kk _ f3) (fun h => absurd rfl h)
theorem lc_29 (hF : FE F) (h1 : ce ≤ 600000) (h2 : sl ≤ 7302250) (hS : Sim T I) (hT : T ≤ 600) (hj : j + 4 ≤ N) (hN : N < 2 ^ 31) (kk : ∀ K, Sim (T + 1) K → GK E room_1 (QL E b N xs) kL 1116 (LL j) [] (ce, sl, 85, F, K)) : GK E room_1 (QL E b N xs) kL 967 (LL j) [] (ce, sl, 85, F, I) := by
  obtain ⟨v, J, K, f1, f2, f3⟩ := ok_drawn hS (show T ≤ 1000 by omega) (xs (j + 1)) (xs (j + 2)) (xs (j + 3))
  refine GK.aload_n dL_967 rfl rfl ?_
  refine GK.arg 1 dL_968 dL_969 dL_970 dL_971 dL_972 (by decide) (by omega) hN ?_
  refine GK.arg 2 dL_973 dL_974 dL_975 dL_976 dL_977 (by decide) (by omega) hN ?_
  refine GK.arg 3 dL_978 dL_979 dL_980 dL_981 dL_982 (by decide) (by omega) hN ?_
  refine GK.callV (d := 0 + 4) (v := some (.int v)) (av := [.int (xs (j + 1)), .int (xs (j + 2)), .int (xs (j + 3))]) (rest := []) hF dL_983 mvL_138 (gX11_drawn E 0 _ _ _ _ f1) (by decide) rfl rfl rfl (by decide) (by decide) h1 h2 (Nat.le_of_ble_eq_true rfl) ?_
  refine GK.aload_n dL_986 rfl rfl ?_
  refine GK.arg 1 dL_987 dL_988 dL_989 dL_990 dL_991 (by decide) (by omega) hN ?_
  refine GK.arg 2 dL_992 dL_993 dL_994 dL_995 dL_996 (by decide) (by omega) hN ?_
  refine GK.arg 3 dL_997 dL_998 dL_999 dL_1000 dL_1001 (by decide) (by omega) hN ?_
  refine GK.callV (d := 0 + 4) (v := some (.int v)) (av := [.int (xs (j + 1)), .int (xs (j + 2)), .int (xs (j + 3))]) (rest := [.int v]) hF dL_1002 mvL_141 (gX12_drawn E 0 _ _ _ _ f2) (by decide) rfl rfl rfl (by decide) (by decide) h1 h2 (Nat.le_of_ble_eq_true rfl) ?_
  exact GK.icmp_eq (tgt := 1116) dL_1005 (by decide) (fun _ => kk _ f3) (fun h => absurd rfl h)
theorem lc_30 (hF : FE F) (h1 : ce ≤ 600000) (h2 : sl ≤ 7302250) (hS : Sim T I) (hT : T ≤ 600) (hj : j + 4 ≤ N) (hN : N < 2 ^ 31) (kk : ∀ K, Sim (T + 1) K → GK E room_1 (QL E b N xs) kL 1116 (LL j) [] (ce, sl, 85, F, K)) : GK E room_1 (QL E b N xs) kL 1010 (LL j) [] (ce, sl, 85, F, I) := by
  obtain ⟨v, J, K, f1, f2, f3⟩ := ok_image hS (xs (j + 1))
  refine GK.aload_n dL_1010 rfl rfl ?_
  refine GK.arg 1 dL_1011 dL_1012 dL_1013 dL_1014 dL_1015 (by decide) (by omega) hN ?_
  refine GK.callV (d := 0 + 2) (v := some (.int v)) (av := [.int (xs (j + 1))]) (rest := []) hF dL_1016 mvL_142 (gX11_image E 0 _ _ f1) (by decide) rfl rfl rfl (by decide) (by decide) h1 h2 (Nat.le_of_ble_eq_true rfl) ?_
  refine GK.aload_n dL_1019 rfl rfl ?_
  refine GK.arg 1 dL_1020 dL_1021 dL_1022 dL_1023 dL_1024 (by decide) (by omega) hN ?_
  refine GK.callV (d := 0 + 1) (v := some (.int v)) (av := [.int (xs (j + 1))]) (rest := [.int v]) hF dL_1025 mvL_145 (gX12_image E 0 _ _ f2) (by decide) rfl rfl rfl (by decide) (by decide) h1 h2 (Nat.le_of_ble_eq_true rfl) ?_
  exact GK.icmp_eq (tgt := 1116) dL_1028 (by decide) (fun _ => kk _ f3) (fun h => absurd rfl h)
theorem lc_31 (hF : FE F) (h1 : ce ≤ 600000) (h2 : sl ≤ 7302250) (hS : Sim T I) (hT : T ≤ 600) (hj : j + 4 ≤ N) (hN : N < 2 ^ 31) (kk : ∀ K, Sim (T + 1) K → GK E room_1 (QL E b N xs) kL 1116 (LL j) [] (ce, sl, 85, F, K)) : GK E room_1 (QL E b N xs) kL 1033 (LL j) [] (ce, sl, 85, F, I) := by
  obtain ⟨v, J, K, f1, f2, f3⟩ := ok_from hS (xs (j + 1))
  refine GK.aload_n dL_1033 rfl rfl ?_
  refine GK.arg 1 dL_1034 dL_1035 dL_1036 dL_1037 dL_1038 (by decide) (by omega) hN ?_
  refine GK.callV (d := 0 + 2) (v := some (.int v)) (av := [.int (xs (j + 1))]) (rest := []) hF dL_1039 mvL_146 (gX11_from E 0 _ _ f1) (by decide) rfl rfl rfl (by decide) (by decide) h1 h2 (Nat.le_of_ble_eq_true rfl) ?_
  refine GK.aload_n dL_1042 rfl rfl ?_
  refine GK.arg 1 dL_1043 dL_1044 dL_1045 dL_1046 dL_1047 (by decide) (by omega) hN ?_
  refine GK.callV (d := 0 + 1) (v := some (.int v)) (av := [.int (xs (j + 1))]) (rest := [.int v]) hF dL_1048 mvL_149 (gX12_from E 0 _ _ f2) (by decide) rfl rfl rfl (by decide) (by decide) h1 h2 (Nat.le_of_ble_eq_true rfl) ?_
  exact GK.icmp_eq (tgt := 1116) dL_1051 (by decide) (fun _ => kk _ f3) (fun h => absurd rfl h)
theorem lc_32 (hF : FE F) (h1 : ce ≤ 600000) (h2 : sl ≤ 7302250) (hS : Sim T I) (hT : T ≤ 600) (hj : j + 4 ≤ N) (hN : N < 2 ^ 31) (kk : ∀ K, Sim (T + 1) K → GK E room_1 (QL E b N xs) kL 1116 (LL j) [] (ce, sl, 85, F, K)) : GK E room_1 (QL E b N xs) kL 1056 (LL j) [] (ce, sl, 85, F, I) := by
  obtain ⟨v, J, K, f1, f2, f3⟩ := ok_status hS (xs (j + 1))
  refine GK.aload_n dL_1056 rfl rfl ?_
  refine GK.arg 1 dL_1057 dL_1058 dL_1059 dL_1060 dL_1061 (by decide) (by omega) hN ?_
  refine GK.callV (d := 0 + 1) (v := some (.int v)) (av := [.int (xs (j + 1))]) (rest := []) hF dL_1062 mvL_150 (gX11_status E 0 _ _ f1) (by decide) rfl rfl rfl (by decide) (by decide) h1 h2 (Nat.le_of_ble_eq_true rfl) ?_
  refine GK.aload_n dL_1065 rfl rfl ?_
  refine GK.arg 1 dL_1066 dL_1067 dL_1068 dL_1069 dL_1070 (by decide) (by omega) hN ?_
  refine GK.callV (d := 0 + 1) (v := some (.int v)) (av := [.int (xs (j + 1))]) (rest := [.int v]) hF dL_1071 mvL_153 (gX12_status E 0 _ _ f2) (by decide) rfl rfl rfl (by decide) (by decide) h1 h2 (Nat.le_of_ble_eq_true rfl) ?_
  exact GK.icmp_eq (tgt := 1116) dL_1074 (by decide) (fun _ => kk _ f3) (fun h => absurd rfl h)
theorem lc_33 (hF : FE F) (h1 : ce ≤ 600000) (h2 : sl ≤ 7302250) (hS : Sim T I) (hT : T ≤ 600) (hj : j + 4 ≤ N) (hN : N < 2 ^ 31) (kk : ∀ K, Sim (T + 1) K → GK E room_1 (QL E b N xs) kL 1116 (LL j) [] (ce, sl, 85, F, K)) : GK E room_1 (QL E b N xs) kL 1079 (LL j) [] (ce, sl, 85, F, I) := by
  obtain ⟨v, J, K, f1, f2, f3⟩ := ok_count hS (xs (j + 1))
  refine GK.aload_n dL_1079 rfl rfl ?_
  refine GK.arg 1 dL_1080 dL_1081 dL_1082 dL_1083 dL_1084 (by decide) (by omega) hN ?_
  refine GK.callV (d := 0 + 2) (v := some (.int v)) (av := [.int (xs (j + 1))]) (rest := []) hF dL_1085 mvL_154 (gX11_count E 0 _ _ f1) (by decide) rfl rfl rfl (by decide) (by decide) h1 h2 (Nat.le_of_ble_eq_true rfl) ?_
  refine GK.aload_n dL_1088 rfl rfl ?_
  refine GK.arg 1 dL_1089 dL_1090 dL_1091 dL_1092 dL_1093 (by decide) (by omega) hN ?_
  refine GK.callV (d := 0 + 2) (v := some (.int v)) (av := [.int (xs (j + 1))]) (rest := [.int v]) hF dL_1094 mvL_157 (gX12_count E 0 _ _ f2) (by decide) rfl rfl rfl (by decide) (by decide) h1 h2 (Nat.le_of_ble_eq_true rfl) ?_
  exact GK.icmp_eq (tgt := 1116) dL_1097 (by decide) (fun _ => kk _ f3) (fun h => absurd rfl h)
theorem lc_34 (hF : FE F) (h1 : ce ≤ 600000) (h2 : sl ≤ 7302250) (hS : Sim T I) (hT : T ≤ 600) (hj : j + 4 ≤ N) (hN : N < 2 ^ 31) (kk : ∀ K, Sim (T + 1) K → GK E room_1 (QL E b N xs) kL 1116 (LL j) [] (ce, sl, 85, F, K)) : GK E room_1 (QL E b N xs) kL 1102 (LL j) [] (ce, sl, 85, F, I) := by
  obtain ⟨v, f1, f2⟩ := ok_digest hS 
  have f3 : Sim (T + 1) I := hS.mono (by omega)
  refine GK.aload_n dL_1102 rfl rfl ?_
  refine GK.callV (d := 0 + 3) (v := some (.long v)) (av := []) (rest := []) hF dL_1103 mvL_158 (gX11_digest E 0 _ f1) (by decide) rfl rfl rfl (by decide) (by decide) h1 h2 (Nat.le_of_ble_eq_true rfl) ?_
  refine GK.aload_n dL_1106 rfl rfl ?_
  refine GK.callV (d := 0 + 2) (v := some (.long v)) (av := []) (rest := [.long v]) hF dL_1107 mvL_162 (gX12_digest E 0 _ f2) (by decide) rfl rfl rfl (by decide) (by decide) h1 h2 (Nat.le_of_ble_eq_true rfl) ?_
  refine GK.lcmp dL_1110 ?_
  exact GK.if_eq (tgt := 1116) dL_1111 (by decide) (fun _ => kk _ f3) (fun h => absurd (show lg_cmp v v = 0 by simp [lg_cmp]) h)
end LAW
