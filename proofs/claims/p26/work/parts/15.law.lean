/-! THE CLAIM OUT OF ONE WALK OF THE LAW'S BODY. Your part is whole_start (and what it stands on); all else here is the same for every law, but numbers. -/
def R_law : String := "SermonScaleLaw"
def lw_P (b : Addr) (xs : List Int32) (args : Array Value) (s : State) : Prop := args = #[.ref b] ∧ s.IntsAt b xs ∧ xs.length ≤ 2048 ∧ (Jvm.Cond.and given_1 narrow_1).before args s = true
def lw_Q (_ : Array Value) (s : State) (o : Outcome) (t : State) : Prop := o = .returned (some (.int 1)) ∧ Framed s o t [] 600000 7302250
def lw_Z (below : List Frame) (a : Array Value) (s : State) : State → Prop := fun t => ∃ o, t.status = .running ∧ Ended t below o ∧ lw_Q a s o t
/-- the law's own end, with 1 on the stack, nothing written that was there before, its room as the claim has it -/
theorem lw_ret {p : Program} {l : Launch} {e : Env} {s : State} {m : MethodId} {below : List Frame} {meth : Method} {c : Code} {b : Nat} (hx : p.tables.exec = Jvm.exec) (hb : c.code = code) (hr : meth.sig.returnType = ret) (hlocks : meth.locks = false) {pc : Nat} {H : Heap} {ls : Array Slot} (hdg : decode code pc = .ok (.ireturn, 1)) : W p l e room_1 s m #[Value.ref b] below meth c H [] 600000 7302250 (lw_Z below #[Value.ref b] s) (F0 m pc ls [.int 1]) := by
  intro T hT X
  obtain ⟨fs, hret, hrun, hended, hW, hframe⟩ := X.leave (v := some (.int 1)) (hlocks := hlocks) (fun h => by rw [hr] at h; cases h)
  have hmeth' : T.vm.method? m = some meth := X.method'
  refine ⟨T.setFrames fs, ?_, .returned (some (.int 1)), hrun, hended, rfl, ⟨_, rfl⟩, hW, hframe⟩
  jvm_step X.here [X.here.top, hx, hb, hdg, hmeth', hr, ret, narrow_b1]
  (try refine ⟨rfl, ?_⟩); (try refine ⟨rfl, ?_⟩)
  first | (intro acts; rw [hret _ acts rfl rfl rfl]) | rw [hret _ _ rfl rfl rfl]
  exact Steps.refl _
/-- what holds at the law's entry: the machine, the code, the tables' words (any of lw_tbl by 'hts w (by decide +kernel)'), the script of L ints xs at the cell b, what the Statement gives of the start (any of its parts by flat_of_before) -/
def lw_At (p : Program) (s : State) (m : MethodId) (meth : Method) (c : Code) (b L : Nat) (xs : Nat → Int32) : Prop :=
  p.tables.exec = Jvm.exec ∧ c.code = code ∧ meth.sig.returnType = ret ∧ c.maxLocals = 4 ∧ s.vm.findClass R_law = some m.cls ∧ (∀ w ∈ lw_tbl, w.before #[Value.ref b] s = true) ∧ va_X b L xs s s.heap ∧ b < s.heap.size ∧ meth.locks = false ∧ (Jvm.Cond.and given_1 narrow_1).before #[Value.ref b] s = true
theorem dL_law_0 : decode code 0 = .ok (.new 7, 3) := by decide +kernel
theorem dL_law_3 : decode code 3 = .ok (.dup, 1) := by decide +kernel
theorem dL_law_4 : decode code 4 = .ok (.invokespecial 9, 3) := by decide +kernel
theorem dL_law_7 : decode code 7 = .ok (.astore_n 1, 1) := by decide +kernel
theorem dL_law_8 : decode code 8 = .ok (.new 10, 3) := by decide +kernel
theorem dL_law_11 : decode code 11 = .ok (.dup, 1) := by decide +kernel
theorem dL_law_12 : decode code 12 = .ok (.invokespecial 12, 3) := by decide +kernel
theorem dL_law_15 : decode code 15 = .ok (.astore_n 2, 1) := by decide +kernel
theorem dL_law_16 : decode code 16 = .ok (.iconst 0, 1) := by decide +kernel
theorem dL_law_17 : decode code 17 = .ok (.istore_n 3, 1) := by decide +kernel
theorem dL_law_18 : decode code 18 = .ok (.iload_n 3, 1) := by decide +kernel
theorem dL_law_19 : decode code 19 = .ok (.aload_n 0, 1) := by decide +kernel
theorem dL_law_20 : decode code 20 = .ok (.arraylength, 1) := by decide +kernel
theorem dL_law_21 : decode code 21 = .ok (.iconst 4, 1) := by decide +kernel
theorem dL_law_22 : decode code 22 = .ok (.isub, 1) := by decide +kernel
theorem dL_law_23 : decode code 23 = .ok (.if_icmp .gt 706, 3) := by decide +kernel
theorem dL_law_26 : decode code 26 = .ok (.aload_n 0, 1) := by decide +kernel
theorem dL_law_27 : decode code 27 = .ok (.iload_n 3, 1) := by decide +kernel
theorem dL_law_28 : decode code 28 = .ok (.iaload, 1) := by decide +kernel
theorem dL_law_29 : decode code 29 = .ok (.bipush 31, 2) := by decide +kernel
theorem dL_law_31 : decode code 31 = .ok (.iand, 1) := by decide +kernel
theorem dL_law_32 : decode code 32 = .ok (.tableswitch 691 0 24 #[116, 139, 152, 165, 178, 211, 234, 267, 290, 323, 346, 369, 382, 395, 418, 441, 454, 477, 500, 543, 586, 599, 622, 635, 668], 116) := by decide +kernel
theorem dL_law_148 : decode code 148 = .ok (.aload_n 1, 1) := by decide +kernel
theorem dL_law_149 : decode code 149 = .ok (.aload_n 0, 1) := by decide +kernel
theorem dL_law_150 : decode code 150 = .ok (.iload_n 3, 1) := by decide +kernel
theorem dL_law_151 : decode code 151 = .ok (.iconst 1, 1) := by decide +kernel
theorem dL_law_152 : decode code 152 = .ok (.iadd, 1) := by decide +kernel
theorem dL_law_153 : decode code 153 = .ok (.iaload, 1) := by decide +kernel
theorem dL_law_154 : decode code 154 = .ok (.invokevirtual 13, 3) := by decide +kernel
theorem dL_law_157 : decode code 157 = .ok (.pop, 1) := by decide +kernel
theorem dL_law_158 : decode code 158 = .ok (.aload_n 2, 1) := by decide +kernel
theorem dL_law_159 : decode code 159 = .ok (.aload_n 0, 1) := by decide +kernel
theorem dL_law_160 : decode code 160 = .ok (.iload_n 3, 1) := by decide +kernel
theorem dL_law_161 : decode code 161 = .ok (.iconst 1, 1) := by decide +kernel
theorem dL_law_162 : decode code 162 = .ok (.iadd, 1) := by decide +kernel
theorem dL_law_163 : decode code 163 = .ok (.iaload, 1) := by decide +kernel
theorem dL_law_164 : decode code 164 = .ok (.invokevirtual 17, 3) := by decide +kernel
theorem dL_law_167 : decode code 167 = .ok (.pop, 1) := by decide +kernel
theorem dL_law_168 : decode code 168 = .ok (.goto 555, 3) := by decide +kernel
theorem dL_law_171 : decode code 171 = .ok (.aload_n 1, 1) := by decide +kernel
theorem dL_law_172 : decode code 172 = .ok (.invokevirtual 18, 3) := by decide +kernel
theorem dL_law_175 : decode code 175 = .ok (.pop, 1) := by decide +kernel
theorem dL_law_176 : decode code 176 = .ok (.aload_n 2, 1) := by decide +kernel
theorem dL_law_177 : decode code 177 = .ok (.invokevirtual 22, 3) := by decide +kernel
theorem dL_law_180 : decode code 180 = .ok (.pop, 1) := by decide +kernel
theorem dL_law_181 : decode code 181 = .ok (.goto 542, 3) := by decide +kernel
theorem dL_law_184 : decode code 184 = .ok (.aload_n 1, 1) := by decide +kernel
theorem dL_law_185 : decode code 185 = .ok (.invokevirtual 23, 3) := by decide +kernel
theorem dL_law_188 : decode code 188 = .ok (.pop, 1) := by decide +kernel
theorem dL_law_189 : decode code 189 = .ok (.aload_n 2, 1) := by decide +kernel
theorem dL_law_190 : decode code 190 = .ok (.invokevirtual 26, 3) := by decide +kernel
theorem dL_law_193 : decode code 193 = .ok (.pop, 1) := by decide +kernel
theorem dL_law_194 : decode code 194 = .ok (.goto 529, 3) := by decide +kernel
theorem dL_law_197 : decode code 197 = .ok (.aload_n 1, 1) := by decide +kernel
theorem dL_law_198 : decode code 198 = .ok (.invokevirtual 27, 3) := by decide +kernel
theorem dL_law_201 : decode code 201 = .ok (.pop, 1) := by decide +kernel
theorem dL_law_202 : decode code 202 = .ok (.aload_n 2, 1) := by decide +kernel
theorem dL_law_203 : decode code 203 = .ok (.invokevirtual 30, 3) := by decide +kernel
theorem dL_law_206 : decode code 206 = .ok (.pop, 1) := by decide +kernel
theorem dL_law_207 : decode code 207 = .ok (.goto 516, 3) := by decide +kernel
theorem dL_law_210 : decode code 210 = .ok (.aload_n 1, 1) := by decide +kernel
theorem dL_law_211 : decode code 211 = .ok (.aload_n 0, 1) := by decide +kernel
theorem dL_law_212 : decode code 212 = .ok (.iload_n 3, 1) := by decide +kernel
theorem dL_law_213 : decode code 213 = .ok (.iconst 1, 1) := by decide +kernel
theorem dL_law_214 : decode code 214 = .ok (.iadd, 1) := by decide +kernel
theorem dL_law_215 : decode code 215 = .ok (.iaload, 1) := by decide +kernel
theorem dL_law_216 : decode code 216 = .ok (.aload_n 0, 1) := by decide +kernel
theorem dL_law_217 : decode code 217 = .ok (.iload_n 3, 1) := by decide +kernel
theorem dL_law_218 : decode code 218 = .ok (.iconst 2, 1) := by decide +kernel
theorem dL_law_219 : decode code 219 = .ok (.iadd, 1) := by decide +kernel
theorem dL_law_220 : decode code 220 = .ok (.iaload, 1) := by decide +kernel
theorem dL_law_221 : decode code 221 = .ok (.invokevirtual 31, 3) := by decide +kernel
theorem dL_law_224 : decode code 224 = .ok (.pop, 1) := by decide +kernel
theorem dL_law_225 : decode code 225 = .ok (.aload_n 2, 1) := by decide +kernel
theorem dL_law_226 : decode code 226 = .ok (.aload_n 0, 1) := by decide +kernel
theorem dL_law_227 : decode code 227 = .ok (.iload_n 3, 1) := by decide +kernel
theorem dL_law_228 : decode code 228 = .ok (.iconst 1, 1) := by decide +kernel
theorem dL_law_229 : decode code 229 = .ok (.iadd, 1) := by decide +kernel
theorem dL_law_230 : decode code 230 = .ok (.iaload, 1) := by decide +kernel
theorem dL_law_231 : decode code 231 = .ok (.aload_n 0, 1) := by decide +kernel
theorem dL_law_232 : decode code 232 = .ok (.iload_n 3, 1) := by decide +kernel
theorem dL_law_233 : decode code 233 = .ok (.iconst 2, 1) := by decide +kernel
theorem dL_law_234 : decode code 234 = .ok (.iadd, 1) := by decide +kernel
theorem dL_law_235 : decode code 235 = .ok (.iaload, 1) := by decide +kernel
theorem dL_law_236 : decode code 236 = .ok (.invokevirtual 35, 3) := by decide +kernel
theorem dL_law_239 : decode code 239 = .ok (.pop, 1) := by decide +kernel
theorem dL_law_240 : decode code 240 = .ok (.goto 483, 3) := by decide +kernel
theorem dL_law_243 : decode code 243 = .ok (.aload_n 1, 1) := by decide +kernel
theorem dL_law_244 : decode code 244 = .ok (.aload_n 0, 1) := by decide +kernel
theorem dL_law_245 : decode code 245 = .ok (.iload_n 3, 1) := by decide +kernel
theorem dL_law_246 : decode code 246 = .ok (.iconst 1, 1) := by decide +kernel
theorem dL_law_247 : decode code 247 = .ok (.iadd, 1) := by decide +kernel
theorem dL_law_248 : decode code 248 = .ok (.iaload, 1) := by decide +kernel
theorem dL_law_249 : decode code 249 = .ok (.invokevirtual 36, 3) := by decide +kernel
theorem dL_law_252 : decode code 252 = .ok (.pop, 1) := by decide +kernel
theorem dL_law_253 : decode code 253 = .ok (.aload_n 2, 1) := by decide +kernel
theorem dL_law_254 : decode code 254 = .ok (.aload_n 0, 1) := by decide +kernel
theorem dL_law_255 : decode code 255 = .ok (.iload_n 3, 1) := by decide +kernel
theorem dL_law_256 : decode code 256 = .ok (.iconst 1, 1) := by decide +kernel
theorem dL_law_257 : decode code 257 = .ok (.iadd, 1) := by decide +kernel
theorem dL_law_258 : decode code 258 = .ok (.iaload, 1) := by decide +kernel
theorem dL_law_259 : decode code 259 = .ok (.invokevirtual 39, 3) := by decide +kernel
theorem dL_law_262 : decode code 262 = .ok (.pop, 1) := by decide +kernel
theorem dL_law_263 : decode code 263 = .ok (.goto 460, 3) := by decide +kernel
theorem dL_law_266 : decode code 266 = .ok (.aload_n 1, 1) := by decide +kernel
theorem dL_law_267 : decode code 267 = .ok (.aload_n 0, 1) := by decide +kernel
theorem dL_law_268 : decode code 268 = .ok (.iload_n 3, 1) := by decide +kernel
theorem dL_law_269 : decode code 269 = .ok (.iconst 1, 1) := by decide +kernel
theorem dL_law_270 : decode code 270 = .ok (.iadd, 1) := by decide +kernel
theorem dL_law_271 : decode code 271 = .ok (.iaload, 1) := by decide +kernel
theorem dL_law_272 : decode code 272 = .ok (.aload_n 0, 1) := by decide +kernel
theorem dL_law_273 : decode code 273 = .ok (.iload_n 3, 1) := by decide +kernel
theorem dL_law_274 : decode code 274 = .ok (.iconst 2, 1) := by decide +kernel
theorem dL_law_275 : decode code 275 = .ok (.iadd, 1) := by decide +kernel
theorem dL_law_276 : decode code 276 = .ok (.iaload, 1) := by decide +kernel
theorem dL_law_277 : decode code 277 = .ok (.invokevirtual 40, 3) := by decide +kernel
theorem dL_law_280 : decode code 280 = .ok (.pop, 1) := by decide +kernel
theorem dL_law_281 : decode code 281 = .ok (.aload_n 2, 1) := by decide +kernel
theorem dL_law_282 : decode code 282 = .ok (.aload_n 0, 1) := by decide +kernel
theorem dL_law_283 : decode code 283 = .ok (.iload_n 3, 1) := by decide +kernel
theorem dL_law_284 : decode code 284 = .ok (.iconst 1, 1) := by decide +kernel
theorem dL_law_285 : decode code 285 = .ok (.iadd, 1) := by decide +kernel
theorem dL_law_286 : decode code 286 = .ok (.iaload, 1) := by decide +kernel
theorem dL_law_287 : decode code 287 = .ok (.aload_n 0, 1) := by decide +kernel
theorem dL_law_288 : decode code 288 = .ok (.iload_n 3, 1) := by decide +kernel
theorem dL_law_289 : decode code 289 = .ok (.iconst 2, 1) := by decide +kernel
theorem dL_law_290 : decode code 290 = .ok (.iadd, 1) := by decide +kernel
theorem dL_law_291 : decode code 291 = .ok (.iaload, 1) := by decide +kernel
theorem dL_law_292 : decode code 292 = .ok (.invokevirtual 43, 3) := by decide +kernel
theorem dL_law_295 : decode code 295 = .ok (.pop, 1) := by decide +kernel
theorem dL_law_296 : decode code 296 = .ok (.goto 427, 3) := by decide +kernel
theorem dL_law_299 : decode code 299 = .ok (.aload_n 1, 1) := by decide +kernel
theorem dL_law_300 : decode code 300 = .ok (.aload_n 0, 1) := by decide +kernel
theorem dL_law_301 : decode code 301 = .ok (.iload_n 3, 1) := by decide +kernel
theorem dL_law_302 : decode code 302 = .ok (.iconst 1, 1) := by decide +kernel
theorem dL_law_303 : decode code 303 = .ok (.iadd, 1) := by decide +kernel
theorem dL_law_304 : decode code 304 = .ok (.iaload, 1) := by decide +kernel
theorem dL_law_305 : decode code 305 = .ok (.invokevirtual 44, 3) := by decide +kernel
theorem dL_law_308 : decode code 308 = .ok (.pop, 1) := by decide +kernel
theorem dL_law_309 : decode code 309 = .ok (.aload_n 2, 1) := by decide +kernel
theorem dL_law_310 : decode code 310 = .ok (.aload_n 0, 1) := by decide +kernel
theorem dL_law_311 : decode code 311 = .ok (.iload_n 3, 1) := by decide +kernel
theorem dL_law_312 : decode code 312 = .ok (.iconst 1, 1) := by decide +kernel
theorem dL_law_313 : decode code 313 = .ok (.iadd, 1) := by decide +kernel
theorem dL_law_314 : decode code 314 = .ok (.iaload, 1) := by decide +kernel
theorem dL_law_315 : decode code 315 = .ok (.invokevirtual 47, 3) := by decide +kernel
theorem dL_law_318 : decode code 318 = .ok (.pop, 1) := by decide +kernel
theorem dL_law_319 : decode code 319 = .ok (.goto 404, 3) := by decide +kernel
theorem dL_law_322 : decode code 322 = .ok (.aload_n 1, 1) := by decide +kernel
theorem dL_law_323 : decode code 323 = .ok (.aload_n 0, 1) := by decide +kernel
theorem dL_law_324 : decode code 324 = .ok (.iload_n 3, 1) := by decide +kernel
theorem dL_law_325 : decode code 325 = .ok (.iconst 1, 1) := by decide +kernel
theorem dL_law_326 : decode code 326 = .ok (.iadd, 1) := by decide +kernel
theorem dL_law_327 : decode code 327 = .ok (.iaload, 1) := by decide +kernel
theorem dL_law_328 : decode code 328 = .ok (.aload_n 0, 1) := by decide +kernel
theorem dL_law_329 : decode code 329 = .ok (.iload_n 3, 1) := by decide +kernel
theorem dL_law_330 : decode code 330 = .ok (.iconst 2, 1) := by decide +kernel
theorem dL_law_331 : decode code 331 = .ok (.iadd, 1) := by decide +kernel
theorem dL_law_332 : decode code 332 = .ok (.iaload, 1) := by decide +kernel
theorem dL_law_333 : decode code 333 = .ok (.invokevirtual 48, 3) := by decide +kernel
theorem dL_law_336 : decode code 336 = .ok (.pop, 1) := by decide +kernel
theorem dL_law_337 : decode code 337 = .ok (.aload_n 2, 1) := by decide +kernel
theorem dL_law_338 : decode code 338 = .ok (.aload_n 0, 1) := by decide +kernel
theorem dL_law_339 : decode code 339 = .ok (.iload_n 3, 1) := by decide +kernel
theorem dL_law_340 : decode code 340 = .ok (.iconst 1, 1) := by decide +kernel
theorem dL_law_341 : decode code 341 = .ok (.iadd, 1) := by decide +kernel
theorem dL_law_342 : decode code 342 = .ok (.iaload, 1) := by decide +kernel
theorem dL_law_343 : decode code 343 = .ok (.aload_n 0, 1) := by decide +kernel
theorem dL_law_344 : decode code 344 = .ok (.iload_n 3, 1) := by decide +kernel
theorem dL_law_345 : decode code 345 = .ok (.iconst 2, 1) := by decide +kernel
theorem dL_law_346 : decode code 346 = .ok (.iadd, 1) := by decide +kernel
theorem dL_law_347 : decode code 347 = .ok (.iaload, 1) := by decide +kernel
theorem dL_law_348 : decode code 348 = .ok (.invokevirtual 51, 3) := by decide +kernel
theorem dL_law_351 : decode code 351 = .ok (.pop, 1) := by decide +kernel
theorem dL_law_352 : decode code 352 = .ok (.goto 371, 3) := by decide +kernel
theorem dL_law_355 : decode code 355 = .ok (.aload_n 1, 1) := by decide +kernel
theorem dL_law_356 : decode code 356 = .ok (.aload_n 0, 1) := by decide +kernel
theorem dL_law_357 : decode code 357 = .ok (.iload_n 3, 1) := by decide +kernel
theorem dL_law_358 : decode code 358 = .ok (.iconst 1, 1) := by decide +kernel
theorem dL_law_359 : decode code 359 = .ok (.iadd, 1) := by decide +kernel
theorem dL_law_360 : decode code 360 = .ok (.iaload, 1) := by decide +kernel
theorem dL_law_361 : decode code 361 = .ok (.invokevirtual 52, 3) := by decide +kernel
theorem dL_law_364 : decode code 364 = .ok (.pop, 1) := by decide +kernel
theorem dL_law_365 : decode code 365 = .ok (.aload_n 2, 1) := by decide +kernel
theorem dL_law_366 : decode code 366 = .ok (.aload_n 0, 1) := by decide +kernel
theorem dL_law_367 : decode code 367 = .ok (.iload_n 3, 1) := by decide +kernel
theorem dL_law_368 : decode code 368 = .ok (.iconst 1, 1) := by decide +kernel
theorem dL_law_369 : decode code 369 = .ok (.iadd, 1) := by decide +kernel
theorem dL_law_370 : decode code 370 = .ok (.iaload, 1) := by decide +kernel
theorem dL_law_371 : decode code 371 = .ok (.invokevirtual 55, 3) := by decide +kernel
theorem dL_law_374 : decode code 374 = .ok (.pop, 1) := by decide +kernel
theorem dL_law_375 : decode code 375 = .ok (.goto 348, 3) := by decide +kernel
theorem dL_law_378 : decode code 378 = .ok (.aload_n 1, 1) := by decide +kernel
theorem dL_law_379 : decode code 379 = .ok (.aload_n 0, 1) := by decide +kernel
theorem dL_law_380 : decode code 380 = .ok (.iload_n 3, 1) := by decide +kernel
theorem dL_law_381 : decode code 381 = .ok (.iconst 1, 1) := by decide +kernel
theorem dL_law_382 : decode code 382 = .ok (.iadd, 1) := by decide +kernel
theorem dL_law_383 : decode code 383 = .ok (.iaload, 1) := by decide +kernel
theorem dL_law_384 : decode code 384 = .ok (.invokevirtual 56, 3) := by decide +kernel
theorem dL_law_387 : decode code 387 = .ok (.pop, 1) := by decide +kernel
theorem dL_law_388 : decode code 388 = .ok (.aload_n 2, 1) := by decide +kernel
theorem dL_law_389 : decode code 389 = .ok (.aload_n 0, 1) := by decide +kernel
theorem dL_law_390 : decode code 390 = .ok (.iload_n 3, 1) := by decide +kernel
theorem dL_law_391 : decode code 391 = .ok (.iconst 1, 1) := by decide +kernel
theorem dL_law_392 : decode code 392 = .ok (.iadd, 1) := by decide +kernel
theorem dL_law_393 : decode code 393 = .ok (.iaload, 1) := by decide +kernel
theorem dL_law_394 : decode code 394 = .ok (.invokevirtual 59, 3) := by decide +kernel
theorem dL_law_397 : decode code 397 = .ok (.pop, 1) := by decide +kernel
theorem dL_law_398 : decode code 398 = .ok (.goto 325, 3) := by decide +kernel
theorem dL_law_401 : decode code 401 = .ok (.aload_n 1, 1) := by decide +kernel
theorem dL_law_402 : decode code 402 = .ok (.invokevirtual 60, 3) := by decide +kernel
theorem dL_law_405 : decode code 405 = .ok (.pop, 1) := by decide +kernel
theorem dL_law_406 : decode code 406 = .ok (.aload_n 2, 1) := by decide +kernel
theorem dL_law_407 : decode code 407 = .ok (.invokevirtual 63, 3) := by decide +kernel
theorem dL_law_410 : decode code 410 = .ok (.pop, 1) := by decide +kernel
theorem dL_law_411 : decode code 411 = .ok (.goto 312, 3) := by decide +kernel
theorem dL_law_414 : decode code 414 = .ok (.aload_n 1, 1) := by decide +kernel
theorem dL_law_415 : decode code 415 = .ok (.invokevirtual 64, 3) := by decide +kernel
theorem dL_law_418 : decode code 418 = .ok (.pop, 1) := by decide +kernel
theorem dL_law_419 : decode code 419 = .ok (.aload_n 2, 1) := by decide +kernel
theorem dL_law_420 : decode code 420 = .ok (.invokevirtual 67, 3) := by decide +kernel
theorem dL_law_423 : decode code 423 = .ok (.pop, 1) := by decide +kernel
theorem dL_law_424 : decode code 424 = .ok (.goto 299, 3) := by decide +kernel
theorem dL_law_427 : decode code 427 = .ok (.aload_n 1, 1) := by decide +kernel
theorem dL_law_428 : decode code 428 = .ok (.aload_n 0, 1) := by decide +kernel
theorem dL_law_429 : decode code 429 = .ok (.iload_n 3, 1) := by decide +kernel
theorem dL_law_430 : decode code 430 = .ok (.iconst 1, 1) := by decide +kernel
theorem dL_law_431 : decode code 431 = .ok (.iadd, 1) := by decide +kernel
theorem dL_law_432 : decode code 432 = .ok (.iaload, 1) := by decide +kernel
theorem dL_law_433 : decode code 433 = .ok (.invokevirtual 68, 3) := by decide +kernel
theorem dL_law_436 : decode code 436 = .ok (.pop, 1) := by decide +kernel
theorem dL_law_437 : decode code 437 = .ok (.aload_n 2, 1) := by decide +kernel
theorem dL_law_438 : decode code 438 = .ok (.aload_n 0, 1) := by decide +kernel
theorem dL_law_439 : decode code 439 = .ok (.iload_n 3, 1) := by decide +kernel
theorem dL_law_440 : decode code 440 = .ok (.iconst 1, 1) := by decide +kernel
theorem dL_law_441 : decode code 441 = .ok (.iadd, 1) := by decide +kernel
theorem dL_law_442 : decode code 442 = .ok (.iaload, 1) := by decide +kernel
theorem dL_law_443 : decode code 443 = .ok (.invokevirtual 71, 3) := by decide +kernel
theorem dL_law_446 : decode code 446 = .ok (.pop, 1) := by decide +kernel
theorem dL_law_447 : decode code 447 = .ok (.goto 276, 3) := by decide +kernel
theorem dL_law_450 : decode code 450 = .ok (.aload_n 1, 1) := by decide +kernel
theorem dL_law_451 : decode code 451 = .ok (.aload_n 0, 1) := by decide +kernel
theorem dL_law_452 : decode code 452 = .ok (.iload_n 3, 1) := by decide +kernel
theorem dL_law_453 : decode code 453 = .ok (.iconst 1, 1) := by decide +kernel
theorem dL_law_454 : decode code 454 = .ok (.iadd, 1) := by decide +kernel
theorem dL_law_455 : decode code 455 = .ok (.iaload, 1) := by decide +kernel
theorem dL_law_456 : decode code 456 = .ok (.invokevirtual 72, 3) := by decide +kernel
theorem dL_law_459 : decode code 459 = .ok (.pop, 1) := by decide +kernel
theorem dL_law_460 : decode code 460 = .ok (.aload_n 2, 1) := by decide +kernel
theorem dL_law_461 : decode code 461 = .ok (.aload_n 0, 1) := by decide +kernel
theorem dL_law_462 : decode code 462 = .ok (.iload_n 3, 1) := by decide +kernel
theorem dL_law_463 : decode code 463 = .ok (.iconst 1, 1) := by decide +kernel
theorem dL_law_464 : decode code 464 = .ok (.iadd, 1) := by decide +kernel
theorem dL_law_465 : decode code 465 = .ok (.iaload, 1) := by decide +kernel
theorem dL_law_466 : decode code 466 = .ok (.invokevirtual 75, 3) := by decide +kernel
theorem dL_law_469 : decode code 469 = .ok (.pop, 1) := by decide +kernel
theorem dL_law_470 : decode code 470 = .ok (.goto 253, 3) := by decide +kernel
theorem dL_law_473 : decode code 473 = .ok (.aload_n 1, 1) := by decide +kernel
theorem dL_law_474 : decode code 474 = .ok (.invokevirtual 76, 3) := by decide +kernel
theorem dL_law_477 : decode code 477 = .ok (.pop, 1) := by decide +kernel
theorem dL_law_478 : decode code 478 = .ok (.aload_n 2, 1) := by decide +kernel
theorem dL_law_479 : decode code 479 = .ok (.invokevirtual 79, 3) := by decide +kernel
theorem dL_law_482 : decode code 482 = .ok (.pop, 1) := by decide +kernel
theorem dL_law_483 : decode code 483 = .ok (.goto 240, 3) := by decide +kernel
theorem dL_law_486 : decode code 486 = .ok (.aload_n 1, 1) := by decide +kernel
theorem dL_law_487 : decode code 487 = .ok (.aload_n 0, 1) := by decide +kernel
theorem dL_law_488 : decode code 488 = .ok (.iload_n 3, 1) := by decide +kernel
theorem dL_law_489 : decode code 489 = .ok (.iconst 1, 1) := by decide +kernel
theorem dL_law_490 : decode code 490 = .ok (.iadd, 1) := by decide +kernel
theorem dL_law_491 : decode code 491 = .ok (.iaload, 1) := by decide +kernel
theorem dL_law_492 : decode code 492 = .ok (.invokevirtual 80, 3) := by decide +kernel
theorem dL_law_495 : decode code 495 = .ok (.pop, 1) := by decide +kernel
theorem dL_law_496 : decode code 496 = .ok (.aload_n 2, 1) := by decide +kernel
theorem dL_law_497 : decode code 497 = .ok (.aload_n 0, 1) := by decide +kernel
theorem dL_law_498 : decode code 498 = .ok (.iload_n 3, 1) := by decide +kernel
theorem dL_law_499 : decode code 499 = .ok (.iconst 1, 1) := by decide +kernel
theorem dL_law_500 : decode code 500 = .ok (.iadd, 1) := by decide +kernel
theorem dL_law_501 : decode code 501 = .ok (.iaload, 1) := by decide +kernel
theorem dL_law_502 : decode code 502 = .ok (.invokevirtual 83, 3) := by decide +kernel
theorem dL_law_505 : decode code 505 = .ok (.pop, 1) := by decide +kernel
theorem dL_law_506 : decode code 506 = .ok (.goto 217, 3) := by decide +kernel
theorem dL_law_509 : decode code 509 = .ok (.aload_n 1, 1) := by decide +kernel
theorem dL_law_510 : decode code 510 = .ok (.aload_n 0, 1) := by decide +kernel
theorem dL_law_511 : decode code 511 = .ok (.iload_n 3, 1) := by decide +kernel
theorem dL_law_512 : decode code 512 = .ok (.iconst 1, 1) := by decide +kernel
theorem dL_law_513 : decode code 513 = .ok (.iadd, 1) := by decide +kernel
theorem dL_law_514 : decode code 514 = .ok (.iaload, 1) := by decide +kernel
theorem dL_law_515 : decode code 515 = .ok (.invokevirtual 84, 3) := by decide +kernel
theorem dL_law_518 : decode code 518 = .ok (.pop, 1) := by decide +kernel
theorem dL_law_519 : decode code 519 = .ok (.aload_n 2, 1) := by decide +kernel
theorem dL_law_520 : decode code 520 = .ok (.aload_n 0, 1) := by decide +kernel
theorem dL_law_521 : decode code 521 = .ok (.iload_n 3, 1) := by decide +kernel
theorem dL_law_522 : decode code 522 = .ok (.iconst 1, 1) := by decide +kernel
theorem dL_law_523 : decode code 523 = .ok (.iadd, 1) := by decide +kernel
theorem dL_law_524 : decode code 524 = .ok (.iaload, 1) := by decide +kernel
theorem dL_law_525 : decode code 525 = .ok (.invokevirtual 87, 3) := by decide +kernel
theorem dL_law_528 : decode code 528 = .ok (.pop, 1) := by decide +kernel
theorem dL_law_529 : decode code 529 = .ok (.goto 194, 3) := by decide +kernel
theorem dL_law_532 : decode code 532 = .ok (.aload_n 1, 1) := by decide +kernel
theorem dL_law_533 : decode code 533 = .ok (.aload_n 0, 1) := by decide +kernel
theorem dL_law_534 : decode code 534 = .ok (.iload_n 3, 1) := by decide +kernel
theorem dL_law_535 : decode code 535 = .ok (.iconst 1, 1) := by decide +kernel
theorem dL_law_536 : decode code 536 = .ok (.iadd, 1) := by decide +kernel
theorem dL_law_537 : decode code 537 = .ok (.iaload, 1) := by decide +kernel
theorem dL_law_538 : decode code 538 = .ok (.aload_n 0, 1) := by decide +kernel
theorem dL_law_539 : decode code 539 = .ok (.iload_n 3, 1) := by decide +kernel
theorem dL_law_540 : decode code 540 = .ok (.iconst 2, 1) := by decide +kernel
theorem dL_law_541 : decode code 541 = .ok (.iadd, 1) := by decide +kernel
theorem dL_law_542 : decode code 542 = .ok (.iaload, 1) := by decide +kernel
theorem dL_law_543 : decode code 543 = .ok (.aload_n 0, 1) := by decide +kernel
theorem dL_law_544 : decode code 544 = .ok (.iload_n 3, 1) := by decide +kernel
theorem dL_law_545 : decode code 545 = .ok (.iconst 3, 1) := by decide +kernel
theorem dL_law_546 : decode code 546 = .ok (.iadd, 1) := by decide +kernel
theorem dL_law_547 : decode code 547 = .ok (.iaload, 1) := by decide +kernel
theorem dL_law_548 : decode code 548 = .ok (.invokevirtual 88, 3) := by decide +kernel
theorem dL_law_551 : decode code 551 = .ok (.pop, 1) := by decide +kernel
theorem dL_law_552 : decode code 552 = .ok (.aload_n 2, 1) := by decide +kernel
theorem dL_law_553 : decode code 553 = .ok (.aload_n 0, 1) := by decide +kernel
theorem dL_law_554 : decode code 554 = .ok (.iload_n 3, 1) := by decide +kernel
theorem dL_law_555 : decode code 555 = .ok (.iconst 1, 1) := by decide +kernel
theorem dL_law_556 : decode code 556 = .ok (.iadd, 1) := by decide +kernel
theorem dL_law_557 : decode code 557 = .ok (.iaload, 1) := by decide +kernel
theorem dL_law_558 : decode code 558 = .ok (.aload_n 0, 1) := by decide +kernel
theorem dL_law_559 : decode code 559 = .ok (.iload_n 3, 1) := by decide +kernel
theorem dL_law_560 : decode code 560 = .ok (.iconst 2, 1) := by decide +kernel
theorem dL_law_561 : decode code 561 = .ok (.iadd, 1) := by decide +kernel
theorem dL_law_562 : decode code 562 = .ok (.iaload, 1) := by decide +kernel
theorem dL_law_563 : decode code 563 = .ok (.aload_n 0, 1) := by decide +kernel
theorem dL_law_564 : decode code 564 = .ok (.iload_n 3, 1) := by decide +kernel
theorem dL_law_565 : decode code 565 = .ok (.iconst 3, 1) := by decide +kernel
theorem dL_law_566 : decode code 566 = .ok (.iadd, 1) := by decide +kernel
theorem dL_law_567 : decode code 567 = .ok (.iaload, 1) := by decide +kernel
theorem dL_law_568 : decode code 568 = .ok (.invokevirtual 92, 3) := by decide +kernel
theorem dL_law_571 : decode code 571 = .ok (.pop, 1) := by decide +kernel
theorem dL_law_572 : decode code 572 = .ok (.goto 151, 3) := by decide +kernel
theorem dL_law_575 : decode code 575 = .ok (.aload_n 1, 1) := by decide +kernel
theorem dL_law_576 : decode code 576 = .ok (.aload_n 0, 1) := by decide +kernel
theorem dL_law_577 : decode code 577 = .ok (.iload_n 3, 1) := by decide +kernel
theorem dL_law_578 : decode code 578 = .ok (.iconst 1, 1) := by decide +kernel
theorem dL_law_579 : decode code 579 = .ok (.iadd, 1) := by decide +kernel
theorem dL_law_580 : decode code 580 = .ok (.iaload, 1) := by decide +kernel
theorem dL_law_581 : decode code 581 = .ok (.aload_n 0, 1) := by decide +kernel
theorem dL_law_582 : decode code 582 = .ok (.iload_n 3, 1) := by decide +kernel
theorem dL_law_583 : decode code 583 = .ok (.iconst 2, 1) := by decide +kernel
theorem dL_law_584 : decode code 584 = .ok (.iadd, 1) := by decide +kernel
theorem dL_law_585 : decode code 585 = .ok (.iaload, 1) := by decide +kernel
theorem dL_law_586 : decode code 586 = .ok (.aload_n 0, 1) := by decide +kernel
theorem dL_law_587 : decode code 587 = .ok (.iload_n 3, 1) := by decide +kernel
theorem dL_law_588 : decode code 588 = .ok (.iconst 3, 1) := by decide +kernel
theorem dL_law_589 : decode code 589 = .ok (.iadd, 1) := by decide +kernel
theorem dL_law_590 : decode code 590 = .ok (.iaload, 1) := by decide +kernel
theorem dL_law_591 : decode code 591 = .ok (.invokevirtual 93, 3) := by decide +kernel
theorem dL_law_594 : decode code 594 = .ok (.pop, 1) := by decide +kernel
theorem dL_law_595 : decode code 595 = .ok (.aload_n 2, 1) := by decide +kernel
theorem dL_law_596 : decode code 596 = .ok (.aload_n 0, 1) := by decide +kernel
theorem dL_law_597 : decode code 597 = .ok (.iload_n 3, 1) := by decide +kernel
theorem dL_law_598 : decode code 598 = .ok (.iconst 1, 1) := by decide +kernel
theorem dL_law_599 : decode code 599 = .ok (.iadd, 1) := by decide +kernel
theorem dL_law_600 : decode code 600 = .ok (.iaload, 1) := by decide +kernel
theorem dL_law_601 : decode code 601 = .ok (.aload_n 0, 1) := by decide +kernel
theorem dL_law_602 : decode code 602 = .ok (.iload_n 3, 1) := by decide +kernel
theorem dL_law_603 : decode code 603 = .ok (.iconst 2, 1) := by decide +kernel
theorem dL_law_604 : decode code 604 = .ok (.iadd, 1) := by decide +kernel
theorem dL_law_605 : decode code 605 = .ok (.iaload, 1) := by decide +kernel
theorem dL_law_606 : decode code 606 = .ok (.aload_n 0, 1) := by decide +kernel
theorem dL_law_607 : decode code 607 = .ok (.iload_n 3, 1) := by decide +kernel
theorem dL_law_608 : decode code 608 = .ok (.iconst 3, 1) := by decide +kernel
theorem dL_law_609 : decode code 609 = .ok (.iadd, 1) := by decide +kernel
theorem dL_law_610 : decode code 610 = .ok (.iaload, 1) := by decide +kernel
theorem dL_law_611 : decode code 611 = .ok (.invokevirtual 96, 3) := by decide +kernel
theorem dL_law_614 : decode code 614 = .ok (.pop, 1) := by decide +kernel
theorem dL_law_615 : decode code 615 = .ok (.goto 108, 3) := by decide +kernel
theorem dL_law_618 : decode code 618 = .ok (.aload_n 1, 1) := by decide +kernel
theorem dL_law_619 : decode code 619 = .ok (.invokevirtual 97, 3) := by decide +kernel
theorem dL_law_622 : decode code 622 = .ok (.pop, 1) := by decide +kernel
theorem dL_law_623 : decode code 623 = .ok (.aload_n 2, 1) := by decide +kernel
theorem dL_law_624 : decode code 624 = .ok (.invokevirtual 100, 3) := by decide +kernel
theorem dL_law_627 : decode code 627 = .ok (.pop, 1) := by decide +kernel
theorem dL_law_628 : decode code 628 = .ok (.goto 95, 3) := by decide +kernel
theorem dL_law_631 : decode code 631 = .ok (.aload_n 1, 1) := by decide +kernel
theorem dL_law_632 : decode code 632 = .ok (.aload_n 0, 1) := by decide +kernel
theorem dL_law_633 : decode code 633 = .ok (.iload_n 3, 1) := by decide +kernel
theorem dL_law_634 : decode code 634 = .ok (.iconst 1, 1) := by decide +kernel
theorem dL_law_635 : decode code 635 = .ok (.iadd, 1) := by decide +kernel
theorem dL_law_636 : decode code 636 = .ok (.iaload, 1) := by decide +kernel
theorem dL_law_637 : decode code 637 = .ok (.invokevirtual 101, 3) := by decide +kernel
theorem dL_law_640 : decode code 640 = .ok (.pop, 1) := by decide +kernel
theorem dL_law_641 : decode code 641 = .ok (.aload_n 2, 1) := by decide +kernel
theorem dL_law_642 : decode code 642 = .ok (.aload_n 0, 1) := by decide +kernel
theorem dL_law_643 : decode code 643 = .ok (.iload_n 3, 1) := by decide +kernel
theorem dL_law_644 : decode code 644 = .ok (.iconst 1, 1) := by decide +kernel
theorem dL_law_645 : decode code 645 = .ok (.iadd, 1) := by decide +kernel
theorem dL_law_646 : decode code 646 = .ok (.iaload, 1) := by decide +kernel
theorem dL_law_647 : decode code 647 = .ok (.invokevirtual 104, 3) := by decide +kernel
theorem dL_law_650 : decode code 650 = .ok (.pop, 1) := by decide +kernel
theorem dL_law_651 : decode code 651 = .ok (.goto 72, 3) := by decide +kernel
theorem dL_law_654 : decode code 654 = .ok (.aload_n 1, 1) := by decide +kernel
theorem dL_law_655 : decode code 655 = .ok (.invokevirtual 105, 3) := by decide +kernel
theorem dL_law_658 : decode code 658 = .ok (.pop, 1) := by decide +kernel
theorem dL_law_659 : decode code 659 = .ok (.aload_n 2, 1) := by decide +kernel
theorem dL_law_660 : decode code 660 = .ok (.invokevirtual 108, 3) := by decide +kernel
theorem dL_law_663 : decode code 663 = .ok (.pop, 1) := by decide +kernel
theorem dL_law_664 : decode code 664 = .ok (.goto 59, 3) := by decide +kernel
theorem dL_law_667 : decode code 667 = .ok (.aload_n 1, 1) := by decide +kernel
theorem dL_law_668 : decode code 668 = .ok (.aload_n 0, 1) := by decide +kernel
theorem dL_law_669 : decode code 669 = .ok (.iload_n 3, 1) := by decide +kernel
theorem dL_law_670 : decode code 670 = .ok (.iconst 1, 1) := by decide +kernel
theorem dL_law_671 : decode code 671 = .ok (.iadd, 1) := by decide +kernel
theorem dL_law_672 : decode code 672 = .ok (.iaload, 1) := by decide +kernel
theorem dL_law_673 : decode code 673 = .ok (.aload_n 0, 1) := by decide +kernel
theorem dL_law_674 : decode code 674 = .ok (.iload_n 3, 1) := by decide +kernel
theorem dL_law_675 : decode code 675 = .ok (.iconst 2, 1) := by decide +kernel
theorem dL_law_676 : decode code 676 = .ok (.iadd, 1) := by decide +kernel
theorem dL_law_677 : decode code 677 = .ok (.iaload, 1) := by decide +kernel
theorem dL_law_678 : decode code 678 = .ok (.invokevirtual 109, 3) := by decide +kernel
theorem dL_law_681 : decode code 681 = .ok (.pop, 1) := by decide +kernel
theorem dL_law_682 : decode code 682 = .ok (.aload_n 2, 1) := by decide +kernel
theorem dL_law_683 : decode code 683 = .ok (.aload_n 0, 1) := by decide +kernel
theorem dL_law_684 : decode code 684 = .ok (.iload_n 3, 1) := by decide +kernel
theorem dL_law_685 : decode code 685 = .ok (.iconst 1, 1) := by decide +kernel
theorem dL_law_686 : decode code 686 = .ok (.iadd, 1) := by decide +kernel
theorem dL_law_687 : decode code 687 = .ok (.iaload, 1) := by decide +kernel
theorem dL_law_688 : decode code 688 = .ok (.aload_n 0, 1) := by decide +kernel
theorem dL_law_689 : decode code 689 = .ok (.iload_n 3, 1) := by decide +kernel
theorem dL_law_690 : decode code 690 = .ok (.iconst 2, 1) := by decide +kernel
theorem dL_law_691 : decode code 691 = .ok (.iadd, 1) := by decide +kernel
theorem dL_law_692 : decode code 692 = .ok (.iaload, 1) := by decide +kernel
theorem dL_law_693 : decode code 693 = .ok (.invokevirtual 112, 3) := by decide +kernel
theorem dL_law_696 : decode code 696 = .ok (.pop, 1) := by decide +kernel
theorem dL_law_697 : decode code 697 = .ok (.goto 26, 3) := by decide +kernel
theorem dL_law_700 : decode code 700 = .ok (.aload_n 1, 1) := by decide +kernel
theorem dL_law_701 : decode code 701 = .ok (.aload_n 0, 1) := by decide +kernel
theorem dL_law_702 : decode code 702 = .ok (.iload_n 3, 1) := by decide +kernel
theorem dL_law_703 : decode code 703 = .ok (.iconst 1, 1) := by decide +kernel
theorem dL_law_704 : decode code 704 = .ok (.iadd, 1) := by decide +kernel
theorem dL_law_705 : decode code 705 = .ok (.iaload, 1) := by decide +kernel
theorem dL_law_706 : decode code 706 = .ok (.invokevirtual 113, 3) := by decide +kernel
theorem dL_law_709 : decode code 709 = .ok (.aload_n 2, 1) := by decide +kernel
theorem dL_law_710 : decode code 710 = .ok (.aload_n 0, 1) := by decide +kernel
theorem dL_law_711 : decode code 711 = .ok (.iload_n 3, 1) := by decide +kernel
theorem dL_law_712 : decode code 712 = .ok (.iconst 1, 1) := by decide +kernel
theorem dL_law_713 : decode code 713 = .ok (.iadd, 1) := by decide +kernel
theorem dL_law_714 : decode code 714 = .ok (.iaload, 1) := by decide +kernel
theorem dL_law_715 : decode code 715 = .ok (.invokevirtual 116, 3) := by decide +kernel
theorem dL_law_718 : decode code 718 = .ok (.if_icmp .eq 5, 3) := by decide +kernel
theorem dL_law_721 : decode code 721 = .ok (.iconst 0, 1) := by decide +kernel
theorem dL_law_722 : decode code 722 = .ok (.ireturn, 1) := by decide +kernel
theorem dL_law_723 : decode code 723 = .ok (.iinc 3 4, 3) := by decide +kernel
theorem dL_law_726 : decode code 726 = .ok (.goto (-708), 3) := by decide +kernel
theorem dL_law_729 : decode code 729 = .ok (.iconst 1, 1) := by decide +kernel
theorem dL_law_730 : decode code 730 = .ok (.ireturn, 1) := by decide +kernel
theorem lkL_L_7 : Cond.classLink RL 7 RX4 ∈ zT := zT_in 61 (by decide +kernel) (by decide +kernel)
theorem lkM_L_9 : Cond.methodLink RL 9 yX4_init ∈ zT := zT_in 63 (by decide +kernel) (by decide +kernel)
theorem lkM_L_13 : Cond.methodLink RL 13 yX4_write ∈ zT := zT_in 270 (by decide +kernel) (by decide +kernel)
theorem lkM_L_18 : Cond.methodLink RL 18 yX4_erase ∈ zT := zT_in 281 (by decide +kernel) (by decide +kernel)
theorem lkM_L_23 : Cond.methodLink RL 23 yX4_fault ∈ zT := zT_in 285 (by decide +kernel) (by decide +kernel)
theorem lkM_L_27 : Cond.methodLink RL 27 yX4_kirk ∈ zT := zT_in 389 (by decide +kernel) (by decide +kernel)
theorem lkM_L_31 : Cond.methodLink RL 31 yX4_part ∈ zT := zT_in 420 (by decide +kernel) (by decide +kernel)
theorem lkM_L_36 : Cond.methodLink RL 36 yX4_sins ∈ zT := zT_in 434 (by decide +kernel) (by decide +kernel)
theorem lkM_L_40 : Cond.methodLink RL 40 yX4_as ∈ zT := zT_in 442 (by decide +kernel) (by decide +kernel)
theorem lkM_L_44 : Cond.methodLink RL 44 yX4_preach ∈ zT := zT_in 449 (by decide +kernel) (by decide +kernel)
theorem lkM_L_48 : Cond.methodLink RL 48 yX4_sin ∈ zT := zT_in 496 (by decide +kernel) (by decide +kernel)
theorem lkM_L_52 : Cond.methodLink RL 52 yX4_ballast ∈ zT := zT_in 500 (by decide +kernel) (by decide +kernel)
theorem lkM_L_56 : Cond.methodLink RL 56 yX4_rain ∈ zT := zT_in 504 (by decide +kernel) (by decide +kernel)
theorem lkM_L_60 : Cond.methodLink RL 60 yX4_sunday ∈ zT := zT_in 508 (by decide +kernel) (by decide +kernel)
theorem lkM_L_64 : Cond.methodLink RL 64 yX4_undo ∈ zT := zT_in 516 (by decide +kernel) (by decide +kernel)
theorem lkM_L_68 : Cond.methodLink RL 68 yX4_keep ∈ zT := zT_in 520 (by decide +kernel) (by decide +kernel)
theorem lkM_L_72 : Cond.methodLink RL 72 yX4_back ∈ zT := zT_in 524 (by decide +kernel) (by decide +kernel)
theorem lkM_L_76 : Cond.methodLink RL 76 yX4_stops ∈ zT := zT_in 528 (by decide +kernel) (by decide +kernel)
theorem lkM_L_80 : Cond.methodLink RL 80 yX4_soonest ∈ zT := zT_in 532 (by decide +kernel) (by decide +kernel)
theorem lkM_L_84 : Cond.methodLink RL 84 yX4_never ∈ zT := zT_in 558 (by decide +kernel) (by decide +kernel)
theorem lkM_L_88 : Cond.methodLink RL 88 yX4_seen ∈ zT := zT_in 562 (by decide +kernel) (by decide +kernel)
theorem lkM_L_93 : Cond.methodLink RL 93 yX4_heard ∈ zT := zT_in 574 (by decide +kernel) (by decide +kernel)
theorem lkM_L_97 : Cond.methodLink RL 97 yX4_forget ∈ zT := zT_in 582 (by decide +kernel) (by decide +kernel)
theorem lkM_L_101 : Cond.methodLink RL 101 yX4_weights ∈ zT := zT_in 586 (by decide +kernel) (by decide +kernel)
theorem lkM_L_105 : Cond.methodLink RL 105 yX4_thumbs ∈ zT := zT_in 594 (by decide +kernel) (by decide +kernel)
theorem lkM_L_109 : Cond.methodLink RL 109 yX4_confessed ∈ zT := zT_in 602 (by decide +kernel) (by decide +kernel)
theorem lkM_L_113 : Cond.methodLink RL 113 yX4_count ∈ zT := zT_in 613 (by decide +kernel) (by decide +kernel)
theorem lkL_L_10 : Cond.classLink RL 10 RX5 ∈ zT := zT_in 617 (by decide +kernel) (by decide +kernel)
theorem lkM_L_12 : Cond.methodLink RL 12 yX5_init ∈ zT := zT_in 619 (by decide +kernel) (by decide +kernel)
theorem lkM_L_17 : Cond.methodLink RL 17 yX5_write ∈ zT := zT_in 683 (by decide +kernel) (by decide +kernel)
theorem lkM_L_22 : Cond.methodLink RL 22 yX5_erase ∈ zT := zT_in 690 (by decide +kernel) (by decide +kernel)
theorem lkM_L_26 : Cond.methodLink RL 26 yX5_fault ∈ zT := zT_in 694 (by decide +kernel) (by decide +kernel)
theorem lkM_L_30 : Cond.methodLink RL 30 yX5_kirk ∈ zT := zT_in 736 (by decide +kernel) (by decide +kernel)
theorem lkM_L_35 : Cond.methodLink RL 35 yX5_part ∈ zT := zT_in 740 (by decide +kernel) (by decide +kernel)
theorem lkM_L_39 : Cond.methodLink RL 39 yX5_sins ∈ zT := zT_in 755 (by decide +kernel) (by decide +kernel)
theorem lkM_L_43 : Cond.methodLink RL 43 yX5_as ∈ zT := zT_in 759 (by decide +kernel) (by decide +kernel)
theorem lkM_L_47 : Cond.methodLink RL 47 yX5_preach ∈ zT := zT_in 763 (by decide +kernel) (by decide +kernel)
theorem lkM_L_51 : Cond.methodLink RL 51 yX5_sin ∈ zT := zT_in 791 (by decide +kernel) (by decide +kernel)
theorem lkM_L_55 : Cond.methodLink RL 55 yX5_ballast ∈ zT := zT_in 795 (by decide +kernel) (by decide +kernel)
theorem lkM_L_59 : Cond.methodLink RL 59 yX5_rain ∈ zT := zT_in 799 (by decide +kernel) (by decide +kernel)
theorem lkM_L_63 : Cond.methodLink RL 63 yX5_sunday ∈ zT := zT_in 803 (by decide +kernel) (by decide +kernel)
theorem lkM_L_67 : Cond.methodLink RL 67 yX5_undo ∈ zT := zT_in 807 (by decide +kernel) (by decide +kernel)
theorem lkM_L_71 : Cond.methodLink RL 71 yX5_keep ∈ zT := zT_in 811 (by decide +kernel) (by decide +kernel)
theorem lkM_L_75 : Cond.methodLink RL 75 yX5_back ∈ zT := zT_in 815 (by decide +kernel) (by decide +kernel)
theorem lkM_L_79 : Cond.methodLink RL 79 yX5_stops ∈ zT := zT_in 819 (by decide +kernel) (by decide +kernel)
theorem lkM_L_83 : Cond.methodLink RL 83 yX5_soonest ∈ zT := zT_in 823 (by decide +kernel) (by decide +kernel)
theorem lkM_L_87 : Cond.methodLink RL 87 yX5_never ∈ zT := zT_in 838 (by decide +kernel) (by decide +kernel)
theorem lkM_L_92 : Cond.methodLink RL 92 yX5_seen ∈ zT := zT_in 842 (by decide +kernel) (by decide +kernel)
theorem lkM_L_96 : Cond.methodLink RL 96 yX5_heard ∈ zT := zT_in 850 (by decide +kernel) (by decide +kernel)
theorem lkM_L_100 : Cond.methodLink RL 100 yX5_forget ∈ zT := zT_in 854 (by decide +kernel) (by decide +kernel)
theorem lkM_L_104 : Cond.methodLink RL 104 yX5_weights ∈ zT := zT_in 858 (by decide +kernel) (by decide +kernel)
theorem lkM_L_108 : Cond.methodLink RL 108 yX5_thumbs ∈ zT := zT_in 862 (by decide +kernel) (by decide +kernel)
theorem lkM_L_112 : Cond.methodLink RL 112 yX5_confessed ∈ zT := zT_in 866 (by decide +kernel) (by decide +kernel)
theorem lkM_L_116 : Cond.methodLink RL 116 yX5_count ∈ zT := zT_in 870 (by decide +kernel) (by decide +kernel)
section ZLL
variable {R : Room} {s : State} {args : Array Value}
theorem zcw_L_13 (hts : ∀ w ∈ zT, w.before args s = true) (hR : 1 + 1 ≤ R.frames ∧ 8 + (2 + 11) + 22 ≤ R.locals) : CallW R s args RL RX4 13 yX4_write cX4_write 2 (some .int) (Cond.code yX4_write cX4_write 2 (some .int) :: zT) ({ frames := 1, cells := 0, slots := 0, locals := 22 } : Room) 0 0 1 := cwV 1 hts (zGoodV lkM_L_13 lkI_X4_write lkV_X4_write lkN_X4 lkC_X4_write) rfl rfl rfl (by decide +kernel) hR
theorem zcw_L_17 (hts : ∀ w ∈ zT, w.before args s = true) (hR : 1 + 1 ≤ R.frames ∧ 8 + (2 + 11) + 22 ≤ R.locals) : CallW R s args RL RX5 17 yX5_write cX5_write 2 (some .int) (Cond.code yX5_write cX5_write 2 (some .int) :: zT) ({ frames := 1, cells := 0, slots := 0, locals := 22 } : Room) 0 0 1 := cwV 1 hts (zGoodV lkM_L_17 lkI_X5_write lkV_X5_write lkN_X5 lkC_X5_write) rfl rfl rfl (by decide +kernel) hR
theorem zcw_L_18 (hts : ∀ w ∈ zT, w.before args s = true) (hR : 0 + 1 ≤ R.frames ∧ 8 + (2 + 11) + 0 ≤ R.locals) : CallW R s args RL RX4 18 yX4_erase cX4_erase 2 (some .int) (Cond.code yX4_erase cX4_erase 2 (some .int) :: zT) ({ frames := 0, cells := 0, slots := 0, locals := 0 } : Room) 0 0 0 := cwV 0 hts (zGoodV lkM_L_18 lkI_X4_erase lkV_X4_erase lkN_X4 lkC_X4_erase) rfl rfl rfl (by decide +kernel) hR
theorem zcw_L_22 (hts : ∀ w ∈ zT, w.before args s = true) (hR : 0 + 1 ≤ R.frames ∧ 8 + (2 + 11) + 0 ≤ R.locals) : CallW R s args RL RX5 22 yX5_erase cX5_erase 2 (some .int) (Cond.code yX5_erase cX5_erase 2 (some .int) :: zT) ({ frames := 0, cells := 0, slots := 0, locals := 0 } : Room) 0 0 0 := cwV 0 hts (zGoodV lkM_L_22 lkI_X5_erase lkV_X5_erase lkN_X5 lkC_X5_erase) rfl rfl rfl (by decide +kernel) hR
theorem zcw_L_23 (hts : ∀ w ∈ zT, w.before args s = true) (hR : 8 + 1 ≤ R.frames ∧ 8 + (1 + 11) + 173 ≤ R.locals) : CallW R s args RL RX4 23 yX4_fault cX4_fault 1 (some .int) (Cond.code yX4_fault cX4_fault 1 (some .int) :: zT) ({ frames := 8, cells := 0, slots := 0, locals := 173 } : Room) 0 0 0 := cwV 0 hts (zGoodV lkM_L_23 lkI_X4_fault lkV_X4_fault lkN_X4 lkC_X4_fault) rfl rfl rfl (by decide +kernel) hR
theorem zcw_L_26 (hts : ∀ w ∈ zT, w.before args s = true) (hR : 7 + 1 ≤ R.frames ∧ 8 + (1 + 11) + 150 ≤ R.locals) : CallW R s args RL RX5 26 yX5_fault cX5_fault 1 (some .int) (Cond.code yX5_fault cX5_fault 1 (some .int) :: zT) ({ frames := 7, cells := 0, slots := 0, locals := 150 } : Room) 0 0 0 := cwV 0 hts (zGoodV lkM_L_26 lkI_X5_fault lkV_X5_fault lkN_X5 lkC_X5_fault) rfl rfl rfl (by decide +kernel) hR
theorem zcw_L_27 (hts : ∀ w ∈ zT, w.before args s = true) (hR : 8 + 1 ≤ R.frames ∧ 8 + (3 + 11) + 173 ≤ R.locals) : CallW R s args RL RX4 27 yX4_kirk cX4_kirk 3 (some .int) (Cond.code yX4_kirk cX4_kirk 3 (some .int) :: zT) ({ frames := 8, cells := 0, slots := 0, locals := 173 } : Room) 0 0 0 := cwV 0 hts (zGoodV lkM_L_27 lkI_X4_kirk lkV_X4_kirk lkN_X4 lkC_X4_kirk) rfl rfl rfl (by decide +kernel) hR
theorem zcw_L_30 (hts : ∀ w ∈ zT, w.before args s = true) (hR : 7 + 1 ≤ R.frames ∧ 8 + (3 + 11) + 150 ≤ R.locals) : CallW R s args RL RX5 30 yX5_kirk cX5_kirk 3 (some .int) (Cond.code yX5_kirk cX5_kirk 3 (some .int) :: zT) ({ frames := 7, cells := 0, slots := 0, locals := 150 } : Room) 0 0 0 := cwV 0 hts (zGoodV lkM_L_30 lkI_X5_kirk lkV_X5_kirk lkN_X5 lkC_X5_kirk) rfl rfl rfl (by decide +kernel) hR
theorem zcw_L_31 (hts : ∀ w ∈ zT, w.before args s = true) (hR : 1 + 1 ≤ R.frames ∧ 8 + (3 + 11) + 22 ≤ R.locals) : CallW R s args RL RX4 31 yX4_part cX4_part 3 (some .int) (Cond.code yX4_part cX4_part 3 (some .int) :: zT) ({ frames := 1, cells := 0, slots := 0, locals := 22 } : Room) 0 0 2 := cwV 2 hts (zGoodV lkM_L_31 lkI_X4_part lkV_X4_part lkN_X4 lkC_X4_part) rfl rfl rfl (by decide +kernel) hR
theorem zcw_L_35 (hts : ∀ w ∈ zT, w.before args s = true) (hR : 2 + 1 ≤ R.frames ∧ 8 + (3 + 11) + 44 ≤ R.locals) : CallW R s args RL RX5 35 yX5_part cX5_part 3 (some .int) (Cond.code yX5_part cX5_part 3 (some .int) :: zT) ({ frames := 2, cells := 0, slots := 0, locals := 44 } : Room) 0 0 2 := cwV 2 hts (zGoodV lkM_L_35 lkI_X5_part lkV_X5_part lkN_X5 lkC_X5_part) rfl rfl rfl (by decide +kernel) hR
theorem zcw_L_36 (hts : ∀ w ∈ zT, w.before args s = true) (hR : 1 + 1 ≤ R.frames ∧ 8 + (2 + 11) + 21 ≤ R.locals) : CallW R s args RL RX4 36 yX4_sins cX4_sins 2 (some .int) (Cond.code yX4_sins cX4_sins 2 (some .int) :: zT) ({ frames := 1, cells := 0, slots := 0, locals := 21 } : Room) 0 0 1 := cwV 1 hts (zGoodV lkM_L_36 lkI_X4_sins lkV_X4_sins lkN_X4 lkC_X4_sins) rfl rfl rfl (by decide +kernel) hR
theorem zcw_L_39 (hts : ∀ w ∈ zT, w.before args s = true) (hR : 1 + 1 ≤ R.frames ∧ 8 + (2 + 11) + 22 ≤ R.locals) : CallW R s args RL RX5 39 yX5_sins cX5_sins 2 (some .int) (Cond.code yX5_sins cX5_sins 2 (some .int) :: zT) ({ frames := 1, cells := 0, slots := 0, locals := 22 } : Room) 0 0 1 := cwV 1 hts (zGoodV lkM_L_39 lkI_X5_sins lkV_X5_sins lkN_X5 lkC_X5_sins) rfl rfl rfl (by decide +kernel) hR
theorem zcw_L_40 (hts : ∀ w ∈ zT, w.before args s = true) (hR : 1 + 1 ≤ R.frames ∧ 8 + (3 + 11) + 23 ≤ R.locals) : CallW R s args RL RX4 40 yX4_as cX4_as 3 (some .int) (Cond.code yX4_as cX4_as 3 (some .int) :: zT) ({ frames := 1, cells := 0, slots := 0, locals := 23 } : Room) 0 0 2 := cwV 2 hts (zGoodV lkM_L_40 lkI_X4_as lkV_X4_as lkN_X4 lkC_X4_as) rfl rfl rfl (by decide +kernel) hR
theorem zcw_L_43 (hts : ∀ w ∈ zT, w.before args s = true) (hR : 2 + 1 ≤ R.frames ∧ 8 + (5 + 11) + 44 ≤ R.locals) : CallW R s args RL RX5 43 yX5_as cX5_as 5 (some .int) (Cond.code yX5_as cX5_as 5 (some .int) :: zT) ({ frames := 2, cells := 0, slots := 0, locals := 44 } : Room) 0 0 2 := cwV 2 hts (zGoodV lkM_L_43 lkI_X5_as lkV_X5_as lkN_X5 lkC_X5_as) rfl rfl rfl (by decide +kernel) hR
theorem zcw_L_44 (hts : ∀ w ∈ zT, w.before args s = true) (hR : 4 + 1 ≤ R.frames ∧ 8 + (2 + 11) + 87 ≤ R.locals) : CallW R s args RL RX4 44 yX4_preach cX4_preach 2 (some .int) (Cond.code yX4_preach cX4_preach 2 (some .int) :: zT) ({ frames := 4, cells := 0, slots := 0, locals := 87 } : Room) 0 0 1 := cwV 1 hts (zGoodV lkM_L_44 lkI_X4_preach lkV_X4_preach lkN_X4 lkC_X4_preach) rfl rfl rfl (by decide +kernel) hR
theorem zcw_L_47 (hts : ∀ w ∈ zT, w.before args s = true) (hR : 5 + 1 ≤ R.frames ∧ 8 + (2 + 11) + 108 ≤ R.locals) : CallW R s args RL RX5 47 yX5_preach cX5_preach 2 (some .int) (Cond.code yX5_preach cX5_preach 2 (some .int) :: zT) ({ frames := 5, cells := 0, slots := 0, locals := 108 } : Room) 0 0 1 := cwV 1 hts (zGoodV lkM_L_47 lkI_X5_preach lkV_X5_preach lkN_X5 lkC_X5_preach) rfl rfl rfl (by decide +kernel) hR
theorem zcw_L_48 (hts : ∀ w ∈ zT, w.before args s = true) (hR : 3 + 1 ≤ R.frames ∧ 8 + (3 + 11) + 59 ≤ R.locals) : CallW R s args RL RX4 48 yX4_sin cX4_sin 3 (some .int) (Cond.code yX4_sin cX4_sin 3 (some .int) :: zT) ({ frames := 3, cells := 0, slots := 0, locals := 59 } : Room) 0 0 2 := cwV 2 hts (zGoodV lkM_L_48 lkI_X4_sin lkV_X4_sin lkN_X4 lkC_X4_sin) rfl rfl rfl (by decide +kernel) hR
theorem zcw_L_51 (hts : ∀ w ∈ zT, w.before args s = true) (hR : 1 + 1 ≤ R.frames ∧ 8 + (3 + 11) + 22 ≤ R.locals) : CallW R s args RL RX5 51 yX5_sin cX5_sin 3 (some .int) (Cond.code yX5_sin cX5_sin 3 (some .int) :: zT) ({ frames := 1, cells := 0, slots := 0, locals := 22 } : Room) 0 0 2 := cwV 2 hts (zGoodV lkM_L_51 lkI_X5_sin lkV_X5_sin lkN_X5 lkC_X5_sin) rfl rfl rfl (by decide +kernel) hR
theorem zcw_L_52 (hts : ∀ w ∈ zT, w.before args s = true) (hR : 3 + 1 ≤ R.frames ∧ 8 + (2 + 11) + 59 ≤ R.locals) : CallW R s args RL RX4 52 yX4_ballast cX4_ballast 2 (some .int) (Cond.code yX4_ballast cX4_ballast 2 (some .int) :: zT) ({ frames := 3, cells := 0, slots := 0, locals := 59 } : Room) 0 0 1 := cwV 1 hts (zGoodV lkM_L_52 lkI_X4_ballast lkV_X4_ballast lkN_X4 lkC_X4_ballast) rfl rfl rfl (by decide +kernel) hR
theorem zcw_L_55 (hts : ∀ w ∈ zT, w.before args s = true) (hR : 1 + 1 ≤ R.frames ∧ 8 + (2 + 11) + 22 ≤ R.locals) : CallW R s args RL RX5 55 yX5_ballast cX5_ballast 2 (some .int) (Cond.code yX5_ballast cX5_ballast 2 (some .int) :: zT) ({ frames := 1, cells := 0, slots := 0, locals := 22 } : Room) 0 0 1 := cwV 1 hts (zGoodV lkM_L_55 lkI_X5_ballast lkV_X5_ballast lkN_X5 lkC_X5_ballast) rfl rfl rfl (by decide +kernel) hR
theorem zcw_L_56 (hts : ∀ w ∈ zT, w.before args s = true) (hR : 3 + 1 ≤ R.frames ∧ 8 + (3 + 11) + 59 ≤ R.locals) : CallW R s args RL RX4 56 yX4_rain cX4_rain 3 (some .int) (Cond.code yX4_rain cX4_rain 3 (some .int) :: zT) ({ frames := 3, cells := 0, slots := 0, locals := 59 } : Room) 0 0 1 := cwV 1 hts (zGoodV lkM_L_56 lkI_X4_rain lkV_X4_rain lkN_X4 lkC_X4_rain) rfl rfl rfl (by decide +kernel) hR
theorem zcw_L_59 (hts : ∀ w ∈ zT, w.before args s = true) (hR : 1 + 1 ≤ R.frames ∧ 8 + (3 + 11) + 22 ≤ R.locals) : CallW R s args RL RX5 59 yX5_rain cX5_rain 3 (some .int) (Cond.code yX5_rain cX5_rain 3 (some .int) :: zT) ({ frames := 1, cells := 0, slots := 0, locals := 22 } : Room) 0 0 1 := cwV 1 hts (zGoodV lkM_L_59 lkI_X5_rain lkV_X5_rain lkN_X5 lkC_X5_rain) rfl rfl rfl (by decide +kernel) hR
theorem zcw_L_60 (hts : ∀ w ∈ zT, w.before args s = true) (hR : 4 + 1 ≤ R.frames ∧ 8 + (2 + 11) + 87 ≤ R.locals) : CallW R s args RL RX4 60 yX4_sunday cX4_sunday 2 (some .int) (Cond.code yX4_sunday cX4_sunday 2 (some .int) :: zT) ({ frames := 4, cells := 0, slots := 0, locals := 87 } : Room) 0 0 0 := cwV 0 hts (zGoodV lkM_L_60 lkI_X4_sunday lkV_X4_sunday lkN_X4 lkC_X4_sunday) rfl rfl rfl (by decide +kernel) hR
theorem zcw_L_63 (hts : ∀ w ∈ zT, w.before args s = true) (hR : 5 + 1 ≤ R.frames ∧ 8 + (3 + 11) + 108 ≤ R.locals) : CallW R s args RL RX5 63 yX5_sunday cX5_sunday 3 (some .int) (Cond.code yX5_sunday cX5_sunday 3 (some .int) :: zT) ({ frames := 5, cells := 0, slots := 0, locals := 108 } : Room) 0 0 0 := cwV 0 hts (zGoodV lkM_L_63 lkI_X5_sunday lkV_X5_sunday lkN_X5 lkC_X5_sunday) rfl rfl rfl (by decide +kernel) hR
theorem zcw_L_64 (hts : ∀ w ∈ zT, w.before args s = true) (hR : 2 + 1 ≤ R.frames ∧ 8 + (1 + 11) + 39 ≤ R.locals) : CallW R s args RL RX4 64 yX4_undo cX4_undo 1 (some .int) (Cond.code yX4_undo cX4_undo 1 (some .int) :: zT) ({ frames := 2, cells := 0, slots := 0, locals := 39 } : Room) 0 0 0 := cwV 0 hts (zGoodV lkM_L_64 lkI_X4_undo lkV_X4_undo lkN_X4 lkC_X4_undo) rfl rfl rfl (by decide +kernel) hR
theorem zcw_L_67 (hts : ∀ w ∈ zT, w.before args s = true) (hR : 0 + 1 ≤ R.frames ∧ 8 + (2 + 11) + 0 ≤ R.locals) : CallW R s args RL RX5 67 yX5_undo cX5_undo 2 (some .int) (Cond.code yX5_undo cX5_undo 2 (some .int) :: zT) ({ frames := 0, cells := 0, slots := 0, locals := 0 } : Room) 0 0 0 := cwV 0 hts (zGoodV lkM_L_67 lkI_X5_undo lkV_X5_undo lkN_X5 lkC_X5_undo) rfl rfl rfl (by decide +kernel) hR
theorem zcw_L_68 (hts : ∀ w ∈ zT, w.before args s = true) (hR : 2 + 1 ≤ R.frames ∧ 8 + (2 + 11) + 39 ≤ R.locals) : CallW R s args RL RX4 68 yX4_keep cX4_keep 2 (some .int) (Cond.code yX4_keep cX4_keep 2 (some .int) :: zT) ({ frames := 2, cells := 0, slots := 0, locals := 39 } : Room) 0 0 1 := cwV 1 hts (zGoodV lkM_L_68 lkI_X4_keep lkV_X4_keep lkN_X4 lkC_X4_keep) rfl rfl rfl (by decide +kernel) hR
theorem zcw_L_71 (hts : ∀ w ∈ zT, w.before args s = true) (hR : 1 + 1 ≤ R.frames ∧ 8 + (3 + 11) + 22 ≤ R.locals) : CallW R s args RL RX5 71 yX5_keep cX5_keep 3 (some .int) (Cond.code yX5_keep cX5_keep 3 (some .int) :: zT) ({ frames := 1, cells := 0, slots := 0, locals := 22 } : Room) 0 0 1 := cwV 1 hts (zGoodV lkM_L_71 lkI_X5_keep lkV_X5_keep lkN_X5 lkC_X5_keep) rfl rfl rfl (by decide +kernel) hR
theorem zcw_L_72 (hts : ∀ w ∈ zT, w.before args s = true) (hR : 2 + 1 ≤ R.frames ∧ 8 + (2 + 11) + 39 ≤ R.locals) : CallW R s args RL RX4 72 yX4_back cX4_back 2 (some .int) (Cond.code yX4_back cX4_back 2 (some .int) :: zT) ({ frames := 2, cells := 0, slots := 0, locals := 39 } : Room) 0 0 1 := cwV 1 hts (zGoodV lkM_L_72 lkI_X4_back lkV_X4_back lkN_X4 lkC_X4_back) rfl rfl rfl (by decide +kernel) hR
theorem zcw_L_75 (hts : ∀ w ∈ zT, w.before args s = true) (hR : 1 + 1 ≤ R.frames ∧ 8 + (3 + 11) + 22 ≤ R.locals) : CallW R s args RL RX5 75 yX5_back cX5_back 3 (some .int) (Cond.code yX5_back cX5_back 3 (some .int) :: zT) ({ frames := 1, cells := 0, slots := 0, locals := 22 } : Room) 0 0 1 := cwV 1 hts (zGoodV lkM_L_75 lkI_X5_back lkV_X5_back lkN_X5 lkC_X5_back) rfl rfl rfl (by decide +kernel) hR
theorem zcw_L_76 (hts : ∀ w ∈ zT, w.before args s = true) (hR : 3 + 1 ≤ R.frames ∧ 8 + (5 + 11) + 67 ≤ R.locals) : CallW R s args RL RX4 76 yX4_stops cX4_stops 5 (some .int) (Cond.code yX4_stops cX4_stops 5 (some .int) :: zT) ({ frames := 3, cells := 0, slots := 0, locals := 67 } : Room) 0 0 0 := cwV 0 hts (zGoodV lkM_L_76 lkI_X4_stops lkV_X4_stops lkN_X4 lkC_X4_stops) rfl rfl rfl (by decide +kernel) hR
theorem zcw_L_79 (hts : ∀ w ∈ zT, w.before args s = true) (hR : 4 + 1 ≤ R.frames ∧ 8 + (4 + 11) + 88 ≤ R.locals) : CallW R s args RL RX5 79 yX5_stops cX5_stops 4 (some .int) (Cond.code yX5_stops cX5_stops 4 (some .int) :: zT) ({ frames := 4, cells := 0, slots := 0, locals := 88 } : Room) 0 0 0 := cwV 0 hts (zGoodV lkM_L_79 lkI_X5_stops lkV_X5_stops lkN_X5 lkC_X5_stops) rfl rfl rfl (by decide +kernel) hR
theorem zcw_L_80 (hts : ∀ w ∈ zT, w.before args s = true) (hR : 5 + 1 ≤ R.frames ∧ 8 + (3 + 11) + 112 ≤ R.locals) : CallW R s args RL RX4 80 yX4_soonest cX4_soonest 3 (some .int) (Cond.code yX4_soonest cX4_soonest 3 (some .int) :: zT) ({ frames := 5, cells := 0, slots := 0, locals := 112 } : Room) 0 0 1 := cwV 1 hts (zGoodV lkM_L_80 lkI_X4_soonest lkV_X4_soonest lkN_X4 lkC_X4_soonest) rfl rfl rfl (by decide +kernel) hR
theorem zcw_L_83 (hts : ∀ w ∈ zT, w.before args s = true) (hR : 5 + 1 ≤ R.frames ∧ 8 + (6 + 11) + 110 ≤ R.locals) : CallW R s args RL RX5 83 yX5_soonest cX5_soonest 6 (some .int) (Cond.code yX5_soonest cX5_soonest 6 (some .int) :: zT) ({ frames := 5, cells := 0, slots := 0, locals := 110 } : Room) 0 0 1 := cwV 1 hts (zGoodV lkM_L_83 lkI_X5_soonest lkV_X5_soonest lkN_X5 lkC_X5_soonest) rfl rfl rfl (by decide +kernel) hR
theorem zcw_L_84 (hts : ∀ w ∈ zT, w.before args s = true) (hR : 4 + 1 ≤ R.frames ∧ 8 + (3 + 11) + 89 ≤ R.locals) : CallW R s args RL RX4 84 yX4_never cX4_never 3 (some .int) (Cond.code yX4_never cX4_never 3 (some .int) :: zT) ({ frames := 4, cells := 0, slots := 0, locals := 89 } : Room) 0 0 1 := cwV 1 hts (zGoodV lkM_L_84 lkI_X4_never lkV_X4_never lkN_X4 lkC_X4_never) rfl rfl rfl (by decide +kernel) hR
theorem zcw_L_87 (hts : ∀ w ∈ zT, w.before args s = true) (hR : 5 + 1 ≤ R.frames ∧ 8 + (4 + 11) + 110 ≤ R.locals) : CallW R s args RL RX5 87 yX5_never cX5_never 4 (some .int) (Cond.code yX5_never cX5_never 4 (some .int) :: zT) ({ frames := 5, cells := 0, slots := 0, locals := 110 } : Room) 0 0 1 := cwV 1 hts (zGoodV lkM_L_87 lkI_X5_never lkV_X5_never lkN_X5 lkC_X5_never) rfl rfl rfl (by decide +kernel) hR
theorem zcw_L_88 (hts : ∀ w ∈ zT, w.before args s = true) (hR : 1 + 1 ≤ R.frames ∧ 8 + (4 + 11) + 23 ≤ R.locals) : CallW R s args RL RX4 88 yX4_seen cX4_seen 4 (some .int) (Cond.code yX4_seen cX4_seen 4 (some .int) :: zT) ({ frames := 1, cells := 0, slots := 0, locals := 23 } : Room) 0 0 3 := cwV 3 hts (zGoodV lkM_L_88 lkI_X4_seen lkV_X4_seen lkN_X4 lkC_X4_seen) rfl rfl rfl (by decide +kernel) hR
theorem zcw_L_92 (hts : ∀ w ∈ zT, w.before args s = true) (hR : 2 + 1 ≤ R.frames ∧ 8 + (4 + 11) + 43 ≤ R.locals) : CallW R s args RL RX5 92 yX5_seen cX5_seen 4 (some .int) (Cond.code yX5_seen cX5_seen 4 (some .int) :: zT) ({ frames := 2, cells := 0, slots := 0, locals := 43 } : Room) 0 0 3 := cwV 3 hts (zGoodV lkM_L_92 lkI_X5_seen lkV_X5_seen lkN_X5 lkC_X5_seen) rfl rfl rfl (by decide +kernel) hR
theorem zcw_L_93 (hts : ∀ w ∈ zT, w.before args s = true) (hR : 1 + 1 ≤ R.frames ∧ 8 + (4 + 11) + 24 ≤ R.locals) : CallW R s args RL RX4 93 yX4_heard cX4_heard 4 (some .int) (Cond.code yX4_heard cX4_heard 4 (some .int) :: zT) ({ frames := 1, cells := 0, slots := 0, locals := 24 } : Room) 0 0 3 := cwV 3 hts (zGoodV lkM_L_93 lkI_X4_heard lkV_X4_heard lkN_X4 lkC_X4_heard) rfl rfl rfl (by decide +kernel) hR
theorem zcw_L_96 (hts : ∀ w ∈ zT, w.before args s = true) (hR : 2 + 1 ≤ R.frames ∧ 8 + (4 + 11) + 43 ≤ R.locals) : CallW R s args RL RX5 96 yX5_heard cX5_heard 4 (some .int) (Cond.code yX5_heard cX5_heard 4 (some .int) :: zT) ({ frames := 2, cells := 0, slots := 0, locals := 43 } : Room) 0 0 3 := cwV 3 hts (zGoodV lkM_L_96 lkI_X5_heard lkV_X5_heard lkN_X5 lkC_X5_heard) rfl rfl rfl (by decide +kernel) hR
theorem zcw_L_97 (hts : ∀ w ∈ zT, w.before args s = true) (hR : 1 + 1 ≤ R.frames ∧ 8 + (2 + 11) + 20 ≤ R.locals) : CallW R s args RL RX4 97 yX4_forget cX4_forget 2 (some .int) (Cond.code yX4_forget cX4_forget 2 (some .int) :: zT) ({ frames := 1, cells := 0, slots := 0, locals := 20 } : Room) 0 0 0 := cwV 0 hts (zGoodV lkM_L_97 lkI_X4_forget lkV_X4_forget lkN_X4 lkC_X4_forget) rfl rfl rfl (by decide +kernel) hR
theorem zcw_L_100 (hts : ∀ w ∈ zT, w.before args s = true) (hR : 0 + 1 ≤ R.frames ∧ 8 + (2 + 11) + 0 ≤ R.locals) : CallW R s args RL RX5 100 yX5_forget cX5_forget 2 (some .int) (Cond.code yX5_forget cX5_forget 2 (some .int) :: zT) ({ frames := 0, cells := 0, slots := 0, locals := 0 } : Room) 0 0 0 := cwV 0 hts (zGoodV lkM_L_100 lkI_X5_forget lkV_X5_forget lkN_X5 lkC_X5_forget) rfl rfl rfl (by decide +kernel) hR
theorem zcw_L_101 (hts : ∀ w ∈ zT, w.before args s = true) (hR : 3 + 1 ≤ R.frames ∧ 8 + (4 + 11) + 72 ≤ R.locals) : CallW R s args RL RX4 101 yX4_weights cX4_weights 4 (some .int) (Cond.code yX4_weights cX4_weights 4 (some .int) :: zT) ({ frames := 3, cells := 0, slots := 0, locals := 72 } : Room) 0 0 1 := cwV 1 hts (zGoodV lkM_L_101 lkI_X4_weights lkV_X4_weights lkN_X4 lkC_X4_weights) rfl rfl rfl (by decide +kernel) hR
theorem zcw_L_104 (hts : ∀ w ∈ zT, w.before args s = true) (hR : 3 + 1 ≤ R.frames ∧ 8 + (9 + 11) + 68 ≤ R.locals) : CallW R s args RL RX5 104 yX5_weights cX5_weights 9 (some .int) (Cond.code yX5_weights cX5_weights 9 (some .int) :: zT) ({ frames := 3, cells := 0, slots := 0, locals := 68 } : Room) 0 0 1 := cwV 1 hts (zGoodV lkM_L_104 lkI_X5_weights lkV_X5_weights lkN_X5 lkC_X5_weights) rfl rfl rfl (by decide +kernel) hR
theorem zcw_L_105 (hts : ∀ w ∈ zT, w.before args s = true) (hR : 3 + 1 ≤ R.frames ∧ 8 + (3 + 11) + 69 ≤ R.locals) : CallW R s args RL RX4 105 yX4_thumbs cX4_thumbs 3 (some .int) (Cond.code yX4_thumbs cX4_thumbs 3 (some .int) :: zT) ({ frames := 3, cells := 0, slots := 0, locals := 69 } : Room) 0 0 0 := cwV 0 hts (zGoodV lkM_L_105 lkI_X4_thumbs lkV_X4_thumbs lkN_X4 lkC_X4_thumbs) rfl rfl rfl (by decide +kernel) hR
theorem zcw_L_108 (hts : ∀ w ∈ zT, w.before args s = true) (hR : 3 + 1 ≤ R.frames ∧ 8 + (6 + 11) + 68 ≤ R.locals) : CallW R s args RL RX5 108 yX5_thumbs cX5_thumbs 6 (some .int) (Cond.code yX5_thumbs cX5_thumbs 6 (some .int) :: zT) ({ frames := 3, cells := 0, slots := 0, locals := 68 } : Room) 0 0 0 := cwV 0 hts (zGoodV lkM_L_108 lkI_X5_thumbs lkV_X5_thumbs lkN_X5 lkC_X5_thumbs) rfl rfl rfl (by decide +kernel) hR
theorem zcw_L_109 (hts : ∀ w ∈ zT, w.before args s = true) (hR : 3 + 1 ≤ R.frames ∧ 8 + (8 + 11) + 67 ≤ R.locals) : CallW R s args RL RX4 109 yX4_confessed cX4_confessed 8 (some .int) (Cond.code yX4_confessed cX4_confessed 8 (some .int) :: zT) ({ frames := 3, cells := 0, slots := 0, locals := 67 } : Room) 0 0 2 := cwV 2 hts (zGoodV lkM_L_109 lkI_X4_confessed lkV_X4_confessed lkN_X4 lkC_X4_confessed) rfl rfl rfl (by decide +kernel) hR
theorem zcw_L_112 (hts : ∀ w ∈ zT, w.before args s = true) (hR : 4 + 1 ≤ R.frames ∧ 8 + (10 + 11) + 88 ≤ R.locals) : CallW R s args RL RX5 112 yX5_confessed cX5_confessed 10 (some .int) (Cond.code yX5_confessed cX5_confessed 10 (some .int) :: zT) ({ frames := 4, cells := 0, slots := 0, locals := 88 } : Room) 0 0 2 := cwV 2 hts (zGoodV lkM_L_112 lkI_X5_confessed lkV_X5_confessed lkN_X5 lkC_X5_confessed) rfl rfl rfl (by decide +kernel) hR
theorem zcw_L_113 (hts : ∀ w ∈ zT, w.before args s = true) (hR : 4 + 1 ≤ R.frames ∧ 8 + (2 + 11) + 87 ≤ R.locals) : CallW R s args RL RX4 113 yX4_count cX4_count 2 (some .int) (Cond.code yX4_count cX4_count 2 (some .int) :: zT) ({ frames := 4, cells := 0, slots := 0, locals := 87 } : Room) 0 0 1 := cwV 1 hts (zGoodV lkM_L_113 lkI_X4_count lkV_X4_count lkN_X4 lkC_X4_count) rfl rfl rfl (by decide +kernel) hR
theorem zcw_L_116 (hts : ∀ w ∈ zT, w.before args s = true) (hR : 5 + 1 ≤ R.frames ∧ 8 + (2 + 11) + 108 ≤ R.locals) : CallW R s args RL RX5 116 yX5_count cX5_count 2 (some .int) (Cond.code yX5_count cX5_count 2 (some .int) :: zT) ({ frames := 5, cells := 0, slots := 0, locals := 108 } : Room) 0 0 1 := cwV 1 hts (zGoodV lkM_L_116 lkI_X5_count lkV_X5_count lkN_X5 lkC_X5_count) rfl rfl rfl (by decide +kernel) hR
end ZLL
/-- what the law asks of each call: both answer, and, where it compares, alike -/
def zOps (N L : Nat) (I : Nat → zMem → Prop) : Prop :=
  (∀ (i : Nat) (mem : zMem) (a : Int32), i + 4 ≤ L → I i mem → ∃ (r : Int32) (m1 : zMem) (r2 : Int32) (m2 : zMem), f_X4_write N mem a = some (r, m1) ∧ f_X5_write N m1 a = some (r2, m2) ∧ True ∧ I (i + 4) m2) ∧
  (∀ (i : Nat) (mem : zMem), i + 4 ≤ L → I i mem → ∃ (r : Int32) (m1 : zMem) (r2 : Int32) (m2 : zMem), f_X4_erase N mem = some (r, m1) ∧ f_X5_erase N m1 = some (r2, m2) ∧ True ∧ I (i + 4) m2) ∧
  (∀ (i : Nat) (mem : zMem), i + 4 ≤ L → I i mem → ∃ (r : Int32) (m1 : zMem) (r2 : Int32) (m2 : zMem), f_X4_fault N mem = some (r, m1) ∧ f_X5_fault N m1 = some (r2, m2) ∧ True ∧ I (i + 4) m2) ∧
  (∀ (i : Nat) (mem : zMem), i + 4 ≤ L → I i mem → ∃ (r : Int32) (m1 : zMem) (r2 : Int32) (m2 : zMem), f_X4_kirk N mem = some (r, m1) ∧ f_X5_kirk N m1 = some (r2, m2) ∧ True ∧ I (i + 4) m2) ∧
  (∀ (i : Nat) (mem : zMem) (a : Int32) (b : Int32), i + 4 ≤ L → I i mem → ∃ (r : Int32) (m1 : zMem) (r2 : Int32) (m2 : zMem), f_X4_part N mem a b = some (r, m1) ∧ f_X5_part N m1 a b = some (r2, m2) ∧ True ∧ I (i + 4) m2) ∧
  (∀ (i : Nat) (mem : zMem) (a : Int32), i + 4 ≤ L → I i mem → ∃ (r : Int32) (m1 : zMem) (r2 : Int32) (m2 : zMem), f_X4_sins N mem a = some (r, m1) ∧ f_X5_sins N m1 a = some (r2, m2) ∧ True ∧ I (i + 4) m2) ∧
  (∀ (i : Nat) (mem : zMem) (a : Int32) (b : Int32), i + 4 ≤ L → I i mem → ∃ (r : Int32) (m1 : zMem) (r2 : Int32) (m2 : zMem), f_X4_as N mem a b = some (r, m1) ∧ f_X5_as N m1 a b = some (r2, m2) ∧ True ∧ I (i + 4) m2) ∧
  (∀ (i : Nat) (mem : zMem) (a : Int32), i + 4 ≤ L → I i mem → ∃ (r : Int32) (m1 : zMem) (r2 : Int32) (m2 : zMem), f_X4_preach N mem a = some (r, m1) ∧ f_X5_preach N m1 a = some (r2, m2) ∧ True ∧ I (i + 4) m2) ∧
  (∀ (i : Nat) (mem : zMem) (a : Int32) (b : Int32), i + 4 ≤ L → I i mem → ∃ (r : Int32) (m1 : zMem) (r2 : Int32) (m2 : zMem), f_X4_sin N mem a b = some (r, m1) ∧ f_X5_sin N m1 a b = some (r2, m2) ∧ True ∧ I (i + 4) m2) ∧
  (∀ (i : Nat) (mem : zMem) (a : Int32), i + 4 ≤ L → I i mem → ∃ (r : Int32) (m1 : zMem) (r2 : Int32) (m2 : zMem), f_X4_ballast N mem a = some (r, m1) ∧ f_X5_ballast N m1 a = some (r2, m2) ∧ True ∧ I (i + 4) m2) ∧
  (∀ (i : Nat) (mem : zMem) (a : Int32), i + 4 ≤ L → I i mem → ∃ (r : Int32) (m1 : zMem) (r2 : Int32) (m2 : zMem), f_X4_rain N mem a = some (r, m1) ∧ f_X5_rain N m1 a = some (r2, m2) ∧ True ∧ I (i + 4) m2) ∧
  (∀ (i : Nat) (mem : zMem), i + 4 ≤ L → I i mem → ∃ (r : Int32) (m1 : zMem) (r2 : Int32) (m2 : zMem), f_X4_sunday N mem = some (r, m1) ∧ f_X5_sunday N m1 = some (r2, m2) ∧ True ∧ I (i + 4) m2) ∧
  (∀ (i : Nat) (mem : zMem), i + 4 ≤ L → I i mem → ∃ (r : Int32) (m1 : zMem) (r2 : Int32) (m2 : zMem), f_X4_undo N mem = some (r, m1) ∧ f_X5_undo N m1 = some (r2, m2) ∧ True ∧ I (i + 4) m2) ∧
  (∀ (i : Nat) (mem : zMem) (a : Int32), i + 4 ≤ L → I i mem → ∃ (r : Int32) (m1 : zMem) (r2 : Int32) (m2 : zMem), f_X4_keep N mem a = some (r, m1) ∧ f_X5_keep N m1 a = some (r2, m2) ∧ True ∧ I (i + 4) m2) ∧
  (∀ (i : Nat) (mem : zMem) (a : Int32), i + 4 ≤ L → I i mem → ∃ (r : Int32) (m1 : zMem) (r2 : Int32) (m2 : zMem), f_X4_back N mem a = some (r, m1) ∧ f_X5_back N m1 a = some (r2, m2) ∧ True ∧ I (i + 4) m2) ∧
  (∀ (i : Nat) (mem : zMem), i + 4 ≤ L → I i mem → ∃ (r : Int32) (m1 : zMem) (r2 : Int32) (m2 : zMem), f_X4_stops N mem = some (r, m1) ∧ f_X5_stops N m1 = some (r2, m2) ∧ True ∧ I (i + 4) m2) ∧
  (∀ (i : Nat) (mem : zMem) (a : Int32), i + 4 ≤ L → I i mem → ∃ (r : Int32) (m1 : zMem) (r2 : Int32) (m2 : zMem), f_X4_soonest N mem a = some (r, m1) ∧ f_X5_soonest N m1 a = some (r2, m2) ∧ True ∧ I (i + 4) m2) ∧
  (∀ (i : Nat) (mem : zMem) (a : Int32), i + 4 ≤ L → I i mem → ∃ (r : Int32) (m1 : zMem) (r2 : Int32) (m2 : zMem), f_X4_never N mem a = some (r, m1) ∧ f_X5_never N m1 a = some (r2, m2) ∧ True ∧ I (i + 4) m2) ∧
  (∀ (i : Nat) (mem : zMem) (a : Int32) (b : Int32) (c : Int32), i + 4 ≤ L → I i mem → ∃ (r : Int32) (m1 : zMem) (r2 : Int32) (m2 : zMem), f_X4_seen N mem a b c = some (r, m1) ∧ f_X5_seen N m1 a b c = some (r2, m2) ∧ True ∧ I (i + 4) m2) ∧
  (∀ (i : Nat) (mem : zMem) (a : Int32) (b : Int32) (c : Int32), i + 4 ≤ L → I i mem → ∃ (r : Int32) (m1 : zMem) (r2 : Int32) (m2 : zMem), f_X4_heard N mem a b c = some (r, m1) ∧ f_X5_heard N m1 a b c = some (r2, m2) ∧ True ∧ I (i + 4) m2) ∧
  (∀ (i : Nat) (mem : zMem), i + 4 ≤ L → I i mem → ∃ (r : Int32) (m1 : zMem) (r2 : Int32) (m2 : zMem), f_X4_forget N mem = some (r, m1) ∧ f_X5_forget N m1 = some (r2, m2) ∧ True ∧ I (i + 4) m2) ∧
  (∀ (i : Nat) (mem : zMem) (a : Int32), i + 4 ≤ L → I i mem → ∃ (r : Int32) (m1 : zMem) (r2 : Int32) (m2 : zMem), f_X4_weights N mem a = some (r, m1) ∧ f_X5_weights N m1 a = some (r2, m2) ∧ True ∧ I (i + 4) m2) ∧
  (∀ (i : Nat) (mem : zMem), i + 4 ≤ L → I i mem → ∃ (r : Int32) (m1 : zMem) (r2 : Int32) (m2 : zMem), f_X4_thumbs N mem = some (r, m1) ∧ f_X5_thumbs N m1 = some (r2, m2) ∧ True ∧ I (i + 4) m2) ∧
  (∀ (i : Nat) (mem : zMem) (a : Int32) (b : Int32), i + 4 ≤ L → I i mem → ∃ (r : Int32) (m1 : zMem) (r2 : Int32) (m2 : zMem), f_X4_confessed N mem a b = some (r, m1) ∧ f_X5_confessed N m1 a b = some (r2, m2) ∧ True ∧ I (i + 4) m2) ∧
  (∀ (i : Nat) (mem : zMem) (a : Int32), i + 4 ≤ L → I i mem → ∃ (r : Int32) (m1 : zMem) (r2 : Int32) (m2 : zMem), f_X4_count N mem a = some (r, m1) ∧ f_X5_count N m1 a = some (r2, m2) ∧ r = r2 ∧ I (i + 4) m2)
theorem law_lt {i L : Nat} (hi : i ≤ L) (hL : L ≤ 2048) (h : ¬ (nI L - 4 < nI i)) : i + 4 ≤ L := by
  rw [Int32.lt_iff_toInt_lt, show (4 : Int32) = nI 4 from rfl, pk_sub_toInt (by omega) (by omega), nI_toInt (by omega)] at h
  omega
set_option maxHeartbeats 4000000 in
set_option maxRecDepth 100000 in
theorem law_op0 {p : Program} {l : Launch} {e : Env} {s : State} {m : MethodId} {below : List Frame} {meth : Method} {c : Code} {G : zG} {b L : Nat} {xs : Nat → Int32} {Q : State → Prop} (C : zC (zA1 G) G p s m #[Value.ref b] c code 4 RL) (hX : va_X b L xs s s.heap) (hbl : b < s.heap.size) (hbA : ¬ zA1 G b) {N : Nat} {I : Nat → zMem → Prop} (hops : zOps N L I) {i : Nat} {x3 : Int32} (hlt : i + 4 ≤ L) (e1 : vp_in (x3 + 1) L) (e2 : vp_in (x3 + 2) L) (e3 : vp_in (x3 + 3) L) {mem : zMem} {H : Heap} {locs : List Loc} {ls : Array Slot} (hI : I i mem) (Z : zH (zA1 G) G s mem H locs) (hl : lv_has ls 4 [(0, .ref b), (1, .ref (zr G 0)), (2, .ref (zr G 44)), (3, .int x3)]) (step : ∀ (mem : zMem) (H : Heap) (locs : List Loc), I (i + 4) mem → zH (zA1 G) G s mem H locs → W p l e room_1 s m #[Value.ref b] below meth c H locs 54 883 Q (F0 m 723 ls [])) : W p l e room_1 s m #[Value.ref b] below meth c H locs 54 883 Q (F0 m 148 ls []) := by
  obtain ⟨r, m1, r2, m2, hc1, hc2, hc3, hJ⟩ := hops.1 i mem (xs (x3 + 1).toNatClampNeg) hlt hI
  refine lv_aload_n C.1.1 C.1.2.1 dL_law_148 rfl (lv_at hl 1 rfl) ?_
  refine lv_aload_n C.1.1 C.1.2.1 dL_law_149 rfl (lv_at hl 0 rfl) ?_
  refine lv_iload_n C.1.1 C.1.2.1 dL_law_150 rfl (lv_at hl 3 rfl) ?_
  refine lv_iconst (v := (1 : Int32)) C.1.1 C.1.2.1 dL_law_151 (by decide) ?_
  refine lv_iadd C.1.1 C.1.2.1 dL_law_152 ?_
  refine va_sld C.1.1 C.1.2.1 hX hbl hbA Z.2 e1 dL_law_153 ?_
  refine z_callVi (k := 0) (As := [.int (xs (x3 + 1).toNatClampNeg)]) (rest := []) C Z (M_X4_write l G C.2.1 N mem (xs (x3 + 1).toNatClampNeg) r m1 hc1) (zcw_L_13 C.1.2.2.2.2 ⟨Nat.le_of_ble_eq_true rfl, Nat.le_of_ble_eq_true rfl⟩) (by decide) rfl rfl rfl hl.1 rfl (Nat.le_of_ble_eq_true rfl) ⟨Nat.le_of_ble_eq_true rfl, Nat.le_of_ble_eq_true rfl⟩ dL_law_154 (fun H locs Z => ?_)
  refine lv_pop C.1.1 C.1.2.1 dL_law_157 rfl ?_
  refine lv_aload_n C.1.1 C.1.2.1 dL_law_158 rfl (lv_at hl 2 rfl) ?_
  refine lv_aload_n C.1.1 C.1.2.1 dL_law_159 rfl (lv_at hl 0 rfl) ?_
  refine lv_iload_n C.1.1 C.1.2.1 dL_law_160 rfl (lv_at hl 3 rfl) ?_
  refine lv_iconst (v := (1 : Int32)) C.1.1 C.1.2.1 dL_law_161 (by decide) ?_
  refine lv_iadd C.1.1 C.1.2.1 dL_law_162 ?_
  refine va_sld C.1.1 C.1.2.1 hX hbl hbA Z.2 e1 dL_law_163 ?_
  refine z_callVi (k := 44) (As := [.int (xs (x3 + 1).toNatClampNeg)]) (rest := []) C Z (M_X5_write l G C.2.1 N m1 (xs (x3 + 1).toNatClampNeg) r2 m2 hc2) (zcw_L_17 C.1.2.2.2.2 ⟨Nat.le_of_ble_eq_true rfl, Nat.le_of_ble_eq_true rfl⟩) (by decide) rfl rfl rfl hl.1 rfl (Nat.le_of_ble_eq_true rfl) ⟨Nat.le_of_ble_eq_true rfl, Nat.le_of_ble_eq_true rfl⟩ dL_law_164 (fun H locs Z => ?_)
  refine lv_pop C.1.1 C.1.2.1 dL_law_167 rfl ?_
  refine lv_goto (tgt := 723) C.1.1 C.1.2.1 dL_law_168 (by decide) ?_
  exact step m2 _ _ hJ Z
set_option maxHeartbeats 4000000 in
set_option maxRecDepth 100000 in
theorem law_op1 {p : Program} {l : Launch} {e : Env} {s : State} {m : MethodId} {below : List Frame} {meth : Method} {c : Code} {G : zG} {b L : Nat} {xs : Nat → Int32} {Q : State → Prop} (C : zC (zA1 G) G p s m #[Value.ref b] c code 4 RL) (hX : va_X b L xs s s.heap) (hbl : b < s.heap.size) (hbA : ¬ zA1 G b) {N : Nat} {I : Nat → zMem → Prop} (hops : zOps N L I) {i : Nat} {x3 : Int32} (hlt : i + 4 ≤ L) (e1 : vp_in (x3 + 1) L) (e2 : vp_in (x3 + 2) L) (e3 : vp_in (x3 + 3) L) {mem : zMem} {H : Heap} {locs : List Loc} {ls : Array Slot} (hI : I i mem) (Z : zH (zA1 G) G s mem H locs) (hl : lv_has ls 4 [(0, .ref b), (1, .ref (zr G 0)), (2, .ref (zr G 44)), (3, .int x3)]) (step : ∀ (mem : zMem) (H : Heap) (locs : List Loc), I (i + 4) mem → zH (zA1 G) G s mem H locs → W p l e room_1 s m #[Value.ref b] below meth c H locs 54 883 Q (F0 m 723 ls [])) : W p l e room_1 s m #[Value.ref b] below meth c H locs 54 883 Q (F0 m 171 ls []) := by
  obtain ⟨r, m1, r2, m2, hc1, hc2, hc3, hJ⟩ := hops.2.1 i mem  hlt hI
  refine lv_aload_n C.1.1 C.1.2.1 dL_law_171 rfl (lv_at hl 1 rfl) ?_
  refine z_callVi (k := 0) (As := []) (rest := []) C Z (M_X4_erase l G C.2.1 N mem  r m1 hc1) (zcw_L_18 C.1.2.2.2.2 ⟨Nat.le_of_ble_eq_true rfl, Nat.le_of_ble_eq_true rfl⟩) (by decide) rfl rfl rfl hl.1 rfl (Nat.le_of_ble_eq_true rfl) ⟨Nat.le_of_ble_eq_true rfl, Nat.le_of_ble_eq_true rfl⟩ dL_law_172 (fun H locs Z => ?_)
  refine lv_pop C.1.1 C.1.2.1 dL_law_175 rfl ?_
  refine lv_aload_n C.1.1 C.1.2.1 dL_law_176 rfl (lv_at hl 2 rfl) ?_
  refine z_callVi (k := 44) (As := []) (rest := []) C Z (M_X5_erase l G C.2.1 N m1  r2 m2 hc2) (zcw_L_22 C.1.2.2.2.2 ⟨Nat.le_of_ble_eq_true rfl, Nat.le_of_ble_eq_true rfl⟩) (by decide) rfl rfl rfl hl.1 rfl (Nat.le_of_ble_eq_true rfl) ⟨Nat.le_of_ble_eq_true rfl, Nat.le_of_ble_eq_true rfl⟩ dL_law_177 (fun H locs Z => ?_)
  refine lv_pop C.1.1 C.1.2.1 dL_law_180 rfl ?_
  refine lv_goto (tgt := 723) C.1.1 C.1.2.1 dL_law_181 (by decide) ?_
  exact step m2 _ _ hJ Z
set_option maxHeartbeats 4000000 in
set_option maxRecDepth 100000 in
theorem law_op2 {p : Program} {l : Launch} {e : Env} {s : State} {m : MethodId} {below : List Frame} {meth : Method} {c : Code} {G : zG} {b L : Nat} {xs : Nat → Int32} {Q : State → Prop} (C : zC (zA1 G) G p s m #[Value.ref b] c code 4 RL) (hX : va_X b L xs s s.heap) (hbl : b < s.heap.size) (hbA : ¬ zA1 G b) {N : Nat} {I : Nat → zMem → Prop} (hops : zOps N L I) {i : Nat} {x3 : Int32} (hlt : i + 4 ≤ L) (e1 : vp_in (x3 + 1) L) (e2 : vp_in (x3 + 2) L) (e3 : vp_in (x3 + 3) L) {mem : zMem} {H : Heap} {locs : List Loc} {ls : Array Slot} (hI : I i mem) (Z : zH (zA1 G) G s mem H locs) (hl : lv_has ls 4 [(0, .ref b), (1, .ref (zr G 0)), (2, .ref (zr G 44)), (3, .int x3)]) (step : ∀ (mem : zMem) (H : Heap) (locs : List Loc), I (i + 4) mem → zH (zA1 G) G s mem H locs → W p l e room_1 s m #[Value.ref b] below meth c H locs 54 883 Q (F0 m 723 ls [])) : W p l e room_1 s m #[Value.ref b] below meth c H locs 54 883 Q (F0 m 184 ls []) := by
  obtain ⟨r, m1, r2, m2, hc1, hc2, hc3, hJ⟩ := hops.2.2.1 i mem  hlt hI
  refine lv_aload_n C.1.1 C.1.2.1 dL_law_184 rfl (lv_at hl 1 rfl) ?_
  refine z_callVi (k := 0) (As := []) (rest := []) C Z (M_X4_fault l G C.2.1 N mem  r m1 hc1) (zcw_L_23 C.1.2.2.2.2 ⟨Nat.le_of_ble_eq_true rfl, Nat.le_of_ble_eq_true rfl⟩) (by decide) rfl rfl rfl hl.1 rfl (Nat.le_of_ble_eq_true rfl) ⟨Nat.le_of_ble_eq_true rfl, Nat.le_of_ble_eq_true rfl⟩ dL_law_185 (fun H locs Z => ?_)
  refine lv_pop C.1.1 C.1.2.1 dL_law_188 rfl ?_
  refine lv_aload_n C.1.1 C.1.2.1 dL_law_189 rfl (lv_at hl 2 rfl) ?_
  refine z_callVi (k := 44) (As := []) (rest := []) C Z (M_X5_fault l G C.2.1 N m1  r2 m2 hc2) (zcw_L_26 C.1.2.2.2.2 ⟨Nat.le_of_ble_eq_true rfl, Nat.le_of_ble_eq_true rfl⟩) (by decide) rfl rfl rfl hl.1 rfl (Nat.le_of_ble_eq_true rfl) ⟨Nat.le_of_ble_eq_true rfl, Nat.le_of_ble_eq_true rfl⟩ dL_law_190 (fun H locs Z => ?_)
  refine lv_pop C.1.1 C.1.2.1 dL_law_193 rfl ?_
  refine lv_goto (tgt := 723) C.1.1 C.1.2.1 dL_law_194 (by decide) ?_
  exact step m2 _ _ hJ Z
set_option maxHeartbeats 4000000 in
set_option maxRecDepth 100000 in
theorem law_op3 {p : Program} {l : Launch} {e : Env} {s : State} {m : MethodId} {below : List Frame} {meth : Method} {c : Code} {G : zG} {b L : Nat} {xs : Nat → Int32} {Q : State → Prop} (C : zC (zA1 G) G p s m #[Value.ref b] c code 4 RL) (hX : va_X b L xs s s.heap) (hbl : b < s.heap.size) (hbA : ¬ zA1 G b) {N : Nat} {I : Nat → zMem → Prop} (hops : zOps N L I) {i : Nat} {x3 : Int32} (hlt : i + 4 ≤ L) (e1 : vp_in (x3 + 1) L) (e2 : vp_in (x3 + 2) L) (e3 : vp_in (x3 + 3) L) {mem : zMem} {H : Heap} {locs : List Loc} {ls : Array Slot} (hI : I i mem) (Z : zH (zA1 G) G s mem H locs) (hl : lv_has ls 4 [(0, .ref b), (1, .ref (zr G 0)), (2, .ref (zr G 44)), (3, .int x3)]) (step : ∀ (mem : zMem) (H : Heap) (locs : List Loc), I (i + 4) mem → zH (zA1 G) G s mem H locs → W p l e room_1 s m #[Value.ref b] below meth c H locs 54 883 Q (F0 m 723 ls [])) : W p l e room_1 s m #[Value.ref b] below meth c H locs 54 883 Q (F0 m 197 ls []) := by
  obtain ⟨r, m1, r2, m2, hc1, hc2, hc3, hJ⟩ := hops.2.2.2.1 i mem  hlt hI
  refine lv_aload_n C.1.1 C.1.2.1 dL_law_197 rfl (lv_at hl 1 rfl) ?_
  refine z_callVi (k := 0) (As := []) (rest := []) C Z (M_X4_kirk l G C.2.1 N mem  r m1 hc1) (zcw_L_27 C.1.2.2.2.2 ⟨Nat.le_of_ble_eq_true rfl, Nat.le_of_ble_eq_true rfl⟩) (by decide) rfl rfl rfl hl.1 rfl (Nat.le_of_ble_eq_true rfl) ⟨Nat.le_of_ble_eq_true rfl, Nat.le_of_ble_eq_true rfl⟩ dL_law_198 (fun H locs Z => ?_)
  refine lv_pop C.1.1 C.1.2.1 dL_law_201 rfl ?_
  refine lv_aload_n C.1.1 C.1.2.1 dL_law_202 rfl (lv_at hl 2 rfl) ?_
  refine z_callVi (k := 44) (As := []) (rest := []) C Z (M_X5_kirk l G C.2.1 N m1  r2 m2 hc2) (zcw_L_30 C.1.2.2.2.2 ⟨Nat.le_of_ble_eq_true rfl, Nat.le_of_ble_eq_true rfl⟩) (by decide) rfl rfl rfl hl.1 rfl (Nat.le_of_ble_eq_true rfl) ⟨Nat.le_of_ble_eq_true rfl, Nat.le_of_ble_eq_true rfl⟩ dL_law_203 (fun H locs Z => ?_)
  refine lv_pop C.1.1 C.1.2.1 dL_law_206 rfl ?_
  refine lv_goto (tgt := 723) C.1.1 C.1.2.1 dL_law_207 (by decide) ?_
  exact step m2 _ _ hJ Z
set_option maxHeartbeats 4000000 in
set_option maxRecDepth 100000 in
theorem law_op4 {p : Program} {l : Launch} {e : Env} {s : State} {m : MethodId} {below : List Frame} {meth : Method} {c : Code} {G : zG} {b L : Nat} {xs : Nat → Int32} {Q : State → Prop} (C : zC (zA1 G) G p s m #[Value.ref b] c code 4 RL) (hX : va_X b L xs s s.heap) (hbl : b < s.heap.size) (hbA : ¬ zA1 G b) {N : Nat} {I : Nat → zMem → Prop} (hops : zOps N L I) {i : Nat} {x3 : Int32} (hlt : i + 4 ≤ L) (e1 : vp_in (x3 + 1) L) (e2 : vp_in (x3 + 2) L) (e3 : vp_in (x3 + 3) L) {mem : zMem} {H : Heap} {locs : List Loc} {ls : Array Slot} (hI : I i mem) (Z : zH (zA1 G) G s mem H locs) (hl : lv_has ls 4 [(0, .ref b), (1, .ref (zr G 0)), (2, .ref (zr G 44)), (3, .int x3)]) (step : ∀ (mem : zMem) (H : Heap) (locs : List Loc), I (i + 4) mem → zH (zA1 G) G s mem H locs → W p l e room_1 s m #[Value.ref b] below meth c H locs 54 883 Q (F0 m 723 ls [])) : W p l e room_1 s m #[Value.ref b] below meth c H locs 54 883 Q (F0 m 210 ls []) := by
  obtain ⟨r, m1, r2, m2, hc1, hc2, hc3, hJ⟩ := hops.2.2.2.2.1 i mem (xs (x3 + 1).toNatClampNeg) (xs (x3 + 2).toNatClampNeg) hlt hI
  refine lv_aload_n C.1.1 C.1.2.1 dL_law_210 rfl (lv_at hl 1 rfl) ?_
  refine lv_aload_n C.1.1 C.1.2.1 dL_law_211 rfl (lv_at hl 0 rfl) ?_
  refine lv_iload_n C.1.1 C.1.2.1 dL_law_212 rfl (lv_at hl 3 rfl) ?_
  refine lv_iconst (v := (1 : Int32)) C.1.1 C.1.2.1 dL_law_213 (by decide) ?_
  refine lv_iadd C.1.1 C.1.2.1 dL_law_214 ?_
  refine va_sld C.1.1 C.1.2.1 hX hbl hbA Z.2 e1 dL_law_215 ?_
  refine lv_aload_n C.1.1 C.1.2.1 dL_law_216 rfl (lv_at hl 0 rfl) ?_
  refine lv_iload_n C.1.1 C.1.2.1 dL_law_217 rfl (lv_at hl 3 rfl) ?_
  refine lv_iconst (v := (2 : Int32)) C.1.1 C.1.2.1 dL_law_218 (by decide) ?_
  refine lv_iadd C.1.1 C.1.2.1 dL_law_219 ?_
  refine va_sld C.1.1 C.1.2.1 hX hbl hbA Z.2 e2 dL_law_220 ?_
  refine z_callVi (k := 0) (As := [.int (xs (x3 + 1).toNatClampNeg), .int (xs (x3 + 2).toNatClampNeg)]) (rest := []) C Z (M_X4_part l G C.2.1 N mem (xs (x3 + 1).toNatClampNeg) (xs (x3 + 2).toNatClampNeg) r m1 hc1) (zcw_L_31 C.1.2.2.2.2 ⟨Nat.le_of_ble_eq_true rfl, Nat.le_of_ble_eq_true rfl⟩) (by decide) rfl rfl rfl hl.1 rfl (Nat.le_of_ble_eq_true rfl) ⟨Nat.le_of_ble_eq_true rfl, Nat.le_of_ble_eq_true rfl⟩ dL_law_221 (fun H locs Z => ?_)
  refine lv_pop C.1.1 C.1.2.1 dL_law_224 rfl ?_
  refine lv_aload_n C.1.1 C.1.2.1 dL_law_225 rfl (lv_at hl 2 rfl) ?_
  refine lv_aload_n C.1.1 C.1.2.1 dL_law_226 rfl (lv_at hl 0 rfl) ?_
  refine lv_iload_n C.1.1 C.1.2.1 dL_law_227 rfl (lv_at hl 3 rfl) ?_
  refine lv_iconst (v := (1 : Int32)) C.1.1 C.1.2.1 dL_law_228 (by decide) ?_
  refine lv_iadd C.1.1 C.1.2.1 dL_law_229 ?_
  refine va_sld C.1.1 C.1.2.1 hX hbl hbA Z.2 e1 dL_law_230 ?_
  refine lv_aload_n C.1.1 C.1.2.1 dL_law_231 rfl (lv_at hl 0 rfl) ?_
  refine lv_iload_n C.1.1 C.1.2.1 dL_law_232 rfl (lv_at hl 3 rfl) ?_
  refine lv_iconst (v := (2 : Int32)) C.1.1 C.1.2.1 dL_law_233 (by decide) ?_
  refine lv_iadd C.1.1 C.1.2.1 dL_law_234 ?_
  refine va_sld C.1.1 C.1.2.1 hX hbl hbA Z.2 e2 dL_law_235 ?_
  refine z_callVi (k := 44) (As := [.int (xs (x3 + 1).toNatClampNeg), .int (xs (x3 + 2).toNatClampNeg)]) (rest := []) C Z (M_X5_part l G C.2.1 N m1 (xs (x3 + 1).toNatClampNeg) (xs (x3 + 2).toNatClampNeg) r2 m2 hc2) (zcw_L_35 C.1.2.2.2.2 ⟨Nat.le_of_ble_eq_true rfl, Nat.le_of_ble_eq_true rfl⟩) (by decide) rfl rfl rfl hl.1 rfl (Nat.le_of_ble_eq_true rfl) ⟨Nat.le_of_ble_eq_true rfl, Nat.le_of_ble_eq_true rfl⟩ dL_law_236 (fun H locs Z => ?_)
  refine lv_pop C.1.1 C.1.2.1 dL_law_239 rfl ?_
  refine lv_goto (tgt := 723) C.1.1 C.1.2.1 dL_law_240 (by decide) ?_
  exact step m2 _ _ hJ Z
set_option maxHeartbeats 4000000 in
set_option maxRecDepth 100000 in
theorem law_op5 {p : Program} {l : Launch} {e : Env} {s : State} {m : MethodId} {below : List Frame} {meth : Method} {c : Code} {G : zG} {b L : Nat} {xs : Nat → Int32} {Q : State → Prop} (C : zC (zA1 G) G p s m #[Value.ref b] c code 4 RL) (hX : va_X b L xs s s.heap) (hbl : b < s.heap.size) (hbA : ¬ zA1 G b) {N : Nat} {I : Nat → zMem → Prop} (hops : zOps N L I) {i : Nat} {x3 : Int32} (hlt : i + 4 ≤ L) (e1 : vp_in (x3 + 1) L) (e2 : vp_in (x3 + 2) L) (e3 : vp_in (x3 + 3) L) {mem : zMem} {H : Heap} {locs : List Loc} {ls : Array Slot} (hI : I i mem) (Z : zH (zA1 G) G s mem H locs) (hl : lv_has ls 4 [(0, .ref b), (1, .ref (zr G 0)), (2, .ref (zr G 44)), (3, .int x3)]) (step : ∀ (mem : zMem) (H : Heap) (locs : List Loc), I (i + 4) mem → zH (zA1 G) G s mem H locs → W p l e room_1 s m #[Value.ref b] below meth c H locs 54 883 Q (F0 m 723 ls [])) : W p l e room_1 s m #[Value.ref b] below meth c H locs 54 883 Q (F0 m 243 ls []) := by
  obtain ⟨r, m1, r2, m2, hc1, hc2, hc3, hJ⟩ := hops.2.2.2.2.2.1 i mem (xs (x3 + 1).toNatClampNeg) hlt hI
  refine lv_aload_n C.1.1 C.1.2.1 dL_law_243 rfl (lv_at hl 1 rfl) ?_
  refine lv_aload_n C.1.1 C.1.2.1 dL_law_244 rfl (lv_at hl 0 rfl) ?_
  refine lv_iload_n C.1.1 C.1.2.1 dL_law_245 rfl (lv_at hl 3 rfl) ?_
  refine lv_iconst (v := (1 : Int32)) C.1.1 C.1.2.1 dL_law_246 (by decide) ?_
  refine lv_iadd C.1.1 C.1.2.1 dL_law_247 ?_
  refine va_sld C.1.1 C.1.2.1 hX hbl hbA Z.2 e1 dL_law_248 ?_
  refine z_callVi (k := 0) (As := [.int (xs (x3 + 1).toNatClampNeg)]) (rest := []) C Z (M_X4_sins l G C.2.1 N mem (xs (x3 + 1).toNatClampNeg) r m1 hc1) (zcw_L_36 C.1.2.2.2.2 ⟨Nat.le_of_ble_eq_true rfl, Nat.le_of_ble_eq_true rfl⟩) (by decide) rfl rfl rfl hl.1 rfl (Nat.le_of_ble_eq_true rfl) ⟨Nat.le_of_ble_eq_true rfl, Nat.le_of_ble_eq_true rfl⟩ dL_law_249 (fun H locs Z => ?_)
  refine lv_pop C.1.1 C.1.2.1 dL_law_252 rfl ?_
  refine lv_aload_n C.1.1 C.1.2.1 dL_law_253 rfl (lv_at hl 2 rfl) ?_
  refine lv_aload_n C.1.1 C.1.2.1 dL_law_254 rfl (lv_at hl 0 rfl) ?_
  refine lv_iload_n C.1.1 C.1.2.1 dL_law_255 rfl (lv_at hl 3 rfl) ?_
  refine lv_iconst (v := (1 : Int32)) C.1.1 C.1.2.1 dL_law_256 (by decide) ?_
  refine lv_iadd C.1.1 C.1.2.1 dL_law_257 ?_
  refine va_sld C.1.1 C.1.2.1 hX hbl hbA Z.2 e1 dL_law_258 ?_
  refine z_callVi (k := 44) (As := [.int (xs (x3 + 1).toNatClampNeg)]) (rest := []) C Z (M_X5_sins l G C.2.1 N m1 (xs (x3 + 1).toNatClampNeg) r2 m2 hc2) (zcw_L_39 C.1.2.2.2.2 ⟨Nat.le_of_ble_eq_true rfl, Nat.le_of_ble_eq_true rfl⟩) (by decide) rfl rfl rfl hl.1 rfl (Nat.le_of_ble_eq_true rfl) ⟨Nat.le_of_ble_eq_true rfl, Nat.le_of_ble_eq_true rfl⟩ dL_law_259 (fun H locs Z => ?_)
  refine lv_pop C.1.1 C.1.2.1 dL_law_262 rfl ?_
  refine lv_goto (tgt := 723) C.1.1 C.1.2.1 dL_law_263 (by decide) ?_
  exact step m2 _ _ hJ Z
set_option maxHeartbeats 4000000 in
set_option maxRecDepth 100000 in
theorem law_op6 {p : Program} {l : Launch} {e : Env} {s : State} {m : MethodId} {below : List Frame} {meth : Method} {c : Code} {G : zG} {b L : Nat} {xs : Nat → Int32} {Q : State → Prop} (C : zC (zA1 G) G p s m #[Value.ref b] c code 4 RL) (hX : va_X b L xs s s.heap) (hbl : b < s.heap.size) (hbA : ¬ zA1 G b) {N : Nat} {I : Nat → zMem → Prop} (hops : zOps N L I) {i : Nat} {x3 : Int32} (hlt : i + 4 ≤ L) (e1 : vp_in (x3 + 1) L) (e2 : vp_in (x3 + 2) L) (e3 : vp_in (x3 + 3) L) {mem : zMem} {H : Heap} {locs : List Loc} {ls : Array Slot} (hI : I i mem) (Z : zH (zA1 G) G s mem H locs) (hl : lv_has ls 4 [(0, .ref b), (1, .ref (zr G 0)), (2, .ref (zr G 44)), (3, .int x3)]) (step : ∀ (mem : zMem) (H : Heap) (locs : List Loc), I (i + 4) mem → zH (zA1 G) G s mem H locs → W p l e room_1 s m #[Value.ref b] below meth c H locs 54 883 Q (F0 m 723 ls [])) : W p l e room_1 s m #[Value.ref b] below meth c H locs 54 883 Q (F0 m 266 ls []) := by
  obtain ⟨r, m1, r2, m2, hc1, hc2, hc3, hJ⟩ := hops.2.2.2.2.2.2.1 i mem (xs (x3 + 1).toNatClampNeg) (xs (x3 + 2).toNatClampNeg) hlt hI
  refine lv_aload_n C.1.1 C.1.2.1 dL_law_266 rfl (lv_at hl 1 rfl) ?_
  refine lv_aload_n C.1.1 C.1.2.1 dL_law_267 rfl (lv_at hl 0 rfl) ?_
  refine lv_iload_n C.1.1 C.1.2.1 dL_law_268 rfl (lv_at hl 3 rfl) ?_
  refine lv_iconst (v := (1 : Int32)) C.1.1 C.1.2.1 dL_law_269 (by decide) ?_
  refine lv_iadd C.1.1 C.1.2.1 dL_law_270 ?_
  refine va_sld C.1.1 C.1.2.1 hX hbl hbA Z.2 e1 dL_law_271 ?_
  refine lv_aload_n C.1.1 C.1.2.1 dL_law_272 rfl (lv_at hl 0 rfl) ?_
  refine lv_iload_n C.1.1 C.1.2.1 dL_law_273 rfl (lv_at hl 3 rfl) ?_
  refine lv_iconst (v := (2 : Int32)) C.1.1 C.1.2.1 dL_law_274 (by decide) ?_
  refine lv_iadd C.1.1 C.1.2.1 dL_law_275 ?_
  refine va_sld C.1.1 C.1.2.1 hX hbl hbA Z.2 e2 dL_law_276 ?_
  refine z_callVi (k := 0) (As := [.int (xs (x3 + 1).toNatClampNeg), .int (xs (x3 + 2).toNatClampNeg)]) (rest := []) C Z (M_X4_as l G C.2.1 N mem (xs (x3 + 1).toNatClampNeg) (xs (x3 + 2).toNatClampNeg) r m1 hc1) (zcw_L_40 C.1.2.2.2.2 ⟨Nat.le_of_ble_eq_true rfl, Nat.le_of_ble_eq_true rfl⟩) (by decide) rfl rfl rfl hl.1 rfl (Nat.le_of_ble_eq_true rfl) ⟨Nat.le_of_ble_eq_true rfl, Nat.le_of_ble_eq_true rfl⟩ dL_law_277 (fun H locs Z => ?_)
  refine lv_pop C.1.1 C.1.2.1 dL_law_280 rfl ?_
  refine lv_aload_n C.1.1 C.1.2.1 dL_law_281 rfl (lv_at hl 2 rfl) ?_
  refine lv_aload_n C.1.1 C.1.2.1 dL_law_282 rfl (lv_at hl 0 rfl) ?_
  refine lv_iload_n C.1.1 C.1.2.1 dL_law_283 rfl (lv_at hl 3 rfl) ?_
  refine lv_iconst (v := (1 : Int32)) C.1.1 C.1.2.1 dL_law_284 (by decide) ?_
  refine lv_iadd C.1.1 C.1.2.1 dL_law_285 ?_
  refine va_sld C.1.1 C.1.2.1 hX hbl hbA Z.2 e1 dL_law_286 ?_
  refine lv_aload_n C.1.1 C.1.2.1 dL_law_287 rfl (lv_at hl 0 rfl) ?_
  refine lv_iload_n C.1.1 C.1.2.1 dL_law_288 rfl (lv_at hl 3 rfl) ?_
  refine lv_iconst (v := (2 : Int32)) C.1.1 C.1.2.1 dL_law_289 (by decide) ?_
  refine lv_iadd C.1.1 C.1.2.1 dL_law_290 ?_
  refine va_sld C.1.1 C.1.2.1 hX hbl hbA Z.2 e2 dL_law_291 ?_
  refine z_callVi (k := 44) (As := [.int (xs (x3 + 1).toNatClampNeg), .int (xs (x3 + 2).toNatClampNeg)]) (rest := []) C Z (M_X5_as l G C.2.1 N m1 (xs (x3 + 1).toNatClampNeg) (xs (x3 + 2).toNatClampNeg) r2 m2 hc2) (zcw_L_43 C.1.2.2.2.2 ⟨Nat.le_of_ble_eq_true rfl, Nat.le_of_ble_eq_true rfl⟩) (by decide) rfl rfl rfl hl.1 rfl (Nat.le_of_ble_eq_true rfl) ⟨Nat.le_of_ble_eq_true rfl, Nat.le_of_ble_eq_true rfl⟩ dL_law_292 (fun H locs Z => ?_)
  refine lv_pop C.1.1 C.1.2.1 dL_law_295 rfl ?_
  refine lv_goto (tgt := 723) C.1.1 C.1.2.1 dL_law_296 (by decide) ?_
  exact step m2 _ _ hJ Z
set_option maxHeartbeats 4000000 in
set_option maxRecDepth 100000 in
theorem law_op7 {p : Program} {l : Launch} {e : Env} {s : State} {m : MethodId} {below : List Frame} {meth : Method} {c : Code} {G : zG} {b L : Nat} {xs : Nat → Int32} {Q : State → Prop} (C : zC (zA1 G) G p s m #[Value.ref b] c code 4 RL) (hX : va_X b L xs s s.heap) (hbl : b < s.heap.size) (hbA : ¬ zA1 G b) {N : Nat} {I : Nat → zMem → Prop} (hops : zOps N L I) {i : Nat} {x3 : Int32} (hlt : i + 4 ≤ L) (e1 : vp_in (x3 + 1) L) (e2 : vp_in (x3 + 2) L) (e3 : vp_in (x3 + 3) L) {mem : zMem} {H : Heap} {locs : List Loc} {ls : Array Slot} (hI : I i mem) (Z : zH (zA1 G) G s mem H locs) (hl : lv_has ls 4 [(0, .ref b), (1, .ref (zr G 0)), (2, .ref (zr G 44)), (3, .int x3)]) (step : ∀ (mem : zMem) (H : Heap) (locs : List Loc), I (i + 4) mem → zH (zA1 G) G s mem H locs → W p l e room_1 s m #[Value.ref b] below meth c H locs 54 883 Q (F0 m 723 ls [])) : W p l e room_1 s m #[Value.ref b] below meth c H locs 54 883 Q (F0 m 299 ls []) := by
  obtain ⟨r, m1, r2, m2, hc1, hc2, hc3, hJ⟩ := hops.2.2.2.2.2.2.2.1 i mem (xs (x3 + 1).toNatClampNeg) hlt hI
  refine lv_aload_n C.1.1 C.1.2.1 dL_law_299 rfl (lv_at hl 1 rfl) ?_
  refine lv_aload_n C.1.1 C.1.2.1 dL_law_300 rfl (lv_at hl 0 rfl) ?_
  refine lv_iload_n C.1.1 C.1.2.1 dL_law_301 rfl (lv_at hl 3 rfl) ?_
  refine lv_iconst (v := (1 : Int32)) C.1.1 C.1.2.1 dL_law_302 (by decide) ?_
  refine lv_iadd C.1.1 C.1.2.1 dL_law_303 ?_
  refine va_sld C.1.1 C.1.2.1 hX hbl hbA Z.2 e1 dL_law_304 ?_
  refine z_callVi (k := 0) (As := [.int (xs (x3 + 1).toNatClampNeg)]) (rest := []) C Z (M_X4_preach l G C.2.1 N mem (xs (x3 + 1).toNatClampNeg) r m1 hc1) (zcw_L_44 C.1.2.2.2.2 ⟨Nat.le_of_ble_eq_true rfl, Nat.le_of_ble_eq_true rfl⟩) (by decide) rfl rfl rfl hl.1 rfl (Nat.le_of_ble_eq_true rfl) ⟨Nat.le_of_ble_eq_true rfl, Nat.le_of_ble_eq_true rfl⟩ dL_law_305 (fun H locs Z => ?_)
  refine lv_pop C.1.1 C.1.2.1 dL_law_308 rfl ?_
  refine lv_aload_n C.1.1 C.1.2.1 dL_law_309 rfl (lv_at hl 2 rfl) ?_
  refine lv_aload_n C.1.1 C.1.2.1 dL_law_310 rfl (lv_at hl 0 rfl) ?_
  refine lv_iload_n C.1.1 C.1.2.1 dL_law_311 rfl (lv_at hl 3 rfl) ?_
  refine lv_iconst (v := (1 : Int32)) C.1.1 C.1.2.1 dL_law_312 (by decide) ?_
  refine lv_iadd C.1.1 C.1.2.1 dL_law_313 ?_
  refine va_sld C.1.1 C.1.2.1 hX hbl hbA Z.2 e1 dL_law_314 ?_
  refine z_callVi (k := 44) (As := [.int (xs (x3 + 1).toNatClampNeg)]) (rest := []) C Z (M_X5_preach l G C.2.1 N m1 (xs (x3 + 1).toNatClampNeg) r2 m2 hc2) (zcw_L_47 C.1.2.2.2.2 ⟨Nat.le_of_ble_eq_true rfl, Nat.le_of_ble_eq_true rfl⟩) (by decide) rfl rfl rfl hl.1 rfl (Nat.le_of_ble_eq_true rfl) ⟨Nat.le_of_ble_eq_true rfl, Nat.le_of_ble_eq_true rfl⟩ dL_law_315 (fun H locs Z => ?_)
  refine lv_pop C.1.1 C.1.2.1 dL_law_318 rfl ?_
  refine lv_goto (tgt := 723) C.1.1 C.1.2.1 dL_law_319 (by decide) ?_
  exact step m2 _ _ hJ Z
set_option maxHeartbeats 4000000 in
set_option maxRecDepth 100000 in
theorem law_op8 {p : Program} {l : Launch} {e : Env} {s : State} {m : MethodId} {below : List Frame} {meth : Method} {c : Code} {G : zG} {b L : Nat} {xs : Nat → Int32} {Q : State → Prop} (C : zC (zA1 G) G p s m #[Value.ref b] c code 4 RL) (hX : va_X b L xs s s.heap) (hbl : b < s.heap.size) (hbA : ¬ zA1 G b) {N : Nat} {I : Nat → zMem → Prop} (hops : zOps N L I) {i : Nat} {x3 : Int32} (hlt : i + 4 ≤ L) (e1 : vp_in (x3 + 1) L) (e2 : vp_in (x3 + 2) L) (e3 : vp_in (x3 + 3) L) {mem : zMem} {H : Heap} {locs : List Loc} {ls : Array Slot} (hI : I i mem) (Z : zH (zA1 G) G s mem H locs) (hl : lv_has ls 4 [(0, .ref b), (1, .ref (zr G 0)), (2, .ref (zr G 44)), (3, .int x3)]) (step : ∀ (mem : zMem) (H : Heap) (locs : List Loc), I (i + 4) mem → zH (zA1 G) G s mem H locs → W p l e room_1 s m #[Value.ref b] below meth c H locs 54 883 Q (F0 m 723 ls [])) : W p l e room_1 s m #[Value.ref b] below meth c H locs 54 883 Q (F0 m 322 ls []) := by
  obtain ⟨r, m1, r2, m2, hc1, hc2, hc3, hJ⟩ := hops.2.2.2.2.2.2.2.2.1 i mem (xs (x3 + 1).toNatClampNeg) (xs (x3 + 2).toNatClampNeg) hlt hI
  refine lv_aload_n C.1.1 C.1.2.1 dL_law_322 rfl (lv_at hl 1 rfl) ?_
  refine lv_aload_n C.1.1 C.1.2.1 dL_law_323 rfl (lv_at hl 0 rfl) ?_
  refine lv_iload_n C.1.1 C.1.2.1 dL_law_324 rfl (lv_at hl 3 rfl) ?_
  refine lv_iconst (v := (1 : Int32)) C.1.1 C.1.2.1 dL_law_325 (by decide) ?_
  refine lv_iadd C.1.1 C.1.2.1 dL_law_326 ?_
  refine va_sld C.1.1 C.1.2.1 hX hbl hbA Z.2 e1 dL_law_327 ?_
  refine lv_aload_n C.1.1 C.1.2.1 dL_law_328 rfl (lv_at hl 0 rfl) ?_
  refine lv_iload_n C.1.1 C.1.2.1 dL_law_329 rfl (lv_at hl 3 rfl) ?_
  refine lv_iconst (v := (2 : Int32)) C.1.1 C.1.2.1 dL_law_330 (by decide) ?_
  refine lv_iadd C.1.1 C.1.2.1 dL_law_331 ?_
  refine va_sld C.1.1 C.1.2.1 hX hbl hbA Z.2 e2 dL_law_332 ?_
  refine z_callVi (k := 0) (As := [.int (xs (x3 + 1).toNatClampNeg), .int (xs (x3 + 2).toNatClampNeg)]) (rest := []) C Z (M_X4_sin l G C.2.1 N mem (xs (x3 + 1).toNatClampNeg) (xs (x3 + 2).toNatClampNeg) r m1 hc1) (zcw_L_48 C.1.2.2.2.2 ⟨Nat.le_of_ble_eq_true rfl, Nat.le_of_ble_eq_true rfl⟩) (by decide) rfl rfl rfl hl.1 rfl (Nat.le_of_ble_eq_true rfl) ⟨Nat.le_of_ble_eq_true rfl, Nat.le_of_ble_eq_true rfl⟩ dL_law_333 (fun H locs Z => ?_)
  refine lv_pop C.1.1 C.1.2.1 dL_law_336 rfl ?_
  refine lv_aload_n C.1.1 C.1.2.1 dL_law_337 rfl (lv_at hl 2 rfl) ?_
  refine lv_aload_n C.1.1 C.1.2.1 dL_law_338 rfl (lv_at hl 0 rfl) ?_
  refine lv_iload_n C.1.1 C.1.2.1 dL_law_339 rfl (lv_at hl 3 rfl) ?_
  refine lv_iconst (v := (1 : Int32)) C.1.1 C.1.2.1 dL_law_340 (by decide) ?_
  refine lv_iadd C.1.1 C.1.2.1 dL_law_341 ?_
  refine va_sld C.1.1 C.1.2.1 hX hbl hbA Z.2 e1 dL_law_342 ?_
  refine lv_aload_n C.1.1 C.1.2.1 dL_law_343 rfl (lv_at hl 0 rfl) ?_
  refine lv_iload_n C.1.1 C.1.2.1 dL_law_344 rfl (lv_at hl 3 rfl) ?_
  refine lv_iconst (v := (2 : Int32)) C.1.1 C.1.2.1 dL_law_345 (by decide) ?_
  refine lv_iadd C.1.1 C.1.2.1 dL_law_346 ?_
  refine va_sld C.1.1 C.1.2.1 hX hbl hbA Z.2 e2 dL_law_347 ?_
  refine z_callVi (k := 44) (As := [.int (xs (x3 + 1).toNatClampNeg), .int (xs (x3 + 2).toNatClampNeg)]) (rest := []) C Z (M_X5_sin l G C.2.1 N m1 (xs (x3 + 1).toNatClampNeg) (xs (x3 + 2).toNatClampNeg) r2 m2 hc2) (zcw_L_51 C.1.2.2.2.2 ⟨Nat.le_of_ble_eq_true rfl, Nat.le_of_ble_eq_true rfl⟩) (by decide) rfl rfl rfl hl.1 rfl (Nat.le_of_ble_eq_true rfl) ⟨Nat.le_of_ble_eq_true rfl, Nat.le_of_ble_eq_true rfl⟩ dL_law_348 (fun H locs Z => ?_)
  refine lv_pop C.1.1 C.1.2.1 dL_law_351 rfl ?_
  refine lv_goto (tgt := 723) C.1.1 C.1.2.1 dL_law_352 (by decide) ?_
  exact step m2 _ _ hJ Z
set_option maxHeartbeats 4000000 in
set_option maxRecDepth 100000 in
theorem law_op9 {p : Program} {l : Launch} {e : Env} {s : State} {m : MethodId} {below : List Frame} {meth : Method} {c : Code} {G : zG} {b L : Nat} {xs : Nat → Int32} {Q : State → Prop} (C : zC (zA1 G) G p s m #[Value.ref b] c code 4 RL) (hX : va_X b L xs s s.heap) (hbl : b < s.heap.size) (hbA : ¬ zA1 G b) {N : Nat} {I : Nat → zMem → Prop} (hops : zOps N L I) {i : Nat} {x3 : Int32} (hlt : i + 4 ≤ L) (e1 : vp_in (x3 + 1) L) (e2 : vp_in (x3 + 2) L) (e3 : vp_in (x3 + 3) L) {mem : zMem} {H : Heap} {locs : List Loc} {ls : Array Slot} (hI : I i mem) (Z : zH (zA1 G) G s mem H locs) (hl : lv_has ls 4 [(0, .ref b), (1, .ref (zr G 0)), (2, .ref (zr G 44)), (3, .int x3)]) (step : ∀ (mem : zMem) (H : Heap) (locs : List Loc), I (i + 4) mem → zH (zA1 G) G s mem H locs → W p l e room_1 s m #[Value.ref b] below meth c H locs 54 883 Q (F0 m 723 ls [])) : W p l e room_1 s m #[Value.ref b] below meth c H locs 54 883 Q (F0 m 355 ls []) := by
  obtain ⟨r, m1, r2, m2, hc1, hc2, hc3, hJ⟩ := hops.2.2.2.2.2.2.2.2.2.1 i mem (xs (x3 + 1).toNatClampNeg) hlt hI
  refine lv_aload_n C.1.1 C.1.2.1 dL_law_355 rfl (lv_at hl 1 rfl) ?_
  refine lv_aload_n C.1.1 C.1.2.1 dL_law_356 rfl (lv_at hl 0 rfl) ?_
  refine lv_iload_n C.1.1 C.1.2.1 dL_law_357 rfl (lv_at hl 3 rfl) ?_
  refine lv_iconst (v := (1 : Int32)) C.1.1 C.1.2.1 dL_law_358 (by decide) ?_
  refine lv_iadd C.1.1 C.1.2.1 dL_law_359 ?_
  refine va_sld C.1.1 C.1.2.1 hX hbl hbA Z.2 e1 dL_law_360 ?_
  refine z_callVi (k := 0) (As := [.int (xs (x3 + 1).toNatClampNeg)]) (rest := []) C Z (M_X4_ballast l G C.2.1 N mem (xs (x3 + 1).toNatClampNeg) r m1 hc1) (zcw_L_52 C.1.2.2.2.2 ⟨Nat.le_of_ble_eq_true rfl, Nat.le_of_ble_eq_true rfl⟩) (by decide) rfl rfl rfl hl.1 rfl (Nat.le_of_ble_eq_true rfl) ⟨Nat.le_of_ble_eq_true rfl, Nat.le_of_ble_eq_true rfl⟩ dL_law_361 (fun H locs Z => ?_)
  refine lv_pop C.1.1 C.1.2.1 dL_law_364 rfl ?_
  refine lv_aload_n C.1.1 C.1.2.1 dL_law_365 rfl (lv_at hl 2 rfl) ?_
  refine lv_aload_n C.1.1 C.1.2.1 dL_law_366 rfl (lv_at hl 0 rfl) ?_
  refine lv_iload_n C.1.1 C.1.2.1 dL_law_367 rfl (lv_at hl 3 rfl) ?_
  refine lv_iconst (v := (1 : Int32)) C.1.1 C.1.2.1 dL_law_368 (by decide) ?_
  refine lv_iadd C.1.1 C.1.2.1 dL_law_369 ?_
  refine va_sld C.1.1 C.1.2.1 hX hbl hbA Z.2 e1 dL_law_370 ?_
  refine z_callVi (k := 44) (As := [.int (xs (x3 + 1).toNatClampNeg)]) (rest := []) C Z (M_X5_ballast l G C.2.1 N m1 (xs (x3 + 1).toNatClampNeg) r2 m2 hc2) (zcw_L_55 C.1.2.2.2.2 ⟨Nat.le_of_ble_eq_true rfl, Nat.le_of_ble_eq_true rfl⟩) (by decide) rfl rfl rfl hl.1 rfl (Nat.le_of_ble_eq_true rfl) ⟨Nat.le_of_ble_eq_true rfl, Nat.le_of_ble_eq_true rfl⟩ dL_law_371 (fun H locs Z => ?_)
  refine lv_pop C.1.1 C.1.2.1 dL_law_374 rfl ?_
  refine lv_goto (tgt := 723) C.1.1 C.1.2.1 dL_law_375 (by decide) ?_
  exact step m2 _ _ hJ Z
set_option maxHeartbeats 4000000 in
set_option maxRecDepth 100000 in
theorem law_op10 {p : Program} {l : Launch} {e : Env} {s : State} {m : MethodId} {below : List Frame} {meth : Method} {c : Code} {G : zG} {b L : Nat} {xs : Nat → Int32} {Q : State → Prop} (C : zC (zA1 G) G p s m #[Value.ref b] c code 4 RL) (hX : va_X b L xs s s.heap) (hbl : b < s.heap.size) (hbA : ¬ zA1 G b) {N : Nat} {I : Nat → zMem → Prop} (hops : zOps N L I) {i : Nat} {x3 : Int32} (hlt : i + 4 ≤ L) (e1 : vp_in (x3 + 1) L) (e2 : vp_in (x3 + 2) L) (e3 : vp_in (x3 + 3) L) {mem : zMem} {H : Heap} {locs : List Loc} {ls : Array Slot} (hI : I i mem) (Z : zH (zA1 G) G s mem H locs) (hl : lv_has ls 4 [(0, .ref b), (1, .ref (zr G 0)), (2, .ref (zr G 44)), (3, .int x3)]) (step : ∀ (mem : zMem) (H : Heap) (locs : List Loc), I (i + 4) mem → zH (zA1 G) G s mem H locs → W p l e room_1 s m #[Value.ref b] below meth c H locs 54 883 Q (F0 m 723 ls [])) : W p l e room_1 s m #[Value.ref b] below meth c H locs 54 883 Q (F0 m 378 ls []) := by
  obtain ⟨r, m1, r2, m2, hc1, hc2, hc3, hJ⟩ := hops.2.2.2.2.2.2.2.2.2.2.1 i mem (xs (x3 + 1).toNatClampNeg) hlt hI
  refine lv_aload_n C.1.1 C.1.2.1 dL_law_378 rfl (lv_at hl 1 rfl) ?_
  refine lv_aload_n C.1.1 C.1.2.1 dL_law_379 rfl (lv_at hl 0 rfl) ?_
  refine lv_iload_n C.1.1 C.1.2.1 dL_law_380 rfl (lv_at hl 3 rfl) ?_
  refine lv_iconst (v := (1 : Int32)) C.1.1 C.1.2.1 dL_law_381 (by decide) ?_
  refine lv_iadd C.1.1 C.1.2.1 dL_law_382 ?_
  refine va_sld C.1.1 C.1.2.1 hX hbl hbA Z.2 e1 dL_law_383 ?_
  refine z_callVi (k := 0) (As := [.int (xs (x3 + 1).toNatClampNeg)]) (rest := []) C Z (M_X4_rain l G C.2.1 N mem (xs (x3 + 1).toNatClampNeg) r m1 hc1) (zcw_L_56 C.1.2.2.2.2 ⟨Nat.le_of_ble_eq_true rfl, Nat.le_of_ble_eq_true rfl⟩) (by decide) rfl rfl rfl hl.1 rfl (Nat.le_of_ble_eq_true rfl) ⟨Nat.le_of_ble_eq_true rfl, Nat.le_of_ble_eq_true rfl⟩ dL_law_384 (fun H locs Z => ?_)
  refine lv_pop C.1.1 C.1.2.1 dL_law_387 rfl ?_
  refine lv_aload_n C.1.1 C.1.2.1 dL_law_388 rfl (lv_at hl 2 rfl) ?_
  refine lv_aload_n C.1.1 C.1.2.1 dL_law_389 rfl (lv_at hl 0 rfl) ?_
  refine lv_iload_n C.1.1 C.1.2.1 dL_law_390 rfl (lv_at hl 3 rfl) ?_
  refine lv_iconst (v := (1 : Int32)) C.1.1 C.1.2.1 dL_law_391 (by decide) ?_
  refine lv_iadd C.1.1 C.1.2.1 dL_law_392 ?_
  refine va_sld C.1.1 C.1.2.1 hX hbl hbA Z.2 e1 dL_law_393 ?_
  refine z_callVi (k := 44) (As := [.int (xs (x3 + 1).toNatClampNeg)]) (rest := []) C Z (M_X5_rain l G C.2.1 N m1 (xs (x3 + 1).toNatClampNeg) r2 m2 hc2) (zcw_L_59 C.1.2.2.2.2 ⟨Nat.le_of_ble_eq_true rfl, Nat.le_of_ble_eq_true rfl⟩) (by decide) rfl rfl rfl hl.1 rfl (Nat.le_of_ble_eq_true rfl) ⟨Nat.le_of_ble_eq_true rfl, Nat.le_of_ble_eq_true rfl⟩ dL_law_394 (fun H locs Z => ?_)
  refine lv_pop C.1.1 C.1.2.1 dL_law_397 rfl ?_
  refine lv_goto (tgt := 723) C.1.1 C.1.2.1 dL_law_398 (by decide) ?_
  exact step m2 _ _ hJ Z
set_option maxHeartbeats 4000000 in
set_option maxRecDepth 100000 in
theorem law_op11 {p : Program} {l : Launch} {e : Env} {s : State} {m : MethodId} {below : List Frame} {meth : Method} {c : Code} {G : zG} {b L : Nat} {xs : Nat → Int32} {Q : State → Prop} (C : zC (zA1 G) G p s m #[Value.ref b] c code 4 RL) (hX : va_X b L xs s s.heap) (hbl : b < s.heap.size) (hbA : ¬ zA1 G b) {N : Nat} {I : Nat → zMem → Prop} (hops : zOps N L I) {i : Nat} {x3 : Int32} (hlt : i + 4 ≤ L) (e1 : vp_in (x3 + 1) L) (e2 : vp_in (x3 + 2) L) (e3 : vp_in (x3 + 3) L) {mem : zMem} {H : Heap} {locs : List Loc} {ls : Array Slot} (hI : I i mem) (Z : zH (zA1 G) G s mem H locs) (hl : lv_has ls 4 [(0, .ref b), (1, .ref (zr G 0)), (2, .ref (zr G 44)), (3, .int x3)]) (step : ∀ (mem : zMem) (H : Heap) (locs : List Loc), I (i + 4) mem → zH (zA1 G) G s mem H locs → W p l e room_1 s m #[Value.ref b] below meth c H locs 54 883 Q (F0 m 723 ls [])) : W p l e room_1 s m #[Value.ref b] below meth c H locs 54 883 Q (F0 m 401 ls []) := by
  obtain ⟨r, m1, r2, m2, hc1, hc2, hc3, hJ⟩ := hops.2.2.2.2.2.2.2.2.2.2.2.1 i mem  hlt hI
  refine lv_aload_n C.1.1 C.1.2.1 dL_law_401 rfl (lv_at hl 1 rfl) ?_
  refine z_callVi (k := 0) (As := []) (rest := []) C Z (M_X4_sunday l G C.2.1 N mem  r m1 hc1) (zcw_L_60 C.1.2.2.2.2 ⟨Nat.le_of_ble_eq_true rfl, Nat.le_of_ble_eq_true rfl⟩) (by decide) rfl rfl rfl hl.1 rfl (Nat.le_of_ble_eq_true rfl) ⟨Nat.le_of_ble_eq_true rfl, Nat.le_of_ble_eq_true rfl⟩ dL_law_402 (fun H locs Z => ?_)
  refine lv_pop C.1.1 C.1.2.1 dL_law_405 rfl ?_
  refine lv_aload_n C.1.1 C.1.2.1 dL_law_406 rfl (lv_at hl 2 rfl) ?_
  refine z_callVi (k := 44) (As := []) (rest := []) C Z (M_X5_sunday l G C.2.1 N m1  r2 m2 hc2) (zcw_L_63 C.1.2.2.2.2 ⟨Nat.le_of_ble_eq_true rfl, Nat.le_of_ble_eq_true rfl⟩) (by decide) rfl rfl rfl hl.1 rfl (Nat.le_of_ble_eq_true rfl) ⟨Nat.le_of_ble_eq_true rfl, Nat.le_of_ble_eq_true rfl⟩ dL_law_407 (fun H locs Z => ?_)
  refine lv_pop C.1.1 C.1.2.1 dL_law_410 rfl ?_
  refine lv_goto (tgt := 723) C.1.1 C.1.2.1 dL_law_411 (by decide) ?_
  exact step m2 _ _ hJ Z
set_option maxHeartbeats 4000000 in
set_option maxRecDepth 100000 in
theorem law_op12 {p : Program} {l : Launch} {e : Env} {s : State} {m : MethodId} {below : List Frame} {meth : Method} {c : Code} {G : zG} {b L : Nat} {xs : Nat → Int32} {Q : State → Prop} (C : zC (zA1 G) G p s m #[Value.ref b] c code 4 RL) (hX : va_X b L xs s s.heap) (hbl : b < s.heap.size) (hbA : ¬ zA1 G b) {N : Nat} {I : Nat → zMem → Prop} (hops : zOps N L I) {i : Nat} {x3 : Int32} (hlt : i + 4 ≤ L) (e1 : vp_in (x3 + 1) L) (e2 : vp_in (x3 + 2) L) (e3 : vp_in (x3 + 3) L) {mem : zMem} {H : Heap} {locs : List Loc} {ls : Array Slot} (hI : I i mem) (Z : zH (zA1 G) G s mem H locs) (hl : lv_has ls 4 [(0, .ref b), (1, .ref (zr G 0)), (2, .ref (zr G 44)), (3, .int x3)]) (step : ∀ (mem : zMem) (H : Heap) (locs : List Loc), I (i + 4) mem → zH (zA1 G) G s mem H locs → W p l e room_1 s m #[Value.ref b] below meth c H locs 54 883 Q (F0 m 723 ls [])) : W p l e room_1 s m #[Value.ref b] below meth c H locs 54 883 Q (F0 m 414 ls []) := by
  obtain ⟨r, m1, r2, m2, hc1, hc2, hc3, hJ⟩ := hops.2.2.2.2.2.2.2.2.2.2.2.2.1 i mem  hlt hI
  refine lv_aload_n C.1.1 C.1.2.1 dL_law_414 rfl (lv_at hl 1 rfl) ?_
  refine z_callVi (k := 0) (As := []) (rest := []) C Z (M_X4_undo l G C.2.1 N mem  r m1 hc1) (zcw_L_64 C.1.2.2.2.2 ⟨Nat.le_of_ble_eq_true rfl, Nat.le_of_ble_eq_true rfl⟩) (by decide) rfl rfl rfl hl.1 rfl (Nat.le_of_ble_eq_true rfl) ⟨Nat.le_of_ble_eq_true rfl, Nat.le_of_ble_eq_true rfl⟩ dL_law_415 (fun H locs Z => ?_)
  refine lv_pop C.1.1 C.1.2.1 dL_law_418 rfl ?_
  refine lv_aload_n C.1.1 C.1.2.1 dL_law_419 rfl (lv_at hl 2 rfl) ?_
  refine z_callVi (k := 44) (As := []) (rest := []) C Z (M_X5_undo l G C.2.1 N m1  r2 m2 hc2) (zcw_L_67 C.1.2.2.2.2 ⟨Nat.le_of_ble_eq_true rfl, Nat.le_of_ble_eq_true rfl⟩) (by decide) rfl rfl rfl hl.1 rfl (Nat.le_of_ble_eq_true rfl) ⟨Nat.le_of_ble_eq_true rfl, Nat.le_of_ble_eq_true rfl⟩ dL_law_420 (fun H locs Z => ?_)
  refine lv_pop C.1.1 C.1.2.1 dL_law_423 rfl ?_
  refine lv_goto (tgt := 723) C.1.1 C.1.2.1 dL_law_424 (by decide) ?_
  exact step m2 _ _ hJ Z
set_option maxHeartbeats 4000000 in
set_option maxRecDepth 100000 in
theorem law_op13 {p : Program} {l : Launch} {e : Env} {s : State} {m : MethodId} {below : List Frame} {meth : Method} {c : Code} {G : zG} {b L : Nat} {xs : Nat → Int32} {Q : State → Prop} (C : zC (zA1 G) G p s m #[Value.ref b] c code 4 RL) (hX : va_X b L xs s s.heap) (hbl : b < s.heap.size) (hbA : ¬ zA1 G b) {N : Nat} {I : Nat → zMem → Prop} (hops : zOps N L I) {i : Nat} {x3 : Int32} (hlt : i + 4 ≤ L) (e1 : vp_in (x3 + 1) L) (e2 : vp_in (x3 + 2) L) (e3 : vp_in (x3 + 3) L) {mem : zMem} {H : Heap} {locs : List Loc} {ls : Array Slot} (hI : I i mem) (Z : zH (zA1 G) G s mem H locs) (hl : lv_has ls 4 [(0, .ref b), (1, .ref (zr G 0)), (2, .ref (zr G 44)), (3, .int x3)]) (step : ∀ (mem : zMem) (H : Heap) (locs : List Loc), I (i + 4) mem → zH (zA1 G) G s mem H locs → W p l e room_1 s m #[Value.ref b] below meth c H locs 54 883 Q (F0 m 723 ls [])) : W p l e room_1 s m #[Value.ref b] below meth c H locs 54 883 Q (F0 m 427 ls []) := by
  obtain ⟨r, m1, r2, m2, hc1, hc2, hc3, hJ⟩ := hops.2.2.2.2.2.2.2.2.2.2.2.2.2.1 i mem (xs (x3 + 1).toNatClampNeg) hlt hI
  refine lv_aload_n C.1.1 C.1.2.1 dL_law_427 rfl (lv_at hl 1 rfl) ?_
  refine lv_aload_n C.1.1 C.1.2.1 dL_law_428 rfl (lv_at hl 0 rfl) ?_
  refine lv_iload_n C.1.1 C.1.2.1 dL_law_429 rfl (lv_at hl 3 rfl) ?_
  refine lv_iconst (v := (1 : Int32)) C.1.1 C.1.2.1 dL_law_430 (by decide) ?_
  refine lv_iadd C.1.1 C.1.2.1 dL_law_431 ?_
  refine va_sld C.1.1 C.1.2.1 hX hbl hbA Z.2 e1 dL_law_432 ?_
  refine z_callVi (k := 0) (As := [.int (xs (x3 + 1).toNatClampNeg)]) (rest := []) C Z (M_X4_keep l G C.2.1 N mem (xs (x3 + 1).toNatClampNeg) r m1 hc1) (zcw_L_68 C.1.2.2.2.2 ⟨Nat.le_of_ble_eq_true rfl, Nat.le_of_ble_eq_true rfl⟩) (by decide) rfl rfl rfl hl.1 rfl (Nat.le_of_ble_eq_true rfl) ⟨Nat.le_of_ble_eq_true rfl, Nat.le_of_ble_eq_true rfl⟩ dL_law_433 (fun H locs Z => ?_)
  refine lv_pop C.1.1 C.1.2.1 dL_law_436 rfl ?_
  refine lv_aload_n C.1.1 C.1.2.1 dL_law_437 rfl (lv_at hl 2 rfl) ?_
  refine lv_aload_n C.1.1 C.1.2.1 dL_law_438 rfl (lv_at hl 0 rfl) ?_
  refine lv_iload_n C.1.1 C.1.2.1 dL_law_439 rfl (lv_at hl 3 rfl) ?_
  refine lv_iconst (v := (1 : Int32)) C.1.1 C.1.2.1 dL_law_440 (by decide) ?_
  refine lv_iadd C.1.1 C.1.2.1 dL_law_441 ?_
  refine va_sld C.1.1 C.1.2.1 hX hbl hbA Z.2 e1 dL_law_442 ?_
  refine z_callVi (k := 44) (As := [.int (xs (x3 + 1).toNatClampNeg)]) (rest := []) C Z (M_X5_keep l G C.2.1 N m1 (xs (x3 + 1).toNatClampNeg) r2 m2 hc2) (zcw_L_71 C.1.2.2.2.2 ⟨Nat.le_of_ble_eq_true rfl, Nat.le_of_ble_eq_true rfl⟩) (by decide) rfl rfl rfl hl.1 rfl (Nat.le_of_ble_eq_true rfl) ⟨Nat.le_of_ble_eq_true rfl, Nat.le_of_ble_eq_true rfl⟩ dL_law_443 (fun H locs Z => ?_)
  refine lv_pop C.1.1 C.1.2.1 dL_law_446 rfl ?_
  refine lv_goto (tgt := 723) C.1.1 C.1.2.1 dL_law_447 (by decide) ?_
  exact step m2 _ _ hJ Z
set_option maxHeartbeats 4000000 in
set_option maxRecDepth 100000 in
theorem law_op14 {p : Program} {l : Launch} {e : Env} {s : State} {m : MethodId} {below : List Frame} {meth : Method} {c : Code} {G : zG} {b L : Nat} {xs : Nat → Int32} {Q : State → Prop} (C : zC (zA1 G) G p s m #[Value.ref b] c code 4 RL) (hX : va_X b L xs s s.heap) (hbl : b < s.heap.size) (hbA : ¬ zA1 G b) {N : Nat} {I : Nat → zMem → Prop} (hops : zOps N L I) {i : Nat} {x3 : Int32} (hlt : i + 4 ≤ L) (e1 : vp_in (x3 + 1) L) (e2 : vp_in (x3 + 2) L) (e3 : vp_in (x3 + 3) L) {mem : zMem} {H : Heap} {locs : List Loc} {ls : Array Slot} (hI : I i mem) (Z : zH (zA1 G) G s mem H locs) (hl : lv_has ls 4 [(0, .ref b), (1, .ref (zr G 0)), (2, .ref (zr G 44)), (3, .int x3)]) (step : ∀ (mem : zMem) (H : Heap) (locs : List Loc), I (i + 4) mem → zH (zA1 G) G s mem H locs → W p l e room_1 s m #[Value.ref b] below meth c H locs 54 883 Q (F0 m 723 ls [])) : W p l e room_1 s m #[Value.ref b] below meth c H locs 54 883 Q (F0 m 450 ls []) := by
  obtain ⟨r, m1, r2, m2, hc1, hc2, hc3, hJ⟩ := hops.2.2.2.2.2.2.2.2.2.2.2.2.2.2.1 i mem (xs (x3 + 1).toNatClampNeg) hlt hI
  refine lv_aload_n C.1.1 C.1.2.1 dL_law_450 rfl (lv_at hl 1 rfl) ?_
  refine lv_aload_n C.1.1 C.1.2.1 dL_law_451 rfl (lv_at hl 0 rfl) ?_
  refine lv_iload_n C.1.1 C.1.2.1 dL_law_452 rfl (lv_at hl 3 rfl) ?_
  refine lv_iconst (v := (1 : Int32)) C.1.1 C.1.2.1 dL_law_453 (by decide) ?_
  refine lv_iadd C.1.1 C.1.2.1 dL_law_454 ?_
  refine va_sld C.1.1 C.1.2.1 hX hbl hbA Z.2 e1 dL_law_455 ?_
  refine z_callVi (k := 0) (As := [.int (xs (x3 + 1).toNatClampNeg)]) (rest := []) C Z (M_X4_back l G C.2.1 N mem (xs (x3 + 1).toNatClampNeg) r m1 hc1) (zcw_L_72 C.1.2.2.2.2 ⟨Nat.le_of_ble_eq_true rfl, Nat.le_of_ble_eq_true rfl⟩) (by decide) rfl rfl rfl hl.1 rfl (Nat.le_of_ble_eq_true rfl) ⟨Nat.le_of_ble_eq_true rfl, Nat.le_of_ble_eq_true rfl⟩ dL_law_456 (fun H locs Z => ?_)
  refine lv_pop C.1.1 C.1.2.1 dL_law_459 rfl ?_
  refine lv_aload_n C.1.1 C.1.2.1 dL_law_460 rfl (lv_at hl 2 rfl) ?_
  refine lv_aload_n C.1.1 C.1.2.1 dL_law_461 rfl (lv_at hl 0 rfl) ?_
  refine lv_iload_n C.1.1 C.1.2.1 dL_law_462 rfl (lv_at hl 3 rfl) ?_
  refine lv_iconst (v := (1 : Int32)) C.1.1 C.1.2.1 dL_law_463 (by decide) ?_
  refine lv_iadd C.1.1 C.1.2.1 dL_law_464 ?_
  refine va_sld C.1.1 C.1.2.1 hX hbl hbA Z.2 e1 dL_law_465 ?_
  refine z_callVi (k := 44) (As := [.int (xs (x3 + 1).toNatClampNeg)]) (rest := []) C Z (M_X5_back l G C.2.1 N m1 (xs (x3 + 1).toNatClampNeg) r2 m2 hc2) (zcw_L_75 C.1.2.2.2.2 ⟨Nat.le_of_ble_eq_true rfl, Nat.le_of_ble_eq_true rfl⟩) (by decide) rfl rfl rfl hl.1 rfl (Nat.le_of_ble_eq_true rfl) ⟨Nat.le_of_ble_eq_true rfl, Nat.le_of_ble_eq_true rfl⟩ dL_law_466 (fun H locs Z => ?_)
  refine lv_pop C.1.1 C.1.2.1 dL_law_469 rfl ?_
  refine lv_goto (tgt := 723) C.1.1 C.1.2.1 dL_law_470 (by decide) ?_
  exact step m2 _ _ hJ Z
set_option maxHeartbeats 4000000 in
set_option maxRecDepth 100000 in
theorem law_op15 {p : Program} {l : Launch} {e : Env} {s : State} {m : MethodId} {below : List Frame} {meth : Method} {c : Code} {G : zG} {b L : Nat} {xs : Nat → Int32} {Q : State → Prop} (C : zC (zA1 G) G p s m #[Value.ref b] c code 4 RL) (hX : va_X b L xs s s.heap) (hbl : b < s.heap.size) (hbA : ¬ zA1 G b) {N : Nat} {I : Nat → zMem → Prop} (hops : zOps N L I) {i : Nat} {x3 : Int32} (hlt : i + 4 ≤ L) (e1 : vp_in (x3 + 1) L) (e2 : vp_in (x3 + 2) L) (e3 : vp_in (x3 + 3) L) {mem : zMem} {H : Heap} {locs : List Loc} {ls : Array Slot} (hI : I i mem) (Z : zH (zA1 G) G s mem H locs) (hl : lv_has ls 4 [(0, .ref b), (1, .ref (zr G 0)), (2, .ref (zr G 44)), (3, .int x3)]) (step : ∀ (mem : zMem) (H : Heap) (locs : List Loc), I (i + 4) mem → zH (zA1 G) G s mem H locs → W p l e room_1 s m #[Value.ref b] below meth c H locs 54 883 Q (F0 m 723 ls [])) : W p l e room_1 s m #[Value.ref b] below meth c H locs 54 883 Q (F0 m 473 ls []) := by
  obtain ⟨r, m1, r2, m2, hc1, hc2, hc3, hJ⟩ := hops.2.2.2.2.2.2.2.2.2.2.2.2.2.2.2.1 i mem  hlt hI
  refine lv_aload_n C.1.1 C.1.2.1 dL_law_473 rfl (lv_at hl 1 rfl) ?_
  refine z_callVi (k := 0) (As := []) (rest := []) C Z (M_X4_stops l G C.2.1 N mem  r m1 hc1) (zcw_L_76 C.1.2.2.2.2 ⟨Nat.le_of_ble_eq_true rfl, Nat.le_of_ble_eq_true rfl⟩) (by decide) rfl rfl rfl hl.1 rfl (Nat.le_of_ble_eq_true rfl) ⟨Nat.le_of_ble_eq_true rfl, Nat.le_of_ble_eq_true rfl⟩ dL_law_474 (fun H locs Z => ?_)
  refine lv_pop C.1.1 C.1.2.1 dL_law_477 rfl ?_
  refine lv_aload_n C.1.1 C.1.2.1 dL_law_478 rfl (lv_at hl 2 rfl) ?_
  refine z_callVi (k := 44) (As := []) (rest := []) C Z (M_X5_stops l G C.2.1 N m1  r2 m2 hc2) (zcw_L_79 C.1.2.2.2.2 ⟨Nat.le_of_ble_eq_true rfl, Nat.le_of_ble_eq_true rfl⟩) (by decide) rfl rfl rfl hl.1 rfl (Nat.le_of_ble_eq_true rfl) ⟨Nat.le_of_ble_eq_true rfl, Nat.le_of_ble_eq_true rfl⟩ dL_law_479 (fun H locs Z => ?_)
  refine lv_pop C.1.1 C.1.2.1 dL_law_482 rfl ?_
  refine lv_goto (tgt := 723) C.1.1 C.1.2.1 dL_law_483 (by decide) ?_
  exact step m2 _ _ hJ Z
set_option maxHeartbeats 4000000 in
set_option maxRecDepth 100000 in
theorem law_op16 {p : Program} {l : Launch} {e : Env} {s : State} {m : MethodId} {below : List Frame} {meth : Method} {c : Code} {G : zG} {b L : Nat} {xs : Nat → Int32} {Q : State → Prop} (C : zC (zA1 G) G p s m #[Value.ref b] c code 4 RL) (hX : va_X b L xs s s.heap) (hbl : b < s.heap.size) (hbA : ¬ zA1 G b) {N : Nat} {I : Nat → zMem → Prop} (hops : zOps N L I) {i : Nat} {x3 : Int32} (hlt : i + 4 ≤ L) (e1 : vp_in (x3 + 1) L) (e2 : vp_in (x3 + 2) L) (e3 : vp_in (x3 + 3) L) {mem : zMem} {H : Heap} {locs : List Loc} {ls : Array Slot} (hI : I i mem) (Z : zH (zA1 G) G s mem H locs) (hl : lv_has ls 4 [(0, .ref b), (1, .ref (zr G 0)), (2, .ref (zr G 44)), (3, .int x3)]) (step : ∀ (mem : zMem) (H : Heap) (locs : List Loc), I (i + 4) mem → zH (zA1 G) G s mem H locs → W p l e room_1 s m #[Value.ref b] below meth c H locs 54 883 Q (F0 m 723 ls [])) : W p l e room_1 s m #[Value.ref b] below meth c H locs 54 883 Q (F0 m 486 ls []) := by
  obtain ⟨r, m1, r2, m2, hc1, hc2, hc3, hJ⟩ := hops.2.2.2.2.2.2.2.2.2.2.2.2.2.2.2.2.1 i mem (xs (x3 + 1).toNatClampNeg) hlt hI
  refine lv_aload_n C.1.1 C.1.2.1 dL_law_486 rfl (lv_at hl 1 rfl) ?_
  refine lv_aload_n C.1.1 C.1.2.1 dL_law_487 rfl (lv_at hl 0 rfl) ?_
  refine lv_iload_n C.1.1 C.1.2.1 dL_law_488 rfl (lv_at hl 3 rfl) ?_
  refine lv_iconst (v := (1 : Int32)) C.1.1 C.1.2.1 dL_law_489 (by decide) ?_
  refine lv_iadd C.1.1 C.1.2.1 dL_law_490 ?_
  refine va_sld C.1.1 C.1.2.1 hX hbl hbA Z.2 e1 dL_law_491 ?_
  refine z_callVi (k := 0) (As := [.int (xs (x3 + 1).toNatClampNeg)]) (rest := []) C Z (M_X4_soonest l G C.2.1 N mem (xs (x3 + 1).toNatClampNeg) r m1 hc1) (zcw_L_80 C.1.2.2.2.2 ⟨Nat.le_of_ble_eq_true rfl, Nat.le_of_ble_eq_true rfl⟩) (by decide) rfl rfl rfl hl.1 rfl (Nat.le_of_ble_eq_true rfl) ⟨Nat.le_of_ble_eq_true rfl, Nat.le_of_ble_eq_true rfl⟩ dL_law_492 (fun H locs Z => ?_)
  refine lv_pop C.1.1 C.1.2.1 dL_law_495 rfl ?_
  refine lv_aload_n C.1.1 C.1.2.1 dL_law_496 rfl (lv_at hl 2 rfl) ?_
  refine lv_aload_n C.1.1 C.1.2.1 dL_law_497 rfl (lv_at hl 0 rfl) ?_
  refine lv_iload_n C.1.1 C.1.2.1 dL_law_498 rfl (lv_at hl 3 rfl) ?_
  refine lv_iconst (v := (1 : Int32)) C.1.1 C.1.2.1 dL_law_499 (by decide) ?_
  refine lv_iadd C.1.1 C.1.2.1 dL_law_500 ?_
  refine va_sld C.1.1 C.1.2.1 hX hbl hbA Z.2 e1 dL_law_501 ?_
  refine z_callVi (k := 44) (As := [.int (xs (x3 + 1).toNatClampNeg)]) (rest := []) C Z (M_X5_soonest l G C.2.1 N m1 (xs (x3 + 1).toNatClampNeg) r2 m2 hc2) (zcw_L_83 C.1.2.2.2.2 ⟨Nat.le_of_ble_eq_true rfl, Nat.le_of_ble_eq_true rfl⟩) (by decide) rfl rfl rfl hl.1 rfl (Nat.le_of_ble_eq_true rfl) ⟨Nat.le_of_ble_eq_true rfl, Nat.le_of_ble_eq_true rfl⟩ dL_law_502 (fun H locs Z => ?_)
  refine lv_pop C.1.1 C.1.2.1 dL_law_505 rfl ?_
  refine lv_goto (tgt := 723) C.1.1 C.1.2.1 dL_law_506 (by decide) ?_
  exact step m2 _ _ hJ Z
set_option maxHeartbeats 4000000 in
set_option maxRecDepth 100000 in
theorem law_op17 {p : Program} {l : Launch} {e : Env} {s : State} {m : MethodId} {below : List Frame} {meth : Method} {c : Code} {G : zG} {b L : Nat} {xs : Nat → Int32} {Q : State → Prop} (C : zC (zA1 G) G p s m #[Value.ref b] c code 4 RL) (hX : va_X b L xs s s.heap) (hbl : b < s.heap.size) (hbA : ¬ zA1 G b) {N : Nat} {I : Nat → zMem → Prop} (hops : zOps N L I) {i : Nat} {x3 : Int32} (hlt : i + 4 ≤ L) (e1 : vp_in (x3 + 1) L) (e2 : vp_in (x3 + 2) L) (e3 : vp_in (x3 + 3) L) {mem : zMem} {H : Heap} {locs : List Loc} {ls : Array Slot} (hI : I i mem) (Z : zH (zA1 G) G s mem H locs) (hl : lv_has ls 4 [(0, .ref b), (1, .ref (zr G 0)), (2, .ref (zr G 44)), (3, .int x3)]) (step : ∀ (mem : zMem) (H : Heap) (locs : List Loc), I (i + 4) mem → zH (zA1 G) G s mem H locs → W p l e room_1 s m #[Value.ref b] below meth c H locs 54 883 Q (F0 m 723 ls [])) : W p l e room_1 s m #[Value.ref b] below meth c H locs 54 883 Q (F0 m 509 ls []) := by
  obtain ⟨r, m1, r2, m2, hc1, hc2, hc3, hJ⟩ := hops.2.2.2.2.2.2.2.2.2.2.2.2.2.2.2.2.2.1 i mem (xs (x3 + 1).toNatClampNeg) hlt hI
  refine lv_aload_n C.1.1 C.1.2.1 dL_law_509 rfl (lv_at hl 1 rfl) ?_
  refine lv_aload_n C.1.1 C.1.2.1 dL_law_510 rfl (lv_at hl 0 rfl) ?_
  refine lv_iload_n C.1.1 C.1.2.1 dL_law_511 rfl (lv_at hl 3 rfl) ?_
  refine lv_iconst (v := (1 : Int32)) C.1.1 C.1.2.1 dL_law_512 (by decide) ?_
  refine lv_iadd C.1.1 C.1.2.1 dL_law_513 ?_
  refine va_sld C.1.1 C.1.2.1 hX hbl hbA Z.2 e1 dL_law_514 ?_
  refine z_callVi (k := 0) (As := [.int (xs (x3 + 1).toNatClampNeg)]) (rest := []) C Z (M_X4_never l G C.2.1 N mem (xs (x3 + 1).toNatClampNeg) r m1 hc1) (zcw_L_84 C.1.2.2.2.2 ⟨Nat.le_of_ble_eq_true rfl, Nat.le_of_ble_eq_true rfl⟩) (by decide) rfl rfl rfl hl.1 rfl (Nat.le_of_ble_eq_true rfl) ⟨Nat.le_of_ble_eq_true rfl, Nat.le_of_ble_eq_true rfl⟩ dL_law_515 (fun H locs Z => ?_)
  refine lv_pop C.1.1 C.1.2.1 dL_law_518 rfl ?_
  refine lv_aload_n C.1.1 C.1.2.1 dL_law_519 rfl (lv_at hl 2 rfl) ?_
  refine lv_aload_n C.1.1 C.1.2.1 dL_law_520 rfl (lv_at hl 0 rfl) ?_
  refine lv_iload_n C.1.1 C.1.2.1 dL_law_521 rfl (lv_at hl 3 rfl) ?_
  refine lv_iconst (v := (1 : Int32)) C.1.1 C.1.2.1 dL_law_522 (by decide) ?_
  refine lv_iadd C.1.1 C.1.2.1 dL_law_523 ?_
  refine va_sld C.1.1 C.1.2.1 hX hbl hbA Z.2 e1 dL_law_524 ?_
  refine z_callVi (k := 44) (As := [.int (xs (x3 + 1).toNatClampNeg)]) (rest := []) C Z (M_X5_never l G C.2.1 N m1 (xs (x3 + 1).toNatClampNeg) r2 m2 hc2) (zcw_L_87 C.1.2.2.2.2 ⟨Nat.le_of_ble_eq_true rfl, Nat.le_of_ble_eq_true rfl⟩) (by decide) rfl rfl rfl hl.1 rfl (Nat.le_of_ble_eq_true rfl) ⟨Nat.le_of_ble_eq_true rfl, Nat.le_of_ble_eq_true rfl⟩ dL_law_525 (fun H locs Z => ?_)
  refine lv_pop C.1.1 C.1.2.1 dL_law_528 rfl ?_
  refine lv_goto (tgt := 723) C.1.1 C.1.2.1 dL_law_529 (by decide) ?_
  exact step m2 _ _ hJ Z
set_option maxHeartbeats 4000000 in
set_option maxRecDepth 100000 in
theorem law_op18 {p : Program} {l : Launch} {e : Env} {s : State} {m : MethodId} {below : List Frame} {meth : Method} {c : Code} {G : zG} {b L : Nat} {xs : Nat → Int32} {Q : State → Prop} (C : zC (zA1 G) G p s m #[Value.ref b] c code 4 RL) (hX : va_X b L xs s s.heap) (hbl : b < s.heap.size) (hbA : ¬ zA1 G b) {N : Nat} {I : Nat → zMem → Prop} (hops : zOps N L I) {i : Nat} {x3 : Int32} (hlt : i + 4 ≤ L) (e1 : vp_in (x3 + 1) L) (e2 : vp_in (x3 + 2) L) (e3 : vp_in (x3 + 3) L) {mem : zMem} {H : Heap} {locs : List Loc} {ls : Array Slot} (hI : I i mem) (Z : zH (zA1 G) G s mem H locs) (hl : lv_has ls 4 [(0, .ref b), (1, .ref (zr G 0)), (2, .ref (zr G 44)), (3, .int x3)]) (step : ∀ (mem : zMem) (H : Heap) (locs : List Loc), I (i + 4) mem → zH (zA1 G) G s mem H locs → W p l e room_1 s m #[Value.ref b] below meth c H locs 54 883 Q (F0 m 723 ls [])) : W p l e room_1 s m #[Value.ref b] below meth c H locs 54 883 Q (F0 m 532 ls []) := by
  obtain ⟨r, m1, r2, m2, hc1, hc2, hc3, hJ⟩ := hops.2.2.2.2.2.2.2.2.2.2.2.2.2.2.2.2.2.2.1 i mem (xs (x3 + 1).toNatClampNeg) (xs (x3 + 2).toNatClampNeg) (xs (x3 + 3).toNatClampNeg) hlt hI
  refine lv_aload_n C.1.1 C.1.2.1 dL_law_532 rfl (lv_at hl 1 rfl) ?_
  refine lv_aload_n C.1.1 C.1.2.1 dL_law_533 rfl (lv_at hl 0 rfl) ?_
  refine lv_iload_n C.1.1 C.1.2.1 dL_law_534 rfl (lv_at hl 3 rfl) ?_
  refine lv_iconst (v := (1 : Int32)) C.1.1 C.1.2.1 dL_law_535 (by decide) ?_
  refine lv_iadd C.1.1 C.1.2.1 dL_law_536 ?_
  refine va_sld C.1.1 C.1.2.1 hX hbl hbA Z.2 e1 dL_law_537 ?_
  refine lv_aload_n C.1.1 C.1.2.1 dL_law_538 rfl (lv_at hl 0 rfl) ?_
  refine lv_iload_n C.1.1 C.1.2.1 dL_law_539 rfl (lv_at hl 3 rfl) ?_
  refine lv_iconst (v := (2 : Int32)) C.1.1 C.1.2.1 dL_law_540 (by decide) ?_
  refine lv_iadd C.1.1 C.1.2.1 dL_law_541 ?_
  refine va_sld C.1.1 C.1.2.1 hX hbl hbA Z.2 e2 dL_law_542 ?_
  refine lv_aload_n C.1.1 C.1.2.1 dL_law_543 rfl (lv_at hl 0 rfl) ?_
  refine lv_iload_n C.1.1 C.1.2.1 dL_law_544 rfl (lv_at hl 3 rfl) ?_
  refine lv_iconst (v := (3 : Int32)) C.1.1 C.1.2.1 dL_law_545 (by decide) ?_
  refine lv_iadd C.1.1 C.1.2.1 dL_law_546 ?_
  refine va_sld C.1.1 C.1.2.1 hX hbl hbA Z.2 e3 dL_law_547 ?_
  refine z_callVi (k := 0) (As := [.int (xs (x3 + 1).toNatClampNeg), .int (xs (x3 + 2).toNatClampNeg), .int (xs (x3 + 3).toNatClampNeg)]) (rest := []) C Z (M_X4_seen l G C.2.1 N mem (xs (x3 + 1).toNatClampNeg) (xs (x3 + 2).toNatClampNeg) (xs (x3 + 3).toNatClampNeg) r m1 hc1) (zcw_L_88 C.1.2.2.2.2 ⟨Nat.le_of_ble_eq_true rfl, Nat.le_of_ble_eq_true rfl⟩) (by decide) rfl rfl rfl hl.1 rfl (Nat.le_of_ble_eq_true rfl) ⟨Nat.le_of_ble_eq_true rfl, Nat.le_of_ble_eq_true rfl⟩ dL_law_548 (fun H locs Z => ?_)
  refine lv_pop C.1.1 C.1.2.1 dL_law_551 rfl ?_
  refine lv_aload_n C.1.1 C.1.2.1 dL_law_552 rfl (lv_at hl 2 rfl) ?_
  refine lv_aload_n C.1.1 C.1.2.1 dL_law_553 rfl (lv_at hl 0 rfl) ?_
  refine lv_iload_n C.1.1 C.1.2.1 dL_law_554 rfl (lv_at hl 3 rfl) ?_
  refine lv_iconst (v := (1 : Int32)) C.1.1 C.1.2.1 dL_law_555 (by decide) ?_
  refine lv_iadd C.1.1 C.1.2.1 dL_law_556 ?_
  refine va_sld C.1.1 C.1.2.1 hX hbl hbA Z.2 e1 dL_law_557 ?_
  refine lv_aload_n C.1.1 C.1.2.1 dL_law_558 rfl (lv_at hl 0 rfl) ?_
  refine lv_iload_n C.1.1 C.1.2.1 dL_law_559 rfl (lv_at hl 3 rfl) ?_
  refine lv_iconst (v := (2 : Int32)) C.1.1 C.1.2.1 dL_law_560 (by decide) ?_
  refine lv_iadd C.1.1 C.1.2.1 dL_law_561 ?_
  refine va_sld C.1.1 C.1.2.1 hX hbl hbA Z.2 e2 dL_law_562 ?_
  refine lv_aload_n C.1.1 C.1.2.1 dL_law_563 rfl (lv_at hl 0 rfl) ?_
  refine lv_iload_n C.1.1 C.1.2.1 dL_law_564 rfl (lv_at hl 3 rfl) ?_
  refine lv_iconst (v := (3 : Int32)) C.1.1 C.1.2.1 dL_law_565 (by decide) ?_
  refine lv_iadd C.1.1 C.1.2.1 dL_law_566 ?_
  refine va_sld C.1.1 C.1.2.1 hX hbl hbA Z.2 e3 dL_law_567 ?_
  refine z_callVi (k := 44) (As := [.int (xs (x3 + 1).toNatClampNeg), .int (xs (x3 + 2).toNatClampNeg), .int (xs (x3 + 3).toNatClampNeg)]) (rest := []) C Z (M_X5_seen l G C.2.1 N m1 (xs (x3 + 1).toNatClampNeg) (xs (x3 + 2).toNatClampNeg) (xs (x3 + 3).toNatClampNeg) r2 m2 hc2) (zcw_L_92 C.1.2.2.2.2 ⟨Nat.le_of_ble_eq_true rfl, Nat.le_of_ble_eq_true rfl⟩) (by decide) rfl rfl rfl hl.1 rfl (Nat.le_of_ble_eq_true rfl) ⟨Nat.le_of_ble_eq_true rfl, Nat.le_of_ble_eq_true rfl⟩ dL_law_568 (fun H locs Z => ?_)
  refine lv_pop C.1.1 C.1.2.1 dL_law_571 rfl ?_
  refine lv_goto (tgt := 723) C.1.1 C.1.2.1 dL_law_572 (by decide) ?_
  exact step m2 _ _ hJ Z
set_option maxHeartbeats 4000000 in
set_option maxRecDepth 100000 in
theorem law_op19 {p : Program} {l : Launch} {e : Env} {s : State} {m : MethodId} {below : List Frame} {meth : Method} {c : Code} {G : zG} {b L : Nat} {xs : Nat → Int32} {Q : State → Prop} (C : zC (zA1 G) G p s m #[Value.ref b] c code 4 RL) (hX : va_X b L xs s s.heap) (hbl : b < s.heap.size) (hbA : ¬ zA1 G b) {N : Nat} {I : Nat → zMem → Prop} (hops : zOps N L I) {i : Nat} {x3 : Int32} (hlt : i + 4 ≤ L) (e1 : vp_in (x3 + 1) L) (e2 : vp_in (x3 + 2) L) (e3 : vp_in (x3 + 3) L) {mem : zMem} {H : Heap} {locs : List Loc} {ls : Array Slot} (hI : I i mem) (Z : zH (zA1 G) G s mem H locs) (hl : lv_has ls 4 [(0, .ref b), (1, .ref (zr G 0)), (2, .ref (zr G 44)), (3, .int x3)]) (step : ∀ (mem : zMem) (H : Heap) (locs : List Loc), I (i + 4) mem → zH (zA1 G) G s mem H locs → W p l e room_1 s m #[Value.ref b] below meth c H locs 54 883 Q (F0 m 723 ls [])) : W p l e room_1 s m #[Value.ref b] below meth c H locs 54 883 Q (F0 m 575 ls []) := by
  obtain ⟨r, m1, r2, m2, hc1, hc2, hc3, hJ⟩ := hops.2.2.2.2.2.2.2.2.2.2.2.2.2.2.2.2.2.2.2.1 i mem (xs (x3 + 1).toNatClampNeg) (xs (x3 + 2).toNatClampNeg) (xs (x3 + 3).toNatClampNeg) hlt hI
  refine lv_aload_n C.1.1 C.1.2.1 dL_law_575 rfl (lv_at hl 1 rfl) ?_
  refine lv_aload_n C.1.1 C.1.2.1 dL_law_576 rfl (lv_at hl 0 rfl) ?_
  refine lv_iload_n C.1.1 C.1.2.1 dL_law_577 rfl (lv_at hl 3 rfl) ?_
  refine lv_iconst (v := (1 : Int32)) C.1.1 C.1.2.1 dL_law_578 (by decide) ?_
  refine lv_iadd C.1.1 C.1.2.1 dL_law_579 ?_
  refine va_sld C.1.1 C.1.2.1 hX hbl hbA Z.2 e1 dL_law_580 ?_
  refine lv_aload_n C.1.1 C.1.2.1 dL_law_581 rfl (lv_at hl 0 rfl) ?_
  refine lv_iload_n C.1.1 C.1.2.1 dL_law_582 rfl (lv_at hl 3 rfl) ?_
  refine lv_iconst (v := (2 : Int32)) C.1.1 C.1.2.1 dL_law_583 (by decide) ?_
  refine lv_iadd C.1.1 C.1.2.1 dL_law_584 ?_
  refine va_sld C.1.1 C.1.2.1 hX hbl hbA Z.2 e2 dL_law_585 ?_
  refine lv_aload_n C.1.1 C.1.2.1 dL_law_586 rfl (lv_at hl 0 rfl) ?_
  refine lv_iload_n C.1.1 C.1.2.1 dL_law_587 rfl (lv_at hl 3 rfl) ?_
  refine lv_iconst (v := (3 : Int32)) C.1.1 C.1.2.1 dL_law_588 (by decide) ?_
  refine lv_iadd C.1.1 C.1.2.1 dL_law_589 ?_
  refine va_sld C.1.1 C.1.2.1 hX hbl hbA Z.2 e3 dL_law_590 ?_
  refine z_callVi (k := 0) (As := [.int (xs (x3 + 1).toNatClampNeg), .int (xs (x3 + 2).toNatClampNeg), .int (xs (x3 + 3).toNatClampNeg)]) (rest := []) C Z (M_X4_heard l G C.2.1 N mem (xs (x3 + 1).toNatClampNeg) (xs (x3 + 2).toNatClampNeg) (xs (x3 + 3).toNatClampNeg) r m1 hc1) (zcw_L_93 C.1.2.2.2.2 ⟨Nat.le_of_ble_eq_true rfl, Nat.le_of_ble_eq_true rfl⟩) (by decide) rfl rfl rfl hl.1 rfl (Nat.le_of_ble_eq_true rfl) ⟨Nat.le_of_ble_eq_true rfl, Nat.le_of_ble_eq_true rfl⟩ dL_law_591 (fun H locs Z => ?_)
  refine lv_pop C.1.1 C.1.2.1 dL_law_594 rfl ?_
  refine lv_aload_n C.1.1 C.1.2.1 dL_law_595 rfl (lv_at hl 2 rfl) ?_
  refine lv_aload_n C.1.1 C.1.2.1 dL_law_596 rfl (lv_at hl 0 rfl) ?_
  refine lv_iload_n C.1.1 C.1.2.1 dL_law_597 rfl (lv_at hl 3 rfl) ?_
  refine lv_iconst (v := (1 : Int32)) C.1.1 C.1.2.1 dL_law_598 (by decide) ?_
  refine lv_iadd C.1.1 C.1.2.1 dL_law_599 ?_
  refine va_sld C.1.1 C.1.2.1 hX hbl hbA Z.2 e1 dL_law_600 ?_
  refine lv_aload_n C.1.1 C.1.2.1 dL_law_601 rfl (lv_at hl 0 rfl) ?_
  refine lv_iload_n C.1.1 C.1.2.1 dL_law_602 rfl (lv_at hl 3 rfl) ?_
  refine lv_iconst (v := (2 : Int32)) C.1.1 C.1.2.1 dL_law_603 (by decide) ?_
  refine lv_iadd C.1.1 C.1.2.1 dL_law_604 ?_
  refine va_sld C.1.1 C.1.2.1 hX hbl hbA Z.2 e2 dL_law_605 ?_
  refine lv_aload_n C.1.1 C.1.2.1 dL_law_606 rfl (lv_at hl 0 rfl) ?_
  refine lv_iload_n C.1.1 C.1.2.1 dL_law_607 rfl (lv_at hl 3 rfl) ?_
  refine lv_iconst (v := (3 : Int32)) C.1.1 C.1.2.1 dL_law_608 (by decide) ?_
  refine lv_iadd C.1.1 C.1.2.1 dL_law_609 ?_
  refine va_sld C.1.1 C.1.2.1 hX hbl hbA Z.2 e3 dL_law_610 ?_
  refine z_callVi (k := 44) (As := [.int (xs (x3 + 1).toNatClampNeg), .int (xs (x3 + 2).toNatClampNeg), .int (xs (x3 + 3).toNatClampNeg)]) (rest := []) C Z (M_X5_heard l G C.2.1 N m1 (xs (x3 + 1).toNatClampNeg) (xs (x3 + 2).toNatClampNeg) (xs (x3 + 3).toNatClampNeg) r2 m2 hc2) (zcw_L_96 C.1.2.2.2.2 ⟨Nat.le_of_ble_eq_true rfl, Nat.le_of_ble_eq_true rfl⟩) (by decide) rfl rfl rfl hl.1 rfl (Nat.le_of_ble_eq_true rfl) ⟨Nat.le_of_ble_eq_true rfl, Nat.le_of_ble_eq_true rfl⟩ dL_law_611 (fun H locs Z => ?_)
  refine lv_pop C.1.1 C.1.2.1 dL_law_614 rfl ?_
  refine lv_goto (tgt := 723) C.1.1 C.1.2.1 dL_law_615 (by decide) ?_
  exact step m2 _ _ hJ Z
set_option maxHeartbeats 4000000 in
set_option maxRecDepth 100000 in
theorem law_op20 {p : Program} {l : Launch} {e : Env} {s : State} {m : MethodId} {below : List Frame} {meth : Method} {c : Code} {G : zG} {b L : Nat} {xs : Nat → Int32} {Q : State → Prop} (C : zC (zA1 G) G p s m #[Value.ref b] c code 4 RL) (hX : va_X b L xs s s.heap) (hbl : b < s.heap.size) (hbA : ¬ zA1 G b) {N : Nat} {I : Nat → zMem → Prop} (hops : zOps N L I) {i : Nat} {x3 : Int32} (hlt : i + 4 ≤ L) (e1 : vp_in (x3 + 1) L) (e2 : vp_in (x3 + 2) L) (e3 : vp_in (x3 + 3) L) {mem : zMem} {H : Heap} {locs : List Loc} {ls : Array Slot} (hI : I i mem) (Z : zH (zA1 G) G s mem H locs) (hl : lv_has ls 4 [(0, .ref b), (1, .ref (zr G 0)), (2, .ref (zr G 44)), (3, .int x3)]) (step : ∀ (mem : zMem) (H : Heap) (locs : List Loc), I (i + 4) mem → zH (zA1 G) G s mem H locs → W p l e room_1 s m #[Value.ref b] below meth c H locs 54 883 Q (F0 m 723 ls [])) : W p l e room_1 s m #[Value.ref b] below meth c H locs 54 883 Q (F0 m 618 ls []) := by
  obtain ⟨r, m1, r2, m2, hc1, hc2, hc3, hJ⟩ := hops.2.2.2.2.2.2.2.2.2.2.2.2.2.2.2.2.2.2.2.2.1 i mem  hlt hI
  refine lv_aload_n C.1.1 C.1.2.1 dL_law_618 rfl (lv_at hl 1 rfl) ?_
  refine z_callVi (k := 0) (As := []) (rest := []) C Z (M_X4_forget l G C.2.1 N mem  r m1 hc1) (zcw_L_97 C.1.2.2.2.2 ⟨Nat.le_of_ble_eq_true rfl, Nat.le_of_ble_eq_true rfl⟩) (by decide) rfl rfl rfl hl.1 rfl (Nat.le_of_ble_eq_true rfl) ⟨Nat.le_of_ble_eq_true rfl, Nat.le_of_ble_eq_true rfl⟩ dL_law_619 (fun H locs Z => ?_)
  refine lv_pop C.1.1 C.1.2.1 dL_law_622 rfl ?_
  refine lv_aload_n C.1.1 C.1.2.1 dL_law_623 rfl (lv_at hl 2 rfl) ?_
  refine z_callVi (k := 44) (As := []) (rest := []) C Z (M_X5_forget l G C.2.1 N m1  r2 m2 hc2) (zcw_L_100 C.1.2.2.2.2 ⟨Nat.le_of_ble_eq_true rfl, Nat.le_of_ble_eq_true rfl⟩) (by decide) rfl rfl rfl hl.1 rfl (Nat.le_of_ble_eq_true rfl) ⟨Nat.le_of_ble_eq_true rfl, Nat.le_of_ble_eq_true rfl⟩ dL_law_624 (fun H locs Z => ?_)
  refine lv_pop C.1.1 C.1.2.1 dL_law_627 rfl ?_
  refine lv_goto (tgt := 723) C.1.1 C.1.2.1 dL_law_628 (by decide) ?_
  exact step m2 _ _ hJ Z
set_option maxHeartbeats 4000000 in
set_option maxRecDepth 100000 in
theorem law_op21 {p : Program} {l : Launch} {e : Env} {s : State} {m : MethodId} {below : List Frame} {meth : Method} {c : Code} {G : zG} {b L : Nat} {xs : Nat → Int32} {Q : State → Prop} (C : zC (zA1 G) G p s m #[Value.ref b] c code 4 RL) (hX : va_X b L xs s s.heap) (hbl : b < s.heap.size) (hbA : ¬ zA1 G b) {N : Nat} {I : Nat → zMem → Prop} (hops : zOps N L I) {i : Nat} {x3 : Int32} (hlt : i + 4 ≤ L) (e1 : vp_in (x3 + 1) L) (e2 : vp_in (x3 + 2) L) (e3 : vp_in (x3 + 3) L) {mem : zMem} {H : Heap} {locs : List Loc} {ls : Array Slot} (hI : I i mem) (Z : zH (zA1 G) G s mem H locs) (hl : lv_has ls 4 [(0, .ref b), (1, .ref (zr G 0)), (2, .ref (zr G 44)), (3, .int x3)]) (step : ∀ (mem : zMem) (H : Heap) (locs : List Loc), I (i + 4) mem → zH (zA1 G) G s mem H locs → W p l e room_1 s m #[Value.ref b] below meth c H locs 54 883 Q (F0 m 723 ls [])) : W p l e room_1 s m #[Value.ref b] below meth c H locs 54 883 Q (F0 m 631 ls []) := by
  obtain ⟨r, m1, r2, m2, hc1, hc2, hc3, hJ⟩ := hops.2.2.2.2.2.2.2.2.2.2.2.2.2.2.2.2.2.2.2.2.2.1 i mem (xs (x3 + 1).toNatClampNeg) hlt hI
  refine lv_aload_n C.1.1 C.1.2.1 dL_law_631 rfl (lv_at hl 1 rfl) ?_
  refine lv_aload_n C.1.1 C.1.2.1 dL_law_632 rfl (lv_at hl 0 rfl) ?_
  refine lv_iload_n C.1.1 C.1.2.1 dL_law_633 rfl (lv_at hl 3 rfl) ?_
  refine lv_iconst (v := (1 : Int32)) C.1.1 C.1.2.1 dL_law_634 (by decide) ?_
  refine lv_iadd C.1.1 C.1.2.1 dL_law_635 ?_
  refine va_sld C.1.1 C.1.2.1 hX hbl hbA Z.2 e1 dL_law_636 ?_
  refine z_callVi (k := 0) (As := [.int (xs (x3 + 1).toNatClampNeg)]) (rest := []) C Z (M_X4_weights l G C.2.1 N mem (xs (x3 + 1).toNatClampNeg) r m1 hc1) (zcw_L_101 C.1.2.2.2.2 ⟨Nat.le_of_ble_eq_true rfl, Nat.le_of_ble_eq_true rfl⟩) (by decide) rfl rfl rfl hl.1 rfl (Nat.le_of_ble_eq_true rfl) ⟨Nat.le_of_ble_eq_true rfl, Nat.le_of_ble_eq_true rfl⟩ dL_law_637 (fun H locs Z => ?_)
  refine lv_pop C.1.1 C.1.2.1 dL_law_640 rfl ?_
  refine lv_aload_n C.1.1 C.1.2.1 dL_law_641 rfl (lv_at hl 2 rfl) ?_
  refine lv_aload_n C.1.1 C.1.2.1 dL_law_642 rfl (lv_at hl 0 rfl) ?_
  refine lv_iload_n C.1.1 C.1.2.1 dL_law_643 rfl (lv_at hl 3 rfl) ?_
  refine lv_iconst (v := (1 : Int32)) C.1.1 C.1.2.1 dL_law_644 (by decide) ?_
  refine lv_iadd C.1.1 C.1.2.1 dL_law_645 ?_
  refine va_sld C.1.1 C.1.2.1 hX hbl hbA Z.2 e1 dL_law_646 ?_
  refine z_callVi (k := 44) (As := [.int (xs (x3 + 1).toNatClampNeg)]) (rest := []) C Z (M_X5_weights l G C.2.1 N m1 (xs (x3 + 1).toNatClampNeg) r2 m2 hc2) (zcw_L_104 C.1.2.2.2.2 ⟨Nat.le_of_ble_eq_true rfl, Nat.le_of_ble_eq_true rfl⟩) (by decide) rfl rfl rfl hl.1 rfl (Nat.le_of_ble_eq_true rfl) ⟨Nat.le_of_ble_eq_true rfl, Nat.le_of_ble_eq_true rfl⟩ dL_law_647 (fun H locs Z => ?_)
  refine lv_pop C.1.1 C.1.2.1 dL_law_650 rfl ?_
  refine lv_goto (tgt := 723) C.1.1 C.1.2.1 dL_law_651 (by decide) ?_
  exact step m2 _ _ hJ Z
set_option maxHeartbeats 4000000 in
set_option maxRecDepth 100000 in
theorem law_op22 {p : Program} {l : Launch} {e : Env} {s : State} {m : MethodId} {below : List Frame} {meth : Method} {c : Code} {G : zG} {b L : Nat} {xs : Nat → Int32} {Q : State → Prop} (C : zC (zA1 G) G p s m #[Value.ref b] c code 4 RL) (hX : va_X b L xs s s.heap) (hbl : b < s.heap.size) (hbA : ¬ zA1 G b) {N : Nat} {I : Nat → zMem → Prop} (hops : zOps N L I) {i : Nat} {x3 : Int32} (hlt : i + 4 ≤ L) (e1 : vp_in (x3 + 1) L) (e2 : vp_in (x3 + 2) L) (e3 : vp_in (x3 + 3) L) {mem : zMem} {H : Heap} {locs : List Loc} {ls : Array Slot} (hI : I i mem) (Z : zH (zA1 G) G s mem H locs) (hl : lv_has ls 4 [(0, .ref b), (1, .ref (zr G 0)), (2, .ref (zr G 44)), (3, .int x3)]) (step : ∀ (mem : zMem) (H : Heap) (locs : List Loc), I (i + 4) mem → zH (zA1 G) G s mem H locs → W p l e room_1 s m #[Value.ref b] below meth c H locs 54 883 Q (F0 m 723 ls [])) : W p l e room_1 s m #[Value.ref b] below meth c H locs 54 883 Q (F0 m 654 ls []) := by
  obtain ⟨r, m1, r2, m2, hc1, hc2, hc3, hJ⟩ := hops.2.2.2.2.2.2.2.2.2.2.2.2.2.2.2.2.2.2.2.2.2.2.1 i mem  hlt hI
  refine lv_aload_n C.1.1 C.1.2.1 dL_law_654 rfl (lv_at hl 1 rfl) ?_
  refine z_callVi (k := 0) (As := []) (rest := []) C Z (M_X4_thumbs l G C.2.1 N mem  r m1 hc1) (zcw_L_105 C.1.2.2.2.2 ⟨Nat.le_of_ble_eq_true rfl, Nat.le_of_ble_eq_true rfl⟩) (by decide) rfl rfl rfl hl.1 rfl (Nat.le_of_ble_eq_true rfl) ⟨Nat.le_of_ble_eq_true rfl, Nat.le_of_ble_eq_true rfl⟩ dL_law_655 (fun H locs Z => ?_)
  refine lv_pop C.1.1 C.1.2.1 dL_law_658 rfl ?_
  refine lv_aload_n C.1.1 C.1.2.1 dL_law_659 rfl (lv_at hl 2 rfl) ?_
  refine z_callVi (k := 44) (As := []) (rest := []) C Z (M_X5_thumbs l G C.2.1 N m1  r2 m2 hc2) (zcw_L_108 C.1.2.2.2.2 ⟨Nat.le_of_ble_eq_true rfl, Nat.le_of_ble_eq_true rfl⟩) (by decide) rfl rfl rfl hl.1 rfl (Nat.le_of_ble_eq_true rfl) ⟨Nat.le_of_ble_eq_true rfl, Nat.le_of_ble_eq_true rfl⟩ dL_law_660 (fun H locs Z => ?_)
  refine lv_pop C.1.1 C.1.2.1 dL_law_663 rfl ?_
  refine lv_goto (tgt := 723) C.1.1 C.1.2.1 dL_law_664 (by decide) ?_
  exact step m2 _ _ hJ Z
set_option maxHeartbeats 4000000 in
set_option maxRecDepth 100000 in
theorem law_op23 {p : Program} {l : Launch} {e : Env} {s : State} {m : MethodId} {below : List Frame} {meth : Method} {c : Code} {G : zG} {b L : Nat} {xs : Nat → Int32} {Q : State → Prop} (C : zC (zA1 G) G p s m #[Value.ref b] c code 4 RL) (hX : va_X b L xs s s.heap) (hbl : b < s.heap.size) (hbA : ¬ zA1 G b) {N : Nat} {I : Nat → zMem → Prop} (hops : zOps N L I) {i : Nat} {x3 : Int32} (hlt : i + 4 ≤ L) (e1 : vp_in (x3 + 1) L) (e2 : vp_in (x3 + 2) L) (e3 : vp_in (x3 + 3) L) {mem : zMem} {H : Heap} {locs : List Loc} {ls : Array Slot} (hI : I i mem) (Z : zH (zA1 G) G s mem H locs) (hl : lv_has ls 4 [(0, .ref b), (1, .ref (zr G 0)), (2, .ref (zr G 44)), (3, .int x3)]) (step : ∀ (mem : zMem) (H : Heap) (locs : List Loc), I (i + 4) mem → zH (zA1 G) G s mem H locs → W p l e room_1 s m #[Value.ref b] below meth c H locs 54 883 Q (F0 m 723 ls [])) : W p l e room_1 s m #[Value.ref b] below meth c H locs 54 883 Q (F0 m 667 ls []) := by
  obtain ⟨r, m1, r2, m2, hc1, hc2, hc3, hJ⟩ := hops.2.2.2.2.2.2.2.2.2.2.2.2.2.2.2.2.2.2.2.2.2.2.2.1 i mem (xs (x3 + 1).toNatClampNeg) (xs (x3 + 2).toNatClampNeg) hlt hI
  refine lv_aload_n C.1.1 C.1.2.1 dL_law_667 rfl (lv_at hl 1 rfl) ?_
  refine lv_aload_n C.1.1 C.1.2.1 dL_law_668 rfl (lv_at hl 0 rfl) ?_
  refine lv_iload_n C.1.1 C.1.2.1 dL_law_669 rfl (lv_at hl 3 rfl) ?_
  refine lv_iconst (v := (1 : Int32)) C.1.1 C.1.2.1 dL_law_670 (by decide) ?_
  refine lv_iadd C.1.1 C.1.2.1 dL_law_671 ?_
  refine va_sld C.1.1 C.1.2.1 hX hbl hbA Z.2 e1 dL_law_672 ?_
  refine lv_aload_n C.1.1 C.1.2.1 dL_law_673 rfl (lv_at hl 0 rfl) ?_
  refine lv_iload_n C.1.1 C.1.2.1 dL_law_674 rfl (lv_at hl 3 rfl) ?_
  refine lv_iconst (v := (2 : Int32)) C.1.1 C.1.2.1 dL_law_675 (by decide) ?_
  refine lv_iadd C.1.1 C.1.2.1 dL_law_676 ?_
  refine va_sld C.1.1 C.1.2.1 hX hbl hbA Z.2 e2 dL_law_677 ?_
  refine z_callVi (k := 0) (As := [.int (xs (x3 + 1).toNatClampNeg), .int (xs (x3 + 2).toNatClampNeg)]) (rest := []) C Z (M_X4_confessed l G C.2.1 N mem (xs (x3 + 1).toNatClampNeg) (xs (x3 + 2).toNatClampNeg) r m1 hc1) (zcw_L_109 C.1.2.2.2.2 ⟨Nat.le_of_ble_eq_true rfl, Nat.le_of_ble_eq_true rfl⟩) (by decide) rfl rfl rfl hl.1 rfl (Nat.le_of_ble_eq_true rfl) ⟨Nat.le_of_ble_eq_true rfl, Nat.le_of_ble_eq_true rfl⟩ dL_law_678 (fun H locs Z => ?_)
  refine lv_pop C.1.1 C.1.2.1 dL_law_681 rfl ?_
  refine lv_aload_n C.1.1 C.1.2.1 dL_law_682 rfl (lv_at hl 2 rfl) ?_
  refine lv_aload_n C.1.1 C.1.2.1 dL_law_683 rfl (lv_at hl 0 rfl) ?_
  refine lv_iload_n C.1.1 C.1.2.1 dL_law_684 rfl (lv_at hl 3 rfl) ?_
  refine lv_iconst (v := (1 : Int32)) C.1.1 C.1.2.1 dL_law_685 (by decide) ?_
  refine lv_iadd C.1.1 C.1.2.1 dL_law_686 ?_
  refine va_sld C.1.1 C.1.2.1 hX hbl hbA Z.2 e1 dL_law_687 ?_
  refine lv_aload_n C.1.1 C.1.2.1 dL_law_688 rfl (lv_at hl 0 rfl) ?_
  refine lv_iload_n C.1.1 C.1.2.1 dL_law_689 rfl (lv_at hl 3 rfl) ?_
  refine lv_iconst (v := (2 : Int32)) C.1.1 C.1.2.1 dL_law_690 (by decide) ?_
  refine lv_iadd C.1.1 C.1.2.1 dL_law_691 ?_
  refine va_sld C.1.1 C.1.2.1 hX hbl hbA Z.2 e2 dL_law_692 ?_
  refine z_callVi (k := 44) (As := [.int (xs (x3 + 1).toNatClampNeg), .int (xs (x3 + 2).toNatClampNeg)]) (rest := []) C Z (M_X5_confessed l G C.2.1 N m1 (xs (x3 + 1).toNatClampNeg) (xs (x3 + 2).toNatClampNeg) r2 m2 hc2) (zcw_L_112 C.1.2.2.2.2 ⟨Nat.le_of_ble_eq_true rfl, Nat.le_of_ble_eq_true rfl⟩) (by decide) rfl rfl rfl hl.1 rfl (Nat.le_of_ble_eq_true rfl) ⟨Nat.le_of_ble_eq_true rfl, Nat.le_of_ble_eq_true rfl⟩ dL_law_693 (fun H locs Z => ?_)
  refine lv_pop C.1.1 C.1.2.1 dL_law_696 rfl ?_
  refine lv_goto (tgt := 723) C.1.1 C.1.2.1 dL_law_697 (by decide) ?_
  exact step m2 _ _ hJ Z
set_option maxHeartbeats 4000000 in
set_option maxRecDepth 100000 in
theorem law_op24 {p : Program} {l : Launch} {e : Env} {s : State} {m : MethodId} {below : List Frame} {meth : Method} {c : Code} {G : zG} {b L : Nat} {xs : Nat → Int32} {Q : State → Prop} (C : zC (zA1 G) G p s m #[Value.ref b] c code 4 RL) (hX : va_X b L xs s s.heap) (hbl : b < s.heap.size) (hbA : ¬ zA1 G b) {N : Nat} {I : Nat → zMem → Prop} (hops : zOps N L I) {i : Nat} {x3 : Int32} (hlt : i + 4 ≤ L) (e1 : vp_in (x3 + 1) L) (e2 : vp_in (x3 + 2) L) (e3 : vp_in (x3 + 3) L) {mem : zMem} {H : Heap} {locs : List Loc} {ls : Array Slot} (hI : I i mem) (Z : zH (zA1 G) G s mem H locs) (hl : lv_has ls 4 [(0, .ref b), (1, .ref (zr G 0)), (2, .ref (zr G 44)), (3, .int x3)]) (step : ∀ (mem : zMem) (H : Heap) (locs : List Loc), I (i + 4) mem → zH (zA1 G) G s mem H locs → W p l e room_1 s m #[Value.ref b] below meth c H locs 54 883 Q (F0 m 723 ls [])) : W p l e room_1 s m #[Value.ref b] below meth c H locs 54 883 Q (F0 m 700 ls []) := by
  obtain ⟨r, m1, r2, m2, hc1, hc2, hc3, hJ⟩ := hops.2.2.2.2.2.2.2.2.2.2.2.2.2.2.2.2.2.2.2.2.2.2.2.2 i mem (xs (x3 + 1).toNatClampNeg) hlt hI
  refine lv_aload_n C.1.1 C.1.2.1 dL_law_700 rfl (lv_at hl 1 rfl) ?_
  refine lv_aload_n C.1.1 C.1.2.1 dL_law_701 rfl (lv_at hl 0 rfl) ?_
  refine lv_iload_n C.1.1 C.1.2.1 dL_law_702 rfl (lv_at hl 3 rfl) ?_
  refine lv_iconst (v := (1 : Int32)) C.1.1 C.1.2.1 dL_law_703 (by decide) ?_
  refine lv_iadd C.1.1 C.1.2.1 dL_law_704 ?_
  refine va_sld C.1.1 C.1.2.1 hX hbl hbA Z.2 e1 dL_law_705 ?_
  refine z_callVi (k := 0) (As := [.int (xs (x3 + 1).toNatClampNeg)]) (rest := []) C Z (M_X4_count l G C.2.1 N mem (xs (x3 + 1).toNatClampNeg) r m1 hc1) (zcw_L_113 C.1.2.2.2.2 ⟨Nat.le_of_ble_eq_true rfl, Nat.le_of_ble_eq_true rfl⟩) (by decide) rfl rfl rfl hl.1 rfl (Nat.le_of_ble_eq_true rfl) ⟨Nat.le_of_ble_eq_true rfl, Nat.le_of_ble_eq_true rfl⟩ dL_law_706 (fun H locs Z => ?_)
  refine lv_aload_n C.1.1 C.1.2.1 dL_law_709 rfl (lv_at hl 2 rfl) ?_
  refine lv_aload_n C.1.1 C.1.2.1 dL_law_710 rfl (lv_at hl 0 rfl) ?_
  refine lv_iload_n C.1.1 C.1.2.1 dL_law_711 rfl (lv_at hl 3 rfl) ?_
  refine lv_iconst (v := (1 : Int32)) C.1.1 C.1.2.1 dL_law_712 (by decide) ?_
  refine lv_iadd C.1.1 C.1.2.1 dL_law_713 ?_
  refine va_sld C.1.1 C.1.2.1 hX hbl hbA Z.2 e1 dL_law_714 ?_
  refine z_callVi (k := 44) (As := [.int (xs (x3 + 1).toNatClampNeg)]) (rest := [.int r]) C Z (M_X5_count l G C.2.1 N m1 (xs (x3 + 1).toNatClampNeg) r2 m2 hc2) (zcw_L_116 C.1.2.2.2.2 ⟨Nat.le_of_ble_eq_true rfl, Nat.le_of_ble_eq_true rfl⟩) (by decide) rfl rfl rfl hl.1 rfl (Nat.le_of_ble_eq_true rfl) ⟨Nat.le_of_ble_eq_true rfl, Nat.le_of_ble_eq_true rfl⟩ dL_law_715 (fun H locs Z => ?_)
  refine lv_icmp_eq (tgt := 723) C.1.1 C.1.2.1 dL_law_718 (by decide) (fun _ => step m2 _ _ hJ Z) (fun h => absurd hc3 h)
set_option maxHeartbeats 8000000 in
set_option maxRecDepth 100000 in
theorem law_loop {p : Program} {l : Launch} {e : Env} {s : State} {m : MethodId} {below : List Frame} {meth : Method} {c : Code} {G : zG} {b L : Nat} {xs : Nat → Int32} (hL : L ≤ 2048) (C : zC (zA1 G) G p s m #[Value.ref b] c code 4 RL) (hr : meth.sig.returnType = ret) (hlk : meth.locks = false) (hX : va_X b L xs s s.heap) (hbl : b < s.heap.size) (hbA : ¬ zA1 G b) (hA0 : ∀ q, zA1 G q → s.heap.size ≤ q) (N : Nat) (I : Nat → zMem → Prop) (hops : zOps N L I) (hskip : ∀ (i : Nat) (mem : zMem), i + 4 ≤ L → I i mem → I (i + 4) mem) :
    ∀ (n i : Nat) (x3 : Int32), i ≤ L → L < i + n → x3 = nI i → ∀ (mem : zMem) (H : Heap) (locs : List Loc) (ls : Array Slot), I i mem → zH (zA1 G) G s mem H locs → lv_has ls 4 [(0, .ref b), (1, .ref (zr G 0)), (2, .ref (zr G 44)), (3, .int x3)] → W p l e room_1 s m #[Value.ref b] below meth c H locs 54 883 (lw_Z below #[Value.ref b] s) (F0 m 18 ls []) := by
  intro n
  induction n with
  | zero =>
    intro i x3 h1 h2
    exact absurd h2 (by omega)
  | succ n ih =>
    intro i x3 hi hin ex3 mem H locs ls hI Z hl
    refine lv_iload_n C.1.1 C.1.2.1 dL_law_18 rfl (lv_at hl 3 rfl) ?_
    refine lv_aload_n C.1.1 C.1.2.1 dL_law_19 rfl (lv_at hl 0 rfl) ?_
    refine va_slen C.1.1 C.1.2.1 hX hbl hbA Z.2 dL_law_20 ?_
    refine lv_iconst (v := (4 : Int32)) C.1.1 C.1.2.1 dL_law_21 (by decide) ?_
    refine lv_isub C.1.1 C.1.2.1 dL_law_22 ?_
    refine lv_icmp_gt (tgt := 729) C.1.1 C.1.2.1 dL_law_23 (by decide) (fun hx => ?_) (fun hx => ?_)
    · refine lv_iconst (v := (1 : Int32)) C.1.1 C.1.2.1 dL_law_729 (by decide) ?_
      refine va_forget (fun q hq => hA0 _ (Z.2.2.2 q hq)) ?_
      refine W.widen (k := 600000) (n := 7302250) (Nat.le_of_ble_eq_true rfl) (Nat.le_of_ble_eq_true rfl) ?_
      exact lw_ret C.1.1 C.1.2.1 hr hlk dL_law_730
    · have hlt : i + 4 ≤ L := law_lt hi (by omega) (by rw [ex3] at hx; exact hx)
      have e0 : vp_in x3 L := by rw [ex3]; exact vp_in_nI (by omega) (by omega)
      have e1 : vp_in (x3 + 1) L := by rw [ex3, show (1 : Int32) = nI 1 from rfl, nI_add]; exact vp_in_nI (by omega) (by omega)
      have e2 : vp_in (x3 + 2) L := by rw [ex3, show (2 : Int32) = nI 2 from rfl, nI_add]; exact vp_in_nI (by omega) (by omega)
      have e3 : vp_in (x3 + 3) L := by rw [ex3, show (3 : Int32) = nI 3 from rfl, nI_add]; exact vp_in_nI (by omega) (by omega)
      refine lv_aload_n C.1.1 C.1.2.1 dL_law_26 rfl (lv_at hl 0 rfl) ?_
      refine lv_iload_n C.1.1 C.1.2.1 dL_law_27 rfl (lv_at hl 3 rfl) ?_
      refine va_sld C.1.1 C.1.2.1 hX hbl hbA Z.2 e0 dL_law_28 ?_
      refine lv_bipush (v := (31 : Int32)) C.1.1 C.1.2.1 dL_law_29 (by decide) ?_
      refine lv_iand C.1.1 C.1.2.1 dL_law_31 ?_
      generalize xs x3.toNatClampNeg &&& (31 : Int32) = sel
      have step : ∀ (mem : zMem) (H : Heap) (locs : List Loc), I (i + 4) mem → zH (zA1 G) G s mem H locs → W p l e room_1 s m #[Value.ref b] below meth c H locs 54 883 (lw_Z below #[Value.ref b] s) (F0 m 723 ls []) := by
        intro mem H locs hI Z
        refine lv_iinc (v := (x3 + 4)) (lv' := [(3, .int (x3 + 4)), (0, .ref b), (1, .ref (zr G 0)), (2, .ref (zr G 44))]) C.1.1 C.1.2.1 dL_law_723 hl (k := 3) rfl rfl (by decide) rfl (fun ls hl => ?_)
        refine lv_goto (tgt := 18) C.1.1 C.1.2.1 dL_law_726 (by decide) ?_
        exact ih (i + 4) (x3 + 4) hlt (by omega) (by rw [ex3, show (4 : Int32) = nI 4 from rfl, nI_add]) mem _ _ _ hI Z (lv_sub hl [1, 2, 3, 0] rfl)
      by_cases h0 : sel = 0
      · refine lv_tableIn (off := 116) (tgt := 148) C.1.1 C.1.2.1 dL_law_32 (by rw [h0]; decide) (by rw [h0]; decide) (by rw [h0]; rfl) (by decide) ?_
        exact law_op0 C hX hbl hbA hops hlt e1 e2 e3 hI Z hl step
      by_cases h1 : sel = 1
      · refine lv_tableIn (off := 139) (tgt := 171) C.1.1 C.1.2.1 dL_law_32 (by rw [h1]; decide) (by rw [h1]; decide) (by rw [h1]; rfl) (by decide) ?_
        exact law_op1 C hX hbl hbA hops hlt e1 e2 e3 hI Z hl step
      by_cases h2 : sel = 2
      · refine lv_tableIn (off := 152) (tgt := 184) C.1.1 C.1.2.1 dL_law_32 (by rw [h2]; decide) (by rw [h2]; decide) (by rw [h2]; rfl) (by decide) ?_
        exact law_op2 C hX hbl hbA hops hlt e1 e2 e3 hI Z hl step
      by_cases h3 : sel = 3
      · refine lv_tableIn (off := 165) (tgt := 197) C.1.1 C.1.2.1 dL_law_32 (by rw [h3]; decide) (by rw [h3]; decide) (by rw [h3]; rfl) (by decide) ?_
        exact law_op3 C hX hbl hbA hops hlt e1 e2 e3 hI Z hl step
      by_cases h4 : sel = 4
      · refine lv_tableIn (off := 178) (tgt := 210) C.1.1 C.1.2.1 dL_law_32 (by rw [h4]; decide) (by rw [h4]; decide) (by rw [h4]; rfl) (by decide) ?_
        exact law_op4 C hX hbl hbA hops hlt e1 e2 e3 hI Z hl step
      by_cases h5 : sel = 5
      · refine lv_tableIn (off := 211) (tgt := 243) C.1.1 C.1.2.1 dL_law_32 (by rw [h5]; decide) (by rw [h5]; decide) (by rw [h5]; rfl) (by decide) ?_
        exact law_op5 C hX hbl hbA hops hlt e1 e2 e3 hI Z hl step
      by_cases h6 : sel = 6
      · refine lv_tableIn (off := 234) (tgt := 266) C.1.1 C.1.2.1 dL_law_32 (by rw [h6]; decide) (by rw [h6]; decide) (by rw [h6]; rfl) (by decide) ?_
        exact law_op6 C hX hbl hbA hops hlt e1 e2 e3 hI Z hl step
      by_cases h7 : sel = 7
      · refine lv_tableIn (off := 267) (tgt := 299) C.1.1 C.1.2.1 dL_law_32 (by rw [h7]; decide) (by rw [h7]; decide) (by rw [h7]; rfl) (by decide) ?_
        exact law_op7 C hX hbl hbA hops hlt e1 e2 e3 hI Z hl step
      by_cases h8 : sel = 8
      · refine lv_tableIn (off := 290) (tgt := 322) C.1.1 C.1.2.1 dL_law_32 (by rw [h8]; decide) (by rw [h8]; decide) (by rw [h8]; rfl) (by decide) ?_
        exact law_op8 C hX hbl hbA hops hlt e1 e2 e3 hI Z hl step
      by_cases h9 : sel = 9
      · refine lv_tableIn (off := 323) (tgt := 355) C.1.1 C.1.2.1 dL_law_32 (by rw [h9]; decide) (by rw [h9]; decide) (by rw [h9]; rfl) (by decide) ?_
        exact law_op9 C hX hbl hbA hops hlt e1 e2 e3 hI Z hl step
      by_cases h10 : sel = 10
      · refine lv_tableIn (off := 346) (tgt := 378) C.1.1 C.1.2.1 dL_law_32 (by rw [h10]; decide) (by rw [h10]; decide) (by rw [h10]; rfl) (by decide) ?_
        exact law_op10 C hX hbl hbA hops hlt e1 e2 e3 hI Z hl step
      by_cases h11 : sel = 11
      · refine lv_tableIn (off := 369) (tgt := 401) C.1.1 C.1.2.1 dL_law_32 (by rw [h11]; decide) (by rw [h11]; decide) (by rw [h11]; rfl) (by decide) ?_
        exact law_op11 C hX hbl hbA hops hlt e1 e2 e3 hI Z hl step
      by_cases h12 : sel = 12
      · refine lv_tableIn (off := 382) (tgt := 414) C.1.1 C.1.2.1 dL_law_32 (by rw [h12]; decide) (by rw [h12]; decide) (by rw [h12]; rfl) (by decide) ?_
        exact law_op12 C hX hbl hbA hops hlt e1 e2 e3 hI Z hl step
      by_cases h13 : sel = 13
      · refine lv_tableIn (off := 395) (tgt := 427) C.1.1 C.1.2.1 dL_law_32 (by rw [h13]; decide) (by rw [h13]; decide) (by rw [h13]; rfl) (by decide) ?_
        exact law_op13 C hX hbl hbA hops hlt e1 e2 e3 hI Z hl step
      by_cases h14 : sel = 14
      · refine lv_tableIn (off := 418) (tgt := 450) C.1.1 C.1.2.1 dL_law_32 (by rw [h14]; decide) (by rw [h14]; decide) (by rw [h14]; rfl) (by decide) ?_
        exact law_op14 C hX hbl hbA hops hlt e1 e2 e3 hI Z hl step
      by_cases h15 : sel = 15
      · refine lv_tableIn (off := 441) (tgt := 473) C.1.1 C.1.2.1 dL_law_32 (by rw [h15]; decide) (by rw [h15]; decide) (by rw [h15]; rfl) (by decide) ?_
        exact law_op15 C hX hbl hbA hops hlt e1 e2 e3 hI Z hl step
      by_cases h16 : sel = 16
      · refine lv_tableIn (off := 454) (tgt := 486) C.1.1 C.1.2.1 dL_law_32 (by rw [h16]; decide) (by rw [h16]; decide) (by rw [h16]; rfl) (by decide) ?_
        exact law_op16 C hX hbl hbA hops hlt e1 e2 e3 hI Z hl step
      by_cases h17 : sel = 17
      · refine lv_tableIn (off := 477) (tgt := 509) C.1.1 C.1.2.1 dL_law_32 (by rw [h17]; decide) (by rw [h17]; decide) (by rw [h17]; rfl) (by decide) ?_
        exact law_op17 C hX hbl hbA hops hlt e1 e2 e3 hI Z hl step
      by_cases h18 : sel = 18
      · refine lv_tableIn (off := 500) (tgt := 532) C.1.1 C.1.2.1 dL_law_32 (by rw [h18]; decide) (by rw [h18]; decide) (by rw [h18]; rfl) (by decide) ?_
        exact law_op18 C hX hbl hbA hops hlt e1 e2 e3 hI Z hl step
      by_cases h19 : sel = 19
      · refine lv_tableIn (off := 543) (tgt := 575) C.1.1 C.1.2.1 dL_law_32 (by rw [h19]; decide) (by rw [h19]; decide) (by rw [h19]; rfl) (by decide) ?_
        exact law_op19 C hX hbl hbA hops hlt e1 e2 e3 hI Z hl step
      by_cases h20 : sel = 20
      · refine lv_tableIn (off := 586) (tgt := 618) C.1.1 C.1.2.1 dL_law_32 (by rw [h20]; decide) (by rw [h20]; decide) (by rw [h20]; rfl) (by decide) ?_
        exact law_op20 C hX hbl hbA hops hlt e1 e2 e3 hI Z hl step
      by_cases h21 : sel = 21
      · refine lv_tableIn (off := 599) (tgt := 631) C.1.1 C.1.2.1 dL_law_32 (by rw [h21]; decide) (by rw [h21]; decide) (by rw [h21]; rfl) (by decide) ?_
        exact law_op21 C hX hbl hbA hops hlt e1 e2 e3 hI Z hl step
      by_cases h22 : sel = 22
      · refine lv_tableIn (off := 622) (tgt := 654) C.1.1 C.1.2.1 dL_law_32 (by rw [h22]; decide) (by rw [h22]; decide) (by rw [h22]; rfl) (by decide) ?_
        exact law_op22 C hX hbl hbA hops hlt e1 e2 e3 hI Z hl step
      by_cases h23 : sel = 23
      · refine lv_tableIn (off := 635) (tgt := 667) C.1.1 C.1.2.1 dL_law_32 (by rw [h23]; decide) (by rw [h23]; decide) (by rw [h23]; rfl) (by decide) ?_
        exact law_op23 C hX hbl hbA hops hlt e1 e2 e3 hI Z hl step
      by_cases h24 : sel = 24
      · refine lv_tableIn (off := 668) (tgt := 700) C.1.1 C.1.2.1 dL_law_32 (by rw [h24]; decide) (by rw [h24]; decide) (by rw [h24]; rfl) (by decide) ?_
        exact law_op24 C hX hbl hbA hops hlt e1 e2 e3 hI Z hl step
      have eh0 := lv_neT h0 (a := 0) rfl
      have eh1 := lv_neT h1 (a := 1) rfl
      have eh2 := lv_neT h2 (a := 2) rfl
      have eh3 := lv_neT h3 (a := 3) rfl
      have eh4 := lv_neT h4 (a := 4) rfl
      have eh5 := lv_neT h5 (a := 5) rfl
      have eh6 := lv_neT h6 (a := 6) rfl
      have eh7 := lv_neT h7 (a := 7) rfl
      have eh8 := lv_neT h8 (a := 8) rfl
      have eh9 := lv_neT h9 (a := 9) rfl
      have eh10 := lv_neT h10 (a := 10) rfl
      have eh11 := lv_neT h11 (a := 11) rfl
      have eh12 := lv_neT h12 (a := 12) rfl
      have eh13 := lv_neT h13 (a := 13) rfl
      have eh14 := lv_neT h14 (a := 14) rfl
      have eh15 := lv_neT h15 (a := 15) rfl
      have eh16 := lv_neT h16 (a := 16) rfl
      have eh17 := lv_neT h17 (a := 17) rfl
      have eh18 := lv_neT h18 (a := 18) rfl
      have eh19 := lv_neT h19 (a := 19) rfl
      have eh20 := lv_neT h20 (a := 20) rfl
      have eh21 := lv_neT h21 (a := 21) rfl
      have eh22 := lv_neT h22 (a := 22) rfl
      have eh23 := lv_neT h23 (a := 23) rfl
      have eh24 := lv_neT h24 (a := 24) rfl
      refine lv_tableOut (tgt := 723) C.1.1 C.1.2.1 dL_law_32 (by omega) (by decide) ?_
      exact step mem _ _ (hskip i mem hlt hI) Z
