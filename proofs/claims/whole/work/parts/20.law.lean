/-! THE CLAIM OUT OF ONE WALK OF THE LAW'S BODY. Your part is whole_start (and what it stands on); all else here is the same for every law, but numbers. -/
def R_law : String := "FrameRaiserLaw"
def lw_P (b : Addr) (xs : List Int32) (args : Array Value) (s : State) : Prop := args = #[.ref b] ∧ s.IntsAt b xs ∧ xs.length ≤ 4096 ∧ (Jvm.Cond.and given_1 narrow_1).before args s = true
def lw_Q (_ : Array Value) (s : State) (o : Outcome) (t : State) : Prop := o = .returned (some (.int 1)) ∧ Framed s o t [] 600000 7302250
def lw_Z (below : List Frame) (a : Array Value) (s : State) : State → Prop := fun t => ∃ o, t.status = .running ∧ Ended t below o ∧ lw_Q a s o t
/-- the law's own end, with 1 on the stack, nothing written that was there before, its room as the claim has it -/
theorem lw_ret {p : Program} {l : Launch} {e : Env} {s : State} {m : MethodId} {below : List Frame} {meth : Method} {c : Code} {b : Nat} (hx : p.tables.exec = Jvm.exec) (hb : c.code = code) (hr : meth.sig.returnType = ret) (hlocks : meth.locks = false) {pc : Nat} {H : Heap} {ls : Array Slot} (hdg : decode code pc = .ok (.ireturn, 1)) : W p l e room_1 s m #[Value.ref b] below meth c H [] 600000 7302250 (lw_Z below #[Value.ref b] s) (F0 m pc ls [.int 1]) := by
  intro T hT X
  obtain ⟨fs, hret, hrun, hended, hW, hframe⟩ := X.leave (v := some (.int 1)) (hlocks := hlocks) (fun h => by rw [hr] at h; cases h)
  have hmeth' : T.vm.method? m = some meth := X.method'
  refine ⟨T.setFrames fs, ?_, .returned (some (.int 1)), hrun, hended, rfl, ⟨_, rfl⟩, hW, hframe⟩
  jvm_step X.here [X.here.top, hx, hb, hdg, hmeth', hr, ret, narrow_b1]
  (try refine ⟨rfl, ?_⟩); (try refine ⟨rfl, ?_⟩)
  first | (intro acts; rw [hret _ acts rfl rfl rfl]) | rw [hret _ _ rfl rfl rfl]
  exact Steps.refl _
/-- what holds at the law's entry: the machine, the code, the tables' words (any of lw_tbl by 'hts w (by decide +kernel)'), the script of L ints xs at the cell b, what the Statement gives of the start (any of its parts by flat_of_before) -/
def lw_At (p : Program) (s : State) (m : MethodId) (meth : Method) (c : Code) (b L : Nat) (xs : Nat → Int32) : Prop :=
  p.tables.exec = Jvm.exec ∧ c.code = code ∧ meth.sig.returnType = ret ∧ c.maxLocals = 4 ∧ s.vm.findClass R_law = some m.cls ∧ (∀ w ∈ lw_tbl, w.before #[Value.ref b] s = true) ∧ va_X b L xs s s.heap ∧ b < s.heap.size ∧ meth.locks = false ∧ (Jvm.Cond.and given_1 narrow_1).before #[Value.ref b] s = true

theorem dL_law_0 : decode cL_law 0 = .ok (.new 7, 3) := by decide +kernel
theorem dL_law_3 : decode cL_law 3 = .ok (.dup, 1) := by decide +kernel
theorem dL_law_4 : decode cL_law 4 = .ok (.invokespecial 9, 3) := by decide +kernel
theorem dL_law_7 : decode cL_law 7 = .ok (.astore_n 1, 1) := by decide +kernel
theorem dL_law_8 : decode cL_law 8 = .ok (.new 10, 3) := by decide +kernel
theorem dL_law_11 : decode cL_law 11 = .ok (.dup, 1) := by decide +kernel
theorem dL_law_12 : decode cL_law 12 = .ok (.invokespecial 12, 3) := by decide +kernel
theorem dL_law_15 : decode cL_law 15 = .ok (.astore_n 2, 1) := by decide +kernel
theorem dL_law_16 : decode cL_law 16 = .ok (.iconst 0, 1) := by decide +kernel
theorem dL_law_17 : decode cL_law 17 = .ok (.istore_n 3, 1) := by decide +kernel
theorem dL_law_18 : decode cL_law 18 = .ok (.iload_n 3, 1) := by decide +kernel
theorem dL_law_19 : decode cL_law 19 = .ok (.aload_n 0, 1) := by decide +kernel
theorem dL_law_20 : decode cL_law 20 = .ok (.arraylength, 1) := by decide +kernel
theorem dL_law_21 : decode cL_law 21 = .ok (.bipush 8, 2) := by decide +kernel
theorem dL_law_23 : decode cL_law 23 = .ok (.isub, 1) := by decide +kernel
theorem dL_law_24 : decode cL_law 24 = .ok (.if_icmp .gt 1022, 3) := by decide +kernel
theorem dL_law_27 : decode cL_law 27 = .ok (.aload_n 0, 1) := by decide +kernel
theorem dL_law_28 : decode cL_law 28 = .ok (.iload_n 3, 1) := by decide +kernel
theorem dL_law_29 : decode cL_law 29 = .ok (.iaload, 1) := by decide +kernel
theorem dL_law_30 : decode cL_law 30 = .ok (.bipush 31, 2) := by decide +kernel
theorem dL_law_32 : decode cL_law 32 = .ok (.iand, 1) := by decide +kernel
theorem dL_law_33 : decode cL_law 33 = .ok (.tableswitch 1007 0 28 #[131, 154, 167, 180, 193, 206, 281, 368, 391, 424, 467, 500, 533, 566, 599, 622, 645, 668, 691, 714, 773, 796, 845, 878, 911, 924, 957, 970, 993], 131) := by decide +kernel
theorem dL_law_164 : decode cL_law 164 = .ok (.aload_n 1, 1) := by decide +kernel
theorem dL_law_165 : decode cL_law 165 = .ok (.aload_n 0, 1) := by decide +kernel
theorem dL_law_166 : decode cL_law 166 = .ok (.iload_n 3, 1) := by decide +kernel
theorem dL_law_167 : decode cL_law 167 = .ok (.iconst 1, 1) := by decide +kernel
theorem dL_law_168 : decode cL_law 168 = .ok (.iadd, 1) := by decide +kernel
theorem dL_law_169 : decode cL_law 169 = .ok (.iaload, 1) := by decide +kernel
theorem dL_law_170 : decode cL_law 170 = .ok (.invokevirtual 13, 3) := by decide +kernel
theorem dL_law_173 : decode cL_law 173 = .ok (.aload_n 2, 1) := by decide +kernel
theorem dL_law_174 : decode cL_law 174 = .ok (.aload_n 0, 1) := by decide +kernel
theorem dL_law_175 : decode cL_law 175 = .ok (.iload_n 3, 1) := by decide +kernel
theorem dL_law_176 : decode cL_law 176 = .ok (.iconst 1, 1) := by decide +kernel
theorem dL_law_177 : decode cL_law 177 = .ok (.iadd, 1) := by decide +kernel
theorem dL_law_178 : decode cL_law 178 = .ok (.iaload, 1) := by decide +kernel
theorem dL_law_179 : decode cL_law 179 = .ok (.invokevirtual 17, 3) := by decide +kernel
theorem dL_law_182 : decode cL_law 182 = .ok (.if_icmp .eq 858, 3) := by decide +kernel
theorem dL_law_185 : decode cL_law 185 = .ok (.iconst 0, 1) := by decide +kernel
theorem dL_law_186 : decode cL_law 186 = .ok (.ireturn, 1) := by decide +kernel
theorem dL_law_187 : decode cL_law 187 = .ok (.aload_n 1, 1) := by decide +kernel
theorem dL_law_188 : decode cL_law 188 = .ok (.invokevirtual 18, 3) := by decide +kernel
theorem dL_law_191 : decode cL_law 191 = .ok (.aload_n 2, 1) := by decide +kernel
theorem dL_law_192 : decode cL_law 192 = .ok (.invokevirtual 22, 3) := by decide +kernel
theorem dL_law_195 : decode cL_law 195 = .ok (.if_icmp .eq 845, 3) := by decide +kernel
theorem dL_law_198 : decode cL_law 198 = .ok (.iconst 0, 1) := by decide +kernel
theorem dL_law_199 : decode cL_law 199 = .ok (.ireturn, 1) := by decide +kernel
theorem dL_law_200 : decode cL_law 200 = .ok (.aload_n 1, 1) := by decide +kernel
theorem dL_law_201 : decode cL_law 201 = .ok (.invokevirtual 23, 3) := by decide +kernel
theorem dL_law_204 : decode cL_law 204 = .ok (.aload_n 2, 1) := by decide +kernel
theorem dL_law_205 : decode cL_law 205 = .ok (.invokevirtual 26, 3) := by decide +kernel
theorem dL_law_208 : decode cL_law 208 = .ok (.if_icmp .eq 832, 3) := by decide +kernel
theorem dL_law_211 : decode cL_law 211 = .ok (.iconst 0, 1) := by decide +kernel
theorem dL_law_212 : decode cL_law 212 = .ok (.ireturn, 1) := by decide +kernel
theorem dL_law_213 : decode cL_law 213 = .ok (.aload_n 1, 1) := by decide +kernel
theorem dL_law_214 : decode cL_law 214 = .ok (.invokevirtual 27, 3) := by decide +kernel
theorem dL_law_217 : decode cL_law 217 = .ok (.aload_n 2, 1) := by decide +kernel
theorem dL_law_218 : decode cL_law 218 = .ok (.invokevirtual 30, 3) := by decide +kernel
theorem dL_law_221 : decode cL_law 221 = .ok (.if_icmp .eq 819, 3) := by decide +kernel
theorem dL_law_224 : decode cL_law 224 = .ok (.iconst 0, 1) := by decide +kernel
theorem dL_law_225 : decode cL_law 225 = .ok (.ireturn, 1) := by decide +kernel
theorem dL_law_226 : decode cL_law 226 = .ok (.aload_n 1, 1) := by decide +kernel
theorem dL_law_227 : decode cL_law 227 = .ok (.invokevirtual 31, 3) := by decide +kernel
theorem dL_law_230 : decode cL_law 230 = .ok (.aload_n 2, 1) := by decide +kernel
theorem dL_law_231 : decode cL_law 231 = .ok (.invokevirtual 34, 3) := by decide +kernel
theorem dL_law_234 : decode cL_law 234 = .ok (.if_icmp .eq 806, 3) := by decide +kernel
theorem dL_law_237 : decode cL_law 237 = .ok (.iconst 0, 1) := by decide +kernel
theorem dL_law_238 : decode cL_law 238 = .ok (.ireturn, 1) := by decide +kernel
theorem dL_law_239 : decode cL_law 239 = .ok (.aload_n 1, 1) := by decide +kernel
theorem dL_law_240 : decode cL_law 240 = .ok (.aload_n 0, 1) := by decide +kernel
theorem dL_law_241 : decode cL_law 241 = .ok (.iload_n 3, 1) := by decide +kernel
theorem dL_law_242 : decode cL_law 242 = .ok (.iconst 1, 1) := by decide +kernel
theorem dL_law_243 : decode cL_law 243 = .ok (.iadd, 1) := by decide +kernel
theorem dL_law_244 : decode cL_law 244 = .ok (.iaload, 1) := by decide +kernel
theorem dL_law_245 : decode cL_law 245 = .ok (.aload_n 0, 1) := by decide +kernel
theorem dL_law_246 : decode cL_law 246 = .ok (.iload_n 3, 1) := by decide +kernel
theorem dL_law_247 : decode cL_law 247 = .ok (.iconst 2, 1) := by decide +kernel
theorem dL_law_248 : decode cL_law 248 = .ok (.iadd, 1) := by decide +kernel
theorem dL_law_249 : decode cL_law 249 = .ok (.iaload, 1) := by decide +kernel
theorem dL_law_250 : decode cL_law 250 = .ok (.aload_n 0, 1) := by decide +kernel
theorem dL_law_251 : decode cL_law 251 = .ok (.iload_n 3, 1) := by decide +kernel
theorem dL_law_252 : decode cL_law 252 = .ok (.iconst 3, 1) := by decide +kernel
theorem dL_law_253 : decode cL_law 253 = .ok (.iadd, 1) := by decide +kernel
theorem dL_law_254 : decode cL_law 254 = .ok (.iaload, 1) := by decide +kernel
theorem dL_law_255 : decode cL_law 255 = .ok (.aload_n 0, 1) := by decide +kernel
theorem dL_law_256 : decode cL_law 256 = .ok (.iload_n 3, 1) := by decide +kernel
theorem dL_law_257 : decode cL_law 257 = .ok (.iconst 4, 1) := by decide +kernel
theorem dL_law_258 : decode cL_law 258 = .ok (.iadd, 1) := by decide +kernel
theorem dL_law_259 : decode cL_law 259 = .ok (.iaload, 1) := by decide +kernel
theorem dL_law_260 : decode cL_law 260 = .ok (.aload_n 0, 1) := by decide +kernel
theorem dL_law_261 : decode cL_law 261 = .ok (.iload_n 3, 1) := by decide +kernel
theorem dL_law_262 : decode cL_law 262 = .ok (.iconst 5, 1) := by decide +kernel
theorem dL_law_263 : decode cL_law 263 = .ok (.iadd, 1) := by decide +kernel
theorem dL_law_264 : decode cL_law 264 = .ok (.iaload, 1) := by decide +kernel
theorem dL_law_265 : decode cL_law 265 = .ok (.aload_n 0, 1) := by decide +kernel
theorem dL_law_266 : decode cL_law 266 = .ok (.iload_n 3, 1) := by decide +kernel
theorem dL_law_267 : decode cL_law 267 = .ok (.bipush 6, 2) := by decide +kernel
theorem dL_law_269 : decode cL_law 269 = .ok (.iadd, 1) := by decide +kernel
theorem dL_law_270 : decode cL_law 270 = .ok (.iaload, 1) := by decide +kernel
theorem dL_law_271 : decode cL_law 271 = .ok (.invokevirtual 35, 3) := by decide +kernel
theorem dL_law_274 : decode cL_law 274 = .ok (.aload_n 2, 1) := by decide +kernel
theorem dL_law_275 : decode cL_law 275 = .ok (.aload_n 0, 1) := by decide +kernel
theorem dL_law_276 : decode cL_law 276 = .ok (.iload_n 3, 1) := by decide +kernel
theorem dL_law_277 : decode cL_law 277 = .ok (.iconst 1, 1) := by decide +kernel
theorem dL_law_278 : decode cL_law 278 = .ok (.iadd, 1) := by decide +kernel
theorem dL_law_279 : decode cL_law 279 = .ok (.iaload, 1) := by decide +kernel
theorem dL_law_280 : decode cL_law 280 = .ok (.aload_n 0, 1) := by decide +kernel
theorem dL_law_281 : decode cL_law 281 = .ok (.iload_n 3, 1) := by decide +kernel
theorem dL_law_282 : decode cL_law 282 = .ok (.iconst 2, 1) := by decide +kernel
theorem dL_law_283 : decode cL_law 283 = .ok (.iadd, 1) := by decide +kernel
theorem dL_law_284 : decode cL_law 284 = .ok (.iaload, 1) := by decide +kernel
theorem dL_law_285 : decode cL_law 285 = .ok (.aload_n 0, 1) := by decide +kernel
theorem dL_law_286 : decode cL_law 286 = .ok (.iload_n 3, 1) := by decide +kernel
theorem dL_law_287 : decode cL_law 287 = .ok (.iconst 3, 1) := by decide +kernel
theorem dL_law_288 : decode cL_law 288 = .ok (.iadd, 1) := by decide +kernel
theorem dL_law_289 : decode cL_law 289 = .ok (.iaload, 1) := by decide +kernel
theorem dL_law_290 : decode cL_law 290 = .ok (.aload_n 0, 1) := by decide +kernel
theorem dL_law_291 : decode cL_law 291 = .ok (.iload_n 3, 1) := by decide +kernel
theorem dL_law_292 : decode cL_law 292 = .ok (.iconst 4, 1) := by decide +kernel
theorem dL_law_293 : decode cL_law 293 = .ok (.iadd, 1) := by decide +kernel
theorem dL_law_294 : decode cL_law 294 = .ok (.iaload, 1) := by decide +kernel
theorem dL_law_295 : decode cL_law 295 = .ok (.aload_n 0, 1) := by decide +kernel
theorem dL_law_296 : decode cL_law 296 = .ok (.iload_n 3, 1) := by decide +kernel
theorem dL_law_297 : decode cL_law 297 = .ok (.iconst 5, 1) := by decide +kernel
theorem dL_law_298 : decode cL_law 298 = .ok (.iadd, 1) := by decide +kernel
theorem dL_law_299 : decode cL_law 299 = .ok (.iaload, 1) := by decide +kernel
theorem dL_law_300 : decode cL_law 300 = .ok (.aload_n 0, 1) := by decide +kernel
theorem dL_law_301 : decode cL_law 301 = .ok (.iload_n 3, 1) := by decide +kernel
theorem dL_law_302 : decode cL_law 302 = .ok (.bipush 6, 2) := by decide +kernel
theorem dL_law_304 : decode cL_law 304 = .ok (.iadd, 1) := by decide +kernel
theorem dL_law_305 : decode cL_law 305 = .ok (.iaload, 1) := by decide +kernel
theorem dL_law_306 : decode cL_law 306 = .ok (.invokevirtual 39, 3) := by decide +kernel
theorem dL_law_309 : decode cL_law 309 = .ok (.if_icmp .eq 731, 3) := by decide +kernel
theorem dL_law_312 : decode cL_law 312 = .ok (.iconst 0, 1) := by decide +kernel
theorem dL_law_313 : decode cL_law 313 = .ok (.ireturn, 1) := by decide +kernel
theorem dL_law_314 : decode cL_law 314 = .ok (.aload_n 1, 1) := by decide +kernel
theorem dL_law_315 : decode cL_law 315 = .ok (.aload_n 0, 1) := by decide +kernel
theorem dL_law_316 : decode cL_law 316 = .ok (.iload_n 3, 1) := by decide +kernel
theorem dL_law_317 : decode cL_law 317 = .ok (.iconst 1, 1) := by decide +kernel
theorem dL_law_318 : decode cL_law 318 = .ok (.iadd, 1) := by decide +kernel
theorem dL_law_319 : decode cL_law 319 = .ok (.iaload, 1) := by decide +kernel
theorem dL_law_320 : decode cL_law 320 = .ok (.aload_n 0, 1) := by decide +kernel
theorem dL_law_321 : decode cL_law 321 = .ok (.iload_n 3, 1) := by decide +kernel
theorem dL_law_322 : decode cL_law 322 = .ok (.iconst 2, 1) := by decide +kernel
theorem dL_law_323 : decode cL_law 323 = .ok (.iadd, 1) := by decide +kernel
theorem dL_law_324 : decode cL_law 324 = .ok (.iaload, 1) := by decide +kernel
theorem dL_law_325 : decode cL_law 325 = .ok (.aload_n 0, 1) := by decide +kernel
theorem dL_law_326 : decode cL_law 326 = .ok (.iload_n 3, 1) := by decide +kernel
theorem dL_law_327 : decode cL_law 327 = .ok (.iconst 3, 1) := by decide +kernel
theorem dL_law_328 : decode cL_law 328 = .ok (.iadd, 1) := by decide +kernel
theorem dL_law_329 : decode cL_law 329 = .ok (.iaload, 1) := by decide +kernel
theorem dL_law_330 : decode cL_law 330 = .ok (.aload_n 0, 1) := by decide +kernel
theorem dL_law_331 : decode cL_law 331 = .ok (.iload_n 3, 1) := by decide +kernel
theorem dL_law_332 : decode cL_law 332 = .ok (.iconst 4, 1) := by decide +kernel
theorem dL_law_333 : decode cL_law 333 = .ok (.iadd, 1) := by decide +kernel
theorem dL_law_334 : decode cL_law 334 = .ok (.iaload, 1) := by decide +kernel
theorem dL_law_335 : decode cL_law 335 = .ok (.aload_n 0, 1) := by decide +kernel
theorem dL_law_336 : decode cL_law 336 = .ok (.iload_n 3, 1) := by decide +kernel
theorem dL_law_337 : decode cL_law 337 = .ok (.iconst 5, 1) := by decide +kernel
theorem dL_law_338 : decode cL_law 338 = .ok (.iadd, 1) := by decide +kernel
theorem dL_law_339 : decode cL_law 339 = .ok (.iaload, 1) := by decide +kernel
theorem dL_law_340 : decode cL_law 340 = .ok (.aload_n 0, 1) := by decide +kernel
theorem dL_law_341 : decode cL_law 341 = .ok (.iload_n 3, 1) := by decide +kernel
theorem dL_law_342 : decode cL_law 342 = .ok (.bipush 6, 2) := by decide +kernel
theorem dL_law_344 : decode cL_law 344 = .ok (.iadd, 1) := by decide +kernel
theorem dL_law_345 : decode cL_law 345 = .ok (.iaload, 1) := by decide +kernel
theorem dL_law_346 : decode cL_law 346 = .ok (.aload_n 0, 1) := by decide +kernel
theorem dL_law_347 : decode cL_law 347 = .ok (.iload_n 3, 1) := by decide +kernel
theorem dL_law_348 : decode cL_law 348 = .ok (.bipush 7, 2) := by decide +kernel
theorem dL_law_350 : decode cL_law 350 = .ok (.iadd, 1) := by decide +kernel
theorem dL_law_351 : decode cL_law 351 = .ok (.iaload, 1) := by decide +kernel
theorem dL_law_352 : decode cL_law 352 = .ok (.invokevirtual 40, 3) := by decide +kernel
theorem dL_law_355 : decode cL_law 355 = .ok (.aload_n 2, 1) := by decide +kernel
theorem dL_law_356 : decode cL_law 356 = .ok (.aload_n 0, 1) := by decide +kernel
theorem dL_law_357 : decode cL_law 357 = .ok (.iload_n 3, 1) := by decide +kernel
theorem dL_law_358 : decode cL_law 358 = .ok (.iconst 1, 1) := by decide +kernel
theorem dL_law_359 : decode cL_law 359 = .ok (.iadd, 1) := by decide +kernel
theorem dL_law_360 : decode cL_law 360 = .ok (.iaload, 1) := by decide +kernel
theorem dL_law_361 : decode cL_law 361 = .ok (.aload_n 0, 1) := by decide +kernel
theorem dL_law_362 : decode cL_law 362 = .ok (.iload_n 3, 1) := by decide +kernel
theorem dL_law_363 : decode cL_law 363 = .ok (.iconst 2, 1) := by decide +kernel
theorem dL_law_364 : decode cL_law 364 = .ok (.iadd, 1) := by decide +kernel
theorem dL_law_365 : decode cL_law 365 = .ok (.iaload, 1) := by decide +kernel
theorem dL_law_366 : decode cL_law 366 = .ok (.aload_n 0, 1) := by decide +kernel
theorem dL_law_367 : decode cL_law 367 = .ok (.iload_n 3, 1) := by decide +kernel
theorem dL_law_368 : decode cL_law 368 = .ok (.iconst 3, 1) := by decide +kernel
theorem dL_law_369 : decode cL_law 369 = .ok (.iadd, 1) := by decide +kernel
theorem dL_law_370 : decode cL_law 370 = .ok (.iaload, 1) := by decide +kernel
theorem dL_law_371 : decode cL_law 371 = .ok (.aload_n 0, 1) := by decide +kernel
theorem dL_law_372 : decode cL_law 372 = .ok (.iload_n 3, 1) := by decide +kernel
theorem dL_law_373 : decode cL_law 373 = .ok (.iconst 4, 1) := by decide +kernel
theorem dL_law_374 : decode cL_law 374 = .ok (.iadd, 1) := by decide +kernel
theorem dL_law_375 : decode cL_law 375 = .ok (.iaload, 1) := by decide +kernel
theorem dL_law_376 : decode cL_law 376 = .ok (.aload_n 0, 1) := by decide +kernel
theorem dL_law_377 : decode cL_law 377 = .ok (.iload_n 3, 1) := by decide +kernel
theorem dL_law_378 : decode cL_law 378 = .ok (.iconst 5, 1) := by decide +kernel
theorem dL_law_379 : decode cL_law 379 = .ok (.iadd, 1) := by decide +kernel
theorem dL_law_380 : decode cL_law 380 = .ok (.iaload, 1) := by decide +kernel
theorem dL_law_381 : decode cL_law 381 = .ok (.aload_n 0, 1) := by decide +kernel
theorem dL_law_382 : decode cL_law 382 = .ok (.iload_n 3, 1) := by decide +kernel
theorem dL_law_383 : decode cL_law 383 = .ok (.bipush 6, 2) := by decide +kernel
theorem dL_law_385 : decode cL_law 385 = .ok (.iadd, 1) := by decide +kernel
theorem dL_law_386 : decode cL_law 386 = .ok (.iaload, 1) := by decide +kernel
theorem dL_law_387 : decode cL_law 387 = .ok (.aload_n 0, 1) := by decide +kernel
theorem dL_law_388 : decode cL_law 388 = .ok (.iload_n 3, 1) := by decide +kernel
theorem dL_law_389 : decode cL_law 389 = .ok (.bipush 7, 2) := by decide +kernel
theorem dL_law_391 : decode cL_law 391 = .ok (.iadd, 1) := by decide +kernel
theorem dL_law_392 : decode cL_law 392 = .ok (.iaload, 1) := by decide +kernel
theorem dL_law_393 : decode cL_law 393 = .ok (.invokevirtual 44, 3) := by decide +kernel
theorem dL_law_396 : decode cL_law 396 = .ok (.if_icmp .eq 644, 3) := by decide +kernel
theorem dL_law_399 : decode cL_law 399 = .ok (.iconst 0, 1) := by decide +kernel
theorem dL_law_400 : decode cL_law 400 = .ok (.ireturn, 1) := by decide +kernel
theorem dL_law_401 : decode cL_law 401 = .ok (.aload_n 1, 1) := by decide +kernel
theorem dL_law_402 : decode cL_law 402 = .ok (.aload_n 0, 1) := by decide +kernel
theorem dL_law_403 : decode cL_law 403 = .ok (.iload_n 3, 1) := by decide +kernel
theorem dL_law_404 : decode cL_law 404 = .ok (.iconst 1, 1) := by decide +kernel
theorem dL_law_405 : decode cL_law 405 = .ok (.iadd, 1) := by decide +kernel
theorem dL_law_406 : decode cL_law 406 = .ok (.iaload, 1) := by decide +kernel
theorem dL_law_407 : decode cL_law 407 = .ok (.invokevirtual 45, 3) := by decide +kernel
theorem dL_law_410 : decode cL_law 410 = .ok (.aload_n 2, 1) := by decide +kernel
theorem dL_law_411 : decode cL_law 411 = .ok (.aload_n 0, 1) := by decide +kernel
theorem dL_law_412 : decode cL_law 412 = .ok (.iload_n 3, 1) := by decide +kernel
theorem dL_law_413 : decode cL_law 413 = .ok (.iconst 1, 1) := by decide +kernel
theorem dL_law_414 : decode cL_law 414 = .ok (.iadd, 1) := by decide +kernel
theorem dL_law_415 : decode cL_law 415 = .ok (.iaload, 1) := by decide +kernel
theorem dL_law_416 : decode cL_law 416 = .ok (.invokevirtual 48, 3) := by decide +kernel
theorem dL_law_419 : decode cL_law 419 = .ok (.if_icmp .eq 621, 3) := by decide +kernel
theorem dL_law_422 : decode cL_law 422 = .ok (.iconst 0, 1) := by decide +kernel
theorem dL_law_423 : decode cL_law 423 = .ok (.ireturn, 1) := by decide +kernel
theorem dL_law_424 : decode cL_law 424 = .ok (.aload_n 1, 1) := by decide +kernel
theorem dL_law_425 : decode cL_law 425 = .ok (.aload_n 0, 1) := by decide +kernel
theorem dL_law_426 : decode cL_law 426 = .ok (.iload_n 3, 1) := by decide +kernel
theorem dL_law_427 : decode cL_law 427 = .ok (.iconst 1, 1) := by decide +kernel
theorem dL_law_428 : decode cL_law 428 = .ok (.iadd, 1) := by decide +kernel
theorem dL_law_429 : decode cL_law 429 = .ok (.iaload, 1) := by decide +kernel
theorem dL_law_430 : decode cL_law 430 = .ok (.aload_n 0, 1) := by decide +kernel
theorem dL_law_431 : decode cL_law 431 = .ok (.iload_n 3, 1) := by decide +kernel
theorem dL_law_432 : decode cL_law 432 = .ok (.iconst 2, 1) := by decide +kernel
theorem dL_law_433 : decode cL_law 433 = .ok (.iadd, 1) := by decide +kernel
theorem dL_law_434 : decode cL_law 434 = .ok (.iaload, 1) := by decide +kernel
theorem dL_law_435 : decode cL_law 435 = .ok (.invokevirtual 49, 3) := by decide +kernel
theorem dL_law_438 : decode cL_law 438 = .ok (.aload_n 2, 1) := by decide +kernel
theorem dL_law_439 : decode cL_law 439 = .ok (.aload_n 0, 1) := by decide +kernel
theorem dL_law_440 : decode cL_law 440 = .ok (.iload_n 3, 1) := by decide +kernel
theorem dL_law_441 : decode cL_law 441 = .ok (.iconst 1, 1) := by decide +kernel
theorem dL_law_442 : decode cL_law 442 = .ok (.iadd, 1) := by decide +kernel
theorem dL_law_443 : decode cL_law 443 = .ok (.iaload, 1) := by decide +kernel
theorem dL_law_444 : decode cL_law 444 = .ok (.aload_n 0, 1) := by decide +kernel
theorem dL_law_445 : decode cL_law 445 = .ok (.iload_n 3, 1) := by decide +kernel
theorem dL_law_446 : decode cL_law 446 = .ok (.iconst 2, 1) := by decide +kernel
theorem dL_law_447 : decode cL_law 447 = .ok (.iadd, 1) := by decide +kernel
theorem dL_law_448 : decode cL_law 448 = .ok (.iaload, 1) := by decide +kernel
theorem dL_law_449 : decode cL_law 449 = .ok (.invokevirtual 53, 3) := by decide +kernel
theorem dL_law_452 : decode cL_law 452 = .ok (.if_icmp .eq 588, 3) := by decide +kernel
theorem dL_law_455 : decode cL_law 455 = .ok (.iconst 0, 1) := by decide +kernel
theorem dL_law_456 : decode cL_law 456 = .ok (.ireturn, 1) := by decide +kernel
theorem dL_law_457 : decode cL_law 457 = .ok (.aload_n 1, 1) := by decide +kernel
theorem dL_law_458 : decode cL_law 458 = .ok (.aload_n 0, 1) := by decide +kernel
theorem dL_law_459 : decode cL_law 459 = .ok (.iload_n 3, 1) := by decide +kernel
theorem dL_law_460 : decode cL_law 460 = .ok (.iconst 1, 1) := by decide +kernel
theorem dL_law_461 : decode cL_law 461 = .ok (.iadd, 1) := by decide +kernel
theorem dL_law_462 : decode cL_law 462 = .ok (.iaload, 1) := by decide +kernel
theorem dL_law_463 : decode cL_law 463 = .ok (.aload_n 0, 1) := by decide +kernel
theorem dL_law_464 : decode cL_law 464 = .ok (.iload_n 3, 1) := by decide +kernel
theorem dL_law_465 : decode cL_law 465 = .ok (.iconst 2, 1) := by decide +kernel
theorem dL_law_466 : decode cL_law 466 = .ok (.iadd, 1) := by decide +kernel
theorem dL_law_467 : decode cL_law 467 = .ok (.iaload, 1) := by decide +kernel
theorem dL_law_468 : decode cL_law 468 = .ok (.aload_n 0, 1) := by decide +kernel
theorem dL_law_469 : decode cL_law 469 = .ok (.iload_n 3, 1) := by decide +kernel
theorem dL_law_470 : decode cL_law 470 = .ok (.iconst 3, 1) := by decide +kernel
theorem dL_law_471 : decode cL_law 471 = .ok (.iadd, 1) := by decide +kernel
theorem dL_law_472 : decode cL_law 472 = .ok (.iaload, 1) := by decide +kernel
theorem dL_law_473 : decode cL_law 473 = .ok (.invokevirtual 54, 3) := by decide +kernel
theorem dL_law_476 : decode cL_law 476 = .ok (.aload_n 2, 1) := by decide +kernel
theorem dL_law_477 : decode cL_law 477 = .ok (.aload_n 0, 1) := by decide +kernel
theorem dL_law_478 : decode cL_law 478 = .ok (.iload_n 3, 1) := by decide +kernel
theorem dL_law_479 : decode cL_law 479 = .ok (.iconst 1, 1) := by decide +kernel
theorem dL_law_480 : decode cL_law 480 = .ok (.iadd, 1) := by decide +kernel
theorem dL_law_481 : decode cL_law 481 = .ok (.iaload, 1) := by decide +kernel
theorem dL_law_482 : decode cL_law 482 = .ok (.aload_n 0, 1) := by decide +kernel
theorem dL_law_483 : decode cL_law 483 = .ok (.iload_n 3, 1) := by decide +kernel
theorem dL_law_484 : decode cL_law 484 = .ok (.iconst 2, 1) := by decide +kernel
theorem dL_law_485 : decode cL_law 485 = .ok (.iadd, 1) := by decide +kernel
theorem dL_law_486 : decode cL_law 486 = .ok (.iaload, 1) := by decide +kernel
theorem dL_law_487 : decode cL_law 487 = .ok (.aload_n 0, 1) := by decide +kernel
theorem dL_law_488 : decode cL_law 488 = .ok (.iload_n 3, 1) := by decide +kernel
theorem dL_law_489 : decode cL_law 489 = .ok (.iconst 3, 1) := by decide +kernel
theorem dL_law_490 : decode cL_law 490 = .ok (.iadd, 1) := by decide +kernel
theorem dL_law_491 : decode cL_law 491 = .ok (.iaload, 1) := by decide +kernel
theorem dL_law_492 : decode cL_law 492 = .ok (.invokevirtual 58, 3) := by decide +kernel
theorem dL_law_495 : decode cL_law 495 = .ok (.if_icmp .eq 545, 3) := by decide +kernel
theorem dL_law_498 : decode cL_law 498 = .ok (.iconst 0, 1) := by decide +kernel
theorem dL_law_499 : decode cL_law 499 = .ok (.ireturn, 1) := by decide +kernel
theorem dL_law_500 : decode cL_law 500 = .ok (.aload_n 1, 1) := by decide +kernel
theorem dL_law_501 : decode cL_law 501 = .ok (.aload_n 0, 1) := by decide +kernel
theorem dL_law_502 : decode cL_law 502 = .ok (.iload_n 3, 1) := by decide +kernel
theorem dL_law_503 : decode cL_law 503 = .ok (.iconst 1, 1) := by decide +kernel
theorem dL_law_504 : decode cL_law 504 = .ok (.iadd, 1) := by decide +kernel
theorem dL_law_505 : decode cL_law 505 = .ok (.iaload, 1) := by decide +kernel
theorem dL_law_506 : decode cL_law 506 = .ok (.aload_n 0, 1) := by decide +kernel
theorem dL_law_507 : decode cL_law 507 = .ok (.iload_n 3, 1) := by decide +kernel
theorem dL_law_508 : decode cL_law 508 = .ok (.iconst 2, 1) := by decide +kernel
theorem dL_law_509 : decode cL_law 509 = .ok (.iadd, 1) := by decide +kernel
theorem dL_law_510 : decode cL_law 510 = .ok (.iaload, 1) := by decide +kernel
theorem dL_law_511 : decode cL_law 511 = .ok (.invokevirtual 59, 3) := by decide +kernel
theorem dL_law_514 : decode cL_law 514 = .ok (.aload_n 2, 1) := by decide +kernel
theorem dL_law_515 : decode cL_law 515 = .ok (.aload_n 0, 1) := by decide +kernel
theorem dL_law_516 : decode cL_law 516 = .ok (.iload_n 3, 1) := by decide +kernel
theorem dL_law_517 : decode cL_law 517 = .ok (.iconst 1, 1) := by decide +kernel
theorem dL_law_518 : decode cL_law 518 = .ok (.iadd, 1) := by decide +kernel
theorem dL_law_519 : decode cL_law 519 = .ok (.iaload, 1) := by decide +kernel
theorem dL_law_520 : decode cL_law 520 = .ok (.aload_n 0, 1) := by decide +kernel
theorem dL_law_521 : decode cL_law 521 = .ok (.iload_n 3, 1) := by decide +kernel
theorem dL_law_522 : decode cL_law 522 = .ok (.iconst 2, 1) := by decide +kernel
theorem dL_law_523 : decode cL_law 523 = .ok (.iadd, 1) := by decide +kernel
theorem dL_law_524 : decode cL_law 524 = .ok (.iaload, 1) := by decide +kernel
theorem dL_law_525 : decode cL_law 525 = .ok (.invokevirtual 62, 3) := by decide +kernel
theorem dL_law_528 : decode cL_law 528 = .ok (.if_icmp .eq 512, 3) := by decide +kernel
theorem dL_law_531 : decode cL_law 531 = .ok (.iconst 0, 1) := by decide +kernel
theorem dL_law_532 : decode cL_law 532 = .ok (.ireturn, 1) := by decide +kernel
theorem dL_law_533 : decode cL_law 533 = .ok (.aload_n 1, 1) := by decide +kernel
theorem dL_law_534 : decode cL_law 534 = .ok (.aload_n 0, 1) := by decide +kernel
theorem dL_law_535 : decode cL_law 535 = .ok (.iload_n 3, 1) := by decide +kernel
theorem dL_law_536 : decode cL_law 536 = .ok (.iconst 1, 1) := by decide +kernel
theorem dL_law_537 : decode cL_law 537 = .ok (.iadd, 1) := by decide +kernel
theorem dL_law_538 : decode cL_law 538 = .ok (.iaload, 1) := by decide +kernel
theorem dL_law_539 : decode cL_law 539 = .ok (.aload_n 0, 1) := by decide +kernel
theorem dL_law_540 : decode cL_law 540 = .ok (.iload_n 3, 1) := by decide +kernel
theorem dL_law_541 : decode cL_law 541 = .ok (.iconst 2, 1) := by decide +kernel
theorem dL_law_542 : decode cL_law 542 = .ok (.iadd, 1) := by decide +kernel
theorem dL_law_543 : decode cL_law 543 = .ok (.iaload, 1) := by decide +kernel
theorem dL_law_544 : decode cL_law 544 = .ok (.invokevirtual 63, 3) := by decide +kernel
theorem dL_law_547 : decode cL_law 547 = .ok (.aload_n 2, 1) := by decide +kernel
theorem dL_law_548 : decode cL_law 548 = .ok (.aload_n 0, 1) := by decide +kernel
theorem dL_law_549 : decode cL_law 549 = .ok (.iload_n 3, 1) := by decide +kernel
theorem dL_law_550 : decode cL_law 550 = .ok (.iconst 1, 1) := by decide +kernel
theorem dL_law_551 : decode cL_law 551 = .ok (.iadd, 1) := by decide +kernel
theorem dL_law_552 : decode cL_law 552 = .ok (.iaload, 1) := by decide +kernel
theorem dL_law_553 : decode cL_law 553 = .ok (.aload_n 0, 1) := by decide +kernel
theorem dL_law_554 : decode cL_law 554 = .ok (.iload_n 3, 1) := by decide +kernel
theorem dL_law_555 : decode cL_law 555 = .ok (.iconst 2, 1) := by decide +kernel
theorem dL_law_556 : decode cL_law 556 = .ok (.iadd, 1) := by decide +kernel
theorem dL_law_557 : decode cL_law 557 = .ok (.iaload, 1) := by decide +kernel
theorem dL_law_558 : decode cL_law 558 = .ok (.invokevirtual 66, 3) := by decide +kernel
theorem dL_law_561 : decode cL_law 561 = .ok (.if_icmp .eq 479, 3) := by decide +kernel
theorem dL_law_564 : decode cL_law 564 = .ok (.iconst 0, 1) := by decide +kernel
theorem dL_law_565 : decode cL_law 565 = .ok (.ireturn, 1) := by decide +kernel
theorem dL_law_566 : decode cL_law 566 = .ok (.aload_n 1, 1) := by decide +kernel
theorem dL_law_567 : decode cL_law 567 = .ok (.aload_n 0, 1) := by decide +kernel
theorem dL_law_568 : decode cL_law 568 = .ok (.iload_n 3, 1) := by decide +kernel
theorem dL_law_569 : decode cL_law 569 = .ok (.iconst 1, 1) := by decide +kernel
theorem dL_law_570 : decode cL_law 570 = .ok (.iadd, 1) := by decide +kernel
theorem dL_law_571 : decode cL_law 571 = .ok (.iaload, 1) := by decide +kernel
theorem dL_law_572 : decode cL_law 572 = .ok (.aload_n 0, 1) := by decide +kernel
theorem dL_law_573 : decode cL_law 573 = .ok (.iload_n 3, 1) := by decide +kernel
theorem dL_law_574 : decode cL_law 574 = .ok (.iconst 2, 1) := by decide +kernel
theorem dL_law_575 : decode cL_law 575 = .ok (.iadd, 1) := by decide +kernel
theorem dL_law_576 : decode cL_law 576 = .ok (.iaload, 1) := by decide +kernel
theorem dL_law_577 : decode cL_law 577 = .ok (.invokevirtual 67, 3) := by decide +kernel
theorem dL_law_580 : decode cL_law 580 = .ok (.aload_n 2, 1) := by decide +kernel
theorem dL_law_581 : decode cL_law 581 = .ok (.aload_n 0, 1) := by decide +kernel
theorem dL_law_582 : decode cL_law 582 = .ok (.iload_n 3, 1) := by decide +kernel
theorem dL_law_583 : decode cL_law 583 = .ok (.iconst 1, 1) := by decide +kernel
theorem dL_law_584 : decode cL_law 584 = .ok (.iadd, 1) := by decide +kernel
theorem dL_law_585 : decode cL_law 585 = .ok (.iaload, 1) := by decide +kernel
theorem dL_law_586 : decode cL_law 586 = .ok (.aload_n 0, 1) := by decide +kernel
theorem dL_law_587 : decode cL_law 587 = .ok (.iload_n 3, 1) := by decide +kernel
theorem dL_law_588 : decode cL_law 588 = .ok (.iconst 2, 1) := by decide +kernel
theorem dL_law_589 : decode cL_law 589 = .ok (.iadd, 1) := by decide +kernel
theorem dL_law_590 : decode cL_law 590 = .ok (.iaload, 1) := by decide +kernel
theorem dL_law_591 : decode cL_law 591 = .ok (.invokevirtual 70, 3) := by decide +kernel
theorem dL_law_594 : decode cL_law 594 = .ok (.if_icmp .eq 446, 3) := by decide +kernel
theorem dL_law_597 : decode cL_law 597 = .ok (.iconst 0, 1) := by decide +kernel
theorem dL_law_598 : decode cL_law 598 = .ok (.ireturn, 1) := by decide +kernel
theorem dL_law_599 : decode cL_law 599 = .ok (.aload_n 1, 1) := by decide +kernel
theorem dL_law_600 : decode cL_law 600 = .ok (.aload_n 0, 1) := by decide +kernel
theorem dL_law_601 : decode cL_law 601 = .ok (.iload_n 3, 1) := by decide +kernel
theorem dL_law_602 : decode cL_law 602 = .ok (.iconst 1, 1) := by decide +kernel
theorem dL_law_603 : decode cL_law 603 = .ok (.iadd, 1) := by decide +kernel
theorem dL_law_604 : decode cL_law 604 = .ok (.iaload, 1) := by decide +kernel
theorem dL_law_605 : decode cL_law 605 = .ok (.aload_n 0, 1) := by decide +kernel
theorem dL_law_606 : decode cL_law 606 = .ok (.iload_n 3, 1) := by decide +kernel
theorem dL_law_607 : decode cL_law 607 = .ok (.iconst 2, 1) := by decide +kernel
theorem dL_law_608 : decode cL_law 608 = .ok (.iadd, 1) := by decide +kernel
theorem dL_law_609 : decode cL_law 609 = .ok (.iaload, 1) := by decide +kernel
theorem dL_law_610 : decode cL_law 610 = .ok (.invokevirtual 71, 3) := by decide +kernel
theorem dL_law_613 : decode cL_law 613 = .ok (.aload_n 2, 1) := by decide +kernel
theorem dL_law_614 : decode cL_law 614 = .ok (.aload_n 0, 1) := by decide +kernel
theorem dL_law_615 : decode cL_law 615 = .ok (.iload_n 3, 1) := by decide +kernel
theorem dL_law_616 : decode cL_law 616 = .ok (.iconst 1, 1) := by decide +kernel
theorem dL_law_617 : decode cL_law 617 = .ok (.iadd, 1) := by decide +kernel
theorem dL_law_618 : decode cL_law 618 = .ok (.iaload, 1) := by decide +kernel
theorem dL_law_619 : decode cL_law 619 = .ok (.aload_n 0, 1) := by decide +kernel
theorem dL_law_620 : decode cL_law 620 = .ok (.iload_n 3, 1) := by decide +kernel
theorem dL_law_621 : decode cL_law 621 = .ok (.iconst 2, 1) := by decide +kernel
theorem dL_law_622 : decode cL_law 622 = .ok (.iadd, 1) := by decide +kernel
theorem dL_law_623 : decode cL_law 623 = .ok (.iaload, 1) := by decide +kernel
theorem dL_law_624 : decode cL_law 624 = .ok (.invokevirtual 74, 3) := by decide +kernel
theorem dL_law_627 : decode cL_law 627 = .ok (.if_icmp .eq 413, 3) := by decide +kernel
theorem dL_law_630 : decode cL_law 630 = .ok (.iconst 0, 1) := by decide +kernel
theorem dL_law_631 : decode cL_law 631 = .ok (.ireturn, 1) := by decide +kernel
theorem dL_law_632 : decode cL_law 632 = .ok (.aload_n 1, 1) := by decide +kernel
theorem dL_law_633 : decode cL_law 633 = .ok (.aload_n 0, 1) := by decide +kernel
theorem dL_law_634 : decode cL_law 634 = .ok (.iload_n 3, 1) := by decide +kernel
theorem dL_law_635 : decode cL_law 635 = .ok (.iconst 1, 1) := by decide +kernel
theorem dL_law_636 : decode cL_law 636 = .ok (.iadd, 1) := by decide +kernel
theorem dL_law_637 : decode cL_law 637 = .ok (.iaload, 1) := by decide +kernel
theorem dL_law_638 : decode cL_law 638 = .ok (.invokevirtual 75, 3) := by decide +kernel
theorem dL_law_641 : decode cL_law 641 = .ok (.aload_n 2, 1) := by decide +kernel
theorem dL_law_642 : decode cL_law 642 = .ok (.aload_n 0, 1) := by decide +kernel
theorem dL_law_643 : decode cL_law 643 = .ok (.iload_n 3, 1) := by decide +kernel
theorem dL_law_644 : decode cL_law 644 = .ok (.iconst 1, 1) := by decide +kernel
theorem dL_law_645 : decode cL_law 645 = .ok (.iadd, 1) := by decide +kernel
theorem dL_law_646 : decode cL_law 646 = .ok (.iaload, 1) := by decide +kernel
theorem dL_law_647 : decode cL_law 647 = .ok (.invokevirtual 78, 3) := by decide +kernel
theorem dL_law_650 : decode cL_law 650 = .ok (.if_icmp .eq 390, 3) := by decide +kernel
theorem dL_law_653 : decode cL_law 653 = .ok (.iconst 0, 1) := by decide +kernel
theorem dL_law_654 : decode cL_law 654 = .ok (.ireturn, 1) := by decide +kernel
theorem dL_law_655 : decode cL_law 655 = .ok (.aload_n 1, 1) := by decide +kernel
theorem dL_law_656 : decode cL_law 656 = .ok (.aload_n 0, 1) := by decide +kernel
theorem dL_law_657 : decode cL_law 657 = .ok (.iload_n 3, 1) := by decide +kernel
theorem dL_law_658 : decode cL_law 658 = .ok (.iconst 1, 1) := by decide +kernel
theorem dL_law_659 : decode cL_law 659 = .ok (.iadd, 1) := by decide +kernel
theorem dL_law_660 : decode cL_law 660 = .ok (.iaload, 1) := by decide +kernel
theorem dL_law_661 : decode cL_law 661 = .ok (.invokevirtual 79, 3) := by decide +kernel
theorem dL_law_664 : decode cL_law 664 = .ok (.aload_n 2, 1) := by decide +kernel
theorem dL_law_665 : decode cL_law 665 = .ok (.aload_n 0, 1) := by decide +kernel
theorem dL_law_666 : decode cL_law 666 = .ok (.iload_n 3, 1) := by decide +kernel
theorem dL_law_667 : decode cL_law 667 = .ok (.iconst 1, 1) := by decide +kernel
theorem dL_law_668 : decode cL_law 668 = .ok (.iadd, 1) := by decide +kernel
theorem dL_law_669 : decode cL_law 669 = .ok (.iaload, 1) := by decide +kernel
theorem dL_law_670 : decode cL_law 670 = .ok (.invokevirtual 82, 3) := by decide +kernel
theorem dL_law_673 : decode cL_law 673 = .ok (.if_icmp .eq 367, 3) := by decide +kernel
theorem dL_law_676 : decode cL_law 676 = .ok (.iconst 0, 1) := by decide +kernel
theorem dL_law_677 : decode cL_law 677 = .ok (.ireturn, 1) := by decide +kernel
theorem dL_law_678 : decode cL_law 678 = .ok (.aload_n 1, 1) := by decide +kernel
theorem dL_law_679 : decode cL_law 679 = .ok (.aload_n 0, 1) := by decide +kernel
theorem dL_law_680 : decode cL_law 680 = .ok (.iload_n 3, 1) := by decide +kernel
theorem dL_law_681 : decode cL_law 681 = .ok (.iconst 1, 1) := by decide +kernel
theorem dL_law_682 : decode cL_law 682 = .ok (.iadd, 1) := by decide +kernel
theorem dL_law_683 : decode cL_law 683 = .ok (.iaload, 1) := by decide +kernel
theorem dL_law_684 : decode cL_law 684 = .ok (.invokevirtual 83, 3) := by decide +kernel
theorem dL_law_687 : decode cL_law 687 = .ok (.aload_n 2, 1) := by decide +kernel
theorem dL_law_688 : decode cL_law 688 = .ok (.aload_n 0, 1) := by decide +kernel
theorem dL_law_689 : decode cL_law 689 = .ok (.iload_n 3, 1) := by decide +kernel
theorem dL_law_690 : decode cL_law 690 = .ok (.iconst 1, 1) := by decide +kernel
theorem dL_law_691 : decode cL_law 691 = .ok (.iadd, 1) := by decide +kernel
theorem dL_law_692 : decode cL_law 692 = .ok (.iaload, 1) := by decide +kernel
theorem dL_law_693 : decode cL_law 693 = .ok (.invokevirtual 86, 3) := by decide +kernel
theorem dL_law_696 : decode cL_law 696 = .ok (.if_icmp .eq 344, 3) := by decide +kernel
theorem dL_law_699 : decode cL_law 699 = .ok (.iconst 0, 1) := by decide +kernel
theorem dL_law_700 : decode cL_law 700 = .ok (.ireturn, 1) := by decide +kernel
theorem dL_law_701 : decode cL_law 701 = .ok (.aload_n 1, 1) := by decide +kernel
theorem dL_law_702 : decode cL_law 702 = .ok (.aload_n 0, 1) := by decide +kernel
theorem dL_law_703 : decode cL_law 703 = .ok (.iload_n 3, 1) := by decide +kernel
theorem dL_law_704 : decode cL_law 704 = .ok (.iconst 1, 1) := by decide +kernel
theorem dL_law_705 : decode cL_law 705 = .ok (.iadd, 1) := by decide +kernel
theorem dL_law_706 : decode cL_law 706 = .ok (.iaload, 1) := by decide +kernel
theorem dL_law_707 : decode cL_law 707 = .ok (.invokevirtual 87, 3) := by decide +kernel
theorem dL_law_710 : decode cL_law 710 = .ok (.aload_n 2, 1) := by decide +kernel
theorem dL_law_711 : decode cL_law 711 = .ok (.aload_n 0, 1) := by decide +kernel
theorem dL_law_712 : decode cL_law 712 = .ok (.iload_n 3, 1) := by decide +kernel
theorem dL_law_713 : decode cL_law 713 = .ok (.iconst 1, 1) := by decide +kernel
theorem dL_law_714 : decode cL_law 714 = .ok (.iadd, 1) := by decide +kernel
theorem dL_law_715 : decode cL_law 715 = .ok (.iaload, 1) := by decide +kernel
theorem dL_law_716 : decode cL_law 716 = .ok (.invokevirtual 90, 3) := by decide +kernel
theorem dL_law_719 : decode cL_law 719 = .ok (.if_icmp .eq 321, 3) := by decide +kernel
theorem dL_law_722 : decode cL_law 722 = .ok (.iconst 0, 1) := by decide +kernel
theorem dL_law_723 : decode cL_law 723 = .ok (.ireturn, 1) := by decide +kernel
theorem dL_law_724 : decode cL_law 724 = .ok (.aload_n 1, 1) := by decide +kernel
theorem dL_law_725 : decode cL_law 725 = .ok (.aload_n 0, 1) := by decide +kernel
theorem dL_law_726 : decode cL_law 726 = .ok (.iload_n 3, 1) := by decide +kernel
theorem dL_law_727 : decode cL_law 727 = .ok (.iconst 1, 1) := by decide +kernel
theorem dL_law_728 : decode cL_law 728 = .ok (.iadd, 1) := by decide +kernel
theorem dL_law_729 : decode cL_law 729 = .ok (.iaload, 1) := by decide +kernel
theorem dL_law_730 : decode cL_law 730 = .ok (.invokevirtual 91, 3) := by decide +kernel
theorem dL_law_733 : decode cL_law 733 = .ok (.aload_n 2, 1) := by decide +kernel
theorem dL_law_734 : decode cL_law 734 = .ok (.aload_n 0, 1) := by decide +kernel
theorem dL_law_735 : decode cL_law 735 = .ok (.iload_n 3, 1) := by decide +kernel
theorem dL_law_736 : decode cL_law 736 = .ok (.iconst 1, 1) := by decide +kernel
theorem dL_law_737 : decode cL_law 737 = .ok (.iadd, 1) := by decide +kernel
theorem dL_law_738 : decode cL_law 738 = .ok (.iaload, 1) := by decide +kernel
theorem dL_law_739 : decode cL_law 739 = .ok (.invokevirtual 94, 3) := by decide +kernel
theorem dL_law_742 : decode cL_law 742 = .ok (.if_icmp .eq 298, 3) := by decide +kernel
theorem dL_law_745 : decode cL_law 745 = .ok (.iconst 0, 1) := by decide +kernel
theorem dL_law_746 : decode cL_law 746 = .ok (.ireturn, 1) := by decide +kernel
theorem dL_law_747 : decode cL_law 747 = .ok (.aload_n 1, 1) := by decide +kernel
theorem dL_law_748 : decode cL_law 748 = .ok (.aload_n 0, 1) := by decide +kernel
theorem dL_law_749 : decode cL_law 749 = .ok (.iload_n 3, 1) := by decide +kernel
theorem dL_law_750 : decode cL_law 750 = .ok (.iconst 1, 1) := by decide +kernel
theorem dL_law_751 : decode cL_law 751 = .ok (.iadd, 1) := by decide +kernel
theorem dL_law_752 : decode cL_law 752 = .ok (.iaload, 1) := by decide +kernel
theorem dL_law_753 : decode cL_law 753 = .ok (.aload_n 0, 1) := by decide +kernel
theorem dL_law_754 : decode cL_law 754 = .ok (.iload_n 3, 1) := by decide +kernel
theorem dL_law_755 : decode cL_law 755 = .ok (.iconst 2, 1) := by decide +kernel
theorem dL_law_756 : decode cL_law 756 = .ok (.iadd, 1) := by decide +kernel
theorem dL_law_757 : decode cL_law 757 = .ok (.iaload, 1) := by decide +kernel
theorem dL_law_758 : decode cL_law 758 = .ok (.aload_n 0, 1) := by decide +kernel
theorem dL_law_759 : decode cL_law 759 = .ok (.iload_n 3, 1) := by decide +kernel
theorem dL_law_760 : decode cL_law 760 = .ok (.iconst 3, 1) := by decide +kernel
theorem dL_law_761 : decode cL_law 761 = .ok (.iadd, 1) := by decide +kernel
theorem dL_law_762 : decode cL_law 762 = .ok (.iaload, 1) := by decide +kernel
theorem dL_law_763 : decode cL_law 763 = .ok (.ifCond .eq 7, 3) := by decide +kernel
theorem dL_law_766 : decode cL_law 766 = .ok (.iconst 1, 1) := by decide +kernel
theorem dL_law_767 : decode cL_law 767 = .ok (.goto 4, 3) := by decide +kernel
theorem dL_law_770 : decode cL_law 770 = .ok (.iconst 0, 1) := by decide +kernel
theorem dL_law_771 : decode cL_law 771 = .ok (.invokevirtual 95, 3) := by decide +kernel
theorem dL_law_774 : decode cL_law 774 = .ok (.aload_n 2, 1) := by decide +kernel
theorem dL_law_775 : decode cL_law 775 = .ok (.aload_n 0, 1) := by decide +kernel
theorem dL_law_776 : decode cL_law 776 = .ok (.iload_n 3, 1) := by decide +kernel
theorem dL_law_777 : decode cL_law 777 = .ok (.iconst 1, 1) := by decide +kernel
theorem dL_law_778 : decode cL_law 778 = .ok (.iadd, 1) := by decide +kernel
theorem dL_law_779 : decode cL_law 779 = .ok (.iaload, 1) := by decide +kernel
theorem dL_law_780 : decode cL_law 780 = .ok (.aload_n 0, 1) := by decide +kernel
theorem dL_law_781 : decode cL_law 781 = .ok (.iload_n 3, 1) := by decide +kernel
theorem dL_law_782 : decode cL_law 782 = .ok (.iconst 2, 1) := by decide +kernel
theorem dL_law_783 : decode cL_law 783 = .ok (.iadd, 1) := by decide +kernel
theorem dL_law_784 : decode cL_law 784 = .ok (.iaload, 1) := by decide +kernel
theorem dL_law_785 : decode cL_law 785 = .ok (.aload_n 0, 1) := by decide +kernel
theorem dL_law_786 : decode cL_law 786 = .ok (.iload_n 3, 1) := by decide +kernel
theorem dL_law_787 : decode cL_law 787 = .ok (.iconst 3, 1) := by decide +kernel
theorem dL_law_788 : decode cL_law 788 = .ok (.iadd, 1) := by decide +kernel
theorem dL_law_789 : decode cL_law 789 = .ok (.iaload, 1) := by decide +kernel
theorem dL_law_790 : decode cL_law 790 = .ok (.ifCond .eq 7, 3) := by decide +kernel
theorem dL_law_793 : decode cL_law 793 = .ok (.iconst 1, 1) := by decide +kernel
theorem dL_law_794 : decode cL_law 794 = .ok (.goto 4, 3) := by decide +kernel
theorem dL_law_797 : decode cL_law 797 = .ok (.iconst 0, 1) := by decide +kernel
theorem dL_law_798 : decode cL_law 798 = .ok (.invokevirtual 99, 3) := by decide +kernel
theorem dL_law_801 : decode cL_law 801 = .ok (.if_icmp .eq 239, 3) := by decide +kernel
theorem dL_law_804 : decode cL_law 804 = .ok (.iconst 0, 1) := by decide +kernel
theorem dL_law_805 : decode cL_law 805 = .ok (.ireturn, 1) := by decide +kernel
theorem dL_law_806 : decode cL_law 806 = .ok (.aload_n 1, 1) := by decide +kernel
theorem dL_law_807 : decode cL_law 807 = .ok (.aload_n 0, 1) := by decide +kernel
theorem dL_law_808 : decode cL_law 808 = .ok (.iload_n 3, 1) := by decide +kernel
theorem dL_law_809 : decode cL_law 809 = .ok (.iconst 1, 1) := by decide +kernel
theorem dL_law_810 : decode cL_law 810 = .ok (.iadd, 1) := by decide +kernel
theorem dL_law_811 : decode cL_law 811 = .ok (.iaload, 1) := by decide +kernel
theorem dL_law_812 : decode cL_law 812 = .ok (.invokevirtual 100, 3) := by decide +kernel
theorem dL_law_815 : decode cL_law 815 = .ok (.aload_n 2, 1) := by decide +kernel
theorem dL_law_816 : decode cL_law 816 = .ok (.aload_n 0, 1) := by decide +kernel
theorem dL_law_817 : decode cL_law 817 = .ok (.iload_n 3, 1) := by decide +kernel
theorem dL_law_818 : decode cL_law 818 = .ok (.iconst 1, 1) := by decide +kernel
theorem dL_law_819 : decode cL_law 819 = .ok (.iadd, 1) := by decide +kernel
theorem dL_law_820 : decode cL_law 820 = .ok (.iaload, 1) := by decide +kernel
theorem dL_law_821 : decode cL_law 821 = .ok (.invokevirtual 103, 3) := by decide +kernel
theorem dL_law_824 : decode cL_law 824 = .ok (.if_icmp .eq 216, 3) := by decide +kernel
theorem dL_law_827 : decode cL_law 827 = .ok (.iconst 0, 1) := by decide +kernel
theorem dL_law_828 : decode cL_law 828 = .ok (.ireturn, 1) := by decide +kernel
theorem dL_law_829 : decode cL_law 829 = .ok (.aload_n 1, 1) := by decide +kernel
theorem dL_law_830 : decode cL_law 830 = .ok (.aload_n 0, 1) := by decide +kernel
theorem dL_law_831 : decode cL_law 831 = .ok (.iload_n 3, 1) := by decide +kernel
theorem dL_law_832 : decode cL_law 832 = .ok (.iconst 1, 1) := by decide +kernel
theorem dL_law_833 : decode cL_law 833 = .ok (.iadd, 1) := by decide +kernel
theorem dL_law_834 : decode cL_law 834 = .ok (.iaload, 1) := by decide +kernel
theorem dL_law_835 : decode cL_law 835 = .ok (.aload_n 0, 1) := by decide +kernel
theorem dL_law_836 : decode cL_law 836 = .ok (.iload_n 3, 1) := by decide +kernel
theorem dL_law_837 : decode cL_law 837 = .ok (.iconst 2, 1) := by decide +kernel
theorem dL_law_838 : decode cL_law 838 = .ok (.iadd, 1) := by decide +kernel
theorem dL_law_839 : decode cL_law 839 = .ok (.iaload, 1) := by decide +kernel
theorem dL_law_840 : decode cL_law 840 = .ok (.ifCond .eq 7, 3) := by decide +kernel
theorem dL_law_843 : decode cL_law 843 = .ok (.iconst 1, 1) := by decide +kernel
theorem dL_law_844 : decode cL_law 844 = .ok (.goto 4, 3) := by decide +kernel
theorem dL_law_847 : decode cL_law 847 = .ok (.iconst 0, 1) := by decide +kernel
theorem dL_law_848 : decode cL_law 848 = .ok (.invokevirtual 104, 3) := by decide +kernel
theorem dL_law_851 : decode cL_law 851 = .ok (.aload_n 2, 1) := by decide +kernel
theorem dL_law_852 : decode cL_law 852 = .ok (.aload_n 0, 1) := by decide +kernel
theorem dL_law_853 : decode cL_law 853 = .ok (.iload_n 3, 1) := by decide +kernel
theorem dL_law_854 : decode cL_law 854 = .ok (.iconst 1, 1) := by decide +kernel
theorem dL_law_855 : decode cL_law 855 = .ok (.iadd, 1) := by decide +kernel
theorem dL_law_856 : decode cL_law 856 = .ok (.iaload, 1) := by decide +kernel
theorem dL_law_857 : decode cL_law 857 = .ok (.aload_n 0, 1) := by decide +kernel
theorem dL_law_858 : decode cL_law 858 = .ok (.iload_n 3, 1) := by decide +kernel
theorem dL_law_859 : decode cL_law 859 = .ok (.iconst 2, 1) := by decide +kernel
theorem dL_law_860 : decode cL_law 860 = .ok (.iadd, 1) := by decide +kernel
theorem dL_law_861 : decode cL_law 861 = .ok (.iaload, 1) := by decide +kernel
theorem dL_law_862 : decode cL_law 862 = .ok (.ifCond .eq 7, 3) := by decide +kernel
theorem dL_law_865 : decode cL_law 865 = .ok (.iconst 1, 1) := by decide +kernel
theorem dL_law_866 : decode cL_law 866 = .ok (.goto 4, 3) := by decide +kernel
theorem dL_law_869 : decode cL_law 869 = .ok (.iconst 0, 1) := by decide +kernel
theorem dL_law_870 : decode cL_law 870 = .ok (.invokevirtual 108, 3) := by decide +kernel
theorem dL_law_873 : decode cL_law 873 = .ok (.if_icmp .eq 167, 3) := by decide +kernel
theorem dL_law_876 : decode cL_law 876 = .ok (.iconst 0, 1) := by decide +kernel
theorem dL_law_877 : decode cL_law 877 = .ok (.ireturn, 1) := by decide +kernel
theorem dL_law_878 : decode cL_law 878 = .ok (.aload_n 1, 1) := by decide +kernel
theorem dL_law_879 : decode cL_law 879 = .ok (.aload_n 0, 1) := by decide +kernel
theorem dL_law_880 : decode cL_law 880 = .ok (.iload_n 3, 1) := by decide +kernel
theorem dL_law_881 : decode cL_law 881 = .ok (.iconst 1, 1) := by decide +kernel
theorem dL_law_882 : decode cL_law 882 = .ok (.iadd, 1) := by decide +kernel
theorem dL_law_883 : decode cL_law 883 = .ok (.iaload, 1) := by decide +kernel
theorem dL_law_884 : decode cL_law 884 = .ok (.aload_n 0, 1) := by decide +kernel
theorem dL_law_885 : decode cL_law 885 = .ok (.iload_n 3, 1) := by decide +kernel
theorem dL_law_886 : decode cL_law 886 = .ok (.iconst 2, 1) := by decide +kernel
theorem dL_law_887 : decode cL_law 887 = .ok (.iadd, 1) := by decide +kernel
theorem dL_law_888 : decode cL_law 888 = .ok (.iaload, 1) := by decide +kernel
theorem dL_law_889 : decode cL_law 889 = .ok (.invokevirtual 109, 3) := by decide +kernel
theorem dL_law_892 : decode cL_law 892 = .ok (.aload_n 2, 1) := by decide +kernel
theorem dL_law_893 : decode cL_law 893 = .ok (.aload_n 0, 1) := by decide +kernel
theorem dL_law_894 : decode cL_law 894 = .ok (.iload_n 3, 1) := by decide +kernel
theorem dL_law_895 : decode cL_law 895 = .ok (.iconst 1, 1) := by decide +kernel
theorem dL_law_896 : decode cL_law 896 = .ok (.iadd, 1) := by decide +kernel
theorem dL_law_897 : decode cL_law 897 = .ok (.iaload, 1) := by decide +kernel
theorem dL_law_898 : decode cL_law 898 = .ok (.aload_n 0, 1) := by decide +kernel
theorem dL_law_899 : decode cL_law 899 = .ok (.iload_n 3, 1) := by decide +kernel
theorem dL_law_900 : decode cL_law 900 = .ok (.iconst 2, 1) := by decide +kernel
theorem dL_law_901 : decode cL_law 901 = .ok (.iadd, 1) := by decide +kernel
theorem dL_law_902 : decode cL_law 902 = .ok (.iaload, 1) := by decide +kernel
theorem dL_law_903 : decode cL_law 903 = .ok (.invokevirtual 112, 3) := by decide +kernel
theorem dL_law_906 : decode cL_law 906 = .ok (.if_icmp .eq 134, 3) := by decide +kernel
theorem dL_law_909 : decode cL_law 909 = .ok (.iconst 0, 1) := by decide +kernel
theorem dL_law_910 : decode cL_law 910 = .ok (.ireturn, 1) := by decide +kernel
theorem dL_law_911 : decode cL_law 911 = .ok (.aload_n 1, 1) := by decide +kernel
theorem dL_law_912 : decode cL_law 912 = .ok (.aload_n 0, 1) := by decide +kernel
theorem dL_law_913 : decode cL_law 913 = .ok (.iload_n 3, 1) := by decide +kernel
theorem dL_law_914 : decode cL_law 914 = .ok (.iconst 1, 1) := by decide +kernel
theorem dL_law_915 : decode cL_law 915 = .ok (.iadd, 1) := by decide +kernel
theorem dL_law_916 : decode cL_law 916 = .ok (.iaload, 1) := by decide +kernel
theorem dL_law_917 : decode cL_law 917 = .ok (.aload_n 0, 1) := by decide +kernel
theorem dL_law_918 : decode cL_law 918 = .ok (.iload_n 3, 1) := by decide +kernel
theorem dL_law_919 : decode cL_law 919 = .ok (.iconst 2, 1) := by decide +kernel
theorem dL_law_920 : decode cL_law 920 = .ok (.iadd, 1) := by decide +kernel
theorem dL_law_921 : decode cL_law 921 = .ok (.iaload, 1) := by decide +kernel
theorem dL_law_922 : decode cL_law 922 = .ok (.invokevirtual 113, 3) := by decide +kernel
theorem dL_law_925 : decode cL_law 925 = .ok (.aload_n 2, 1) := by decide +kernel
theorem dL_law_926 : decode cL_law 926 = .ok (.aload_n 0, 1) := by decide +kernel
theorem dL_law_927 : decode cL_law 927 = .ok (.iload_n 3, 1) := by decide +kernel
theorem dL_law_928 : decode cL_law 928 = .ok (.iconst 1, 1) := by decide +kernel
theorem dL_law_929 : decode cL_law 929 = .ok (.iadd, 1) := by decide +kernel
theorem dL_law_930 : decode cL_law 930 = .ok (.iaload, 1) := by decide +kernel
theorem dL_law_931 : decode cL_law 931 = .ok (.aload_n 0, 1) := by decide +kernel
theorem dL_law_932 : decode cL_law 932 = .ok (.iload_n 3, 1) := by decide +kernel
theorem dL_law_933 : decode cL_law 933 = .ok (.iconst 2, 1) := by decide +kernel
theorem dL_law_934 : decode cL_law 934 = .ok (.iadd, 1) := by decide +kernel
theorem dL_law_935 : decode cL_law 935 = .ok (.iaload, 1) := by decide +kernel
theorem dL_law_936 : decode cL_law 936 = .ok (.invokevirtual 116, 3) := by decide +kernel
theorem dL_law_939 : decode cL_law 939 = .ok (.if_icmp .eq 101, 3) := by decide +kernel
theorem dL_law_942 : decode cL_law 942 = .ok (.iconst 0, 1) := by decide +kernel
theorem dL_law_943 : decode cL_law 943 = .ok (.ireturn, 1) := by decide +kernel
theorem dL_law_944 : decode cL_law 944 = .ok (.aload_n 1, 1) := by decide +kernel
theorem dL_law_945 : decode cL_law 945 = .ok (.invokevirtual 117, 3) := by decide +kernel
theorem dL_law_948 : decode cL_law 948 = .ok (.aload_n 2, 1) := by decide +kernel
theorem dL_law_949 : decode cL_law 949 = .ok (.invokevirtual 120, 3) := by decide +kernel
theorem dL_law_952 : decode cL_law 952 = .ok (.if_icmp .eq 88, 3) := by decide +kernel
theorem dL_law_955 : decode cL_law 955 = .ok (.iconst 0, 1) := by decide +kernel
theorem dL_law_956 : decode cL_law 956 = .ok (.ireturn, 1) := by decide +kernel
theorem dL_law_957 : decode cL_law 957 = .ok (.aload_n 1, 1) := by decide +kernel
theorem dL_law_958 : decode cL_law 958 = .ok (.aload_n 0, 1) := by decide +kernel
theorem dL_law_959 : decode cL_law 959 = .ok (.iload_n 3, 1) := by decide +kernel
theorem dL_law_960 : decode cL_law 960 = .ok (.iconst 1, 1) := by decide +kernel
theorem dL_law_961 : decode cL_law 961 = .ok (.iadd, 1) := by decide +kernel
theorem dL_law_962 : decode cL_law 962 = .ok (.iaload, 1) := by decide +kernel
theorem dL_law_963 : decode cL_law 963 = .ok (.aload_n 0, 1) := by decide +kernel
theorem dL_law_964 : decode cL_law 964 = .ok (.iload_n 3, 1) := by decide +kernel
theorem dL_law_965 : decode cL_law 965 = .ok (.iconst 2, 1) := by decide +kernel
theorem dL_law_966 : decode cL_law 966 = .ok (.iadd, 1) := by decide +kernel
theorem dL_law_967 : decode cL_law 967 = .ok (.iaload, 1) := by decide +kernel
theorem dL_law_968 : decode cL_law 968 = .ok (.invokevirtual 121, 3) := by decide +kernel
theorem dL_law_971 : decode cL_law 971 = .ok (.aload_n 2, 1) := by decide +kernel
theorem dL_law_972 : decode cL_law 972 = .ok (.aload_n 0, 1) := by decide +kernel
theorem dL_law_973 : decode cL_law 973 = .ok (.iload_n 3, 1) := by decide +kernel
theorem dL_law_974 : decode cL_law 974 = .ok (.iconst 1, 1) := by decide +kernel
theorem dL_law_975 : decode cL_law 975 = .ok (.iadd, 1) := by decide +kernel
theorem dL_law_976 : decode cL_law 976 = .ok (.iaload, 1) := by decide +kernel
theorem dL_law_977 : decode cL_law 977 = .ok (.aload_n 0, 1) := by decide +kernel
theorem dL_law_978 : decode cL_law 978 = .ok (.iload_n 3, 1) := by decide +kernel
theorem dL_law_979 : decode cL_law 979 = .ok (.iconst 2, 1) := by decide +kernel
theorem dL_law_980 : decode cL_law 980 = .ok (.iadd, 1) := by decide +kernel
theorem dL_law_981 : decode cL_law 981 = .ok (.iaload, 1) := by decide +kernel
theorem dL_law_982 : decode cL_law 982 = .ok (.invokevirtual 124, 3) := by decide +kernel
theorem dL_law_985 : decode cL_law 985 = .ok (.if_icmp .eq 55, 3) := by decide +kernel
theorem dL_law_988 : decode cL_law 988 = .ok (.iconst 0, 1) := by decide +kernel
theorem dL_law_989 : decode cL_law 989 = .ok (.ireturn, 1) := by decide +kernel
theorem dL_law_990 : decode cL_law 990 = .ok (.aload_n 1, 1) := by decide +kernel
theorem dL_law_991 : decode cL_law 991 = .ok (.invokevirtual 125, 3) := by decide +kernel
theorem dL_law_994 : decode cL_law 994 = .ok (.aload_n 2, 1) := by decide +kernel
theorem dL_law_995 : decode cL_law 995 = .ok (.invokevirtual 128, 3) := by decide +kernel
theorem dL_law_998 : decode cL_law 998 = .ok (.if_icmp .eq 42, 3) := by decide +kernel
theorem dL_law_1001 : decode cL_law 1001 = .ok (.iconst 0, 1) := by decide +kernel
theorem dL_law_1002 : decode cL_law 1002 = .ok (.ireturn, 1) := by decide +kernel
theorem dL_law_1003 : decode cL_law 1003 = .ok (.aload_n 1, 1) := by decide +kernel
theorem dL_law_1004 : decode cL_law 1004 = .ok (.aload_n 0, 1) := by decide +kernel
theorem dL_law_1005 : decode cL_law 1005 = .ok (.iload_n 3, 1) := by decide +kernel
theorem dL_law_1006 : decode cL_law 1006 = .ok (.iconst 1, 1) := by decide +kernel
theorem dL_law_1007 : decode cL_law 1007 = .ok (.iadd, 1) := by decide +kernel
theorem dL_law_1008 : decode cL_law 1008 = .ok (.iaload, 1) := by decide +kernel
theorem dL_law_1009 : decode cL_law 1009 = .ok (.invokevirtual 129, 3) := by decide +kernel
theorem dL_law_1012 : decode cL_law 1012 = .ok (.aload_n 2, 1) := by decide +kernel
theorem dL_law_1013 : decode cL_law 1013 = .ok (.aload_n 0, 1) := by decide +kernel
theorem dL_law_1014 : decode cL_law 1014 = .ok (.iload_n 3, 1) := by decide +kernel
theorem dL_law_1015 : decode cL_law 1015 = .ok (.iconst 1, 1) := by decide +kernel
theorem dL_law_1016 : decode cL_law 1016 = .ok (.iadd, 1) := by decide +kernel
theorem dL_law_1017 : decode cL_law 1017 = .ok (.iaload, 1) := by decide +kernel
theorem dL_law_1018 : decode cL_law 1018 = .ok (.invokevirtual 132, 3) := by decide +kernel
theorem dL_law_1021 : decode cL_law 1021 = .ok (.if_icmp .eq 19, 3) := by decide +kernel
theorem dL_law_1024 : decode cL_law 1024 = .ok (.iconst 0, 1) := by decide +kernel
theorem dL_law_1025 : decode cL_law 1025 = .ok (.ireturn, 1) := by decide +kernel
theorem dL_law_1026 : decode cL_law 1026 = .ok (.aload_n 1, 1) := by decide +kernel
theorem dL_law_1027 : decode cL_law 1027 = .ok (.invokevirtual 133, 3) := by decide +kernel
theorem dL_law_1030 : decode cL_law 1030 = .ok (.aload_n 2, 1) := by decide +kernel
theorem dL_law_1031 : decode cL_law 1031 = .ok (.invokevirtual 137, 3) := by decide +kernel
theorem dL_law_1034 : decode cL_law 1034 = .ok (.lcmp, 1) := by decide +kernel
theorem dL_law_1035 : decode cL_law 1035 = .ok (.ifCond .eq 5, 3) := by decide +kernel
theorem dL_law_1038 : decode cL_law 1038 = .ok (.iconst 0, 1) := by decide +kernel
theorem dL_law_1039 : decode cL_law 1039 = .ok (.ireturn, 1) := by decide +kernel
theorem dL_law_1040 : decode cL_law 1040 = .ok (.iinc 3 8, 3) := by decide +kernel
theorem dL_law_1043 : decode cL_law 1043 = .ok (.goto (-1025), 3) := by decide +kernel
theorem dL_law_1046 : decode cL_law 1046 = .ok (.iconst 1, 1) := by decide +kernel
theorem dL_law_1047 : decode cL_law 1047 = .ok (.ireturn, 1) := by decide +kernel
theorem lg_self (x : Int64) : lg_cmp x x = 0 := by unfold lg_cmp; rw [if_neg (by simp), if_pos rfl]
theorem xs_in {i L : Nat} (k : Nat) (hk : k < 8) (h : i + 8 ≤ L) (hL : L ≤ 4096) {v : Int32} (hv : v = nI k) : vp_in (nI i + v) L := by
  subst hv
  rw [nI_add]
  exact vp_in_nI (by omega) (by omega)
def sim_type (g : Nat) (J : Mem → Prop) : Prop := ∀ (x1 : Int32) (M : Mem), J M → ∃ (r : Int32) (M1 : Mem) (M2 : Mem), fn_X7_type x1 M = some (r, M1) ∧ fn_X8_type x1 M1 = some (r, M2) ∧ J M2
set_option maxHeartbeats 4000000 in
theorem lc_type {p : Program} {l : Launch} {e : Env} {s : State} {m : MethodId} {below : List Frame} {meth : Method} {c : Code} {X : En} {b L : Nat} {xs : Nat → Int32} (hL : L ≤ 4096) (hX : va_X b L xs s s.heap) (hbl : b < s.heap.size) (hbA : ¬ X.A b) (hZ : Fx p c m s #[Value.ref b] X code 4 RL) {g i : Nat} (hi : i + 8 ≤ L) {M : Mem} {r : Int32} {M1 : Mem} {M2 : Mem} {H : Heap} {locs : List Loc} {ls : Array Slot} (hP : wd X M H) (hS : va_S X.A s.heap H locs) (hl : lv_has ls 4 [(0, .ref b), (1, .ref (X.ad 0)), (2, .ref (X.ad 61)), (3, .int (nI i))]) (hf7 : fn_X7_type (xs (nI i + (1 : Int32)).toNatClampNeg) M = some (r, M1)) (hf8 : fn_X8_type (xs (nI i + (1 : Int32)).toNatClampNeg) M1 = some (r, M2))
    (kk : ∀ (H : Heap) (locs : List Loc) (ls : Array Slot), wd X M2 H → va_S X.A s.heap H locs → lv_has ls 4 [(0, .ref b), (1, .ref (X.ad 0)), (2, .ref (X.ad 61)), (3, .int (nI i))] → W p l e room_1 s m #[Value.ref b] below meth c H locs 71 7212 (lw_Z below #[Value.ref b] s) (F0 m 1040 ls [])) : W p l e room_1 s m #[Value.ref b] below meth c H locs 71 7212 (lw_Z below #[Value.ref b] s) (F0 m 164 ls []) := by
  obtain ⟨hx, hb, hml, hts, hown, hk⟩ := id hZ
  refine lv_aload_n hx hb dL_law_164 rfl (lv_at hl 1 rfl) ?_
  refine lv_aload_n hx hb dL_law_165 rfl (lv_at hl 0 rfl) ?_
  refine lv_iload_n hx hb dL_law_166 rfl (lv_at hl 3 rfl) ?_
  refine lv_iconst (v := (1 : Int32)) hx hb dL_law_167 (by decide) ?_
  refine lv_iadd hx hb dL_law_168 ?_
  refine va_sld hx hb hX hbl hbA hS (xs_in 1 (by decide) hi hL (by decide)) dL_law_169 ?_
  refine k_X7_type hZ hP hS hl.1 wd_2_10 ⟨(Nat.le_of_ble_eq_true rfl), (Nat.le_of_ble_eq_true rfl)⟩ (Nat.le_of_ble_eq_true rfl) dL_law_170 ⟨(Nat.le_of_ble_eq_true rfl), (Nat.le_of_ble_eq_true rfl)⟩ hf7 (fun H locs hP hS => ?_)
  refine lv_aload_n hx hb dL_law_173 rfl (lv_at hl 2 rfl) ?_
  refine lv_aload_n hx hb dL_law_174 rfl (lv_at hl 0 rfl) ?_
  refine lv_iload_n hx hb dL_law_175 rfl (lv_at hl 3 rfl) ?_
  refine lv_iconst (v := (1 : Int32)) hx hb dL_law_176 (by decide) ?_
  refine lv_iadd hx hb dL_law_177 ?_
  refine va_sld hx hb hX hbl hbA hS (xs_in 1 (by decide) hi hL (by decide)) dL_law_178 ?_
  refine k_X8_type hZ hP hS hl.1 wd_4_3 ⟨(Nat.le_of_ble_eq_true rfl), (Nat.le_of_ble_eq_true rfl)⟩ (Nat.le_of_ble_eq_true rfl) dL_law_179 ⟨(Nat.le_of_ble_eq_true rfl), (Nat.le_of_ble_eq_true rfl)⟩ hf8 (fun H locs hP hS => ?_)
  refine lv_icmp_eq (tgt := 1040) hx hb dL_law_182 (by decide) (fun _ => ?_) (fun h => absurd rfl h)
  exact kk H locs ls hP hS hl
def sim_clearText (g : Nat) (J : Mem → Prop) : Prop := ∀ (M : Mem), J M → ∃ (r : Int32) (M1 : Mem) (M2 : Mem), fn_X7_clearText M = some (r, M1) ∧ fn_X8_clearText M1 = some (r, M2) ∧ J M2
set_option maxHeartbeats 4000000 in
theorem lc_clearText {p : Program} {l : Launch} {e : Env} {s : State} {m : MethodId} {below : List Frame} {meth : Method} {c : Code} {X : En} {b L : Nat} {xs : Nat → Int32} (hL : L ≤ 4096) (hX : va_X b L xs s s.heap) (hbl : b < s.heap.size) (hbA : ¬ X.A b) (hZ : Fx p c m s #[Value.ref b] X code 4 RL) {g i : Nat} (hi : i + 8 ≤ L) {M : Mem} {r : Int32} {M1 : Mem} {M2 : Mem} {H : Heap} {locs : List Loc} {ls : Array Slot} (hP : wd X M H) (hS : va_S X.A s.heap H locs) (hl : lv_has ls 4 [(0, .ref b), (1, .ref (X.ad 0)), (2, .ref (X.ad 61)), (3, .int (nI i))]) (hf7 : fn_X7_clearText M = some (r, M1)) (hf8 : fn_X8_clearText M1 = some (r, M2))
    (kk : ∀ (H : Heap) (locs : List Loc) (ls : Array Slot), wd X M2 H → va_S X.A s.heap H locs → lv_has ls 4 [(0, .ref b), (1, .ref (X.ad 0)), (2, .ref (X.ad 61)), (3, .int (nI i))] → W p l e room_1 s m #[Value.ref b] below meth c H locs 71 7212 (lw_Z below #[Value.ref b] s) (F0 m 1040 ls [])) : W p l e room_1 s m #[Value.ref b] below meth c H locs 71 7212 (lw_Z below #[Value.ref b] s) (F0 m 187 ls []) := by
  obtain ⟨hx, hb, hml, hts, hown, hk⟩ := id hZ
  refine lv_aload_n hx hb dL_law_187 rfl (lv_at hl 1 rfl) ?_
  refine k_X7_clearText hZ hP hS hl.1 wd_2_18 ⟨(Nat.le_of_ble_eq_true rfl), (Nat.le_of_ble_eq_true rfl)⟩ (Nat.le_of_ble_eq_true rfl) dL_law_188 ⟨(Nat.le_of_ble_eq_true rfl), (Nat.le_of_ble_eq_true rfl)⟩ hf7 (fun H locs hP hS => ?_)
  refine lv_aload_n hx hb dL_law_191 rfl (lv_at hl 2 rfl) ?_
  refine k_X8_clearText hZ hP hS hl.1 wd_4_7 ⟨(Nat.le_of_ble_eq_true rfl), (Nat.le_of_ble_eq_true rfl)⟩ (Nat.le_of_ble_eq_true rfl) dL_law_192 ⟨(Nat.le_of_ble_eq_true rfl), (Nat.le_of_ble_eq_true rfl)⟩ hf8 (fun H locs hP hS => ?_)
  refine lv_icmp_eq (tgt := 1040) hx hb dL_law_195 (by decide) (fun _ => ?_) (fun h => absurd rfl h)
  exact kk H locs ls hP hS hl
def sim_load (g : Nat) (J : Mem → Prop) : Prop := ∀ (M : Mem), J M → ∃ (r : Int32) (M1 : Mem) (M2 : Mem), fn_X7_load g M = some (r, M1) ∧ fn_X8_load g M1 = some (r, M2) ∧ J M2
set_option maxHeartbeats 4000000 in
theorem lc_load {p : Program} {l : Launch} {e : Env} {s : State} {m : MethodId} {below : List Frame} {meth : Method} {c : Code} {X : En} {b L : Nat} {xs : Nat → Int32} (hL : L ≤ 4096) (hX : va_X b L xs s s.heap) (hbl : b < s.heap.size) (hbA : ¬ X.A b) (hZ : Fx p c m s #[Value.ref b] X code 4 RL) {g i : Nat} (hi : i + 8 ≤ L) {M : Mem} {r : Int32} {M1 : Mem} {M2 : Mem} {H : Heap} {locs : List Loc} {ls : Array Slot} (hP : wd X M H) (hS : va_S X.A s.heap H locs) (hl : lv_has ls 4 [(0, .ref b), (1, .ref (X.ad 0)), (2, .ref (X.ad 61)), (3, .int (nI i))]) (hf7 : fn_X7_load g M = some (r, M1)) (hf8 : fn_X8_load g M1 = some (r, M2))
    (kk : ∀ (H : Heap) (locs : List Loc) (ls : Array Slot), wd X M2 H → va_S X.A s.heap H locs → lv_has ls 4 [(0, .ref b), (1, .ref (X.ad 0)), (2, .ref (X.ad 61)), (3, .int (nI i))] → W p l e room_1 s m #[Value.ref b] below meth c H locs 71 7212 (lw_Z below #[Value.ref b] s) (F0 m 1040 ls [])) : W p l e room_1 s m #[Value.ref b] below meth c H locs 71 7212 (lw_Z below #[Value.ref b] s) (F0 m 200 ls []) := by
  obtain ⟨hx, hb, hml, hts, hown, hk⟩ := id hZ
  refine lv_aload_n hx hb dL_law_200 rfl (lv_at hl 1 rfl) ?_
  refine k_X7_load hZ hP hS hl.1 wd_2_22 ⟨(Nat.le_of_ble_eq_true rfl), (Nat.le_of_ble_eq_true rfl)⟩ (Nat.le_of_ble_eq_true rfl) dL_law_201 ⟨(Nat.le_of_ble_eq_true rfl), (Nat.le_of_ble_eq_true rfl)⟩ hf7 (fun H locs hP hS => ?_)
  refine lv_aload_n hx hb dL_law_204 rfl (lv_at hl 2 rfl) ?_
  refine k_X8_load hZ hP hS hl.1 wd_4_11 ⟨(Nat.le_of_ble_eq_true rfl), (Nat.le_of_ble_eq_true rfl)⟩ (Nat.le_of_ble_eq_true rfl) dL_law_205 ⟨(Nat.le_of_ble_eq_true rfl), (Nat.le_of_ble_eq_true rfl)⟩ hf8 (fun H locs hP hS => ?_)
  refine lv_icmp_eq (tgt := 1040) hx hb dL_law_208 (by decide) (fun _ => ?_) (fun h => absurd rfl h)
  exact kk H locs ls hP hS hl
def sim_faultKind (g : Nat) (J : Mem → Prop) : Prop := ∀ (M : Mem), J M → ∃ (r : Int32), fn_X7_faultKind M = r ∧ fn_X8_faultKind M = r ∧ J M
set_option maxHeartbeats 4000000 in
theorem lc_faultKind {p : Program} {l : Launch} {e : Env} {s : State} {m : MethodId} {below : List Frame} {meth : Method} {c : Code} {X : En} {b L : Nat} {xs : Nat → Int32} (hL : L ≤ 4096) (hX : va_X b L xs s s.heap) (hbl : b < s.heap.size) (hbA : ¬ X.A b) (hZ : Fx p c m s #[Value.ref b] X code 4 RL) {g i : Nat} (hi : i + 8 ≤ L) {M : Mem} {r : Int32} {H : Heap} {locs : List Loc} {ls : Array Slot} (hP : wd X M H) (hS : va_S X.A s.heap H locs) (hl : lv_has ls 4 [(0, .ref b), (1, .ref (X.ad 0)), (2, .ref (X.ad 61)), (3, .int (nI i))]) (hf7 : fn_X7_faultKind M = r) (hf8 : fn_X8_faultKind M = r)
    (kk : ∀ (H : Heap) (locs : List Loc) (ls : Array Slot), wd X M H → va_S X.A s.heap H locs → lv_has ls 4 [(0, .ref b), (1, .ref (X.ad 0)), (2, .ref (X.ad 61)), (3, .int (nI i))] → W p l e room_1 s m #[Value.ref b] below meth c H locs 71 7212 (lw_Z below #[Value.ref b] s) (F0 m 1040 ls [])) : W p l e room_1 s m #[Value.ref b] below meth c H locs 71 7212 (lw_Z below #[Value.ref b] s) (F0 m 213 ls []) := by
  obtain ⟨hx, hb, hml, hts, hown, hk⟩ := id hZ
  refine lv_aload_n hx hb dL_law_213 rfl (lv_at hl 1 rfl) ?_
  refine k_X7_faultKind hZ hP hS hl.1 wd_2_82 ⟨(Nat.le_of_ble_eq_true rfl), (Nat.le_of_ble_eq_true rfl)⟩ (Nat.le_of_ble_eq_true rfl) dL_law_214 ⟨(Nat.le_of_ble_eq_true rfl), (Nat.le_of_ble_eq_true rfl)⟩ (fun H locs hP hS => ?_)
  rw [hf7]
  refine lv_aload_n hx hb dL_law_217 rfl (lv_at hl 2 rfl) ?_
  refine k_X8_faultKind hZ hP hS hl.1 wd_4_51 ⟨(Nat.le_of_ble_eq_true rfl), (Nat.le_of_ble_eq_true rfl)⟩ (Nat.le_of_ble_eq_true rfl) dL_law_218 ⟨(Nat.le_of_ble_eq_true rfl), (Nat.le_of_ble_eq_true rfl)⟩ (fun H locs hP hS => ?_)
  rw [hf8]
  refine lv_icmp_eq (tgt := 1040) hx hb dL_law_221 (by decide) (fun _ => ?_) (fun h => absurd rfl h)
  exact kk H locs ls hP hS hl
def sim_clear (g : Nat) (J : Mem → Prop) : Prop := ∀ (M : Mem), J M → ∃ (r : Int32) (M1 : Mem) (M2 : Mem), fn_X7_clear g M = some (r, M1) ∧ fn_X8_clear g M1 = some (r, M2) ∧ J M2
set_option maxHeartbeats 4000000 in
theorem lc_clear {p : Program} {l : Launch} {e : Env} {s : State} {m : MethodId} {below : List Frame} {meth : Method} {c : Code} {X : En} {b L : Nat} {xs : Nat → Int32} (hL : L ≤ 4096) (hX : va_X b L xs s s.heap) (hbl : b < s.heap.size) (hbA : ¬ X.A b) (hZ : Fx p c m s #[Value.ref b] X code 4 RL) {g i : Nat} (hi : i + 8 ≤ L) {M : Mem} {r : Int32} {M1 : Mem} {M2 : Mem} {H : Heap} {locs : List Loc} {ls : Array Slot} (hP : wd X M H) (hS : va_S X.A s.heap H locs) (hl : lv_has ls 4 [(0, .ref b), (1, .ref (X.ad 0)), (2, .ref (X.ad 61)), (3, .int (nI i))]) (hf7 : fn_X7_clear g M = some (r, M1)) (hf8 : fn_X8_clear g M1 = some (r, M2))
    (kk : ∀ (H : Heap) (locs : List Loc) (ls : Array Slot), wd X M2 H → va_S X.A s.heap H locs → lv_has ls 4 [(0, .ref b), (1, .ref (X.ad 0)), (2, .ref (X.ad 61)), (3, .int (nI i))] → W p l e room_1 s m #[Value.ref b] below meth c H locs 71 7212 (lw_Z below #[Value.ref b] s) (F0 m 1040 ls [])) : W p l e room_1 s m #[Value.ref b] below meth c H locs 71 7212 (lw_Z below #[Value.ref b] s) (F0 m 226 ls []) := by
  obtain ⟨hx, hb, hml, hts, hown, hk⟩ := id hZ
  refine lv_aload_n hx hb dL_law_226 rfl (lv_at hl 1 rfl) ?_
  refine k_X7_clear hZ hP hS hl.1 wd_2_86 ⟨(Nat.le_of_ble_eq_true rfl), (Nat.le_of_ble_eq_true rfl)⟩ (Nat.le_of_ble_eq_true rfl) dL_law_227 ⟨(Nat.le_of_ble_eq_true rfl), (Nat.le_of_ble_eq_true rfl)⟩ hf7 (fun H locs hP hS => ?_)
  refine lv_aload_n hx hb dL_law_230 rfl (lv_at hl 2 rfl) ?_
  refine k_X8_clear hZ hP hS hl.1 wd_4_55 ⟨(Nat.le_of_ble_eq_true rfl), (Nat.le_of_ble_eq_true rfl)⟩ (Nat.le_of_ble_eq_true rfl) dL_law_231 ⟨(Nat.le_of_ble_eq_true rfl), (Nat.le_of_ble_eq_true rfl)⟩ hf8 (fun H locs hP hS => ?_)
  refine lv_icmp_eq (tgt := 1040) hx hb dL_law_234 (by decide) (fun _ => ?_) (fun h => absurd rfl h)
  exact kk H locs ls hP hS hl
def sim_addPiece (g : Nat) (J : Mem → Prop) : Prop := ∀ (x1 : Int32) (x2 : Int32) (x3 : Int32) (x4 : Int32) (x5 : Int32) (x6 : Int32) (M : Mem), J M → ∃ (r : Int32) (M1 : Mem) (M2 : Mem), fn_X7_addPiece g x1 x2 x3 x4 x5 x6 M = some (r, M1) ∧ fn_X8_addPiece g x1 x2 x3 x4 x5 x6 M1 = some (r, M2) ∧ J M2
set_option maxHeartbeats 4000000 in
theorem lc_addPiece {p : Program} {l : Launch} {e : Env} {s : State} {m : MethodId} {below : List Frame} {meth : Method} {c : Code} {X : En} {b L : Nat} {xs : Nat → Int32} (hL : L ≤ 4096) (hX : va_X b L xs s s.heap) (hbl : b < s.heap.size) (hbA : ¬ X.A b) (hZ : Fx p c m s #[Value.ref b] X code 4 RL) {g i : Nat} (hi : i + 8 ≤ L) {M : Mem} {r : Int32} {M1 : Mem} {M2 : Mem} {H : Heap} {locs : List Loc} {ls : Array Slot} (hP : wd X M H) (hS : va_S X.A s.heap H locs) (hl : lv_has ls 4 [(0, .ref b), (1, .ref (X.ad 0)), (2, .ref (X.ad 61)), (3, .int (nI i))]) (hf7 : fn_X7_addPiece g (xs (nI i + (1 : Int32)).toNatClampNeg) (xs (nI i + (2 : Int32)).toNatClampNeg) (xs (nI i + (3 : Int32)).toNatClampNeg) (xs (nI i + (4 : Int32)).toNatClampNeg) (xs (nI i + (5 : Int32)).toNatClampNeg) (xs (nI i + (6 : Int32)).toNatClampNeg) M = some (r, M1)) (hf8 : fn_X8_addPiece g (xs (nI i + (1 : Int32)).toNatClampNeg) (xs (nI i + (2 : Int32)).toNatClampNeg) (xs (nI i + (3 : Int32)).toNatClampNeg) (xs (nI i + (4 : Int32)).toNatClampNeg) (xs (nI i + (5 : Int32)).toNatClampNeg) (xs (nI i + (6 : Int32)).toNatClampNeg) M1 = some (r, M2))
    (kk : ∀ (H : Heap) (locs : List Loc) (ls : Array Slot), wd X M2 H → va_S X.A s.heap H locs → lv_has ls 4 [(0, .ref b), (1, .ref (X.ad 0)), (2, .ref (X.ad 61)), (3, .int (nI i))] → W p l e room_1 s m #[Value.ref b] below meth c H locs 71 7212 (lw_Z below #[Value.ref b] s) (F0 m 1040 ls [])) : W p l e room_1 s m #[Value.ref b] below meth c H locs 71 7212 (lw_Z below #[Value.ref b] s) (F0 m 239 ls []) := by
  obtain ⟨hx, hb, hml, hts, hown, hk⟩ := id hZ
  refine lv_aload_n hx hb dL_law_239 rfl (lv_at hl 1 rfl) ?_
  refine lv_aload_n hx hb dL_law_240 rfl (lv_at hl 0 rfl) ?_
  refine lv_iload_n hx hb dL_law_241 rfl (lv_at hl 3 rfl) ?_
  refine lv_iconst (v := (1 : Int32)) hx hb dL_law_242 (by decide) ?_
  refine lv_iadd hx hb dL_law_243 ?_
  refine va_sld hx hb hX hbl hbA hS (xs_in 1 (by decide) hi hL (by decide)) dL_law_244 ?_
  refine lv_aload_n hx hb dL_law_245 rfl (lv_at hl 0 rfl) ?_
  refine lv_iload_n hx hb dL_law_246 rfl (lv_at hl 3 rfl) ?_
  refine lv_iconst (v := (2 : Int32)) hx hb dL_law_247 (by decide) ?_
  refine lv_iadd hx hb dL_law_248 ?_
  refine va_sld hx hb hX hbl hbA hS (xs_in 2 (by decide) hi hL (by decide)) dL_law_249 ?_
  refine lv_aload_n hx hb dL_law_250 rfl (lv_at hl 0 rfl) ?_
  refine lv_iload_n hx hb dL_law_251 rfl (lv_at hl 3 rfl) ?_
  refine lv_iconst (v := (3 : Int32)) hx hb dL_law_252 (by decide) ?_
  refine lv_iadd hx hb dL_law_253 ?_
  refine va_sld hx hb hX hbl hbA hS (xs_in 3 (by decide) hi hL (by decide)) dL_law_254 ?_
  refine lv_aload_n hx hb dL_law_255 rfl (lv_at hl 0 rfl) ?_
  refine lv_iload_n hx hb dL_law_256 rfl (lv_at hl 3 rfl) ?_
  refine lv_iconst (v := (4 : Int32)) hx hb dL_law_257 (by decide) ?_
  refine lv_iadd hx hb dL_law_258 ?_
  refine va_sld hx hb hX hbl hbA hS (xs_in 4 (by decide) hi hL (by decide)) dL_law_259 ?_
  refine lv_aload_n hx hb dL_law_260 rfl (lv_at hl 0 rfl) ?_
  refine lv_iload_n hx hb dL_law_261 rfl (lv_at hl 3 rfl) ?_
  refine lv_iconst (v := (5 : Int32)) hx hb dL_law_262 (by decide) ?_
  refine lv_iadd hx hb dL_law_263 ?_
  refine va_sld hx hb hX hbl hbA hS (xs_in 5 (by decide) hi hL (by decide)) dL_law_264 ?_
  refine lv_aload_n hx hb dL_law_265 rfl (lv_at hl 0 rfl) ?_
  refine lv_iload_n hx hb dL_law_266 rfl (lv_at hl 3 rfl) ?_
  refine lv_bipush (v := (6 : Int32)) hx hb dL_law_267 (by decide) ?_
  refine lv_iadd hx hb dL_law_269 ?_
  refine va_sld hx hb hX hbl hbA hS (xs_in 6 (by decide) hi hL (by decide)) dL_law_270 ?_
  refine k_X7_addPiece hZ hP hS hl.1 wd_2_91 ⟨(Nat.le_of_ble_eq_true rfl), (Nat.le_of_ble_eq_true rfl)⟩ (Nat.le_of_ble_eq_true rfl) dL_law_271 ⟨(Nat.le_of_ble_eq_true rfl), (Nat.le_of_ble_eq_true rfl)⟩ hf7 (fun H locs hP hS => ?_)
  refine lv_aload_n hx hb dL_law_274 rfl (lv_at hl 2 rfl) ?_
  refine lv_aload_n hx hb dL_law_275 rfl (lv_at hl 0 rfl) ?_
  refine lv_iload_n hx hb dL_law_276 rfl (lv_at hl 3 rfl) ?_
  refine lv_iconst (v := (1 : Int32)) hx hb dL_law_277 (by decide) ?_
  refine lv_iadd hx hb dL_law_278 ?_
  refine va_sld hx hb hX hbl hbA hS (xs_in 1 (by decide) hi hL (by decide)) dL_law_279 ?_
  refine lv_aload_n hx hb dL_law_280 rfl (lv_at hl 0 rfl) ?_
  refine lv_iload_n hx hb dL_law_281 rfl (lv_at hl 3 rfl) ?_
  refine lv_iconst (v := (2 : Int32)) hx hb dL_law_282 (by decide) ?_
  refine lv_iadd hx hb dL_law_283 ?_
  refine va_sld hx hb hX hbl hbA hS (xs_in 2 (by decide) hi hL (by decide)) dL_law_284 ?_
  refine lv_aload_n hx hb dL_law_285 rfl (lv_at hl 0 rfl) ?_
  refine lv_iload_n hx hb dL_law_286 rfl (lv_at hl 3 rfl) ?_
  refine lv_iconst (v := (3 : Int32)) hx hb dL_law_287 (by decide) ?_
  refine lv_iadd hx hb dL_law_288 ?_
  refine va_sld hx hb hX hbl hbA hS (xs_in 3 (by decide) hi hL (by decide)) dL_law_289 ?_
  refine lv_aload_n hx hb dL_law_290 rfl (lv_at hl 0 rfl) ?_
  refine lv_iload_n hx hb dL_law_291 rfl (lv_at hl 3 rfl) ?_
  refine lv_iconst (v := (4 : Int32)) hx hb dL_law_292 (by decide) ?_
  refine lv_iadd hx hb dL_law_293 ?_
  refine va_sld hx hb hX hbl hbA hS (xs_in 4 (by decide) hi hL (by decide)) dL_law_294 ?_
  refine lv_aload_n hx hb dL_law_295 rfl (lv_at hl 0 rfl) ?_
  refine lv_iload_n hx hb dL_law_296 rfl (lv_at hl 3 rfl) ?_
  refine lv_iconst (v := (5 : Int32)) hx hb dL_law_297 (by decide) ?_
  refine lv_iadd hx hb dL_law_298 ?_
  refine va_sld hx hb hX hbl hbA hS (xs_in 5 (by decide) hi hL (by decide)) dL_law_299 ?_
  refine lv_aload_n hx hb dL_law_300 rfl (lv_at hl 0 rfl) ?_
  refine lv_iload_n hx hb dL_law_301 rfl (lv_at hl 3 rfl) ?_
  refine lv_bipush (v := (6 : Int32)) hx hb dL_law_302 (by decide) ?_
  refine lv_iadd hx hb dL_law_304 ?_
  refine va_sld hx hb hX hbl hbA hS (xs_in 6 (by decide) hi hL (by decide)) dL_law_305 ?_
  refine k_X8_addPiece hZ hP hS hl.1 wd_4_59 ⟨(Nat.le_of_ble_eq_true rfl), (Nat.le_of_ble_eq_true rfl)⟩ (Nat.le_of_ble_eq_true rfl) dL_law_306 ⟨(Nat.le_of_ble_eq_true rfl), (Nat.le_of_ble_eq_true rfl)⟩ hf8 (fun H locs hP hS => ?_)
  refine lv_icmp_eq (tgt := 1040) hx hb dL_law_309 (by decide) (fun _ => ?_) (fun h => absurd rfl h)
  exact kk H locs ls hP hS hl
def sim_extend (g : Nat) (J : Mem → Prop) : Prop := ∀ (x1 : Int32) (x2 : Int32) (x3 : Int32) (x4 : Int32) (x5 : Int32) (x6 : Int32) (x7 : Int32) (M : Mem), J M → ∃ (r : Int32) (M1 : Mem) (M2 : Mem), fn_X7_extend g x1 x2 x3 x4 x5 x6 x7 M = some (r, M1) ∧ fn_X8_extend g x1 x2 x3 x4 x5 x6 x7 M1 = some (r, M2) ∧ J M2
set_option maxHeartbeats 4000000 in
theorem lc_extend {p : Program} {l : Launch} {e : Env} {s : State} {m : MethodId} {below : List Frame} {meth : Method} {c : Code} {X : En} {b L : Nat} {xs : Nat → Int32} (hL : L ≤ 4096) (hX : va_X b L xs s s.heap) (hbl : b < s.heap.size) (hbA : ¬ X.A b) (hZ : Fx p c m s #[Value.ref b] X code 4 RL) {g i : Nat} (hi : i + 8 ≤ L) {M : Mem} {r : Int32} {M1 : Mem} {M2 : Mem} {H : Heap} {locs : List Loc} {ls : Array Slot} (hP : wd X M H) (hS : va_S X.A s.heap H locs) (hl : lv_has ls 4 [(0, .ref b), (1, .ref (X.ad 0)), (2, .ref (X.ad 61)), (3, .int (nI i))]) (hf7 : fn_X7_extend g (xs (nI i + (1 : Int32)).toNatClampNeg) (xs (nI i + (2 : Int32)).toNatClampNeg) (xs (nI i + (3 : Int32)).toNatClampNeg) (xs (nI i + (4 : Int32)).toNatClampNeg) (xs (nI i + (5 : Int32)).toNatClampNeg) (xs (nI i + (6 : Int32)).toNatClampNeg) (xs (nI i + (7 : Int32)).toNatClampNeg) M = some (r, M1)) (hf8 : fn_X8_extend g (xs (nI i + (1 : Int32)).toNatClampNeg) (xs (nI i + (2 : Int32)).toNatClampNeg) (xs (nI i + (3 : Int32)).toNatClampNeg) (xs (nI i + (4 : Int32)).toNatClampNeg) (xs (nI i + (5 : Int32)).toNatClampNeg) (xs (nI i + (6 : Int32)).toNatClampNeg) (xs (nI i + (7 : Int32)).toNatClampNeg) M1 = some (r, M2))
    (kk : ∀ (H : Heap) (locs : List Loc) (ls : Array Slot), wd X M2 H → va_S X.A s.heap H locs → lv_has ls 4 [(0, .ref b), (1, .ref (X.ad 0)), (2, .ref (X.ad 61)), (3, .int (nI i))] → W p l e room_1 s m #[Value.ref b] below meth c H locs 71 7212 (lw_Z below #[Value.ref b] s) (F0 m 1040 ls [])) : W p l e room_1 s m #[Value.ref b] below meth c H locs 71 7212 (lw_Z below #[Value.ref b] s) (F0 m 314 ls []) := by
  obtain ⟨hx, hb, hml, hts, hown, hk⟩ := id hZ
  refine lv_aload_n hx hb dL_law_314 rfl (lv_at hl 1 rfl) ?_
  refine lv_aload_n hx hb dL_law_315 rfl (lv_at hl 0 rfl) ?_
  refine lv_iload_n hx hb dL_law_316 rfl (lv_at hl 3 rfl) ?_
  refine lv_iconst (v := (1 : Int32)) hx hb dL_law_317 (by decide) ?_
  refine lv_iadd hx hb dL_law_318 ?_
  refine va_sld hx hb hX hbl hbA hS (xs_in 1 (by decide) hi hL (by decide)) dL_law_319 ?_
  refine lv_aload_n hx hb dL_law_320 rfl (lv_at hl 0 rfl) ?_
  refine lv_iload_n hx hb dL_law_321 rfl (lv_at hl 3 rfl) ?_
  refine lv_iconst (v := (2 : Int32)) hx hb dL_law_322 (by decide) ?_
  refine lv_iadd hx hb dL_law_323 ?_
  refine va_sld hx hb hX hbl hbA hS (xs_in 2 (by decide) hi hL (by decide)) dL_law_324 ?_
  refine lv_aload_n hx hb dL_law_325 rfl (lv_at hl 0 rfl) ?_
  refine lv_iload_n hx hb dL_law_326 rfl (lv_at hl 3 rfl) ?_
  refine lv_iconst (v := (3 : Int32)) hx hb dL_law_327 (by decide) ?_
  refine lv_iadd hx hb dL_law_328 ?_
  refine va_sld hx hb hX hbl hbA hS (xs_in 3 (by decide) hi hL (by decide)) dL_law_329 ?_
  refine lv_aload_n hx hb dL_law_330 rfl (lv_at hl 0 rfl) ?_
  refine lv_iload_n hx hb dL_law_331 rfl (lv_at hl 3 rfl) ?_
  refine lv_iconst (v := (4 : Int32)) hx hb dL_law_332 (by decide) ?_
  refine lv_iadd hx hb dL_law_333 ?_
  refine va_sld hx hb hX hbl hbA hS (xs_in 4 (by decide) hi hL (by decide)) dL_law_334 ?_
  refine lv_aload_n hx hb dL_law_335 rfl (lv_at hl 0 rfl) ?_
  refine lv_iload_n hx hb dL_law_336 rfl (lv_at hl 3 rfl) ?_
  refine lv_iconst (v := (5 : Int32)) hx hb dL_law_337 (by decide) ?_
  refine lv_iadd hx hb dL_law_338 ?_
  refine va_sld hx hb hX hbl hbA hS (xs_in 5 (by decide) hi hL (by decide)) dL_law_339 ?_
  refine lv_aload_n hx hb dL_law_340 rfl (lv_at hl 0 rfl) ?_
  refine lv_iload_n hx hb dL_law_341 rfl (lv_at hl 3 rfl) ?_
  refine lv_bipush (v := (6 : Int32)) hx hb dL_law_342 (by decide) ?_
  refine lv_iadd hx hb dL_law_344 ?_
  refine va_sld hx hb hX hbl hbA hS (xs_in 6 (by decide) hi hL (by decide)) dL_law_345 ?_
  refine lv_aload_n hx hb dL_law_346 rfl (lv_at hl 0 rfl) ?_
  refine lv_iload_n hx hb dL_law_347 rfl (lv_at hl 3 rfl) ?_
  refine lv_bipush (v := (7 : Int32)) hx hb dL_law_348 (by decide) ?_
  refine lv_iadd hx hb dL_law_350 ?_
  refine va_sld hx hb hX hbl hbA hS (xs_in 7 (by decide) hi hL (by decide)) dL_law_351 ?_
  refine k_X7_extend hZ hP hS hl.1 wd_2_102 ⟨(Nat.le_of_ble_eq_true rfl), (Nat.le_of_ble_eq_true rfl)⟩ (Nat.le_of_ble_eq_true rfl) dL_law_352 ⟨(Nat.le_of_ble_eq_true rfl), (Nat.le_of_ble_eq_true rfl)⟩ hf7 (fun H locs hP hS => ?_)
  refine lv_aload_n hx hb dL_law_355 rfl (lv_at hl 2 rfl) ?_
  refine lv_aload_n hx hb dL_law_356 rfl (lv_at hl 0 rfl) ?_
  refine lv_iload_n hx hb dL_law_357 rfl (lv_at hl 3 rfl) ?_
  refine lv_iconst (v := (1 : Int32)) hx hb dL_law_358 (by decide) ?_
  refine lv_iadd hx hb dL_law_359 ?_
  refine va_sld hx hb hX hbl hbA hS (xs_in 1 (by decide) hi hL (by decide)) dL_law_360 ?_
  refine lv_aload_n hx hb dL_law_361 rfl (lv_at hl 0 rfl) ?_
  refine lv_iload_n hx hb dL_law_362 rfl (lv_at hl 3 rfl) ?_
  refine lv_iconst (v := (2 : Int32)) hx hb dL_law_363 (by decide) ?_
  refine lv_iadd hx hb dL_law_364 ?_
  refine va_sld hx hb hX hbl hbA hS (xs_in 2 (by decide) hi hL (by decide)) dL_law_365 ?_
  refine lv_aload_n hx hb dL_law_366 rfl (lv_at hl 0 rfl) ?_
  refine lv_iload_n hx hb dL_law_367 rfl (lv_at hl 3 rfl) ?_
  refine lv_iconst (v := (3 : Int32)) hx hb dL_law_368 (by decide) ?_
  refine lv_iadd hx hb dL_law_369 ?_
  refine va_sld hx hb hX hbl hbA hS (xs_in 3 (by decide) hi hL (by decide)) dL_law_370 ?_
  refine lv_aload_n hx hb dL_law_371 rfl (lv_at hl 0 rfl) ?_
  refine lv_iload_n hx hb dL_law_372 rfl (lv_at hl 3 rfl) ?_
  refine lv_iconst (v := (4 : Int32)) hx hb dL_law_373 (by decide) ?_
  refine lv_iadd hx hb dL_law_374 ?_
  refine va_sld hx hb hX hbl hbA hS (xs_in 4 (by decide) hi hL (by decide)) dL_law_375 ?_
  refine lv_aload_n hx hb dL_law_376 rfl (lv_at hl 0 rfl) ?_
  refine lv_iload_n hx hb dL_law_377 rfl (lv_at hl 3 rfl) ?_
  refine lv_iconst (v := (5 : Int32)) hx hb dL_law_378 (by decide) ?_
  refine lv_iadd hx hb dL_law_379 ?_
  refine va_sld hx hb hX hbl hbA hS (xs_in 5 (by decide) hi hL (by decide)) dL_law_380 ?_
  refine lv_aload_n hx hb dL_law_381 rfl (lv_at hl 0 rfl) ?_
  refine lv_iload_n hx hb dL_law_382 rfl (lv_at hl 3 rfl) ?_
  refine lv_bipush (v := (6 : Int32)) hx hb dL_law_383 (by decide) ?_
  refine lv_iadd hx hb dL_law_385 ?_
  refine va_sld hx hb hX hbl hbA hS (xs_in 6 (by decide) hi hL (by decide)) dL_law_386 ?_
  refine lv_aload_n hx hb dL_law_387 rfl (lv_at hl 0 rfl) ?_
  refine lv_iload_n hx hb dL_law_388 rfl (lv_at hl 3 rfl) ?_
  refine lv_bipush (v := (7 : Int32)) hx hb dL_law_389 (by decide) ?_
  refine lv_iadd hx hb dL_law_391 ?_
  refine va_sld hx hb hX hbl hbA hS (xs_in 7 (by decide) hi hL (by decide)) dL_law_392 ?_
  refine k_X8_extend hZ hP hS hl.1 wd_4_66 ⟨(Nat.le_of_ble_eq_true rfl), (Nat.le_of_ble_eq_true rfl)⟩ (Nat.le_of_ble_eq_true rfl) dL_law_393 ⟨(Nat.le_of_ble_eq_true rfl), (Nat.le_of_ble_eq_true rfl)⟩ hf8 (fun H locs hP hS => ?_)
  refine lv_icmp_eq (tgt := 1040) hx hb dL_law_396 (by decide) (fun _ => ?_) (fun h => absurd rfl h)
  exact kk H locs ls hP hS hl
def sim_drop (g : Nat) (J : Mem → Prop) : Prop := ∀ (x1 : Int32) (M : Mem), J M → ∃ (r : Int32) (M1 : Mem) (M2 : Mem), fn_X7_drop g x1 M = some (r, M1) ∧ fn_X8_drop g x1 M1 = some (r, M2) ∧ J M2
set_option maxHeartbeats 4000000 in
theorem lc_drop {p : Program} {l : Launch} {e : Env} {s : State} {m : MethodId} {below : List Frame} {meth : Method} {c : Code} {X : En} {b L : Nat} {xs : Nat → Int32} (hL : L ≤ 4096) (hX : va_X b L xs s s.heap) (hbl : b < s.heap.size) (hbA : ¬ X.A b) (hZ : Fx p c m s #[Value.ref b] X code 4 RL) {g i : Nat} (hi : i + 8 ≤ L) {M : Mem} {r : Int32} {M1 : Mem} {M2 : Mem} {H : Heap} {locs : List Loc} {ls : Array Slot} (hP : wd X M H) (hS : va_S X.A s.heap H locs) (hl : lv_has ls 4 [(0, .ref b), (1, .ref (X.ad 0)), (2, .ref (X.ad 61)), (3, .int (nI i))]) (hf7 : fn_X7_drop g (xs (nI i + (1 : Int32)).toNatClampNeg) M = some (r, M1)) (hf8 : fn_X8_drop g (xs (nI i + (1 : Int32)).toNatClampNeg) M1 = some (r, M2))
    (kk : ∀ (H : Heap) (locs : List Loc) (ls : Array Slot), wd X M2 H → va_S X.A s.heap H locs → lv_has ls 4 [(0, .ref b), (1, .ref (X.ad 0)), (2, .ref (X.ad 61)), (3, .int (nI i))] → W p l e room_1 s m #[Value.ref b] below meth c H locs 71 7212 (lw_Z below #[Value.ref b] s) (F0 m 1040 ls [])) : W p l e room_1 s m #[Value.ref b] below meth c H locs 71 7212 (lw_Z below #[Value.ref b] s) (F0 m 401 ls []) := by
  obtain ⟨hx, hb, hml, hts, hown, hk⟩ := id hZ
  refine lv_aload_n hx hb dL_law_401 rfl (lv_at hl 1 rfl) ?_
  refine lv_aload_n hx hb dL_law_402 rfl (lv_at hl 0 rfl) ?_
  refine lv_iload_n hx hb dL_law_403 rfl (lv_at hl 3 rfl) ?_
  refine lv_iconst (v := (1 : Int32)) hx hb dL_law_404 (by decide) ?_
  refine lv_iadd hx hb dL_law_405 ?_
  refine va_sld hx hb hX hbl hbA hS (xs_in 1 (by decide) hi hL (by decide)) dL_law_406 ?_
  refine k_X7_drop hZ hP hS hl.1 wd_2_129 ⟨(Nat.le_of_ble_eq_true rfl), (Nat.le_of_ble_eq_true rfl)⟩ (Nat.le_of_ble_eq_true rfl) dL_law_407 ⟨(Nat.le_of_ble_eq_true rfl), (Nat.le_of_ble_eq_true rfl)⟩ hf7 (fun H locs hP hS => ?_)
  refine lv_aload_n hx hb dL_law_410 rfl (lv_at hl 2 rfl) ?_
  refine lv_aload_n hx hb dL_law_411 rfl (lv_at hl 0 rfl) ?_
  refine lv_iload_n hx hb dL_law_412 rfl (lv_at hl 3 rfl) ?_
  refine lv_iconst (v := (1 : Int32)) hx hb dL_law_413 (by decide) ?_
  refine lv_iadd hx hb dL_law_414 ?_
  refine va_sld hx hb hX hbl hbA hS (xs_in 1 (by decide) hi hL (by decide)) dL_law_415 ?_
  refine k_X8_drop hZ hP hS hl.1 wd_4_78 ⟨(Nat.le_of_ble_eq_true rfl), (Nat.le_of_ble_eq_true rfl)⟩ (Nat.le_of_ble_eq_true rfl) dL_law_416 ⟨(Nat.le_of_ble_eq_true rfl), (Nat.le_of_ble_eq_true rfl)⟩ hf8 (fun H locs hP hS => ?_)
  refine lv_icmp_eq (tgt := 1040) hx hb dL_law_419 (by decide) (fun _ => ?_) (fun h => absurd rfl h)
  exact kk H locs ls hP hS hl
def sim_shift (g : Nat) (J : Mem → Prop) : Prop := ∀ (x1 : Int32) (x2 : Int32) (M : Mem), J M → ∃ (r : Int32) (M1 : Mem) (M2 : Mem), fn_X7_shift g x1 x2 M = some (r, M1) ∧ fn_X8_shift g x1 x2 M1 = some (r, M2) ∧ J M2
set_option maxHeartbeats 4000000 in
theorem lc_shift {p : Program} {l : Launch} {e : Env} {s : State} {m : MethodId} {below : List Frame} {meth : Method} {c : Code} {X : En} {b L : Nat} {xs : Nat → Int32} (hL : L ≤ 4096) (hX : va_X b L xs s s.heap) (hbl : b < s.heap.size) (hbA : ¬ X.A b) (hZ : Fx p c m s #[Value.ref b] X code 4 RL) {g i : Nat} (hi : i + 8 ≤ L) {M : Mem} {r : Int32} {M1 : Mem} {M2 : Mem} {H : Heap} {locs : List Loc} {ls : Array Slot} (hP : wd X M H) (hS : va_S X.A s.heap H locs) (hl : lv_has ls 4 [(0, .ref b), (1, .ref (X.ad 0)), (2, .ref (X.ad 61)), (3, .int (nI i))]) (hf7 : fn_X7_shift g (xs (nI i + (1 : Int32)).toNatClampNeg) (xs (nI i + (2 : Int32)).toNatClampNeg) M = some (r, M1)) (hf8 : fn_X8_shift g (xs (nI i + (1 : Int32)).toNatClampNeg) (xs (nI i + (2 : Int32)).toNatClampNeg) M1 = some (r, M2))
    (kk : ∀ (H : Heap) (locs : List Loc) (ls : Array Slot), wd X M2 H → va_S X.A s.heap H locs → lv_has ls 4 [(0, .ref b), (1, .ref (X.ad 0)), (2, .ref (X.ad 61)), (3, .int (nI i))] → W p l e room_1 s m #[Value.ref b] below meth c H locs 71 7212 (lw_Z below #[Value.ref b] s) (F0 m 1040 ls [])) : W p l e room_1 s m #[Value.ref b] below meth c H locs 71 7212 (lw_Z below #[Value.ref b] s) (F0 m 424 ls []) := by
  obtain ⟨hx, hb, hml, hts, hown, hk⟩ := id hZ
  refine lv_aload_n hx hb dL_law_424 rfl (lv_at hl 1 rfl) ?_
  refine lv_aload_n hx hb dL_law_425 rfl (lv_at hl 0 rfl) ?_
  refine lv_iload_n hx hb dL_law_426 rfl (lv_at hl 3 rfl) ?_
  refine lv_iconst (v := (1 : Int32)) hx hb dL_law_427 (by decide) ?_
  refine lv_iadd hx hb dL_law_428 ?_
  refine va_sld hx hb hX hbl hbA hS (xs_in 1 (by decide) hi hL (by decide)) dL_law_429 ?_
  refine lv_aload_n hx hb dL_law_430 rfl (lv_at hl 0 rfl) ?_
  refine lv_iload_n hx hb dL_law_431 rfl (lv_at hl 3 rfl) ?_
  refine lv_iconst (v := (2 : Int32)) hx hb dL_law_432 (by decide) ?_
  refine lv_iadd hx hb dL_law_433 ?_
  refine va_sld hx hb hX hbl hbA hS (xs_in 2 (by decide) hi hL (by decide)) dL_law_434 ?_
  refine k_X7_shift hZ hP hS hl.1 wd_2_137 ⟨(Nat.le_of_ble_eq_true rfl), (Nat.le_of_ble_eq_true rfl)⟩ (Nat.le_of_ble_eq_true rfl) dL_law_435 ⟨(Nat.le_of_ble_eq_true rfl), (Nat.le_of_ble_eq_true rfl)⟩ hf7 (fun H locs hP hS => ?_)
  refine lv_aload_n hx hb dL_law_438 rfl (lv_at hl 2 rfl) ?_
  refine lv_aload_n hx hb dL_law_439 rfl (lv_at hl 0 rfl) ?_
  refine lv_iload_n hx hb dL_law_440 rfl (lv_at hl 3 rfl) ?_
  refine lv_iconst (v := (1 : Int32)) hx hb dL_law_441 (by decide) ?_
  refine lv_iadd hx hb dL_law_442 ?_
  refine va_sld hx hb hX hbl hbA hS (xs_in 1 (by decide) hi hL (by decide)) dL_law_443 ?_
  refine lv_aload_n hx hb dL_law_444 rfl (lv_at hl 0 rfl) ?_
  refine lv_iload_n hx hb dL_law_445 rfl (lv_at hl 3 rfl) ?_
  refine lv_iconst (v := (2 : Int32)) hx hb dL_law_446 (by decide) ?_
  refine lv_iadd hx hb dL_law_447 ?_
  refine va_sld hx hb hX hbl hbA hS (xs_in 2 (by decide) hi hL (by decide)) dL_law_448 ?_
  refine k_X8_shift hZ hP hS hl.1 wd_4_82 ⟨(Nat.le_of_ble_eq_true rfl), (Nat.le_of_ble_eq_true rfl)⟩ (Nat.le_of_ble_eq_true rfl) dL_law_449 ⟨(Nat.le_of_ble_eq_true rfl), (Nat.le_of_ble_eq_true rfl)⟩ hf8 (fun H locs hP hS => ?_)
  refine lv_icmp_eq (tgt := 1040) hx hb dL_law_452 (by decide) (fun _ => ?_) (fun h => absurd rfl h)
  exact kk H locs ls hP hS hl
def sim_pieceAt (g : Nat) (J : Mem → Prop) : Prop := ∀ (x1 : Int32) (x2 : Int32) (x3 : Int32) (M : Mem), J M → ∃ (r : Int32), fn_X7_pieceAt x1 x2 x3 M = some r ∧ fn_X8_pieceAt x1 x2 x3 M = some r ∧ J M
set_option maxHeartbeats 4000000 in
theorem lc_pieceAt {p : Program} {l : Launch} {e : Env} {s : State} {m : MethodId} {below : List Frame} {meth : Method} {c : Code} {X : En} {b L : Nat} {xs : Nat → Int32} (hL : L ≤ 4096) (hX : va_X b L xs s s.heap) (hbl : b < s.heap.size) (hbA : ¬ X.A b) (hZ : Fx p c m s #[Value.ref b] X code 4 RL) {g i : Nat} (hi : i + 8 ≤ L) {M : Mem} {r : Int32} {H : Heap} {locs : List Loc} {ls : Array Slot} (hP : wd X M H) (hS : va_S X.A s.heap H locs) (hl : lv_has ls 4 [(0, .ref b), (1, .ref (X.ad 0)), (2, .ref (X.ad 61)), (3, .int (nI i))]) (hf7 : fn_X7_pieceAt (xs (nI i + (1 : Int32)).toNatClampNeg) (xs (nI i + (2 : Int32)).toNatClampNeg) (xs (nI i + (3 : Int32)).toNatClampNeg) M = some r) (hf8 : fn_X8_pieceAt (xs (nI i + (1 : Int32)).toNatClampNeg) (xs (nI i + (2 : Int32)).toNatClampNeg) (xs (nI i + (3 : Int32)).toNatClampNeg) M = some r)
    (kk : ∀ (H : Heap) (locs : List Loc) (ls : Array Slot), wd X M H → va_S X.A s.heap H locs → lv_has ls 4 [(0, .ref b), (1, .ref (X.ad 0)), (2, .ref (X.ad 61)), (3, .int (nI i))] → W p l e room_1 s m #[Value.ref b] below meth c H locs 71 7212 (lw_Z below #[Value.ref b] s) (F0 m 1040 ls [])) : W p l e room_1 s m #[Value.ref b] below meth c H locs 71 7212 (lw_Z below #[Value.ref b] s) (F0 m 457 ls []) := by
  obtain ⟨hx, hb, hml, hts, hown, hk⟩ := id hZ
  refine lv_aload_n hx hb dL_law_457 rfl (lv_at hl 1 rfl) ?_
  refine lv_aload_n hx hb dL_law_458 rfl (lv_at hl 0 rfl) ?_
  refine lv_iload_n hx hb dL_law_459 rfl (lv_at hl 3 rfl) ?_
  refine lv_iconst (v := (1 : Int32)) hx hb dL_law_460 (by decide) ?_
  refine lv_iadd hx hb dL_law_461 ?_
  refine va_sld hx hb hX hbl hbA hS (xs_in 1 (by decide) hi hL (by decide)) dL_law_462 ?_
  refine lv_aload_n hx hb dL_law_463 rfl (lv_at hl 0 rfl) ?_
  refine lv_iload_n hx hb dL_law_464 rfl (lv_at hl 3 rfl) ?_
  refine lv_iconst (v := (2 : Int32)) hx hb dL_law_465 (by decide) ?_
  refine lv_iadd hx hb dL_law_466 ?_
  refine va_sld hx hb hX hbl hbA hS (xs_in 2 (by decide) hi hL (by decide)) dL_law_467 ?_
  refine lv_aload_n hx hb dL_law_468 rfl (lv_at hl 0 rfl) ?_
  refine lv_iload_n hx hb dL_law_469 rfl (lv_at hl 3 rfl) ?_
  refine lv_iconst (v := (3 : Int32)) hx hb dL_law_470 (by decide) ?_
  refine lv_iadd hx hb dL_law_471 ?_
  refine va_sld hx hb hX hbl hbA hS (xs_in 3 (by decide) hi hL (by decide)) dL_law_472 ?_
  refine k_X7_pieceAt hZ hP hS hl.1 wd_2_167 ⟨(Nat.le_of_ble_eq_true rfl), (Nat.le_of_ble_eq_true rfl)⟩ (Nat.le_of_ble_eq_true rfl) dL_law_473 ⟨(Nat.le_of_ble_eq_true rfl), (Nat.le_of_ble_eq_true rfl)⟩ hf7 (fun H locs hP hS => ?_)
  refine lv_aload_n hx hb dL_law_476 rfl (lv_at hl 2 rfl) ?_
  refine lv_aload_n hx hb dL_law_477 rfl (lv_at hl 0 rfl) ?_
  refine lv_iload_n hx hb dL_law_478 rfl (lv_at hl 3 rfl) ?_
  refine lv_iconst (v := (1 : Int32)) hx hb dL_law_479 (by decide) ?_
  refine lv_iadd hx hb dL_law_480 ?_
  refine va_sld hx hb hX hbl hbA hS (xs_in 1 (by decide) hi hL (by decide)) dL_law_481 ?_
  refine lv_aload_n hx hb dL_law_482 rfl (lv_at hl 0 rfl) ?_
  refine lv_iload_n hx hb dL_law_483 rfl (lv_at hl 3 rfl) ?_
  refine lv_iconst (v := (2 : Int32)) hx hb dL_law_484 (by decide) ?_
  refine lv_iadd hx hb dL_law_485 ?_
  refine va_sld hx hb hX hbl hbA hS (xs_in 2 (by decide) hi hL (by decide)) dL_law_486 ?_
  refine lv_aload_n hx hb dL_law_487 rfl (lv_at hl 0 rfl) ?_
  refine lv_iload_n hx hb dL_law_488 rfl (lv_at hl 3 rfl) ?_
  refine lv_iconst (v := (3 : Int32)) hx hb dL_law_489 (by decide) ?_
  refine lv_iadd hx hb dL_law_490 ?_
  refine va_sld hx hb hX hbl hbA hS (xs_in 3 (by decide) hi hL (by decide)) dL_law_491 ?_
  refine k_X8_pieceAt hZ hP hS hl.1 wd_4_97 ⟨(Nat.le_of_ble_eq_true rfl), (Nat.le_of_ble_eq_true rfl)⟩ (Nat.le_of_ble_eq_true rfl) dL_law_492 ⟨(Nat.le_of_ble_eq_true rfl), (Nat.le_of_ble_eq_true rfl)⟩ hf8 (fun H locs hP hS => ?_)
  refine lv_icmp_eq (tgt := 1040) hx hb dL_law_495 (by decide) (fun _ => ?_) (fun h => absurd rfl h)
  exact kk H locs ls hP hS hl
def sim_piece (g : Nat) (J : Mem → Prop) : Prop := ∀ (x1 : Int32) (x2 : Int32) (M : Mem), J M → ∃ (r : Int32) (M1 : Mem), fn_X7_piece g x1 x2 M = some (r, M1) ∧ fn_X8_piece g x1 x2 M1 = some r ∧ J M1
set_option maxHeartbeats 4000000 in
theorem lc_piece {p : Program} {l : Launch} {e : Env} {s : State} {m : MethodId} {below : List Frame} {meth : Method} {c : Code} {X : En} {b L : Nat} {xs : Nat → Int32} (hL : L ≤ 4096) (hX : va_X b L xs s s.heap) (hbl : b < s.heap.size) (hbA : ¬ X.A b) (hZ : Fx p c m s #[Value.ref b] X code 4 RL) {g i : Nat} (hi : i + 8 ≤ L) {M : Mem} {r : Int32} {M1 : Mem} {H : Heap} {locs : List Loc} {ls : Array Slot} (hP : wd X M H) (hS : va_S X.A s.heap H locs) (hl : lv_has ls 4 [(0, .ref b), (1, .ref (X.ad 0)), (2, .ref (X.ad 61)), (3, .int (nI i))]) (hf7 : fn_X7_piece g (xs (nI i + (1 : Int32)).toNatClampNeg) (xs (nI i + (2 : Int32)).toNatClampNeg) M = some (r, M1)) (hf8 : fn_X8_piece g (xs (nI i + (1 : Int32)).toNatClampNeg) (xs (nI i + (2 : Int32)).toNatClampNeg) M1 = some r)
    (kk : ∀ (H : Heap) (locs : List Loc) (ls : Array Slot), wd X M1 H → va_S X.A s.heap H locs → lv_has ls 4 [(0, .ref b), (1, .ref (X.ad 0)), (2, .ref (X.ad 61)), (3, .int (nI i))] → W p l e room_1 s m #[Value.ref b] below meth c H locs 71 7212 (lw_Z below #[Value.ref b] s) (F0 m 1040 ls [])) : W p l e room_1 s m #[Value.ref b] below meth c H locs 71 7212 (lw_Z below #[Value.ref b] s) (F0 m 500 ls []) := by
  obtain ⟨hx, hb, hml, hts, hown, hk⟩ := id hZ
  refine lv_aload_n hx hb dL_law_500 rfl (lv_at hl 1 rfl) ?_
  refine lv_aload_n hx hb dL_law_501 rfl (lv_at hl 0 rfl) ?_
  refine lv_iload_n hx hb dL_law_502 rfl (lv_at hl 3 rfl) ?_
  refine lv_iconst (v := (1 : Int32)) hx hb dL_law_503 (by decide) ?_
  refine lv_iadd hx hb dL_law_504 ?_
  refine va_sld hx hb hX hbl hbA hS (xs_in 1 (by decide) hi hL (by decide)) dL_law_505 ?_
  refine lv_aload_n hx hb dL_law_506 rfl (lv_at hl 0 rfl) ?_
  refine lv_iload_n hx hb dL_law_507 rfl (lv_at hl 3 rfl) ?_
  refine lv_iconst (v := (2 : Int32)) hx hb dL_law_508 (by decide) ?_
  refine lv_iadd hx hb dL_law_509 ?_
  refine va_sld hx hb hX hbl hbA hS (xs_in 2 (by decide) hi hL (by decide)) dL_law_510 ?_
  refine k_X7_piece hZ hP hS hl.1 wd_2_174 ⟨(Nat.le_of_ble_eq_true rfl), (Nat.le_of_ble_eq_true rfl)⟩ (Nat.le_of_ble_eq_true rfl) dL_law_511 ⟨(Nat.le_of_ble_eq_true rfl), (Nat.le_of_ble_eq_true rfl)⟩ hf7 (fun H locs hP hS => ?_)
  refine lv_aload_n hx hb dL_law_514 rfl (lv_at hl 2 rfl) ?_
  refine lv_aload_n hx hb dL_law_515 rfl (lv_at hl 0 rfl) ?_
  refine lv_iload_n hx hb dL_law_516 rfl (lv_at hl 3 rfl) ?_
  refine lv_iconst (v := (1 : Int32)) hx hb dL_law_517 (by decide) ?_
  refine lv_iadd hx hb dL_law_518 ?_
  refine va_sld hx hb hX hbl hbA hS (xs_in 1 (by decide) hi hL (by decide)) dL_law_519 ?_
  refine lv_aload_n hx hb dL_law_520 rfl (lv_at hl 0 rfl) ?_
  refine lv_iload_n hx hb dL_law_521 rfl (lv_at hl 3 rfl) ?_
  refine lv_iconst (v := (2 : Int32)) hx hb dL_law_522 (by decide) ?_
  refine lv_iadd hx hb dL_law_523 ?_
  refine va_sld hx hb hX hbl hbA hS (xs_in 2 (by decide) hi hL (by decide)) dL_law_524 ?_
  refine k_X8_piece hZ hP hS hl.1 wd_4_101 ⟨(Nat.le_of_ble_eq_true rfl), (Nat.le_of_ble_eq_true rfl)⟩ (Nat.le_of_ble_eq_true rfl) dL_law_525 ⟨(Nat.le_of_ble_eq_true rfl), (Nat.le_of_ble_eq_true rfl)⟩ hf8 (fun H locs hP hS => ?_)
  refine lv_icmp_eq (tgt := 1040) hx hb dL_law_528 (by decide) (fun _ => ?_) (fun h => absurd rfl h)
  exact kk H locs ls hP hS hl
def sim_blockers (g : Nat) (J : Mem → Prop) : Prop := ∀ (x1 : Int32) (x2 : Int32) (M : Mem), J M → ∃ (r : Int32) (M1 : Mem), fn_X7_blockers g x1 x2 M = some (r, M1) ∧ fn_X8_blockers x1 x2 M1 = some r ∧ J M1
set_option maxHeartbeats 4000000 in
theorem lc_blockers {p : Program} {l : Launch} {e : Env} {s : State} {m : MethodId} {below : List Frame} {meth : Method} {c : Code} {X : En} {b L : Nat} {xs : Nat → Int32} (hL : L ≤ 4096) (hX : va_X b L xs s s.heap) (hbl : b < s.heap.size) (hbA : ¬ X.A b) (hZ : Fx p c m s #[Value.ref b] X code 4 RL) {g i : Nat} (hi : i + 8 ≤ L) {M : Mem} {r : Int32} {M1 : Mem} {H : Heap} {locs : List Loc} {ls : Array Slot} (hP : wd X M H) (hS : va_S X.A s.heap H locs) (hl : lv_has ls 4 [(0, .ref b), (1, .ref (X.ad 0)), (2, .ref (X.ad 61)), (3, .int (nI i))]) (hf7 : fn_X7_blockers g (xs (nI i + (1 : Int32)).toNatClampNeg) (xs (nI i + (2 : Int32)).toNatClampNeg) M = some (r, M1)) (hf8 : fn_X8_blockers (xs (nI i + (1 : Int32)).toNatClampNeg) (xs (nI i + (2 : Int32)).toNatClampNeg) M1 = some r)
    (kk : ∀ (H : Heap) (locs : List Loc) (ls : Array Slot), wd X M1 H → va_S X.A s.heap H locs → lv_has ls 4 [(0, .ref b), (1, .ref (X.ad 0)), (2, .ref (X.ad 61)), (3, .int (nI i))] → W p l e room_1 s m #[Value.ref b] below meth c H locs 71 7212 (lw_Z below #[Value.ref b] s) (F0 m 1040 ls [])) : W p l e room_1 s m #[Value.ref b] below meth c H locs 71 7212 (lw_Z below #[Value.ref b] s) (F0 m 533 ls []) := by
  obtain ⟨hx, hb, hml, hts, hown, hk⟩ := id hZ
  refine lv_aload_n hx hb dL_law_533 rfl (lv_at hl 1 rfl) ?_
  refine lv_aload_n hx hb dL_law_534 rfl (lv_at hl 0 rfl) ?_
  refine lv_iload_n hx hb dL_law_535 rfl (lv_at hl 3 rfl) ?_
  refine lv_iconst (v := (1 : Int32)) hx hb dL_law_536 (by decide) ?_
  refine lv_iadd hx hb dL_law_537 ?_
  refine va_sld hx hb hX hbl hbA hS (xs_in 1 (by decide) hi hL (by decide)) dL_law_538 ?_
  refine lv_aload_n hx hb dL_law_539 rfl (lv_at hl 0 rfl) ?_
  refine lv_iload_n hx hb dL_law_540 rfl (lv_at hl 3 rfl) ?_
  refine lv_iconst (v := (2 : Int32)) hx hb dL_law_541 (by decide) ?_
  refine lv_iadd hx hb dL_law_542 ?_
  refine va_sld hx hb hX hbl hbA hS (xs_in 2 (by decide) hi hL (by decide)) dL_law_543 ?_
  refine k_X7_blockers hZ hP hS hl.1 wd_2_181 ⟨(Nat.le_of_ble_eq_true rfl), (Nat.le_of_ble_eq_true rfl)⟩ (Nat.le_of_ble_eq_true rfl) dL_law_544 ⟨(Nat.le_of_ble_eq_true rfl), (Nat.le_of_ble_eq_true rfl)⟩ hf7 (fun H locs hP hS => ?_)
  refine lv_aload_n hx hb dL_law_547 rfl (lv_at hl 2 rfl) ?_
  refine lv_aload_n hx hb dL_law_548 rfl (lv_at hl 0 rfl) ?_
  refine lv_iload_n hx hb dL_law_549 rfl (lv_at hl 3 rfl) ?_
  refine lv_iconst (v := (1 : Int32)) hx hb dL_law_550 (by decide) ?_
  refine lv_iadd hx hb dL_law_551 ?_
  refine va_sld hx hb hX hbl hbA hS (xs_in 1 (by decide) hi hL (by decide)) dL_law_552 ?_
  refine lv_aload_n hx hb dL_law_553 rfl (lv_at hl 0 rfl) ?_
  refine lv_iload_n hx hb dL_law_554 rfl (lv_at hl 3 rfl) ?_
  refine lv_iconst (v := (2 : Int32)) hx hb dL_law_555 (by decide) ?_
  refine lv_iadd hx hb dL_law_556 ?_
  refine va_sld hx hb hX hbl hbA hS (xs_in 2 (by decide) hi hL (by decide)) dL_law_557 ?_
  refine k_X8_blockers hZ hP hS hl.1 wd_4_113 ⟨(Nat.le_of_ble_eq_true rfl), (Nat.le_of_ble_eq_true rfl)⟩ (Nat.le_of_ble_eq_true rfl) dL_law_558 ⟨(Nat.le_of_ble_eq_true rfl), (Nat.le_of_ble_eq_true rfl)⟩ hf8 (fun H locs hP hS => ?_)
  refine lv_icmp_eq (tgt := 1040) hx hb dL_law_561 (by decide) (fun _ => ?_) (fun h => absurd rfl h)
  exact kk H locs ls hP hS hl
def sim_ways (g : Nat) (J : Mem → Prop) : Prop := ∀ (x1 : Int32) (x2 : Int32) (M : Mem), J M → ∃ (r : Int32) (M1 : Mem), fn_X7_ways g x1 x2 M = some (r, M1) ∧ fn_X8_ways g x1 x2 M1 = some r ∧ J M1
set_option maxHeartbeats 4000000 in
theorem lc_ways {p : Program} {l : Launch} {e : Env} {s : State} {m : MethodId} {below : List Frame} {meth : Method} {c : Code} {X : En} {b L : Nat} {xs : Nat → Int32} (hL : L ≤ 4096) (hX : va_X b L xs s s.heap) (hbl : b < s.heap.size) (hbA : ¬ X.A b) (hZ : Fx p c m s #[Value.ref b] X code 4 RL) {g i : Nat} (hi : i + 8 ≤ L) {M : Mem} {r : Int32} {M1 : Mem} {H : Heap} {locs : List Loc} {ls : Array Slot} (hP : wd X M H) (hS : va_S X.A s.heap H locs) (hl : lv_has ls 4 [(0, .ref b), (1, .ref (X.ad 0)), (2, .ref (X.ad 61)), (3, .int (nI i))]) (hf7 : fn_X7_ways g (xs (nI i + (1 : Int32)).toNatClampNeg) (xs (nI i + (2 : Int32)).toNatClampNeg) M = some (r, M1)) (hf8 : fn_X8_ways g (xs (nI i + (1 : Int32)).toNatClampNeg) (xs (nI i + (2 : Int32)).toNatClampNeg) M1 = some r)
    (kk : ∀ (H : Heap) (locs : List Loc) (ls : Array Slot), wd X M1 H → va_S X.A s.heap H locs → lv_has ls 4 [(0, .ref b), (1, .ref (X.ad 0)), (2, .ref (X.ad 61)), (3, .int (nI i))] → W p l e room_1 s m #[Value.ref b] below meth c H locs 71 7212 (lw_Z below #[Value.ref b] s) (F0 m 1040 ls [])) : W p l e room_1 s m #[Value.ref b] below meth c H locs 71 7212 (lw_Z below #[Value.ref b] s) (F0 m 566 ls []) := by
  obtain ⟨hx, hb, hml, hts, hown, hk⟩ := id hZ
  refine lv_aload_n hx hb dL_law_566 rfl (lv_at hl 1 rfl) ?_
  refine lv_aload_n hx hb dL_law_567 rfl (lv_at hl 0 rfl) ?_
  refine lv_iload_n hx hb dL_law_568 rfl (lv_at hl 3 rfl) ?_
  refine lv_iconst (v := (1 : Int32)) hx hb dL_law_569 (by decide) ?_
  refine lv_iadd hx hb dL_law_570 ?_
  refine va_sld hx hb hX hbl hbA hS (xs_in 1 (by decide) hi hL (by decide)) dL_law_571 ?_
  refine lv_aload_n hx hb dL_law_572 rfl (lv_at hl 0 rfl) ?_
  refine lv_iload_n hx hb dL_law_573 rfl (lv_at hl 3 rfl) ?_
  refine lv_iconst (v := (2 : Int32)) hx hb dL_law_574 (by decide) ?_
  refine lv_iadd hx hb dL_law_575 ?_
  refine va_sld hx hb hX hbl hbA hS (xs_in 2 (by decide) hi hL (by decide)) dL_law_576 ?_
  refine k_X7_ways hZ hP hS hl.1 wd_2_217 ⟨(Nat.le_of_ble_eq_true rfl), (Nat.le_of_ble_eq_true rfl)⟩ (Nat.le_of_ble_eq_true rfl) dL_law_577 ⟨(Nat.le_of_ble_eq_true rfl), (Nat.le_of_ble_eq_true rfl)⟩ hf7 (fun H locs hP hS => ?_)
  refine lv_aload_n hx hb dL_law_580 rfl (lv_at hl 2 rfl) ?_
  refine lv_aload_n hx hb dL_law_581 rfl (lv_at hl 0 rfl) ?_
  refine lv_iload_n hx hb dL_law_582 rfl (lv_at hl 3 rfl) ?_
  refine lv_iconst (v := (1 : Int32)) hx hb dL_law_583 (by decide) ?_
  refine lv_iadd hx hb dL_law_584 ?_
  refine va_sld hx hb hX hbl hbA hS (xs_in 1 (by decide) hi hL (by decide)) dL_law_585 ?_
  refine lv_aload_n hx hb dL_law_586 rfl (lv_at hl 0 rfl) ?_
  refine lv_iload_n hx hb dL_law_587 rfl (lv_at hl 3 rfl) ?_
  refine lv_iconst (v := (2 : Int32)) hx hb dL_law_588 (by decide) ?_
  refine lv_iadd hx hb dL_law_589 ?_
  refine va_sld hx hb hX hbl hbA hS (xs_in 2 (by decide) hi hL (by decide)) dL_law_590 ?_
  refine k_X8_ways hZ hP hS hl.1 wd_4_117 ⟨(Nat.le_of_ble_eq_true rfl), (Nat.le_of_ble_eq_true rfl)⟩ (Nat.le_of_ble_eq_true rfl) dL_law_591 ⟨(Nat.le_of_ble_eq_true rfl), (Nat.le_of_ble_eq_true rfl)⟩ hf8 (fun H locs hP hS => ?_)
  refine lv_icmp_eq (tgt := 1040) hx hb dL_law_594 (by decide) (fun _ => ?_) (fun h => absurd rfl h)
  exact kk H locs ls hP hS hl
def sim_contact (g : Nat) (J : Mem → Prop) : Prop := ∀ (x1 : Int32) (x2 : Int32) (M : Mem), J M → ∃ (r : Int32) (M1 : Mem), fn_X7_contact g x1 x2 M = some (r, M1) ∧ fn_X8_contact g x1 x2 M1 = some r ∧ J M1
set_option maxHeartbeats 4000000 in
theorem lc_contact {p : Program} {l : Launch} {e : Env} {s : State} {m : MethodId} {below : List Frame} {meth : Method} {c : Code} {X : En} {b L : Nat} {xs : Nat → Int32} (hL : L ≤ 4096) (hX : va_X b L xs s s.heap) (hbl : b < s.heap.size) (hbA : ¬ X.A b) (hZ : Fx p c m s #[Value.ref b] X code 4 RL) {g i : Nat} (hi : i + 8 ≤ L) {M : Mem} {r : Int32} {M1 : Mem} {H : Heap} {locs : List Loc} {ls : Array Slot} (hP : wd X M H) (hS : va_S X.A s.heap H locs) (hl : lv_has ls 4 [(0, .ref b), (1, .ref (X.ad 0)), (2, .ref (X.ad 61)), (3, .int (nI i))]) (hf7 : fn_X7_contact g (xs (nI i + (1 : Int32)).toNatClampNeg) (xs (nI i + (2 : Int32)).toNatClampNeg) M = some (r, M1)) (hf8 : fn_X8_contact g (xs (nI i + (1 : Int32)).toNatClampNeg) (xs (nI i + (2 : Int32)).toNatClampNeg) M1 = some r)
    (kk : ∀ (H : Heap) (locs : List Loc) (ls : Array Slot), wd X M1 H → va_S X.A s.heap H locs → lv_has ls 4 [(0, .ref b), (1, .ref (X.ad 0)), (2, .ref (X.ad 61)), (3, .int (nI i))] → W p l e room_1 s m #[Value.ref b] below meth c H locs 71 7212 (lw_Z below #[Value.ref b] s) (F0 m 1040 ls [])) : W p l e room_1 s m #[Value.ref b] below meth c H locs 71 7212 (lw_Z below #[Value.ref b] s) (F0 m 599 ls []) := by
  obtain ⟨hx, hb, hml, hts, hown, hk⟩ := id hZ
  refine lv_aload_n hx hb dL_law_599 rfl (lv_at hl 1 rfl) ?_
  refine lv_aload_n hx hb dL_law_600 rfl (lv_at hl 0 rfl) ?_
  refine lv_iload_n hx hb dL_law_601 rfl (lv_at hl 3 rfl) ?_
  refine lv_iconst (v := (1 : Int32)) hx hb dL_law_602 (by decide) ?_
  refine lv_iadd hx hb dL_law_603 ?_
  refine va_sld hx hb hX hbl hbA hS (xs_in 1 (by decide) hi hL (by decide)) dL_law_604 ?_
  refine lv_aload_n hx hb dL_law_605 rfl (lv_at hl 0 rfl) ?_
  refine lv_iload_n hx hb dL_law_606 rfl (lv_at hl 3 rfl) ?_
  refine lv_iconst (v := (2 : Int32)) hx hb dL_law_607 (by decide) ?_
  refine lv_iadd hx hb dL_law_608 ?_
  refine va_sld hx hb hX hbl hbA hS (xs_in 2 (by decide) hi hL (by decide)) dL_law_609 ?_
  refine k_X7_contact hZ hP hS hl.1 wd_2_233 ⟨(Nat.le_of_ble_eq_true rfl), (Nat.le_of_ble_eq_true rfl)⟩ (Nat.le_of_ble_eq_true rfl) dL_law_610 ⟨(Nat.le_of_ble_eq_true rfl), (Nat.le_of_ble_eq_true rfl)⟩ hf7 (fun H locs hP hS => ?_)
  refine lv_aload_n hx hb dL_law_613 rfl (lv_at hl 2 rfl) ?_
  refine lv_aload_n hx hb dL_law_614 rfl (lv_at hl 0 rfl) ?_
  refine lv_iload_n hx hb dL_law_615 rfl (lv_at hl 3 rfl) ?_
  refine lv_iconst (v := (1 : Int32)) hx hb dL_law_616 (by decide) ?_
  refine lv_iadd hx hb dL_law_617 ?_
  refine va_sld hx hb hX hbl hbA hS (xs_in 1 (by decide) hi hL (by decide)) dL_law_618 ?_
  refine lv_aload_n hx hb dL_law_619 rfl (lv_at hl 0 rfl) ?_
  refine lv_iload_n hx hb dL_law_620 rfl (lv_at hl 3 rfl) ?_
  refine lv_iconst (v := (2 : Int32)) hx hb dL_law_621 (by decide) ?_
  refine lv_iadd hx hb dL_law_622 ?_
  refine va_sld hx hb hX hbl hbA hS (xs_in 2 (by decide) hi hL (by decide)) dL_law_623 ?_
  refine k_X8_contact hZ hP hS hl.1 wd_4_137 ⟨(Nat.le_of_ble_eq_true rfl), (Nat.le_of_ble_eq_true rfl)⟩ (Nat.le_of_ble_eq_true rfl) dL_law_624 ⟨(Nat.le_of_ble_eq_true rfl), (Nat.le_of_ble_eq_true rfl)⟩ hf8 (fun H locs hP hS => ?_)
  refine lv_icmp_eq (tgt := 1040) hx hb dL_law_627 (by decide) (fun _ => ?_) (fun h => absurd rfl h)
  exact kk H locs ls hP hS hl
def sim_hangsTogether (g : Nat) (J : Mem → Prop) : Prop := ∀ (x1 : Int32) (M : Mem), J M → ∃ (r : Int32) (M1 : Mem), fn_X7_hangsTogether g x1 M = some (r, M1) ∧ fn_X8_hangsTogether g x1 M1 = some r ∧ J M1
set_option maxHeartbeats 4000000 in
theorem lc_hangsTogether {p : Program} {l : Launch} {e : Env} {s : State} {m : MethodId} {below : List Frame} {meth : Method} {c : Code} {X : En} {b L : Nat} {xs : Nat → Int32} (hL : L ≤ 4096) (hX : va_X b L xs s s.heap) (hbl : b < s.heap.size) (hbA : ¬ X.A b) (hZ : Fx p c m s #[Value.ref b] X code 4 RL) {g i : Nat} (hi : i + 8 ≤ L) {M : Mem} {r : Int32} {M1 : Mem} {H : Heap} {locs : List Loc} {ls : Array Slot} (hP : wd X M H) (hS : va_S X.A s.heap H locs) (hl : lv_has ls 4 [(0, .ref b), (1, .ref (X.ad 0)), (2, .ref (X.ad 61)), (3, .int (nI i))]) (hf7 : fn_X7_hangsTogether g (xs (nI i + (1 : Int32)).toNatClampNeg) M = some (r, M1)) (hf8 : fn_X8_hangsTogether g (xs (nI i + (1 : Int32)).toNatClampNeg) M1 = some r)
    (kk : ∀ (H : Heap) (locs : List Loc) (ls : Array Slot), wd X M1 H → va_S X.A s.heap H locs → lv_has ls 4 [(0, .ref b), (1, .ref (X.ad 0)), (2, .ref (X.ad 61)), (3, .int (nI i))] → W p l e room_1 s m #[Value.ref b] below meth c H locs 71 7212 (lw_Z below #[Value.ref b] s) (F0 m 1040 ls [])) : W p l e room_1 s m #[Value.ref b] below meth c H locs 71 7212 (lw_Z below #[Value.ref b] s) (F0 m 632 ls []) := by
  obtain ⟨hx, hb, hml, hts, hown, hk⟩ := id hZ
  refine lv_aload_n hx hb dL_law_632 rfl (lv_at hl 1 rfl) ?_
  refine lv_aload_n hx hb dL_law_633 rfl (lv_at hl 0 rfl) ?_
  refine lv_iload_n hx hb dL_law_634 rfl (lv_at hl 3 rfl) ?_
  refine lv_iconst (v := (1 : Int32)) hx hb dL_law_635 (by decide) ?_
  refine lv_iadd hx hb dL_law_636 ?_
  refine va_sld hx hb hX hbl hbA hS (xs_in 1 (by decide) hi hL (by decide)) dL_law_637 ?_
  refine k_X7_hangsTogether hZ hP hS hl.1 wd_2_237 ⟨(Nat.le_of_ble_eq_true rfl), (Nat.le_of_ble_eq_true rfl)⟩ (Nat.le_of_ble_eq_true rfl) dL_law_638 ⟨(Nat.le_of_ble_eq_true rfl), (Nat.le_of_ble_eq_true rfl)⟩ hf7 (fun H locs hP hS => ?_)
  refine lv_aload_n hx hb dL_law_641 rfl (lv_at hl 2 rfl) ?_
  refine lv_aload_n hx hb dL_law_642 rfl (lv_at hl 0 rfl) ?_
  refine lv_iload_n hx hb dL_law_643 rfl (lv_at hl 3 rfl) ?_
  refine lv_iconst (v := (1 : Int32)) hx hb dL_law_644 (by decide) ?_
  refine lv_iadd hx hb dL_law_645 ?_
  refine va_sld hx hb hX hbl hbA hS (xs_in 1 (by decide) hi hL (by decide)) dL_law_646 ?_
  refine k_X8_hangsTogether hZ hP hS hl.1 wd_4_145 ⟨(Nat.le_of_ble_eq_true rfl), (Nat.le_of_ble_eq_true rfl)⟩ (Nat.le_of_ble_eq_true rfl) dL_law_647 ⟨(Nat.le_of_ble_eq_true rfl), (Nat.le_of_ble_eq_true rfl)⟩ hf8 (fun H locs hP hS => ?_)
  refine lv_icmp_eq (tgt := 1040) hx hb dL_law_650 (by decide) (fun _ => ?_) (fun h => absurd rfl h)
  exact kk H locs ls hP hS hl
def sim_props (g : Nat) (J : Mem → Prop) : Prop := ∀ (x1 : Int32) (M : Mem), J M → ∃ (r : Int32) (M1 : Mem), fn_X7_props g x1 M = some (r, M1) ∧ fn_X8_props g x1 M1 = some r ∧ J M1
set_option maxHeartbeats 4000000 in
theorem lc_props {p : Program} {l : Launch} {e : Env} {s : State} {m : MethodId} {below : List Frame} {meth : Method} {c : Code} {X : En} {b L : Nat} {xs : Nat → Int32} (hL : L ≤ 4096) (hX : va_X b L xs s s.heap) (hbl : b < s.heap.size) (hbA : ¬ X.A b) (hZ : Fx p c m s #[Value.ref b] X code 4 RL) {g i : Nat} (hi : i + 8 ≤ L) {M : Mem} {r : Int32} {M1 : Mem} {H : Heap} {locs : List Loc} {ls : Array Slot} (hP : wd X M H) (hS : va_S X.A s.heap H locs) (hl : lv_has ls 4 [(0, .ref b), (1, .ref (X.ad 0)), (2, .ref (X.ad 61)), (3, .int (nI i))]) (hf7 : fn_X7_props g (xs (nI i + (1 : Int32)).toNatClampNeg) M = some (r, M1)) (hf8 : fn_X8_props g (xs (nI i + (1 : Int32)).toNatClampNeg) M1 = some r)
    (kk : ∀ (H : Heap) (locs : List Loc) (ls : Array Slot), wd X M1 H → va_S X.A s.heap H locs → lv_has ls 4 [(0, .ref b), (1, .ref (X.ad 0)), (2, .ref (X.ad 61)), (3, .int (nI i))] → W p l e room_1 s m #[Value.ref b] below meth c H locs 71 7212 (lw_Z below #[Value.ref b] s) (F0 m 1040 ls [])) : W p l e room_1 s m #[Value.ref b] below meth c H locs 71 7212 (lw_Z below #[Value.ref b] s) (F0 m 655 ls []) := by
  obtain ⟨hx, hb, hml, hts, hown, hk⟩ := id hZ
  refine lv_aload_n hx hb dL_law_655 rfl (lv_at hl 1 rfl) ?_
  refine lv_aload_n hx hb dL_law_656 rfl (lv_at hl 0 rfl) ?_
  refine lv_iload_n hx hb dL_law_657 rfl (lv_at hl 3 rfl) ?_
  refine lv_iconst (v := (1 : Int32)) hx hb dL_law_658 (by decide) ?_
  refine lv_iadd hx hb dL_law_659 ?_
  refine va_sld hx hb hX hbl hbA hS (xs_in 1 (by decide) hi hL (by decide)) dL_law_660 ?_
  refine k_X7_props hZ hP hS hl.1 wd_3_6 ⟨(Nat.le_of_ble_eq_true rfl), (Nat.le_of_ble_eq_true rfl)⟩ (Nat.le_of_ble_eq_true rfl) dL_law_661 ⟨(Nat.le_of_ble_eq_true rfl), (Nat.le_of_ble_eq_true rfl)⟩ hf7 (fun H locs hP hS => ?_)
  refine lv_aload_n hx hb dL_law_664 rfl (lv_at hl 2 rfl) ?_
  refine lv_aload_n hx hb dL_law_665 rfl (lv_at hl 0 rfl) ?_
  refine lv_iload_n hx hb dL_law_666 rfl (lv_at hl 3 rfl) ?_
  refine lv_iconst (v := (1 : Int32)) hx hb dL_law_667 (by decide) ?_
  refine lv_iadd hx hb dL_law_668 ?_
  refine va_sld hx hb hX hbl hbA hS (xs_in 1 (by decide) hi hL (by decide)) dL_law_669 ?_
  refine k_X8_props hZ hP hS hl.1 wd_4_156 ⟨(Nat.le_of_ble_eq_true rfl), (Nat.le_of_ble_eq_true rfl)⟩ (Nat.le_of_ble_eq_true rfl) dL_law_670 ⟨(Nat.le_of_ble_eq_true rfl), (Nat.le_of_ble_eq_true rfl)⟩ hf8 (fun H locs hP hS => ?_)
  refine lv_icmp_eq (tgt := 1040) hx hb dL_law_673 (by decide) (fun _ => ?_) (fun h => absurd rfl h)
  exact kk H locs ls hP hS hl
def sim_standing (g : Nat) (J : Mem → Prop) : Prop := ∀ (x1 : Int32) (M : Mem), J M → ∃ (r : Int32) (M1 : Mem), fn_X7_standing g x1 M = some (r, M1) ∧ fn_X8_standing g x1 M1 = some r ∧ J M1
set_option maxHeartbeats 4000000 in
theorem lc_standing {p : Program} {l : Launch} {e : Env} {s : State} {m : MethodId} {below : List Frame} {meth : Method} {c : Code} {X : En} {b L : Nat} {xs : Nat → Int32} (hL : L ≤ 4096) (hX : va_X b L xs s s.heap) (hbl : b < s.heap.size) (hbA : ¬ X.A b) (hZ : Fx p c m s #[Value.ref b] X code 4 RL) {g i : Nat} (hi : i + 8 ≤ L) {M : Mem} {r : Int32} {M1 : Mem} {H : Heap} {locs : List Loc} {ls : Array Slot} (hP : wd X M H) (hS : va_S X.A s.heap H locs) (hl : lv_has ls 4 [(0, .ref b), (1, .ref (X.ad 0)), (2, .ref (X.ad 61)), (3, .int (nI i))]) (hf7 : fn_X7_standing g (xs (nI i + (1 : Int32)).toNatClampNeg) M = some (r, M1)) (hf8 : fn_X8_standing g (xs (nI i + (1 : Int32)).toNatClampNeg) M1 = some r)
    (kk : ∀ (H : Heap) (locs : List Loc) (ls : Array Slot), wd X M1 H → va_S X.A s.heap H locs → lv_has ls 4 [(0, .ref b), (1, .ref (X.ad 0)), (2, .ref (X.ad 61)), (3, .int (nI i))] → W p l e room_1 s m #[Value.ref b] below meth c H locs 71 7212 (lw_Z below #[Value.ref b] s) (F0 m 1040 ls [])) : W p l e room_1 s m #[Value.ref b] below meth c H locs 71 7212 (lw_Z below #[Value.ref b] s) (F0 m 678 ls []) := by
  obtain ⟨hx, hb, hml, hts, hown, hk⟩ := id hZ
  refine lv_aload_n hx hb dL_law_678 rfl (lv_at hl 1 rfl) ?_
  refine lv_aload_n hx hb dL_law_679 rfl (lv_at hl 0 rfl) ?_
  refine lv_iload_n hx hb dL_law_680 rfl (lv_at hl 3 rfl) ?_
  refine lv_iconst (v := (1 : Int32)) hx hb dL_law_681 (by decide) ?_
  refine lv_iadd hx hb dL_law_682 ?_
  refine va_sld hx hb hX hbl hbA hS (xs_in 1 (by decide) hi hL (by decide)) dL_law_683 ?_
  refine k_X7_standing hZ hP hS hl.1 wd_3_14 ⟨(Nat.le_of_ble_eq_true rfl), (Nat.le_of_ble_eq_true rfl)⟩ (Nat.le_of_ble_eq_true rfl) dL_law_684 ⟨(Nat.le_of_ble_eq_true rfl), (Nat.le_of_ble_eq_true rfl)⟩ hf7 (fun H locs hP hS => ?_)
  refine lv_aload_n hx hb dL_law_687 rfl (lv_at hl 2 rfl) ?_
  refine lv_aload_n hx hb dL_law_688 rfl (lv_at hl 0 rfl) ?_
  refine lv_iload_n hx hb dL_law_689 rfl (lv_at hl 3 rfl) ?_
  refine lv_iconst (v := (1 : Int32)) hx hb dL_law_690 (by decide) ?_
  refine lv_iadd hx hb dL_law_691 ?_
  refine va_sld hx hb hX hbl hbA hS (xs_in 1 (by decide) hi hL (by decide)) dL_law_692 ?_
  refine k_X8_standing hZ hP hS hl.1 wd_4_164 ⟨(Nat.le_of_ble_eq_true rfl), (Nat.le_of_ble_eq_true rfl)⟩ (Nat.le_of_ble_eq_true rfl) dL_law_693 ⟨(Nat.le_of_ble_eq_true rfl), (Nat.le_of_ble_eq_true rfl)⟩ hf8 (fun H locs hP hS => ?_)
  refine lv_icmp_eq (tgt := 1040) hx hb dL_law_696 (by decide) (fun _ => ?_) (fun h => absurd rfl h)
  exact kk H locs ls hP hS hl
def sim_orders (g : Nat) (J : Mem → Prop) : Prop := ∀ (x1 : Int32) (M : Mem), J M → ∃ (r : Int32) (M1 : Mem) (M2 : Mem), fn_X7_orders g x1 M = some (r, M1) ∧ fn_X8_orders g x1 M1 = some (r, M2) ∧ J M2
set_option maxHeartbeats 4000000 in
theorem lc_orders {p : Program} {l : Launch} {e : Env} {s : State} {m : MethodId} {below : List Frame} {meth : Method} {c : Code} {X : En} {b L : Nat} {xs : Nat → Int32} (hL : L ≤ 4096) (hX : va_X b L xs s s.heap) (hbl : b < s.heap.size) (hbA : ¬ X.A b) (hZ : Fx p c m s #[Value.ref b] X code 4 RL) {g i : Nat} (hi : i + 8 ≤ L) {M : Mem} {r : Int32} {M1 : Mem} {M2 : Mem} {H : Heap} {locs : List Loc} {ls : Array Slot} (hP : wd X M H) (hS : va_S X.A s.heap H locs) (hl : lv_has ls 4 [(0, .ref b), (1, .ref (X.ad 0)), (2, .ref (X.ad 61)), (3, .int (nI i))]) (hf7 : fn_X7_orders g (xs (nI i + (1 : Int32)).toNatClampNeg) M = some (r, M1)) (hf8 : fn_X8_orders g (xs (nI i + (1 : Int32)).toNatClampNeg) M1 = some (r, M2))
    (kk : ∀ (H : Heap) (locs : List Loc) (ls : Array Slot), wd X M2 H → va_S X.A s.heap H locs → lv_has ls 4 [(0, .ref b), (1, .ref (X.ad 0)), (2, .ref (X.ad 61)), (3, .int (nI i))] → W p l e room_1 s m #[Value.ref b] below meth c H locs 71 7212 (lw_Z below #[Value.ref b] s) (F0 m 1040 ls [])) : W p l e room_1 s m #[Value.ref b] below meth c H locs 71 7212 (lw_Z below #[Value.ref b] s) (F0 m 701 ls []) := by
  obtain ⟨hx, hb, hml, hts, hown, hk⟩ := id hZ
  refine lv_aload_n hx hb dL_law_701 rfl (lv_at hl 1 rfl) ?_
  refine lv_aload_n hx hb dL_law_702 rfl (lv_at hl 0 rfl) ?_
  refine lv_iload_n hx hb dL_law_703 rfl (lv_at hl 3 rfl) ?_
  refine lv_iconst (v := (1 : Int32)) hx hb dL_law_704 (by decide) ?_
  refine lv_iadd hx hb dL_law_705 ?_
  refine va_sld hx hb hX hbl hbA hS (xs_in 1 (by decide) hi hL (by decide)) dL_law_706 ?_
  refine k_X7_orders hZ hP hS hl.1 wd_3_22 ⟨(Nat.le_of_ble_eq_true rfl), (Nat.le_of_ble_eq_true rfl)⟩ (Nat.le_of_ble_eq_true rfl) dL_law_707 ⟨(Nat.le_of_ble_eq_true rfl), (Nat.le_of_ble_eq_true rfl)⟩ hf7 (fun H locs hP hS => ?_)
  refine lv_aload_n hx hb dL_law_710 rfl (lv_at hl 2 rfl) ?_
  refine lv_aload_n hx hb dL_law_711 rfl (lv_at hl 0 rfl) ?_
  refine lv_iload_n hx hb dL_law_712 rfl (lv_at hl 3 rfl) ?_
  refine lv_iconst (v := (1 : Int32)) hx hb dL_law_713 (by decide) ?_
  refine lv_iadd hx hb dL_law_714 ?_
  refine va_sld hx hb hX hbl hbA hS (xs_in 1 (by decide) hi hL (by decide)) dL_law_715 ?_
  refine k_X8_orders hZ hP hS hl.1 wd_4_172 ⟨(Nat.le_of_ble_eq_true rfl), (Nat.le_of_ble_eq_true rfl)⟩ (Nat.le_of_ble_eq_true rfl) dL_law_716 ⟨(Nat.le_of_ble_eq_true rfl), (Nat.le_of_ble_eq_true rfl)⟩ hf8 (fun H locs hP hS => ?_)
  refine lv_icmp_eq (tgt := 1040) hx hb dL_law_719 (by decide) (fun _ => ?_) (fun h => absurd rfl h)
  exact kk H locs ls hP hS hl
def sim_fewestProps (g : Nat) (J : Mem → Prop) : Prop := ∀ (x1 : Int32) (M : Mem), J M → ∃ (r : Int32) (M1 : Mem) (M2 : Mem), fn_X7_fewestProps g x1 M = some (r, M1) ∧ fn_X8_fewestProps g x1 M1 = some (r, M2) ∧ J M2
set_option maxHeartbeats 4000000 in
theorem lc_fewestProps {p : Program} {l : Launch} {e : Env} {s : State} {m : MethodId} {below : List Frame} {meth : Method} {c : Code} {X : En} {b L : Nat} {xs : Nat → Int32} (hL : L ≤ 4096) (hX : va_X b L xs s s.heap) (hbl : b < s.heap.size) (hbA : ¬ X.A b) (hZ : Fx p c m s #[Value.ref b] X code 4 RL) {g i : Nat} (hi : i + 8 ≤ L) {M : Mem} {r : Int32} {M1 : Mem} {M2 : Mem} {H : Heap} {locs : List Loc} {ls : Array Slot} (hP : wd X M H) (hS : va_S X.A s.heap H locs) (hl : lv_has ls 4 [(0, .ref b), (1, .ref (X.ad 0)), (2, .ref (X.ad 61)), (3, .int (nI i))]) (hf7 : fn_X7_fewestProps g (xs (nI i + (1 : Int32)).toNatClampNeg) M = some (r, M1)) (hf8 : fn_X8_fewestProps g (xs (nI i + (1 : Int32)).toNatClampNeg) M1 = some (r, M2))
    (kk : ∀ (H : Heap) (locs : List Loc) (ls : Array Slot), wd X M2 H → va_S X.A s.heap H locs → lv_has ls 4 [(0, .ref b), (1, .ref (X.ad 0)), (2, .ref (X.ad 61)), (3, .int (nI i))] → W p l e room_1 s m #[Value.ref b] below meth c H locs 71 7212 (lw_Z below #[Value.ref b] s) (F0 m 1040 ls [])) : W p l e room_1 s m #[Value.ref b] below meth c H locs 71 7212 (lw_Z below #[Value.ref b] s) (F0 m 724 ls []) := by
  obtain ⟨hx, hb, hml, hts, hown, hk⟩ := id hZ
  refine lv_aload_n hx hb dL_law_724 rfl (lv_at hl 1 rfl) ?_
  refine lv_aload_n hx hb dL_law_725 rfl (lv_at hl 0 rfl) ?_
  refine lv_iload_n hx hb dL_law_726 rfl (lv_at hl 3 rfl) ?_
  refine lv_iconst (v := (1 : Int32)) hx hb dL_law_727 (by decide) ?_
  refine lv_iadd hx hb dL_law_728 ?_
  refine va_sld hx hb hX hbl hbA hS (xs_in 1 (by decide) hi hL (by decide)) dL_law_729 ?_
  refine k_X7_fewestProps hZ hP hS hl.1 wd_3_46 ⟨(Nat.le_of_ble_eq_true rfl), (Nat.le_of_ble_eq_true rfl)⟩ (Nat.le_of_ble_eq_true rfl) dL_law_730 ⟨(Nat.le_of_ble_eq_true rfl), (Nat.le_of_ble_eq_true rfl)⟩ hf7 (fun H locs hP hS => ?_)
  refine lv_aload_n hx hb dL_law_733 rfl (lv_at hl 2 rfl) ?_
  refine lv_aload_n hx hb dL_law_734 rfl (lv_at hl 0 rfl) ?_
  refine lv_iload_n hx hb dL_law_735 rfl (lv_at hl 3 rfl) ?_
  refine lv_iconst (v := (1 : Int32)) hx hb dL_law_736 (by decide) ?_
  refine lv_iadd hx hb dL_law_737 ?_
  refine va_sld hx hb hX hbl hbA hS (xs_in 1 (by decide) hi hL (by decide)) dL_law_738 ?_
  refine k_X8_fewestProps hZ hP hS hl.1 wd_4_187 ⟨(Nat.le_of_ble_eq_true rfl), (Nat.le_of_ble_eq_true rfl)⟩ (Nat.le_of_ble_eq_true rfl) dL_law_739 ⟨(Nat.le_of_ble_eq_true rfl), (Nat.le_of_ble_eq_true rfl)⟩ hf8 (fun H locs hP hS => ?_)
  refine lv_icmp_eq (tgt := 1040) hx hb dL_law_742 (by decide) (fun _ => ?_) (fun h => absurd rfl h)
  exact kk H locs ls hP hS hl
def sim_planned (g : Nat) (J : Mem → Prop) : Prop := ∀ (x1 : Int32) (x2 : Int32) (x3 : Int32) (M : Mem), J M → isZ x3 → ∃ (r : Int32) (M1 : Mem) (M2 : Mem), fn_X7_planned g x1 x2 x3 M = some (r, M1) ∧ fn_X8_planned g x1 x2 x3 M1 = some (r, M2) ∧ J M2
set_option maxHeartbeats 4000000 in
theorem lc_planned_0 {p : Program} {l : Launch} {e : Env} {s : State} {m : MethodId} {below : List Frame} {meth : Method} {c : Code} {X : En} {b L : Nat} {xs : Nat → Int32} (hL : L ≤ 4096) (hX : va_X b L xs s s.heap) (hbl : b < s.heap.size) (hbA : ¬ X.A b) (hZ : Fx p c m s #[Value.ref b] X code 4 RL) {g i : Nat} (hi : i + 8 ≤ L) {M : Mem} {r : Int32} {M1 : Mem} {M2 : Mem} {H : Heap} {locs : List Loc} {ls : Array Slot} (hP : wd X M H) (hS : va_S X.A s.heap H locs) (hl : lv_has ls 4 [(0, .ref b), (1, .ref (X.ad 0)), (2, .ref (X.ad 61)), (3, .int (nI i))]) (hz :  (xs (nI i + (3 : Int32)).toNatClampNeg) = 0) (hf7 : fn_X7_planned g (xs (nI i + (1 : Int32)).toNatClampNeg) (xs (nI i + (2 : Int32)).toNatClampNeg) (0 : Int32) M = some (r, M1)) (hf8 : fn_X8_planned g (xs (nI i + (1 : Int32)).toNatClampNeg) (xs (nI i + (2 : Int32)).toNatClampNeg) (0 : Int32) M1 = some (r, M2))
    (kk : ∀ (H : Heap) (locs : List Loc) (ls : Array Slot), wd X M2 H → va_S X.A s.heap H locs → lv_has ls 4 [(0, .ref b), (1, .ref (X.ad 0)), (2, .ref (X.ad 61)), (3, .int (nI i))] → W p l e room_1 s m #[Value.ref b] below meth c H locs 71 7212 (lw_Z below #[Value.ref b] s) (F0 m 1040 ls [])) : W p l e room_1 s m #[Value.ref b] below meth c H locs 71 7212 (lw_Z below #[Value.ref b] s) (F0 m 747 ls []) := by
  obtain ⟨hx, hb, hml, hts, hown, hk⟩ := id hZ
  refine lv_aload_n hx hb dL_law_747 rfl (lv_at hl 1 rfl) ?_
  refine lv_aload_n hx hb dL_law_748 rfl (lv_at hl 0 rfl) ?_
  refine lv_iload_n hx hb dL_law_749 rfl (lv_at hl 3 rfl) ?_
  refine lv_iconst (v := (1 : Int32)) hx hb dL_law_750 (by decide) ?_
  refine lv_iadd hx hb dL_law_751 ?_
  refine va_sld hx hb hX hbl hbA hS (xs_in 1 (by decide) hi hL (by decide)) dL_law_752 ?_
  refine lv_aload_n hx hb dL_law_753 rfl (lv_at hl 0 rfl) ?_
  refine lv_iload_n hx hb dL_law_754 rfl (lv_at hl 3 rfl) ?_
  refine lv_iconst (v := (2 : Int32)) hx hb dL_law_755 (by decide) ?_
  refine lv_iadd hx hb dL_law_756 ?_
  refine va_sld hx hb hX hbl hbA hS (xs_in 2 (by decide) hi hL (by decide)) dL_law_757 ?_
  refine lv_aload_n hx hb dL_law_758 rfl (lv_at hl 0 rfl) ?_
  refine lv_iload_n hx hb dL_law_759 rfl (lv_at hl 3 rfl) ?_
  refine lv_iconst (v := (3 : Int32)) hx hb dL_law_760 (by decide) ?_
  refine lv_iadd hx hb dL_law_761 ?_
  refine va_sld hx hb hX hbl hbA hS (xs_in 3 (by decide) hi hL (by decide)) dL_law_762 ?_
  refine lv_if_eq (tgt := 770) hx hb dL_law_763 (by decide) (fun _ => ?_) (fun h => absurd hz h)
  refine lv_iconst (v := (0 : Int32)) hx hb dL_law_770 (by decide) ?_
  refine k_X7_planned hZ hP hS hl.1 wd_3_50 ⟨(Nat.le_of_ble_eq_true rfl), (Nat.le_of_ble_eq_true rfl)⟩ (Nat.le_of_ble_eq_true rfl) dL_law_771 ⟨(Nat.le_of_ble_eq_true rfl), (Nat.le_of_ble_eq_true rfl)⟩ hf7 (fun H locs hP hS => ?_)
  refine lv_aload_n hx hb dL_law_774 rfl (lv_at hl 2 rfl) ?_
  refine lv_aload_n hx hb dL_law_775 rfl (lv_at hl 0 rfl) ?_
  refine lv_iload_n hx hb dL_law_776 rfl (lv_at hl 3 rfl) ?_
  refine lv_iconst (v := (1 : Int32)) hx hb dL_law_777 (by decide) ?_
  refine lv_iadd hx hb dL_law_778 ?_
  refine va_sld hx hb hX hbl hbA hS (xs_in 1 (by decide) hi hL (by decide)) dL_law_779 ?_
  refine lv_aload_n hx hb dL_law_780 rfl (lv_at hl 0 rfl) ?_
  refine lv_iload_n hx hb dL_law_781 rfl (lv_at hl 3 rfl) ?_
  refine lv_iconst (v := (2 : Int32)) hx hb dL_law_782 (by decide) ?_
  refine lv_iadd hx hb dL_law_783 ?_
  refine va_sld hx hb hX hbl hbA hS (xs_in 2 (by decide) hi hL (by decide)) dL_law_784 ?_
  refine lv_aload_n hx hb dL_law_785 rfl (lv_at hl 0 rfl) ?_
  refine lv_iload_n hx hb dL_law_786 rfl (lv_at hl 3 rfl) ?_
  refine lv_iconst (v := (3 : Int32)) hx hb dL_law_787 (by decide) ?_
  refine lv_iadd hx hb dL_law_788 ?_
  refine va_sld hx hb hX hbl hbA hS (xs_in 3 (by decide) hi hL (by decide)) dL_law_789 ?_
  refine lv_if_eq (tgt := 797) hx hb dL_law_790 (by decide) (fun _ => ?_) (fun h => absurd hz h)
  refine lv_iconst (v := (0 : Int32)) hx hb dL_law_797 (by decide) ?_
  refine k_X8_planned hZ hP hS hl.1 wd_4_191 ⟨(Nat.le_of_ble_eq_true rfl), (Nat.le_of_ble_eq_true rfl)⟩ (Nat.le_of_ble_eq_true rfl) dL_law_798 ⟨(Nat.le_of_ble_eq_true rfl), (Nat.le_of_ble_eq_true rfl)⟩ hf8 (fun H locs hP hS => ?_)
  refine lv_icmp_eq (tgt := 1040) hx hb dL_law_801 (by decide) (fun _ => ?_) (fun h => absurd rfl h)
  exact kk H locs ls hP hS hl
set_option maxHeartbeats 4000000 in
theorem lc_planned_1 {p : Program} {l : Launch} {e : Env} {s : State} {m : MethodId} {below : List Frame} {meth : Method} {c : Code} {X : En} {b L : Nat} {xs : Nat → Int32} (hL : L ≤ 4096) (hX : va_X b L xs s s.heap) (hbl : b < s.heap.size) (hbA : ¬ X.A b) (hZ : Fx p c m s #[Value.ref b] X code 4 RL) {g i : Nat} (hi : i + 8 ≤ L) {M : Mem} {r : Int32} {M1 : Mem} {M2 : Mem} {H : Heap} {locs : List Loc} {ls : Array Slot} (hP : wd X M H) (hS : va_S X.A s.heap H locs) (hl : lv_has ls 4 [(0, .ref b), (1, .ref (X.ad 0)), (2, .ref (X.ad 61)), (3, .int (nI i))]) (hz : ¬ (xs (nI i + (3 : Int32)).toNatClampNeg) = 0) (hf7 : fn_X7_planned g (xs (nI i + (1 : Int32)).toNatClampNeg) (xs (nI i + (2 : Int32)).toNatClampNeg) (1 : Int32) M = some (r, M1)) (hf8 : fn_X8_planned g (xs (nI i + (1 : Int32)).toNatClampNeg) (xs (nI i + (2 : Int32)).toNatClampNeg) (1 : Int32) M1 = some (r, M2))
    (kk : ∀ (H : Heap) (locs : List Loc) (ls : Array Slot), wd X M2 H → va_S X.A s.heap H locs → lv_has ls 4 [(0, .ref b), (1, .ref (X.ad 0)), (2, .ref (X.ad 61)), (3, .int (nI i))] → W p l e room_1 s m #[Value.ref b] below meth c H locs 71 7212 (lw_Z below #[Value.ref b] s) (F0 m 1040 ls [])) : W p l e room_1 s m #[Value.ref b] below meth c H locs 71 7212 (lw_Z below #[Value.ref b] s) (F0 m 747 ls []) := by
  obtain ⟨hx, hb, hml, hts, hown, hk⟩ := id hZ
  refine lv_aload_n hx hb dL_law_747 rfl (lv_at hl 1 rfl) ?_
  refine lv_aload_n hx hb dL_law_748 rfl (lv_at hl 0 rfl) ?_
  refine lv_iload_n hx hb dL_law_749 rfl (lv_at hl 3 rfl) ?_
  refine lv_iconst (v := (1 : Int32)) hx hb dL_law_750 (by decide) ?_
  refine lv_iadd hx hb dL_law_751 ?_
  refine va_sld hx hb hX hbl hbA hS (xs_in 1 (by decide) hi hL (by decide)) dL_law_752 ?_
  refine lv_aload_n hx hb dL_law_753 rfl (lv_at hl 0 rfl) ?_
  refine lv_iload_n hx hb dL_law_754 rfl (lv_at hl 3 rfl) ?_
  refine lv_iconst (v := (2 : Int32)) hx hb dL_law_755 (by decide) ?_
  refine lv_iadd hx hb dL_law_756 ?_
  refine va_sld hx hb hX hbl hbA hS (xs_in 2 (by decide) hi hL (by decide)) dL_law_757 ?_
  refine lv_aload_n hx hb dL_law_758 rfl (lv_at hl 0 rfl) ?_
  refine lv_iload_n hx hb dL_law_759 rfl (lv_at hl 3 rfl) ?_
  refine lv_iconst (v := (3 : Int32)) hx hb dL_law_760 (by decide) ?_
  refine lv_iadd hx hb dL_law_761 ?_
  refine va_sld hx hb hX hbl hbA hS (xs_in 3 (by decide) hi hL (by decide)) dL_law_762 ?_
  refine lv_if_eq (tgt := 770) hx hb dL_law_763 (by decide) (fun h => absurd h hz) (fun _ => ?_)
  refine lv_iconst (v := (1 : Int32)) hx hb dL_law_766 (by decide) ?_
  refine lv_goto (tgt := 771) hx hb dL_law_767 (by decide) ?_
  refine k_X7_planned hZ hP hS hl.1 wd_3_50 ⟨(Nat.le_of_ble_eq_true rfl), (Nat.le_of_ble_eq_true rfl)⟩ (Nat.le_of_ble_eq_true rfl) dL_law_771 ⟨(Nat.le_of_ble_eq_true rfl), (Nat.le_of_ble_eq_true rfl)⟩ hf7 (fun H locs hP hS => ?_)
  refine lv_aload_n hx hb dL_law_774 rfl (lv_at hl 2 rfl) ?_
  refine lv_aload_n hx hb dL_law_775 rfl (lv_at hl 0 rfl) ?_
  refine lv_iload_n hx hb dL_law_776 rfl (lv_at hl 3 rfl) ?_
  refine lv_iconst (v := (1 : Int32)) hx hb dL_law_777 (by decide) ?_
  refine lv_iadd hx hb dL_law_778 ?_
  refine va_sld hx hb hX hbl hbA hS (xs_in 1 (by decide) hi hL (by decide)) dL_law_779 ?_
  refine lv_aload_n hx hb dL_law_780 rfl (lv_at hl 0 rfl) ?_
  refine lv_iload_n hx hb dL_law_781 rfl (lv_at hl 3 rfl) ?_
  refine lv_iconst (v := (2 : Int32)) hx hb dL_law_782 (by decide) ?_
  refine lv_iadd hx hb dL_law_783 ?_
  refine va_sld hx hb hX hbl hbA hS (xs_in 2 (by decide) hi hL (by decide)) dL_law_784 ?_
  refine lv_aload_n hx hb dL_law_785 rfl (lv_at hl 0 rfl) ?_
  refine lv_iload_n hx hb dL_law_786 rfl (lv_at hl 3 rfl) ?_
  refine lv_iconst (v := (3 : Int32)) hx hb dL_law_787 (by decide) ?_
  refine lv_iadd hx hb dL_law_788 ?_
  refine va_sld hx hb hX hbl hbA hS (xs_in 3 (by decide) hi hL (by decide)) dL_law_789 ?_
  refine lv_if_eq (tgt := 797) hx hb dL_law_790 (by decide) (fun h => absurd h hz) (fun _ => ?_)
  refine lv_iconst (v := (1 : Int32)) hx hb dL_law_793 (by decide) ?_
  refine lv_goto (tgt := 798) hx hb dL_law_794 (by decide) ?_
  refine k_X8_planned hZ hP hS hl.1 wd_4_191 ⟨(Nat.le_of_ble_eq_true rfl), (Nat.le_of_ble_eq_true rfl)⟩ (Nat.le_of_ble_eq_true rfl) dL_law_798 ⟨(Nat.le_of_ble_eq_true rfl), (Nat.le_of_ble_eq_true rfl)⟩ hf8 (fun H locs hP hS => ?_)
  refine lv_icmp_eq (tgt := 1040) hx hb dL_law_801 (by decide) (fun _ => ?_) (fun h => absurd rfl h)
  exact kk H locs ls hP hS hl
def sim_locked (g : Nat) (J : Mem → Prop) : Prop := ∀ (x1 : Int32) (M : Mem), J M → ∃ (r : Int32) (M1 : Mem), fn_X7_locked g x1 M = some (r, M1) ∧ fn_X8_locked g x1 M1 = some r ∧ J M1
set_option maxHeartbeats 4000000 in
theorem lc_locked {p : Program} {l : Launch} {e : Env} {s : State} {m : MethodId} {below : List Frame} {meth : Method} {c : Code} {X : En} {b L : Nat} {xs : Nat → Int32} (hL : L ≤ 4096) (hX : va_X b L xs s s.heap) (hbl : b < s.heap.size) (hbA : ¬ X.A b) (hZ : Fx p c m s #[Value.ref b] X code 4 RL) {g i : Nat} (hi : i + 8 ≤ L) {M : Mem} {r : Int32} {M1 : Mem} {H : Heap} {locs : List Loc} {ls : Array Slot} (hP : wd X M H) (hS : va_S X.A s.heap H locs) (hl : lv_has ls 4 [(0, .ref b), (1, .ref (X.ad 0)), (2, .ref (X.ad 61)), (3, .int (nI i))]) (hf7 : fn_X7_locked g (xs (nI i + (1 : Int32)).toNatClampNeg) M = some (r, M1)) (hf8 : fn_X8_locked g (xs (nI i + (1 : Int32)).toNatClampNeg) M1 = some r)
    (kk : ∀ (H : Heap) (locs : List Loc) (ls : Array Slot), wd X M1 H → va_S X.A s.heap H locs → lv_has ls 4 [(0, .ref b), (1, .ref (X.ad 0)), (2, .ref (X.ad 61)), (3, .int (nI i))] → W p l e room_1 s m #[Value.ref b] below meth c H locs 71 7212 (lw_Z below #[Value.ref b] s) (F0 m 1040 ls [])) : W p l e room_1 s m #[Value.ref b] below meth c H locs 71 7212 (lw_Z below #[Value.ref b] s) (F0 m 806 ls []) := by
  obtain ⟨hx, hb, hml, hts, hown, hk⟩ := id hZ
  refine lv_aload_n hx hb dL_law_806 rfl (lv_at hl 1 rfl) ?_
  refine lv_aload_n hx hb dL_law_807 rfl (lv_at hl 0 rfl) ?_
  refine lv_iload_n hx hb dL_law_808 rfl (lv_at hl 3 rfl) ?_
  refine lv_iconst (v := (1 : Int32)) hx hb dL_law_809 (by decide) ?_
  refine lv_iadd hx hb dL_law_810 ?_
  refine va_sld hx hb hX hbl hbA hS (xs_in 1 (by decide) hi hL (by decide)) dL_law_811 ?_
  refine k_X7_locked hZ hP hS hl.1 wd_3_71 ⟨(Nat.le_of_ble_eq_true rfl), (Nat.le_of_ble_eq_true rfl)⟩ (Nat.le_of_ble_eq_true rfl) dL_law_812 ⟨(Nat.le_of_ble_eq_true rfl), (Nat.le_of_ble_eq_true rfl)⟩ hf7 (fun H locs hP hS => ?_)
  refine lv_aload_n hx hb dL_law_815 rfl (lv_at hl 2 rfl) ?_
  refine lv_aload_n hx hb dL_law_816 rfl (lv_at hl 0 rfl) ?_
  refine lv_iload_n hx hb dL_law_817 rfl (lv_at hl 3 rfl) ?_
  refine lv_iconst (v := (1 : Int32)) hx hb dL_law_818 (by decide) ?_
  refine lv_iadd hx hb dL_law_819 ?_
  refine va_sld hx hb hX hbl hbA hS (xs_in 1 (by decide) hi hL (by decide)) dL_law_820 ?_
  refine k_X8_locked hZ hP hS hl.1 wd_4_209 ⟨(Nat.le_of_ble_eq_true rfl), (Nat.le_of_ble_eq_true rfl)⟩ (Nat.le_of_ble_eq_true rfl) dL_law_821 ⟨(Nat.le_of_ble_eq_true rfl), (Nat.le_of_ble_eq_true rfl)⟩ hf8 (fun H locs hP hS => ?_)
  refine lv_icmp_eq (tgt := 1040) hx hb dL_law_824 (by decide) (fun _ => ?_) (fun h => absurd rfl h)
  exact kk H locs ls hP hS hl
def sim_firstGroup (g : Nat) (J : Mem → Prop) : Prop := ∀ (x1 : Int32) (x2 : Int32) (M : Mem), J M → isZ x2 → ∃ (r : Int32) (M1 : Mem), fn_X7_firstGroup g x1 x2 M = some (r, M1) ∧ fn_X8_firstGroup g x1 x2 M1 = some r ∧ J M1
set_option maxHeartbeats 4000000 in
theorem lc_firstGroup_0 {p : Program} {l : Launch} {e : Env} {s : State} {m : MethodId} {below : List Frame} {meth : Method} {c : Code} {X : En} {b L : Nat} {xs : Nat → Int32} (hL : L ≤ 4096) (hX : va_X b L xs s s.heap) (hbl : b < s.heap.size) (hbA : ¬ X.A b) (hZ : Fx p c m s #[Value.ref b] X code 4 RL) {g i : Nat} (hi : i + 8 ≤ L) {M : Mem} {r : Int32} {M1 : Mem} {H : Heap} {locs : List Loc} {ls : Array Slot} (hP : wd X M H) (hS : va_S X.A s.heap H locs) (hl : lv_has ls 4 [(0, .ref b), (1, .ref (X.ad 0)), (2, .ref (X.ad 61)), (3, .int (nI i))]) (hz :  (xs (nI i + (2 : Int32)).toNatClampNeg) = 0) (hf7 : fn_X7_firstGroup g (xs (nI i + (1 : Int32)).toNatClampNeg) (0 : Int32) M = some (r, M1)) (hf8 : fn_X8_firstGroup g (xs (nI i + (1 : Int32)).toNatClampNeg) (0 : Int32) M1 = some r)
    (kk : ∀ (H : Heap) (locs : List Loc) (ls : Array Slot), wd X M1 H → va_S X.A s.heap H locs → lv_has ls 4 [(0, .ref b), (1, .ref (X.ad 0)), (2, .ref (X.ad 61)), (3, .int (nI i))] → W p l e room_1 s m #[Value.ref b] below meth c H locs 71 7212 (lw_Z below #[Value.ref b] s) (F0 m 1040 ls [])) : W p l e room_1 s m #[Value.ref b] below meth c H locs 71 7212 (lw_Z below #[Value.ref b] s) (F0 m 829 ls []) := by
  obtain ⟨hx, hb, hml, hts, hown, hk⟩ := id hZ
  refine lv_aload_n hx hb dL_law_829 rfl (lv_at hl 1 rfl) ?_
  refine lv_aload_n hx hb dL_law_830 rfl (lv_at hl 0 rfl) ?_
  refine lv_iload_n hx hb dL_law_831 rfl (lv_at hl 3 rfl) ?_
  refine lv_iconst (v := (1 : Int32)) hx hb dL_law_832 (by decide) ?_
  refine lv_iadd hx hb dL_law_833 ?_
  refine va_sld hx hb hX hbl hbA hS (xs_in 1 (by decide) hi hL (by decide)) dL_law_834 ?_
  refine lv_aload_n hx hb dL_law_835 rfl (lv_at hl 0 rfl) ?_
  refine lv_iload_n hx hb dL_law_836 rfl (lv_at hl 3 rfl) ?_
  refine lv_iconst (v := (2 : Int32)) hx hb dL_law_837 (by decide) ?_
  refine lv_iadd hx hb dL_law_838 ?_
  refine va_sld hx hb hX hbl hbA hS (xs_in 2 (by decide) hi hL (by decide)) dL_law_839 ?_
  refine lv_if_eq (tgt := 847) hx hb dL_law_840 (by decide) (fun _ => ?_) (fun h => absurd hz h)
  refine lv_iconst (v := (0 : Int32)) hx hb dL_law_847 (by decide) ?_
  refine k_X7_firstGroup hZ hP hS hl.1 wd_3_80 ⟨(Nat.le_of_ble_eq_true rfl), (Nat.le_of_ble_eq_true rfl)⟩ (Nat.le_of_ble_eq_true rfl) dL_law_848 ⟨(Nat.le_of_ble_eq_true rfl), (Nat.le_of_ble_eq_true rfl)⟩ hf7 (fun H locs hP hS => ?_)
  refine lv_aload_n hx hb dL_law_851 rfl (lv_at hl 2 rfl) ?_
  refine lv_aload_n hx hb dL_law_852 rfl (lv_at hl 0 rfl) ?_
  refine lv_iload_n hx hb dL_law_853 rfl (lv_at hl 3 rfl) ?_
  refine lv_iconst (v := (1 : Int32)) hx hb dL_law_854 (by decide) ?_
  refine lv_iadd hx hb dL_law_855 ?_
  refine va_sld hx hb hX hbl hbA hS (xs_in 1 (by decide) hi hL (by decide)) dL_law_856 ?_
  refine lv_aload_n hx hb dL_law_857 rfl (lv_at hl 0 rfl) ?_
  refine lv_iload_n hx hb dL_law_858 rfl (lv_at hl 3 rfl) ?_
  refine lv_iconst (v := (2 : Int32)) hx hb dL_law_859 (by decide) ?_
  refine lv_iadd hx hb dL_law_860 ?_
  refine va_sld hx hb hX hbl hbA hS (xs_in 2 (by decide) hi hL (by decide)) dL_law_861 ?_
  refine lv_if_eq (tgt := 869) hx hb dL_law_862 (by decide) (fun _ => ?_) (fun h => absurd hz h)
  refine lv_iconst (v := (0 : Int32)) hx hb dL_law_869 (by decide) ?_
  refine k_X8_firstGroup hZ hP hS hl.1 wd_4_217 ⟨(Nat.le_of_ble_eq_true rfl), (Nat.le_of_ble_eq_true rfl)⟩ (Nat.le_of_ble_eq_true rfl) dL_law_870 ⟨(Nat.le_of_ble_eq_true rfl), (Nat.le_of_ble_eq_true rfl)⟩ hf8 (fun H locs hP hS => ?_)
  refine lv_icmp_eq (tgt := 1040) hx hb dL_law_873 (by decide) (fun _ => ?_) (fun h => absurd rfl h)
  exact kk H locs ls hP hS hl
set_option maxHeartbeats 4000000 in
theorem lc_firstGroup_1 {p : Program} {l : Launch} {e : Env} {s : State} {m : MethodId} {below : List Frame} {meth : Method} {c : Code} {X : En} {b L : Nat} {xs : Nat → Int32} (hL : L ≤ 4096) (hX : va_X b L xs s s.heap) (hbl : b < s.heap.size) (hbA : ¬ X.A b) (hZ : Fx p c m s #[Value.ref b] X code 4 RL) {g i : Nat} (hi : i + 8 ≤ L) {M : Mem} {r : Int32} {M1 : Mem} {H : Heap} {locs : List Loc} {ls : Array Slot} (hP : wd X M H) (hS : va_S X.A s.heap H locs) (hl : lv_has ls 4 [(0, .ref b), (1, .ref (X.ad 0)), (2, .ref (X.ad 61)), (3, .int (nI i))]) (hz : ¬ (xs (nI i + (2 : Int32)).toNatClampNeg) = 0) (hf7 : fn_X7_firstGroup g (xs (nI i + (1 : Int32)).toNatClampNeg) (1 : Int32) M = some (r, M1)) (hf8 : fn_X8_firstGroup g (xs (nI i + (1 : Int32)).toNatClampNeg) (1 : Int32) M1 = some r)
    (kk : ∀ (H : Heap) (locs : List Loc) (ls : Array Slot), wd X M1 H → va_S X.A s.heap H locs → lv_has ls 4 [(0, .ref b), (1, .ref (X.ad 0)), (2, .ref (X.ad 61)), (3, .int (nI i))] → W p l e room_1 s m #[Value.ref b] below meth c H locs 71 7212 (lw_Z below #[Value.ref b] s) (F0 m 1040 ls [])) : W p l e room_1 s m #[Value.ref b] below meth c H locs 71 7212 (lw_Z below #[Value.ref b] s) (F0 m 829 ls []) := by
  obtain ⟨hx, hb, hml, hts, hown, hk⟩ := id hZ
  refine lv_aload_n hx hb dL_law_829 rfl (lv_at hl 1 rfl) ?_
  refine lv_aload_n hx hb dL_law_830 rfl (lv_at hl 0 rfl) ?_
  refine lv_iload_n hx hb dL_law_831 rfl (lv_at hl 3 rfl) ?_
  refine lv_iconst (v := (1 : Int32)) hx hb dL_law_832 (by decide) ?_
  refine lv_iadd hx hb dL_law_833 ?_
  refine va_sld hx hb hX hbl hbA hS (xs_in 1 (by decide) hi hL (by decide)) dL_law_834 ?_
  refine lv_aload_n hx hb dL_law_835 rfl (lv_at hl 0 rfl) ?_
  refine lv_iload_n hx hb dL_law_836 rfl (lv_at hl 3 rfl) ?_
  refine lv_iconst (v := (2 : Int32)) hx hb dL_law_837 (by decide) ?_
  refine lv_iadd hx hb dL_law_838 ?_
  refine va_sld hx hb hX hbl hbA hS (xs_in 2 (by decide) hi hL (by decide)) dL_law_839 ?_
  refine lv_if_eq (tgt := 847) hx hb dL_law_840 (by decide) (fun h => absurd h hz) (fun _ => ?_)
  refine lv_iconst (v := (1 : Int32)) hx hb dL_law_843 (by decide) ?_
  refine lv_goto (tgt := 848) hx hb dL_law_844 (by decide) ?_
  refine k_X7_firstGroup hZ hP hS hl.1 wd_3_80 ⟨(Nat.le_of_ble_eq_true rfl), (Nat.le_of_ble_eq_true rfl)⟩ (Nat.le_of_ble_eq_true rfl) dL_law_848 ⟨(Nat.le_of_ble_eq_true rfl), (Nat.le_of_ble_eq_true rfl)⟩ hf7 (fun H locs hP hS => ?_)
  refine lv_aload_n hx hb dL_law_851 rfl (lv_at hl 2 rfl) ?_
  refine lv_aload_n hx hb dL_law_852 rfl (lv_at hl 0 rfl) ?_
  refine lv_iload_n hx hb dL_law_853 rfl (lv_at hl 3 rfl) ?_
  refine lv_iconst (v := (1 : Int32)) hx hb dL_law_854 (by decide) ?_
  refine lv_iadd hx hb dL_law_855 ?_
  refine va_sld hx hb hX hbl hbA hS (xs_in 1 (by decide) hi hL (by decide)) dL_law_856 ?_
  refine lv_aload_n hx hb dL_law_857 rfl (lv_at hl 0 rfl) ?_
  refine lv_iload_n hx hb dL_law_858 rfl (lv_at hl 3 rfl) ?_
  refine lv_iconst (v := (2 : Int32)) hx hb dL_law_859 (by decide) ?_
  refine lv_iadd hx hb dL_law_860 ?_
  refine va_sld hx hb hX hbl hbA hS (xs_in 2 (by decide) hi hL (by decide)) dL_law_861 ?_
  refine lv_if_eq (tgt := 869) hx hb dL_law_862 (by decide) (fun h => absurd h hz) (fun _ => ?_)
  refine lv_iconst (v := (1 : Int32)) hx hb dL_law_865 (by decide) ?_
  refine lv_goto (tgt := 870) hx hb dL_law_866 (by decide) ?_
  refine k_X8_firstGroup hZ hP hS hl.1 wd_4_217 ⟨(Nat.le_of_ble_eq_true rfl), (Nat.le_of_ble_eq_true rfl)⟩ (Nat.le_of_ble_eq_true rfl) dL_law_870 ⟨(Nat.le_of_ble_eq_true rfl), (Nat.le_of_ble_eq_true rfl)⟩ hf8 (fun H locs hP hS => ?_)
  refine lv_icmp_eq (tgt := 1040) hx hb dL_law_873 (by decide) (fun _ => ?_) (fun h => absurd rfl h)
  exact kk H locs ls hP hS hl
def sim_put (g : Nat) (J : Mem → Prop) : Prop := ∀ (x1 : Int32) (x2 : Int32) (M : Mem), J M → ∃ (r : Int32) (M1 : Mem) (M2 : Mem), fn_X7_put g x1 x2 M = some (r, M1) ∧ fn_X8_put g x1 x2 M1 = some (r, M2) ∧ J M2
set_option maxHeartbeats 4000000 in
theorem lc_put {p : Program} {l : Launch} {e : Env} {s : State} {m : MethodId} {below : List Frame} {meth : Method} {c : Code} {X : En} {b L : Nat} {xs : Nat → Int32} (hL : L ≤ 4096) (hX : va_X b L xs s s.heap) (hbl : b < s.heap.size) (hbA : ¬ X.A b) (hZ : Fx p c m s #[Value.ref b] X code 4 RL) {g i : Nat} (hi : i + 8 ≤ L) {M : Mem} {r : Int32} {M1 : Mem} {M2 : Mem} {H : Heap} {locs : List Loc} {ls : Array Slot} (hP : wd X M H) (hS : va_S X.A s.heap H locs) (hl : lv_has ls 4 [(0, .ref b), (1, .ref (X.ad 0)), (2, .ref (X.ad 61)), (3, .int (nI i))]) (hf7 : fn_X7_put g (xs (nI i + (1 : Int32)).toNatClampNeg) (xs (nI i + (2 : Int32)).toNatClampNeg) M = some (r, M1)) (hf8 : fn_X8_put g (xs (nI i + (1 : Int32)).toNatClampNeg) (xs (nI i + (2 : Int32)).toNatClampNeg) M1 = some (r, M2))
    (kk : ∀ (H : Heap) (locs : List Loc) (ls : Array Slot), wd X M2 H → va_S X.A s.heap H locs → lv_has ls 4 [(0, .ref b), (1, .ref (X.ad 0)), (2, .ref (X.ad 61)), (3, .int (nI i))] → W p l e room_1 s m #[Value.ref b] below meth c H locs 71 7212 (lw_Z below #[Value.ref b] s) (F0 m 1040 ls [])) : W p l e room_1 s m #[Value.ref b] below meth c H locs 71 7212 (lw_Z below #[Value.ref b] s) (F0 m 878 ls []) := by
  obtain ⟨hx, hb, hml, hts, hown, hk⟩ := id hZ
  refine lv_aload_n hx hb dL_law_878 rfl (lv_at hl 1 rfl) ?_
  refine lv_aload_n hx hb dL_law_879 rfl (lv_at hl 0 rfl) ?_
  refine lv_iload_n hx hb dL_law_880 rfl (lv_at hl 3 rfl) ?_
  refine lv_iconst (v := (1 : Int32)) hx hb dL_law_881 (by decide) ?_
  refine lv_iadd hx hb dL_law_882 ?_
  refine va_sld hx hb hX hbl hbA hS (xs_in 1 (by decide) hi hL (by decide)) dL_law_883 ?_
  refine lv_aload_n hx hb dL_law_884 rfl (lv_at hl 0 rfl) ?_
  refine lv_iload_n hx hb dL_law_885 rfl (lv_at hl 3 rfl) ?_
  refine lv_iconst (v := (2 : Int32)) hx hb dL_law_886 (by decide) ?_
  refine lv_iadd hx hb dL_law_887 ?_
  refine va_sld hx hb hX hbl hbA hS (xs_in 2 (by decide) hi hL (by decide)) dL_law_888 ?_
  refine k_X7_put hZ hP hS hl.1 wd_3_103 ⟨(Nat.le_of_ble_eq_true rfl), (Nat.le_of_ble_eq_true rfl)⟩ (Nat.le_of_ble_eq_true rfl) dL_law_889 ⟨(Nat.le_of_ble_eq_true rfl), (Nat.le_of_ble_eq_true rfl)⟩ hf7 (fun H locs hP hS => ?_)
  refine lv_aload_n hx hb dL_law_892 rfl (lv_at hl 2 rfl) ?_
  refine lv_aload_n hx hb dL_law_893 rfl (lv_at hl 0 rfl) ?_
  refine lv_iload_n hx hb dL_law_894 rfl (lv_at hl 3 rfl) ?_
  refine lv_iconst (v := (1 : Int32)) hx hb dL_law_895 (by decide) ?_
  refine lv_iadd hx hb dL_law_896 ?_
  refine va_sld hx hb hX hbl hbA hS (xs_in 1 (by decide) hi hL (by decide)) dL_law_897 ?_
  refine lv_aload_n hx hb dL_law_898 rfl (lv_at hl 0 rfl) ?_
  refine lv_iload_n hx hb dL_law_899 rfl (lv_at hl 3 rfl) ?_
  refine lv_iconst (v := (2 : Int32)) hx hb dL_law_900 (by decide) ?_
  refine lv_iadd hx hb dL_law_901 ?_
  refine va_sld hx hb hX hbl hbA hS (xs_in 2 (by decide) hi hL (by decide)) dL_law_902 ?_
  refine k_X8_put hZ hP hS hl.1 wd_4_229 ⟨(Nat.le_of_ble_eq_true rfl), (Nat.le_of_ble_eq_true rfl)⟩ (Nat.le_of_ble_eq_true rfl) dL_law_903 ⟨(Nat.le_of_ble_eq_true rfl), (Nat.le_of_ble_eq_true rfl)⟩ hf8 (fun H locs hP hS => ?_)
  refine lv_icmp_eq (tgt := 1040) hx hb dL_law_906 (by decide) (fun _ => ?_) (fun h => absurd rfl h)
  exact kk H locs ls hP hS hl
def sim_takeOut (g : Nat) (J : Mem → Prop) : Prop := ∀ (x1 : Int32) (x2 : Int32) (M : Mem), J M → ∃ (r : Int32) (M1 : Mem) (M2 : Mem), fn_X7_takeOut g x1 x2 M = some (r, M1) ∧ fn_X8_takeOut g x1 x2 M1 = some (r, M2) ∧ J M2
set_option maxHeartbeats 4000000 in
theorem lc_takeOut {p : Program} {l : Launch} {e : Env} {s : State} {m : MethodId} {below : List Frame} {meth : Method} {c : Code} {X : En} {b L : Nat} {xs : Nat → Int32} (hL : L ≤ 4096) (hX : va_X b L xs s s.heap) (hbl : b < s.heap.size) (hbA : ¬ X.A b) (hZ : Fx p c m s #[Value.ref b] X code 4 RL) {g i : Nat} (hi : i + 8 ≤ L) {M : Mem} {r : Int32} {M1 : Mem} {M2 : Mem} {H : Heap} {locs : List Loc} {ls : Array Slot} (hP : wd X M H) (hS : va_S X.A s.heap H locs) (hl : lv_has ls 4 [(0, .ref b), (1, .ref (X.ad 0)), (2, .ref (X.ad 61)), (3, .int (nI i))]) (hf7 : fn_X7_takeOut g (xs (nI i + (1 : Int32)).toNatClampNeg) (xs (nI i + (2 : Int32)).toNatClampNeg) M = some (r, M1)) (hf8 : fn_X8_takeOut g (xs (nI i + (1 : Int32)).toNatClampNeg) (xs (nI i + (2 : Int32)).toNatClampNeg) M1 = some (r, M2))
    (kk : ∀ (H : Heap) (locs : List Loc) (ls : Array Slot), wd X M2 H → va_S X.A s.heap H locs → lv_has ls 4 [(0, .ref b), (1, .ref (X.ad 0)), (2, .ref (X.ad 61)), (3, .int (nI i))] → W p l e room_1 s m #[Value.ref b] below meth c H locs 71 7212 (lw_Z below #[Value.ref b] s) (F0 m 1040 ls [])) : W p l e room_1 s m #[Value.ref b] below meth c H locs 71 7212 (lw_Z below #[Value.ref b] s) (F0 m 911 ls []) := by
  obtain ⟨hx, hb, hml, hts, hown, hk⟩ := id hZ
  refine lv_aload_n hx hb dL_law_911 rfl (lv_at hl 1 rfl) ?_
  refine lv_aload_n hx hb dL_law_912 rfl (lv_at hl 0 rfl) ?_
  refine lv_iload_n hx hb dL_law_913 rfl (lv_at hl 3 rfl) ?_
  refine lv_iconst (v := (1 : Int32)) hx hb dL_law_914 (by decide) ?_
  refine lv_iadd hx hb dL_law_915 ?_
  refine va_sld hx hb hX hbl hbA hS (xs_in 1 (by decide) hi hL (by decide)) dL_law_916 ?_
  refine lv_aload_n hx hb dL_law_917 rfl (lv_at hl 0 rfl) ?_
  refine lv_iload_n hx hb dL_law_918 rfl (lv_at hl 3 rfl) ?_
  refine lv_iconst (v := (2 : Int32)) hx hb dL_law_919 (by decide) ?_
  refine lv_iadd hx hb dL_law_920 ?_
  refine va_sld hx hb hX hbl hbA hS (xs_in 2 (by decide) hi hL (by decide)) dL_law_921 ?_
  refine k_X7_takeOut hZ hP hS hl.1 wd_3_115 ⟨(Nat.le_of_ble_eq_true rfl), (Nat.le_of_ble_eq_true rfl)⟩ (Nat.le_of_ble_eq_true rfl) dL_law_922 ⟨(Nat.le_of_ble_eq_true rfl), (Nat.le_of_ble_eq_true rfl)⟩ hf7 (fun H locs hP hS => ?_)
  refine lv_aload_n hx hb dL_law_925 rfl (lv_at hl 2 rfl) ?_
  refine lv_aload_n hx hb dL_law_926 rfl (lv_at hl 0 rfl) ?_
  refine lv_iload_n hx hb dL_law_927 rfl (lv_at hl 3 rfl) ?_
  refine lv_iconst (v := (1 : Int32)) hx hb dL_law_928 (by decide) ?_
  refine lv_iadd hx hb dL_law_929 ?_
  refine va_sld hx hb hX hbl hbA hS (xs_in 1 (by decide) hi hL (by decide)) dL_law_930 ?_
  refine lv_aload_n hx hb dL_law_931 rfl (lv_at hl 0 rfl) ?_
  refine lv_iload_n hx hb dL_law_932 rfl (lv_at hl 3 rfl) ?_
  refine lv_iconst (v := (2 : Int32)) hx hb dL_law_933 (by decide) ?_
  refine lv_iadd hx hb dL_law_934 ?_
  refine va_sld hx hb hX hbl hbA hS (xs_in 2 (by decide) hi hL (by decide)) dL_law_935 ?_
  refine k_X8_takeOut hZ hP hS hl.1 wd_4_233 ⟨(Nat.le_of_ble_eq_true rfl), (Nat.le_of_ble_eq_true rfl)⟩ (Nat.le_of_ble_eq_true rfl) dL_law_936 ⟨(Nat.le_of_ble_eq_true rfl), (Nat.le_of_ble_eq_true rfl)⟩ hf8 (fun H locs hP hS => ?_)
  refine lv_icmp_eq (tgt := 1040) hx hb dL_law_939 (by decide) (fun _ => ?_) (fun h => absurd rfl h)
  exact kk H locs ls hP hS hl
def sim_putAll (g : Nat) (J : Mem → Prop) : Prop := ∀ (M : Mem), J M → ∃ (r : Int32) (M1 : Mem) (M2 : Mem), fn_X7_putAll g M = some (r, M1) ∧ fn_X8_putAll g M1 = some (r, M2) ∧ J M2
set_option maxHeartbeats 4000000 in
theorem lc_putAll {p : Program} {l : Launch} {e : Env} {s : State} {m : MethodId} {below : List Frame} {meth : Method} {c : Code} {X : En} {b L : Nat} {xs : Nat → Int32} (hL : L ≤ 4096) (hX : va_X b L xs s s.heap) (hbl : b < s.heap.size) (hbA : ¬ X.A b) (hZ : Fx p c m s #[Value.ref b] X code 4 RL) {g i : Nat} (hi : i + 8 ≤ L) {M : Mem} {r : Int32} {M1 : Mem} {M2 : Mem} {H : Heap} {locs : List Loc} {ls : Array Slot} (hP : wd X M H) (hS : va_S X.A s.heap H locs) (hl : lv_has ls 4 [(0, .ref b), (1, .ref (X.ad 0)), (2, .ref (X.ad 61)), (3, .int (nI i))]) (hf7 : fn_X7_putAll g M = some (r, M1)) (hf8 : fn_X8_putAll g M1 = some (r, M2))
    (kk : ∀ (H : Heap) (locs : List Loc) (ls : Array Slot), wd X M2 H → va_S X.A s.heap H locs → lv_has ls 4 [(0, .ref b), (1, .ref (X.ad 0)), (2, .ref (X.ad 61)), (3, .int (nI i))] → W p l e room_1 s m #[Value.ref b] below meth c H locs 71 7212 (lw_Z below #[Value.ref b] s) (F0 m 1040 ls [])) : W p l e room_1 s m #[Value.ref b] below meth c H locs 71 7212 (lw_Z below #[Value.ref b] s) (F0 m 944 ls []) := by
  obtain ⟨hx, hb, hml, hts, hown, hk⟩ := id hZ
  refine lv_aload_n hx hb dL_law_944 rfl (lv_at hl 1 rfl) ?_
  refine k_X7_putAll hZ hP hS hl.1 wd_3_119 ⟨(Nat.le_of_ble_eq_true rfl), (Nat.le_of_ble_eq_true rfl)⟩ (Nat.le_of_ble_eq_true rfl) dL_law_945 ⟨(Nat.le_of_ble_eq_true rfl), (Nat.le_of_ble_eq_true rfl)⟩ hf7 (fun H locs hP hS => ?_)
  refine lv_aload_n hx hb dL_law_948 rfl (lv_at hl 2 rfl) ?_
  refine k_X8_putAll hZ hP hS hl.1 wd_4_237 ⟨(Nat.le_of_ble_eq_true rfl), (Nat.le_of_ble_eq_true rfl)⟩ (Nat.le_of_ble_eq_true rfl) dL_law_949 ⟨(Nat.le_of_ble_eq_true rfl), (Nat.le_of_ble_eq_true rfl)⟩ hf8 (fun H locs hP hS => ?_)
  refine lv_icmp_eq (tgt := 1040) hx hb dL_law_952 (by decide) (fun _ => ?_) (fun h => absurd rfl h)
  exact kk H locs ls hP hS hl
def sim_ifShift (g : Nat) (J : Mem → Prop) : Prop := ∀ (x1 : Int32) (x2 : Int32) (M : Mem), J M → ∃ (r : Int32) (M1 : Mem) (M2 : Mem), fn_X7_ifShift g x1 x2 M = some (r, M1) ∧ fn_X8_ifShift g x1 x2 M1 = some (r, M2) ∧ J M2
set_option maxHeartbeats 4000000 in
theorem lc_ifShift {p : Program} {l : Launch} {e : Env} {s : State} {m : MethodId} {below : List Frame} {meth : Method} {c : Code} {X : En} {b L : Nat} {xs : Nat → Int32} (hL : L ≤ 4096) (hX : va_X b L xs s s.heap) (hbl : b < s.heap.size) (hbA : ¬ X.A b) (hZ : Fx p c m s #[Value.ref b] X code 4 RL) {g i : Nat} (hi : i + 8 ≤ L) {M : Mem} {r : Int32} {M1 : Mem} {M2 : Mem} {H : Heap} {locs : List Loc} {ls : Array Slot} (hP : wd X M H) (hS : va_S X.A s.heap H locs) (hl : lv_has ls 4 [(0, .ref b), (1, .ref (X.ad 0)), (2, .ref (X.ad 61)), (3, .int (nI i))]) (hf7 : fn_X7_ifShift g (xs (nI i + (1 : Int32)).toNatClampNeg) (xs (nI i + (2 : Int32)).toNatClampNeg) M = some (r, M1)) (hf8 : fn_X8_ifShift g (xs (nI i + (1 : Int32)).toNatClampNeg) (xs (nI i + (2 : Int32)).toNatClampNeg) M1 = some (r, M2))
    (kk : ∀ (H : Heap) (locs : List Loc) (ls : Array Slot), wd X M2 H → va_S X.A s.heap H locs → lv_has ls 4 [(0, .ref b), (1, .ref (X.ad 0)), (2, .ref (X.ad 61)), (3, .int (nI i))] → W p l e room_1 s m #[Value.ref b] below meth c H locs 71 7212 (lw_Z below #[Value.ref b] s) (F0 m 1040 ls [])) : W p l e room_1 s m #[Value.ref b] below meth c H locs 71 7212 (lw_Z below #[Value.ref b] s) (F0 m 957 ls []) := by
  obtain ⟨hx, hb, hml, hts, hown, hk⟩ := id hZ
  refine lv_aload_n hx hb dL_law_957 rfl (lv_at hl 1 rfl) ?_
  refine lv_aload_n hx hb dL_law_958 rfl (lv_at hl 0 rfl) ?_
  refine lv_iload_n hx hb dL_law_959 rfl (lv_at hl 3 rfl) ?_
  refine lv_iconst (v := (1 : Int32)) hx hb dL_law_960 (by decide) ?_
  refine lv_iadd hx hb dL_law_961 ?_
  refine va_sld hx hb hX hbl hbA hS (xs_in 1 (by decide) hi hL (by decide)) dL_law_962 ?_
  refine lv_aload_n hx hb dL_law_963 rfl (lv_at hl 0 rfl) ?_
  refine lv_iload_n hx hb dL_law_964 rfl (lv_at hl 3 rfl) ?_
  refine lv_iconst (v := (2 : Int32)) hx hb dL_law_965 (by decide) ?_
  refine lv_iadd hx hb dL_law_966 ?_
  refine va_sld hx hb hX hbl hbA hS (xs_in 2 (by decide) hi hL (by decide)) dL_law_967 ?_
  refine k_X7_ifShift hZ hP hS hl.1 wd_3_128 ⟨(Nat.le_of_ble_eq_true rfl), (Nat.le_of_ble_eq_true rfl)⟩ (Nat.le_of_ble_eq_true rfl) dL_law_968 ⟨(Nat.le_of_ble_eq_true rfl), (Nat.le_of_ble_eq_true rfl)⟩ hf7 (fun H locs hP hS => ?_)
  refine lv_aload_n hx hb dL_law_971 rfl (lv_at hl 2 rfl) ?_
  refine lv_aload_n hx hb dL_law_972 rfl (lv_at hl 0 rfl) ?_
  refine lv_iload_n hx hb dL_law_973 rfl (lv_at hl 3 rfl) ?_
  refine lv_iconst (v := (1 : Int32)) hx hb dL_law_974 (by decide) ?_
  refine lv_iadd hx hb dL_law_975 ?_
  refine va_sld hx hb hX hbl hbA hS (xs_in 1 (by decide) hi hL (by decide)) dL_law_976 ?_
  refine lv_aload_n hx hb dL_law_977 rfl (lv_at hl 0 rfl) ?_
  refine lv_iload_n hx hb dL_law_978 rfl (lv_at hl 3 rfl) ?_
  refine lv_iconst (v := (2 : Int32)) hx hb dL_law_979 (by decide) ?_
  refine lv_iadd hx hb dL_law_980 ?_
  refine va_sld hx hb hX hbl hbA hS (xs_in 2 (by decide) hi hL (by decide)) dL_law_981 ?_
  refine k_X8_ifShift hZ hP hS hl.1 wd_5_1 ⟨(Nat.le_of_ble_eq_true rfl), (Nat.le_of_ble_eq_true rfl)⟩ (Nat.le_of_ble_eq_true rfl) dL_law_982 ⟨(Nat.le_of_ble_eq_true rfl), (Nat.le_of_ble_eq_true rfl)⟩ hf8 (fun H locs hP hS => ?_)
  refine lv_icmp_eq (tgt := 1040) hx hb dL_law_985 (by decide) (fun _ => ?_) (fun h => absurd rfl h)
  exact kk H locs ls hP hS hl
def sim_undo (g : Nat) (J : Mem → Prop) : Prop := ∀ (M : Mem), J M → ∃ (r : Int32) (M1 : Mem) (M2 : Mem), fn_X7_undo M = some (r, M1) ∧ fn_X8_undo g M1 = some (r, M2) ∧ J M2
set_option maxHeartbeats 4000000 in
theorem lc_undo {p : Program} {l : Launch} {e : Env} {s : State} {m : MethodId} {below : List Frame} {meth : Method} {c : Code} {X : En} {b L : Nat} {xs : Nat → Int32} (hL : L ≤ 4096) (hX : va_X b L xs s s.heap) (hbl : b < s.heap.size) (hbA : ¬ X.A b) (hZ : Fx p c m s #[Value.ref b] X code 4 RL) {g i : Nat} (hi : i + 8 ≤ L) {M : Mem} {r : Int32} {M1 : Mem} {M2 : Mem} {H : Heap} {locs : List Loc} {ls : Array Slot} (hP : wd X M H) (hS : va_S X.A s.heap H locs) (hl : lv_has ls 4 [(0, .ref b), (1, .ref (X.ad 0)), (2, .ref (X.ad 61)), (3, .int (nI i))]) (hf7 : fn_X7_undo M = some (r, M1)) (hf8 : fn_X8_undo g M1 = some (r, M2))
    (kk : ∀ (H : Heap) (locs : List Loc) (ls : Array Slot), wd X M2 H → va_S X.A s.heap H locs → lv_has ls 4 [(0, .ref b), (1, .ref (X.ad 0)), (2, .ref (X.ad 61)), (3, .int (nI i))] → W p l e room_1 s m #[Value.ref b] below meth c H locs 71 7212 (lw_Z below #[Value.ref b] s) (F0 m 1040 ls [])) : W p l e room_1 s m #[Value.ref b] below meth c H locs 71 7212 (lw_Z below #[Value.ref b] s) (F0 m 990 ls []) := by
  obtain ⟨hx, hb, hml, hts, hown, hk⟩ := id hZ
  refine lv_aload_n hx hb dL_law_990 rfl (lv_at hl 1 rfl) ?_
  refine k_X7_undo hZ hP hS hl.1 wd_3_133 ⟨(Nat.le_of_ble_eq_true rfl), (Nat.le_of_ble_eq_true rfl)⟩ (Nat.le_of_ble_eq_true rfl) dL_law_991 ⟨(Nat.le_of_ble_eq_true rfl), (Nat.le_of_ble_eq_true rfl)⟩ hf7 (fun H locs hP hS => ?_)
  refine lv_aload_n hx hb dL_law_994 rfl (lv_at hl 2 rfl) ?_
  refine k_X8_undo hZ hP hS hl.1 wd_3_235 ⟨(Nat.le_of_ble_eq_true rfl), (Nat.le_of_ble_eq_true rfl)⟩ (Nat.le_of_ble_eq_true rfl) dL_law_995 ⟨(Nat.le_of_ble_eq_true rfl), (Nat.le_of_ble_eq_true rfl)⟩ hf8 (fun H locs hP hS => ?_)
  refine lv_icmp_eq (tgt := 1040) hx hb dL_law_998 (by decide) (fun _ => ?_) (fun h => absurd rfl h)
  exact kk H locs ls hP hS hl
def sim_count (g : Nat) (J : Mem → Prop) : Prop := ∀ (x1 : Int32) (M : Mem), J M → ∃ (r : Int32) (M1 : Mem), fn_X7_count g x1 M = some (r, M1) ∧ fn_X8_count g x1 M1 = some r ∧ J M1
set_option maxHeartbeats 4000000 in
theorem lc_count {p : Program} {l : Launch} {e : Env} {s : State} {m : MethodId} {below : List Frame} {meth : Method} {c : Code} {X : En} {b L : Nat} {xs : Nat → Int32} (hL : L ≤ 4096) (hX : va_X b L xs s s.heap) (hbl : b < s.heap.size) (hbA : ¬ X.A b) (hZ : Fx p c m s #[Value.ref b] X code 4 RL) {g i : Nat} (hi : i + 8 ≤ L) {M : Mem} {r : Int32} {M1 : Mem} {H : Heap} {locs : List Loc} {ls : Array Slot} (hP : wd X M H) (hS : va_S X.A s.heap H locs) (hl : lv_has ls 4 [(0, .ref b), (1, .ref (X.ad 0)), (2, .ref (X.ad 61)), (3, .int (nI i))]) (hf7 : fn_X7_count g (xs (nI i + (1 : Int32)).toNatClampNeg) M = some (r, M1)) (hf8 : fn_X8_count g (xs (nI i + (1 : Int32)).toNatClampNeg) M1 = some r)
    (kk : ∀ (H : Heap) (locs : List Loc) (ls : Array Slot), wd X M1 H → va_S X.A s.heap H locs → lv_has ls 4 [(0, .ref b), (1, .ref (X.ad 0)), (2, .ref (X.ad 61)), (3, .int (nI i))] → W p l e room_1 s m #[Value.ref b] below meth c H locs 71 7212 (lw_Z below #[Value.ref b] s) (F0 m 1040 ls [])) : W p l e room_1 s m #[Value.ref b] below meth c H locs 71 7212 (lw_Z below #[Value.ref b] s) (F0 m 1003 ls []) := by
  obtain ⟨hx, hb, hml, hts, hown, hk⟩ := id hZ
  refine lv_aload_n hx hb dL_law_1003 rfl (lv_at hl 1 rfl) ?_
  refine lv_aload_n hx hb dL_law_1004 rfl (lv_at hl 0 rfl) ?_
  refine lv_iload_n hx hb dL_law_1005 rfl (lv_at hl 3 rfl) ?_
  refine lv_iconst (v := (1 : Int32)) hx hb dL_law_1006 (by decide) ?_
  refine lv_iadd hx hb dL_law_1007 ?_
  refine va_sld hx hb hX hbl hbA hS (xs_in 1 (by decide) hi hL (by decide)) dL_law_1008 ?_
  refine k_X7_count hZ hP hS hl.1 wd_3_141 ⟨(Nat.le_of_ble_eq_true rfl), (Nat.le_of_ble_eq_true rfl)⟩ (Nat.le_of_ble_eq_true rfl) dL_law_1009 ⟨(Nat.le_of_ble_eq_true rfl), (Nat.le_of_ble_eq_true rfl)⟩ hf7 (fun H locs hP hS => ?_)
  refine lv_aload_n hx hb dL_law_1012 rfl (lv_at hl 2 rfl) ?_
  refine lv_aload_n hx hb dL_law_1013 rfl (lv_at hl 0 rfl) ?_
  refine lv_iload_n hx hb dL_law_1014 rfl (lv_at hl 3 rfl) ?_
  refine lv_iconst (v := (1 : Int32)) hx hb dL_law_1015 (by decide) ?_
  refine lv_iadd hx hb dL_law_1016 ?_
  refine va_sld hx hb hX hbl hbA hS (xs_in 1 (by decide) hi hL (by decide)) dL_law_1017 ?_
  refine k_X8_count hZ hP hS hl.1 wd_5_5 ⟨(Nat.le_of_ble_eq_true rfl), (Nat.le_of_ble_eq_true rfl)⟩ (Nat.le_of_ble_eq_true rfl) dL_law_1018 ⟨(Nat.le_of_ble_eq_true rfl), (Nat.le_of_ble_eq_true rfl)⟩ hf8 (fun H locs hP hS => ?_)
  refine lv_icmp_eq (tgt := 1040) hx hb dL_law_1021 (by decide) (fun _ => ?_) (fun h => absurd rfl h)
  exact kk H locs ls hP hS hl
def sim_digest (g : Nat) (J : Mem → Prop) : Prop := ∀ (M : Mem), J M → ∃ (r : Int64) (M1 : Mem) (M2 : Mem), fn_X7_digest g M = some (r, M1) ∧ fn_X8_digest g M1 = some (r, M2) ∧ J M2
set_option maxHeartbeats 4000000 in
theorem lc_digest {p : Program} {l : Launch} {e : Env} {s : State} {m : MethodId} {below : List Frame} {meth : Method} {c : Code} {X : En} {b L : Nat} {xs : Nat → Int32} (hL : L ≤ 4096) (hX : va_X b L xs s s.heap) (hbl : b < s.heap.size) (hbA : ¬ X.A b) (hZ : Fx p c m s #[Value.ref b] X code 4 RL) {g i : Nat} (hi : i + 8 ≤ L) {M : Mem} {r : Int64} {M1 : Mem} {M2 : Mem} {H : Heap} {locs : List Loc} {ls : Array Slot} (hP : wd X M H) (hS : va_S X.A s.heap H locs) (hl : lv_has ls 4 [(0, .ref b), (1, .ref (X.ad 0)), (2, .ref (X.ad 61)), (3, .int (nI i))]) (hf7 : fn_X7_digest g M = some (r, M1)) (hf8 : fn_X8_digest g M1 = some (r, M2))
    (kk : ∀ (H : Heap) (locs : List Loc) (ls : Array Slot), wd X M2 H → va_S X.A s.heap H locs → lv_has ls 4 [(0, .ref b), (1, .ref (X.ad 0)), (2, .ref (X.ad 61)), (3, .int (nI i))] → W p l e room_1 s m #[Value.ref b] below meth c H locs 71 7212 (lw_Z below #[Value.ref b] s) (F0 m 1040 ls [])) : W p l e room_1 s m #[Value.ref b] below meth c H locs 71 7212 (lw_Z below #[Value.ref b] s) (F0 m 1026 ls []) := by
  obtain ⟨hx, hb, hml, hts, hown, hk⟩ := id hZ
  refine lv_aload_n hx hb dL_law_1026 rfl (lv_at hl 1 rfl) ?_
  refine k_X7_digest hZ hP hS hl.1 wd_3_145 ⟨(Nat.le_of_ble_eq_true rfl), (Nat.le_of_ble_eq_true rfl)⟩ (Nat.le_of_ble_eq_true rfl) dL_law_1027 ⟨(Nat.le_of_ble_eq_true rfl), (Nat.le_of_ble_eq_true rfl)⟩ hf7 (fun H locs hP hS => ?_)
  refine lv_aload_n hx hb dL_law_1030 rfl (lv_at hl 2 rfl) ?_
  refine k_X8_digest hZ hP hS hl.1 wd_5_13 ⟨(Nat.le_of_ble_eq_true rfl), (Nat.le_of_ble_eq_true rfl)⟩ (Nat.le_of_ble_eq_true rfl) dL_law_1031 ⟨(Nat.le_of_ble_eq_true rfl), (Nat.le_of_ble_eq_true rfl)⟩ hf8 (fun H locs hP hS => ?_)
  refine W.lcmp hx hb dL_law_1034 ?_
  refine lv_if_eq (tgt := 1040) hx hb dL_law_1035 (by decide) (fun _ => ?_) (fun h => absurd (lg_self r) h)
  exact kk H locs ls hP hS hl
