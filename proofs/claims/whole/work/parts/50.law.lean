section XL
variable {p : Program} {l : Launch} {e : Env} {R : Room} {s : State} {m : MethodId} {args : Array Value} {below : List Frame} {meth : Method} {c : Code} {H : Heap} {locs : List Loc} {Q : State → Prop} {cc : ByteArray} {pc nL CC SS : Nat} {ls : Array Slot} {rest : List Value} {D : va_G} {cI cO : ClassId} {ad : Nat → Nat} {S : vS} {own : String} {c0 : Cond} {b L : Nat} {xs : Nat → Int32}
theorem xs_ld (X : CallFix p m c cc nL s args (c0 :: tW) own) (hw : WD D cI cO ad s S H locs) (hX : va_X b L xs s s.heap) (hbl : b < s.heap.size) (hbA : ¬ AA ad s.heap.size b) {i : Int32} (hin : inb i L = true) (hdg : decode cc pc = .ok (.iaload, 1))
    (kk : W p l e R s m args below meth c H locs CC SS Q (F0 m (pc + 1) ls (.int (xs i.toNatClampNeg) :: rest))) : W p l e R s m args below meth c H locs CC SS Q (F0 m pc ls (.int i :: .ref b :: rest)) :=
  va_sld X.1 X.2.1 hX hbl hbA hw.2.2.2.1 (inb_in hin) hdg kk
theorem xs_len (X : CallFix p m c cc nL s args (c0 :: tW) own) (hw : WD D cI cO ad s S H locs) (hX : va_X b L xs s s.heap) (hbl : b < s.heap.size) (hbA : ¬ AA ad s.heap.size b) (hdg : decode cc pc = .ok (.arraylength, 1))
    (kk : W p l e R s m args below meth c H locs CC SS Q (F0 m (pc + 1) ls (.int (nI L) :: rest))) : W p l e R s m args below meth c H locs CC SS Q (F0 m pc ls (.ref b :: rest)) :=
  va_slen X.1 X.2.1 hX hbl hbA hw.2.2.2.1 hdg kk
theorem kVg (hcs : CC ≤ R.cells ∧ SS ≤ R.slots) (X : CallFix p m c cc nL s args (c0 :: tW) own) (hw : WD D cI cO ad s S H locs) {y : MethodName} {b : ByteArray} {nM : Nat} {ret : FieldType} {rm : Room} {As : List Value} {r : Int32} {S' : vS} {o ci n index : Nat} {fs : List Value} {T : u_T} {N : Nat} (hM : CI l y b nM ret rm (.ref (ad o) :: As) D cI cO ad S r S') (ho : o < 109) (hce : cel cI cO ad S o = .inr (ci, fs)) (hc : clsL[ci]? = some (y.cls, T, N)) (hrm : rm.cells = 0 ∧ rm.slots = 0) (h1 : Cond.methodLink own index y ∈ tW) (h2 : Cond.instanceMethod y ∈ tW) (h3 : Cond.selects y.cls y y ∈ tW) (h4 : Cond.initialized y.cls ∈ tW) (h5 : Cond.code y b nM (some ret) ∈ tW)
    (hd : y.cls ≠ "java/lang/invoke/MethodHandle" ∧ y.cls ≠ "java/lang/invoke/VarHandle" ∧ (parseMethodDescriptor y.desc).map (fun d => d.parameters.length) = some n) (hR : rm.frames + 1 ≤ R.frames ∧ 8 + (nM + 11) + rm.locals ≤ R.locals) (hn : As.length = n) (hls : ls.size = nL) {st0 : List Value} (hst : st0 = As.reverse ++ .ref (ad o) :: rest) (hcat : (rest.map fun v => v.category).sum ≤ 8) (hdg : decode cc pc = .ok (.invokevirtual index, 3))
    (kk : ∀ (H1 : Heap) (locs1 : List Loc), WD D cI cO ad s S' H1 locs1 → W p l e R s m args below meth c H1 locs1 CC SS Q (F0 m (pc + 3) ls (.int r :: rest))) : W p l e R s m args below meth c H locs CC SS Q (F0 m pc ls st0) := by
  have hts := X.2.2.2.2
  have tw : ∀ {w : Cond}, w ∈ tW → w.before args s = true := fun h => hts _ (List.mem_cons_of_mem _ h)
  refine va_calli (A0 := AA ad s.heap.size) (H0 := s.heap) (va_runV (As := As) (rest := rest) X (hM H.size) ⟨callB_of n hts (gTc h5) rfl hrm.1 hrm.2 (tw h4) (tw h1) hd hR, tw h2, tw h3⟩ ⟨pb_blind, pb_recv hw ho hce hc, pb_pre hw (.ref (ad o) :: As)⟩ rfl hn hls hst (lv_room hcat) hdg hcs) hw.2.2.2.1 (hA_of hw.2.2.2.1) (hA_of2 hw.2.2.2.1) (fun r1 u t H1 locs1 ht hvm hq hB hz hk hS => ?_)
  obtain ⟨rfl, rfl⟩ := hq
  exact kk H1 locs1 (wd_next hw ht hB hS)
end XL
theorem dL_law_16 : decode cL_law 16 = .ok (.iconst 0, 1) := by decide +kernel
theorem dL_law_17 : decode cL_law 17 = .ok (.istore_n 3, 1) := by decide +kernel
theorem dL_law_18 : decode cL_law 18 = .ok (.iload_n 3, 1) := by decide +kernel
theorem dL_law_19 : decode cL_law 19 = .ok (.aload_n 0, 1) := by decide +kernel
theorem dL_law_20 : decode cL_law 20 = .ok (.arraylength, 1) := by decide +kernel
theorem dL_law_21 : decode cL_law 21 = .ok (.iconst 4, 1) := by decide +kernel
theorem dL_law_22 : decode cL_law 22 = .ok (.isub, 1) := by decide +kernel
theorem dL_law_23 : decode cL_law 23 = .ok (.if_icmp .gt 955, 3) := by decide +kernel
theorem dL_law_26 : decode cL_law 26 = .ok (.aload_n 0, 1) := by decide +kernel
theorem dL_law_27 : decode cL_law 27 = .ok (.iload_n 3, 1) := by decide +kernel
theorem dL_law_28 : decode cL_law 28 = .ok (.iaload, 1) := by decide +kernel
theorem dL_law_29 : decode cL_law 29 = .ok (.bipush 31, 2) := by decide +kernel
theorem dL_law_31 : decode cL_law 31 = .ok (.iand, 1) := by decide +kernel
theorem dL_law_32 : decode cL_law 32 = .ok (.tableswitch 940 0 27 #[128, 191, 204, 237, 286, 329, 362, 421, 454, 487, 510, 543, 592, 615, 628, 641, 684, 717, 740, 753, 786, 799, 832, 855, 878, 891, 904, 917], 128) := by decide +kernel
theorem dL_law_160 : decode cL_law 160 = .ok (.aload_n 1, 1) := by decide +kernel
theorem dL_law_161 : decode cL_law 161 = .ok (.aload_n 0, 1) := by decide +kernel
theorem dL_law_162 : decode cL_law 162 = .ok (.iload_n 3, 1) := by decide +kernel
theorem dL_law_163 : decode cL_law 163 = .ok (.iconst 1, 1) := by decide +kernel
theorem dL_law_164 : decode cL_law 164 = .ok (.iadd, 1) := by decide +kernel
theorem dL_law_165 : decode cL_law 165 = .ok (.iaload, 1) := by decide +kernel
theorem dL_law_166 : decode cL_law 166 = .ok (.aload_n 0, 1) := by decide +kernel
theorem dL_law_167 : decode cL_law 167 = .ok (.iload_n 3, 1) := by decide +kernel
theorem dL_law_168 : decode cL_law 168 = .ok (.iconst 2, 1) := by decide +kernel
theorem dL_law_169 : decode cL_law 169 = .ok (.iadd, 1) := by decide +kernel
theorem dL_law_170 : decode cL_law 170 = .ok (.iaload, 1) := by decide +kernel
theorem dL_law_171 : decode cL_law 171 = .ok (.i2l, 1) := by decide +kernel
theorem dL_law_172 : decode cL_law 172 = .ok (.bipush 32, 2) := by decide +kernel
theorem dL_law_174 : decode cL_law 174 = .ok (.lshl, 1) := by decide +kernel
theorem dL_law_175 : decode cL_law 175 = .ok (.aload_n 0, 1) := by decide +kernel
theorem dL_law_176 : decode cL_law 176 = .ok (.iload_n 3, 1) := by decide +kernel
theorem dL_law_177 : decode cL_law 177 = .ok (.iconst 3, 1) := by decide +kernel
theorem dL_law_178 : decode cL_law 178 = .ok (.iadd, 1) := by decide +kernel
theorem dL_law_179 : decode cL_law 179 = .ok (.iaload, 1) := by decide +kernel
theorem dL_law_180 : decode cL_law 180 = .ok (.i2l, 1) := by decide +kernel
theorem dL_law_181 : decode cL_law 181 = .ok (.ldc2_w 13, 3) := by decide +kernel
theorem dL_law_184 : decode cL_law 184 = .ok (.land, 1) := by decide +kernel
theorem dL_law_185 : decode cL_law 185 = .ok (.lor, 1) := by decide +kernel
theorem dL_law_186 : decode cL_law 186 = .ok (.invokevirtual 15, 3) := by decide +kernel
theorem dL_law_189 : decode cL_law 189 = .ok (.aload_n 2, 1) := by decide +kernel
theorem dL_law_190 : decode cL_law 190 = .ok (.aload_n 0, 1) := by decide +kernel
theorem dL_law_191 : decode cL_law 191 = .ok (.iload_n 3, 1) := by decide +kernel
theorem dL_law_192 : decode cL_law 192 = .ok (.iconst 1, 1) := by decide +kernel
theorem dL_law_193 : decode cL_law 193 = .ok (.iadd, 1) := by decide +kernel
theorem dL_law_194 : decode cL_law 194 = .ok (.iaload, 1) := by decide +kernel
theorem dL_law_195 : decode cL_law 195 = .ok (.aload_n 0, 1) := by decide +kernel
theorem dL_law_196 : decode cL_law 196 = .ok (.iload_n 3, 1) := by decide +kernel
theorem dL_law_197 : decode cL_law 197 = .ok (.iconst 2, 1) := by decide +kernel
theorem dL_law_198 : decode cL_law 198 = .ok (.iadd, 1) := by decide +kernel
theorem dL_law_199 : decode cL_law 199 = .ok (.iaload, 1) := by decide +kernel
theorem dL_law_200 : decode cL_law 200 = .ok (.i2l, 1) := by decide +kernel
theorem dL_law_201 : decode cL_law 201 = .ok (.bipush 32, 2) := by decide +kernel
theorem dL_law_203 : decode cL_law 203 = .ok (.lshl, 1) := by decide +kernel
theorem dL_law_204 : decode cL_law 204 = .ok (.aload_n 0, 1) := by decide +kernel
theorem dL_law_205 : decode cL_law 205 = .ok (.iload_n 3, 1) := by decide +kernel
theorem dL_law_206 : decode cL_law 206 = .ok (.iconst 3, 1) := by decide +kernel
theorem dL_law_207 : decode cL_law 207 = .ok (.iadd, 1) := by decide +kernel
theorem dL_law_208 : decode cL_law 208 = .ok (.iaload, 1) := by decide +kernel
theorem dL_law_209 : decode cL_law 209 = .ok (.i2l, 1) := by decide +kernel
theorem dL_law_210 : decode cL_law 210 = .ok (.ldc2_w 13, 3) := by decide +kernel
theorem dL_law_213 : decode cL_law 213 = .ok (.land, 1) := by decide +kernel
theorem dL_law_214 : decode cL_law 214 = .ok (.lor, 1) := by decide +kernel
theorem dL_law_215 : decode cL_law 215 = .ok (.invokevirtual 19, 3) := by decide +kernel
theorem dL_law_218 : decode cL_law 218 = .ok (.if_icmp .eq 754, 3) := by decide +kernel
theorem dL_law_221 : decode cL_law 221 = .ok (.iconst 0, 1) := by decide +kernel
theorem dL_law_222 : decode cL_law 222 = .ok (.ireturn, 1) := by decide +kernel
theorem dL_law_223 : decode cL_law 223 = .ok (.aload_n 1, 1) := by decide +kernel
theorem dL_law_224 : decode cL_law 224 = .ok (.invokevirtual 20, 3) := by decide +kernel
theorem dL_law_227 : decode cL_law 227 = .ok (.aload_n 2, 1) := by decide +kernel
theorem dL_law_228 : decode cL_law 228 = .ok (.invokevirtual 24, 3) := by decide +kernel
theorem dL_law_231 : decode cL_law 231 = .ok (.if_icmp .eq 741, 3) := by decide +kernel
theorem dL_law_234 : decode cL_law 234 = .ok (.iconst 0, 1) := by decide +kernel
theorem dL_law_235 : decode cL_law 235 = .ok (.ireturn, 1) := by decide +kernel
theorem dL_law_236 : decode cL_law 236 = .ok (.aload_n 1, 1) := by decide +kernel
theorem dL_law_237 : decode cL_law 237 = .ok (.aload_n 0, 1) := by decide +kernel
theorem dL_law_238 : decode cL_law 238 = .ok (.iload_n 3, 1) := by decide +kernel
theorem dL_law_239 : decode cL_law 239 = .ok (.iconst 1, 1) := by decide +kernel
theorem dL_law_240 : decode cL_law 240 = .ok (.iadd, 1) := by decide +kernel
theorem dL_law_241 : decode cL_law 241 = .ok (.iaload, 1) := by decide +kernel
theorem dL_law_242 : decode cL_law 242 = .ok (.aload_n 0, 1) := by decide +kernel
theorem dL_law_243 : decode cL_law 243 = .ok (.iload_n 3, 1) := by decide +kernel
theorem dL_law_244 : decode cL_law 244 = .ok (.iconst 2, 1) := by decide +kernel
theorem dL_law_245 : decode cL_law 245 = .ok (.iadd, 1) := by decide +kernel
theorem dL_law_246 : decode cL_law 246 = .ok (.iaload, 1) := by decide +kernel
theorem dL_law_247 : decode cL_law 247 = .ok (.invokevirtual 25, 3) := by decide +kernel
theorem dL_law_250 : decode cL_law 250 = .ok (.aload_n 2, 1) := by decide +kernel
theorem dL_law_251 : decode cL_law 251 = .ok (.aload_n 0, 1) := by decide +kernel
theorem dL_law_252 : decode cL_law 252 = .ok (.iload_n 3, 1) := by decide +kernel
theorem dL_law_253 : decode cL_law 253 = .ok (.iconst 1, 1) := by decide +kernel
theorem dL_law_254 : decode cL_law 254 = .ok (.iadd, 1) := by decide +kernel
theorem dL_law_255 : decode cL_law 255 = .ok (.iaload, 1) := by decide +kernel
theorem dL_law_256 : decode cL_law 256 = .ok (.aload_n 0, 1) := by decide +kernel
theorem dL_law_257 : decode cL_law 257 = .ok (.iload_n 3, 1) := by decide +kernel
theorem dL_law_258 : decode cL_law 258 = .ok (.iconst 2, 1) := by decide +kernel
theorem dL_law_259 : decode cL_law 259 = .ok (.iadd, 1) := by decide +kernel
theorem dL_law_260 : decode cL_law 260 = .ok (.iaload, 1) := by decide +kernel
theorem dL_law_261 : decode cL_law 261 = .ok (.invokevirtual 29, 3) := by decide +kernel
theorem dL_law_264 : decode cL_law 264 = .ok (.if_icmp .eq 708, 3) := by decide +kernel
theorem dL_law_267 : decode cL_law 267 = .ok (.iconst 0, 1) := by decide +kernel
theorem dL_law_268 : decode cL_law 268 = .ok (.ireturn, 1) := by decide +kernel
theorem dL_law_269 : decode cL_law 269 = .ok (.aload_n 1, 1) := by decide +kernel
theorem dL_law_270 : decode cL_law 270 = .ok (.aload_n 0, 1) := by decide +kernel
theorem dL_law_271 : decode cL_law 271 = .ok (.iload_n 3, 1) := by decide +kernel
theorem dL_law_272 : decode cL_law 272 = .ok (.iconst 1, 1) := by decide +kernel
theorem dL_law_273 : decode cL_law 273 = .ok (.iadd, 1) := by decide +kernel
theorem dL_law_274 : decode cL_law 274 = .ok (.iaload, 1) := by decide +kernel
theorem dL_law_275 : decode cL_law 275 = .ok (.aload_n 0, 1) := by decide +kernel
theorem dL_law_276 : decode cL_law 276 = .ok (.iload_n 3, 1) := by decide +kernel
theorem dL_law_277 : decode cL_law 277 = .ok (.iconst 2, 1) := by decide +kernel
theorem dL_law_278 : decode cL_law 278 = .ok (.iadd, 1) := by decide +kernel
theorem dL_law_279 : decode cL_law 279 = .ok (.iaload, 1) := by decide +kernel
theorem dL_law_280 : decode cL_law 280 = .ok (.ifCond .eq 7, 3) := by decide +kernel
theorem dL_law_283 : decode cL_law 283 = .ok (.iconst 1, 1) := by decide +kernel
theorem dL_law_284 : decode cL_law 284 = .ok (.goto 4, 3) := by decide +kernel
theorem dL_law_287 : decode cL_law 287 = .ok (.iconst 0, 1) := by decide +kernel
theorem dL_law_288 : decode cL_law 288 = .ok (.invokevirtual 30, 3) := by decide +kernel
theorem dL_law_291 : decode cL_law 291 = .ok (.aload_n 2, 1) := by decide +kernel
theorem dL_law_292 : decode cL_law 292 = .ok (.aload_n 0, 1) := by decide +kernel
theorem dL_law_293 : decode cL_law 293 = .ok (.iload_n 3, 1) := by decide +kernel
theorem dL_law_294 : decode cL_law 294 = .ok (.iconst 1, 1) := by decide +kernel
theorem dL_law_295 : decode cL_law 295 = .ok (.iadd, 1) := by decide +kernel
theorem dL_law_296 : decode cL_law 296 = .ok (.iaload, 1) := by decide +kernel
theorem dL_law_297 : decode cL_law 297 = .ok (.aload_n 0, 1) := by decide +kernel
theorem dL_law_298 : decode cL_law 298 = .ok (.iload_n 3, 1) := by decide +kernel
theorem dL_law_299 : decode cL_law 299 = .ok (.iconst 2, 1) := by decide +kernel
theorem dL_law_300 : decode cL_law 300 = .ok (.iadd, 1) := by decide +kernel
theorem dL_law_301 : decode cL_law 301 = .ok (.iaload, 1) := by decide +kernel
theorem dL_law_302 : decode cL_law 302 = .ok (.ifCond .eq 7, 3) := by decide +kernel
theorem dL_law_305 : decode cL_law 305 = .ok (.iconst 1, 1) := by decide +kernel
theorem dL_law_306 : decode cL_law 306 = .ok (.goto 4, 3) := by decide +kernel
theorem dL_law_309 : decode cL_law 309 = .ok (.iconst 0, 1) := by decide +kernel
theorem dL_law_310 : decode cL_law 310 = .ok (.invokevirtual 34, 3) := by decide +kernel
theorem dL_law_313 : decode cL_law 313 = .ok (.if_icmp .eq 659, 3) := by decide +kernel
theorem dL_law_316 : decode cL_law 316 = .ok (.iconst 0, 1) := by decide +kernel
theorem dL_law_317 : decode cL_law 317 = .ok (.ireturn, 1) := by decide +kernel
theorem dL_law_318 : decode cL_law 318 = .ok (.aload_n 1, 1) := by decide +kernel
theorem dL_law_319 : decode cL_law 319 = .ok (.aload_n 0, 1) := by decide +kernel
theorem dL_law_320 : decode cL_law 320 = .ok (.iload_n 3, 1) := by decide +kernel
theorem dL_law_321 : decode cL_law 321 = .ok (.iconst 1, 1) := by decide +kernel
theorem dL_law_322 : decode cL_law 322 = .ok (.iadd, 1) := by decide +kernel
theorem dL_law_323 : decode cL_law 323 = .ok (.iaload, 1) := by decide +kernel
theorem dL_law_324 : decode cL_law 324 = .ok (.aload_n 0, 1) := by decide +kernel
theorem dL_law_325 : decode cL_law 325 = .ok (.iload_n 3, 1) := by decide +kernel
theorem dL_law_326 : decode cL_law 326 = .ok (.iconst 2, 1) := by decide +kernel
theorem dL_law_327 : decode cL_law 327 = .ok (.iadd, 1) := by decide +kernel
theorem dL_law_328 : decode cL_law 328 = .ok (.iaload, 1) := by decide +kernel
theorem dL_law_329 : decode cL_law 329 = .ok (.aload_n 0, 1) := by decide +kernel
theorem dL_law_330 : decode cL_law 330 = .ok (.iload_n 3, 1) := by decide +kernel
theorem dL_law_331 : decode cL_law 331 = .ok (.iconst 3, 1) := by decide +kernel
theorem dL_law_332 : decode cL_law 332 = .ok (.iadd, 1) := by decide +kernel
theorem dL_law_333 : decode cL_law 333 = .ok (.iaload, 1) := by decide +kernel
theorem dL_law_334 : decode cL_law 334 = .ok (.invokevirtual 35, 3) := by decide +kernel
theorem dL_law_337 : decode cL_law 337 = .ok (.aload_n 2, 1) := by decide +kernel
theorem dL_law_338 : decode cL_law 338 = .ok (.aload_n 0, 1) := by decide +kernel
theorem dL_law_339 : decode cL_law 339 = .ok (.iload_n 3, 1) := by decide +kernel
theorem dL_law_340 : decode cL_law 340 = .ok (.iconst 1, 1) := by decide +kernel
theorem dL_law_341 : decode cL_law 341 = .ok (.iadd, 1) := by decide +kernel
theorem dL_law_342 : decode cL_law 342 = .ok (.iaload, 1) := by decide +kernel
theorem dL_law_343 : decode cL_law 343 = .ok (.aload_n 0, 1) := by decide +kernel
theorem dL_law_344 : decode cL_law 344 = .ok (.iload_n 3, 1) := by decide +kernel
theorem dL_law_345 : decode cL_law 345 = .ok (.iconst 2, 1) := by decide +kernel
theorem dL_law_346 : decode cL_law 346 = .ok (.iadd, 1) := by decide +kernel
theorem dL_law_347 : decode cL_law 347 = .ok (.iaload, 1) := by decide +kernel
theorem dL_law_348 : decode cL_law 348 = .ok (.aload_n 0, 1) := by decide +kernel
theorem dL_law_349 : decode cL_law 349 = .ok (.iload_n 3, 1) := by decide +kernel
theorem dL_law_350 : decode cL_law 350 = .ok (.iconst 3, 1) := by decide +kernel
theorem dL_law_351 : decode cL_law 351 = .ok (.iadd, 1) := by decide +kernel
theorem dL_law_352 : decode cL_law 352 = .ok (.iaload, 1) := by decide +kernel
theorem dL_law_353 : decode cL_law 353 = .ok (.invokevirtual 39, 3) := by decide +kernel
theorem dL_law_356 : decode cL_law 356 = .ok (.if_icmp .eq 616, 3) := by decide +kernel
theorem dL_law_359 : decode cL_law 359 = .ok (.iconst 0, 1) := by decide +kernel
theorem dL_law_360 : decode cL_law 360 = .ok (.ireturn, 1) := by decide +kernel
theorem dL_law_361 : decode cL_law 361 = .ok (.aload_n 1, 1) := by decide +kernel
theorem dL_law_362 : decode cL_law 362 = .ok (.aload_n 0, 1) := by decide +kernel
theorem dL_law_363 : decode cL_law 363 = .ok (.iload_n 3, 1) := by decide +kernel
theorem dL_law_364 : decode cL_law 364 = .ok (.iconst 1, 1) := by decide +kernel
theorem dL_law_365 : decode cL_law 365 = .ok (.iadd, 1) := by decide +kernel
theorem dL_law_366 : decode cL_law 366 = .ok (.iaload, 1) := by decide +kernel
theorem dL_law_367 : decode cL_law 367 = .ok (.aload_n 0, 1) := by decide +kernel
theorem dL_law_368 : decode cL_law 368 = .ok (.iload_n 3, 1) := by decide +kernel
theorem dL_law_369 : decode cL_law 369 = .ok (.iconst 2, 1) := by decide +kernel
theorem dL_law_370 : decode cL_law 370 = .ok (.iadd, 1) := by decide +kernel
theorem dL_law_371 : decode cL_law 371 = .ok (.iaload, 1) := by decide +kernel
theorem dL_law_372 : decode cL_law 372 = .ok (.invokevirtual 40, 3) := by decide +kernel
theorem dL_law_375 : decode cL_law 375 = .ok (.aload_n 2, 1) := by decide +kernel
theorem dL_law_376 : decode cL_law 376 = .ok (.aload_n 0, 1) := by decide +kernel
theorem dL_law_377 : decode cL_law 377 = .ok (.iload_n 3, 1) := by decide +kernel
theorem dL_law_378 : decode cL_law 378 = .ok (.iconst 1, 1) := by decide +kernel
theorem dL_law_379 : decode cL_law 379 = .ok (.iadd, 1) := by decide +kernel
theorem dL_law_380 : decode cL_law 380 = .ok (.iaload, 1) := by decide +kernel
theorem dL_law_381 : decode cL_law 381 = .ok (.aload_n 0, 1) := by decide +kernel
theorem dL_law_382 : decode cL_law 382 = .ok (.iload_n 3, 1) := by decide +kernel
theorem dL_law_383 : decode cL_law 383 = .ok (.iconst 2, 1) := by decide +kernel
theorem dL_law_384 : decode cL_law 384 = .ok (.iadd, 1) := by decide +kernel
theorem dL_law_385 : decode cL_law 385 = .ok (.iaload, 1) := by decide +kernel
theorem dL_law_386 : decode cL_law 386 = .ok (.invokevirtual 43, 3) := by decide +kernel
theorem dL_law_389 : decode cL_law 389 = .ok (.if_icmp .eq 583, 3) := by decide +kernel
theorem dL_law_392 : decode cL_law 392 = .ok (.iconst 0, 1) := by decide +kernel
theorem dL_law_393 : decode cL_law 393 = .ok (.ireturn, 1) := by decide +kernel
theorem dL_law_394 : decode cL_law 394 = .ok (.aload_n 1, 1) := by decide +kernel
theorem dL_law_395 : decode cL_law 395 = .ok (.aload_n 0, 1) := by decide +kernel
theorem dL_law_396 : decode cL_law 396 = .ok (.iload_n 3, 1) := by decide +kernel
theorem dL_law_397 : decode cL_law 397 = .ok (.iconst 1, 1) := by decide +kernel
theorem dL_law_398 : decode cL_law 398 = .ok (.iadd, 1) := by decide +kernel
theorem dL_law_399 : decode cL_law 399 = .ok (.iaload, 1) := by decide +kernel
theorem dL_law_400 : decode cL_law 400 = .ok (.aload_n 0, 1) := by decide +kernel
theorem dL_law_401 : decode cL_law 401 = .ok (.iload_n 3, 1) := by decide +kernel
theorem dL_law_402 : decode cL_law 402 = .ok (.iconst 2, 1) := by decide +kernel
theorem dL_law_403 : decode cL_law 403 = .ok (.iadd, 1) := by decide +kernel
theorem dL_law_404 : decode cL_law 404 = .ok (.iaload, 1) := by decide +kernel
theorem dL_law_405 : decode cL_law 405 = .ok (.aload_n 0, 1) := by decide +kernel
theorem dL_law_406 : decode cL_law 406 = .ok (.iload_n 3, 1) := by decide +kernel
theorem dL_law_407 : decode cL_law 407 = .ok (.iconst 3, 1) := by decide +kernel
theorem dL_law_408 : decode cL_law 408 = .ok (.iadd, 1) := by decide +kernel
theorem dL_law_409 : decode cL_law 409 = .ok (.iaload, 1) := by decide +kernel
theorem dL_law_410 : decode cL_law 410 = .ok (.ifCond .eq 7, 3) := by decide +kernel
theorem dL_law_413 : decode cL_law 413 = .ok (.iconst 1, 1) := by decide +kernel
theorem dL_law_414 : decode cL_law 414 = .ok (.goto 4, 3) := by decide +kernel
theorem dL_law_417 : decode cL_law 417 = .ok (.iconst 0, 1) := by decide +kernel
theorem dL_law_418 : decode cL_law 418 = .ok (.invokevirtual 44, 3) := by decide +kernel
theorem dL_law_421 : decode cL_law 421 = .ok (.aload_n 2, 1) := by decide +kernel
theorem dL_law_422 : decode cL_law 422 = .ok (.aload_n 0, 1) := by decide +kernel
theorem dL_law_423 : decode cL_law 423 = .ok (.iload_n 3, 1) := by decide +kernel
theorem dL_law_424 : decode cL_law 424 = .ok (.iconst 1, 1) := by decide +kernel
theorem dL_law_425 : decode cL_law 425 = .ok (.iadd, 1) := by decide +kernel
theorem dL_law_426 : decode cL_law 426 = .ok (.iaload, 1) := by decide +kernel
theorem dL_law_427 : decode cL_law 427 = .ok (.aload_n 0, 1) := by decide +kernel
theorem dL_law_428 : decode cL_law 428 = .ok (.iload_n 3, 1) := by decide +kernel
theorem dL_law_429 : decode cL_law 429 = .ok (.iconst 2, 1) := by decide +kernel
theorem dL_law_430 : decode cL_law 430 = .ok (.iadd, 1) := by decide +kernel
theorem dL_law_431 : decode cL_law 431 = .ok (.iaload, 1) := by decide +kernel
theorem dL_law_432 : decode cL_law 432 = .ok (.aload_n 0, 1) := by decide +kernel
theorem dL_law_433 : decode cL_law 433 = .ok (.iload_n 3, 1) := by decide +kernel
theorem dL_law_434 : decode cL_law 434 = .ok (.iconst 3, 1) := by decide +kernel
theorem dL_law_435 : decode cL_law 435 = .ok (.iadd, 1) := by decide +kernel
theorem dL_law_436 : decode cL_law 436 = .ok (.iaload, 1) := by decide +kernel
theorem dL_law_437 : decode cL_law 437 = .ok (.ifCond .eq 7, 3) := by decide +kernel
theorem dL_law_440 : decode cL_law 440 = .ok (.iconst 1, 1) := by decide +kernel
theorem dL_law_441 : decode cL_law 441 = .ok (.goto 4, 3) := by decide +kernel
theorem dL_law_444 : decode cL_law 444 = .ok (.iconst 0, 1) := by decide +kernel
theorem dL_law_445 : decode cL_law 445 = .ok (.invokevirtual 48, 3) := by decide +kernel
theorem dL_law_448 : decode cL_law 448 = .ok (.if_icmp .eq 524, 3) := by decide +kernel
theorem dL_law_451 : decode cL_law 451 = .ok (.iconst 0, 1) := by decide +kernel
theorem dL_law_452 : decode cL_law 452 = .ok (.ireturn, 1) := by decide +kernel
theorem dL_law_453 : decode cL_law 453 = .ok (.aload_n 1, 1) := by decide +kernel
theorem dL_law_454 : decode cL_law 454 = .ok (.aload_n 0, 1) := by decide +kernel
theorem dL_law_455 : decode cL_law 455 = .ok (.iload_n 3, 1) := by decide +kernel
theorem dL_law_456 : decode cL_law 456 = .ok (.iconst 1, 1) := by decide +kernel
theorem dL_law_457 : decode cL_law 457 = .ok (.iadd, 1) := by decide +kernel
theorem dL_law_458 : decode cL_law 458 = .ok (.iaload, 1) := by decide +kernel
theorem dL_law_459 : decode cL_law 459 = .ok (.aload_n 0, 1) := by decide +kernel
theorem dL_law_460 : decode cL_law 460 = .ok (.iload_n 3, 1) := by decide +kernel
theorem dL_law_461 : decode cL_law 461 = .ok (.iconst 2, 1) := by decide +kernel
theorem dL_law_462 : decode cL_law 462 = .ok (.iadd, 1) := by decide +kernel
theorem dL_law_463 : decode cL_law 463 = .ok (.iaload, 1) := by decide +kernel
theorem dL_law_464 : decode cL_law 464 = .ok (.invokevirtual 49, 3) := by decide +kernel
theorem dL_law_467 : decode cL_law 467 = .ok (.aload_n 2, 1) := by decide +kernel
theorem dL_law_468 : decode cL_law 468 = .ok (.aload_n 0, 1) := by decide +kernel
theorem dL_law_469 : decode cL_law 469 = .ok (.iload_n 3, 1) := by decide +kernel
theorem dL_law_470 : decode cL_law 470 = .ok (.iconst 1, 1) := by decide +kernel
theorem dL_law_471 : decode cL_law 471 = .ok (.iadd, 1) := by decide +kernel
theorem dL_law_472 : decode cL_law 472 = .ok (.iaload, 1) := by decide +kernel
theorem dL_law_473 : decode cL_law 473 = .ok (.aload_n 0, 1) := by decide +kernel
theorem dL_law_474 : decode cL_law 474 = .ok (.iload_n 3, 1) := by decide +kernel
theorem dL_law_475 : decode cL_law 475 = .ok (.iconst 2, 1) := by decide +kernel
theorem dL_law_476 : decode cL_law 476 = .ok (.iadd, 1) := by decide +kernel
theorem dL_law_477 : decode cL_law 477 = .ok (.iaload, 1) := by decide +kernel
theorem dL_law_478 : decode cL_law 478 = .ok (.invokevirtual 52, 3) := by decide +kernel
theorem dL_law_481 : decode cL_law 481 = .ok (.if_icmp .eq 491, 3) := by decide +kernel
theorem dL_law_484 : decode cL_law 484 = .ok (.iconst 0, 1) := by decide +kernel
theorem dL_law_485 : decode cL_law 485 = .ok (.ireturn, 1) := by decide +kernel
theorem dL_law_486 : decode cL_law 486 = .ok (.aload_n 1, 1) := by decide +kernel
theorem dL_law_487 : decode cL_law 487 = .ok (.aload_n 0, 1) := by decide +kernel
theorem dL_law_488 : decode cL_law 488 = .ok (.iload_n 3, 1) := by decide +kernel
theorem dL_law_489 : decode cL_law 489 = .ok (.iconst 1, 1) := by decide +kernel
theorem dL_law_490 : decode cL_law 490 = .ok (.iadd, 1) := by decide +kernel
theorem dL_law_491 : decode cL_law 491 = .ok (.iaload, 1) := by decide +kernel
theorem dL_law_492 : decode cL_law 492 = .ok (.aload_n 0, 1) := by decide +kernel
theorem dL_law_493 : decode cL_law 493 = .ok (.iload_n 3, 1) := by decide +kernel
theorem dL_law_494 : decode cL_law 494 = .ok (.iconst 2, 1) := by decide +kernel
theorem dL_law_495 : decode cL_law 495 = .ok (.iadd, 1) := by decide +kernel
theorem dL_law_496 : decode cL_law 496 = .ok (.iaload, 1) := by decide +kernel
theorem dL_law_497 : decode cL_law 497 = .ok (.invokevirtual 53, 3) := by decide +kernel
theorem dL_law_500 : decode cL_law 500 = .ok (.aload_n 2, 1) := by decide +kernel
theorem dL_law_501 : decode cL_law 501 = .ok (.aload_n 0, 1) := by decide +kernel
theorem dL_law_502 : decode cL_law 502 = .ok (.iload_n 3, 1) := by decide +kernel
theorem dL_law_503 : decode cL_law 503 = .ok (.iconst 1, 1) := by decide +kernel
theorem dL_law_504 : decode cL_law 504 = .ok (.iadd, 1) := by decide +kernel
theorem dL_law_505 : decode cL_law 505 = .ok (.iaload, 1) := by decide +kernel
theorem dL_law_506 : decode cL_law 506 = .ok (.aload_n 0, 1) := by decide +kernel
theorem dL_law_507 : decode cL_law 507 = .ok (.iload_n 3, 1) := by decide +kernel
theorem dL_law_508 : decode cL_law 508 = .ok (.iconst 2, 1) := by decide +kernel
theorem dL_law_509 : decode cL_law 509 = .ok (.iadd, 1) := by decide +kernel
theorem dL_law_510 : decode cL_law 510 = .ok (.iaload, 1) := by decide +kernel
theorem dL_law_511 : decode cL_law 511 = .ok (.invokevirtual 56, 3) := by decide +kernel
theorem dL_law_514 : decode cL_law 514 = .ok (.if_icmp .eq 458, 3) := by decide +kernel
theorem dL_law_517 : decode cL_law 517 = .ok (.iconst 0, 1) := by decide +kernel
theorem dL_law_518 : decode cL_law 518 = .ok (.ireturn, 1) := by decide +kernel
theorem dL_law_519 : decode cL_law 519 = .ok (.aload_n 1, 1) := by decide +kernel
theorem dL_law_520 : decode cL_law 520 = .ok (.aload_n 0, 1) := by decide +kernel
theorem dL_law_521 : decode cL_law 521 = .ok (.iload_n 3, 1) := by decide +kernel
theorem dL_law_522 : decode cL_law 522 = .ok (.iconst 1, 1) := by decide +kernel
theorem dL_law_523 : decode cL_law 523 = .ok (.iadd, 1) := by decide +kernel
theorem dL_law_524 : decode cL_law 524 = .ok (.iaload, 1) := by decide +kernel
theorem dL_law_525 : decode cL_law 525 = .ok (.invokevirtual 57, 3) := by decide +kernel
theorem dL_law_528 : decode cL_law 528 = .ok (.aload_n 2, 1) := by decide +kernel
theorem dL_law_529 : decode cL_law 529 = .ok (.aload_n 0, 1) := by decide +kernel
theorem dL_law_530 : decode cL_law 530 = .ok (.iload_n 3, 1) := by decide +kernel
theorem dL_law_531 : decode cL_law 531 = .ok (.iconst 1, 1) := by decide +kernel
theorem dL_law_532 : decode cL_law 532 = .ok (.iadd, 1) := by decide +kernel
theorem dL_law_533 : decode cL_law 533 = .ok (.iaload, 1) := by decide +kernel
theorem dL_law_534 : decode cL_law 534 = .ok (.invokevirtual 61, 3) := by decide +kernel
theorem dL_law_537 : decode cL_law 537 = .ok (.if_icmp .eq 435, 3) := by decide +kernel
theorem dL_law_540 : decode cL_law 540 = .ok (.iconst 0, 1) := by decide +kernel
theorem dL_law_541 : decode cL_law 541 = .ok (.ireturn, 1) := by decide +kernel
theorem dL_law_542 : decode cL_law 542 = .ok (.aload_n 1, 1) := by decide +kernel
theorem dL_law_543 : decode cL_law 543 = .ok (.aload_n 0, 1) := by decide +kernel
theorem dL_law_544 : decode cL_law 544 = .ok (.iload_n 3, 1) := by decide +kernel
theorem dL_law_545 : decode cL_law 545 = .ok (.iconst 1, 1) := by decide +kernel
theorem dL_law_546 : decode cL_law 546 = .ok (.iadd, 1) := by decide +kernel
theorem dL_law_547 : decode cL_law 547 = .ok (.iaload, 1) := by decide +kernel
theorem dL_law_548 : decode cL_law 548 = .ok (.aload_n 0, 1) := by decide +kernel
theorem dL_law_549 : decode cL_law 549 = .ok (.iload_n 3, 1) := by decide +kernel
theorem dL_law_550 : decode cL_law 550 = .ok (.iconst 2, 1) := by decide +kernel
theorem dL_law_551 : decode cL_law 551 = .ok (.iadd, 1) := by decide +kernel
theorem dL_law_552 : decode cL_law 552 = .ok (.iaload, 1) := by decide +kernel
theorem dL_law_553 : decode cL_law 553 = .ok (.invokevirtual 62, 3) := by decide +kernel
theorem dL_law_556 : decode cL_law 556 = .ok (.aload_n 2, 1) := by decide +kernel
theorem dL_law_557 : decode cL_law 557 = .ok (.aload_n 0, 1) := by decide +kernel
theorem dL_law_558 : decode cL_law 558 = .ok (.iload_n 3, 1) := by decide +kernel
theorem dL_law_559 : decode cL_law 559 = .ok (.iconst 1, 1) := by decide +kernel
theorem dL_law_560 : decode cL_law 560 = .ok (.iadd, 1) := by decide +kernel
theorem dL_law_561 : decode cL_law 561 = .ok (.iaload, 1) := by decide +kernel
theorem dL_law_562 : decode cL_law 562 = .ok (.aload_n 0, 1) := by decide +kernel
theorem dL_law_563 : decode cL_law 563 = .ok (.iload_n 3, 1) := by decide +kernel
theorem dL_law_564 : decode cL_law 564 = .ok (.iconst 2, 1) := by decide +kernel
theorem dL_law_565 : decode cL_law 565 = .ok (.iadd, 1) := by decide +kernel
theorem dL_law_566 : decode cL_law 566 = .ok (.iaload, 1) := by decide +kernel
theorem dL_law_567 : decode cL_law 567 = .ok (.invokevirtual 65, 3) := by decide +kernel
theorem dL_law_570 : decode cL_law 570 = .ok (.if_icmp .eq 402, 3) := by decide +kernel
theorem dL_law_573 : decode cL_law 573 = .ok (.iconst 0, 1) := by decide +kernel
theorem dL_law_574 : decode cL_law 574 = .ok (.ireturn, 1) := by decide +kernel
theorem dL_law_575 : decode cL_law 575 = .ok (.aload_n 1, 1) := by decide +kernel
theorem dL_law_576 : decode cL_law 576 = .ok (.aload_n 0, 1) := by decide +kernel
theorem dL_law_577 : decode cL_law 577 = .ok (.iload_n 3, 1) := by decide +kernel
theorem dL_law_578 : decode cL_law 578 = .ok (.iconst 1, 1) := by decide +kernel
theorem dL_law_579 : decode cL_law 579 = .ok (.iadd, 1) := by decide +kernel
theorem dL_law_580 : decode cL_law 580 = .ok (.iaload, 1) := by decide +kernel
theorem dL_law_581 : decode cL_law 581 = .ok (.aload_n 0, 1) := by decide +kernel
theorem dL_law_582 : decode cL_law 582 = .ok (.iload_n 3, 1) := by decide +kernel
theorem dL_law_583 : decode cL_law 583 = .ok (.iconst 2, 1) := by decide +kernel
theorem dL_law_584 : decode cL_law 584 = .ok (.iadd, 1) := by decide +kernel
theorem dL_law_585 : decode cL_law 585 = .ok (.iaload, 1) := by decide +kernel
theorem dL_law_586 : decode cL_law 586 = .ok (.ifCond .eq 7, 3) := by decide +kernel
theorem dL_law_589 : decode cL_law 589 = .ok (.iconst 1, 1) := by decide +kernel
theorem dL_law_590 : decode cL_law 590 = .ok (.goto 4, 3) := by decide +kernel
theorem dL_law_593 : decode cL_law 593 = .ok (.iconst 0, 1) := by decide +kernel
theorem dL_law_594 : decode cL_law 594 = .ok (.invokevirtual 66, 3) := by decide +kernel
theorem dL_law_597 : decode cL_law 597 = .ok (.aload_n 2, 1) := by decide +kernel
theorem dL_law_598 : decode cL_law 598 = .ok (.aload_n 0, 1) := by decide +kernel
theorem dL_law_599 : decode cL_law 599 = .ok (.iload_n 3, 1) := by decide +kernel
theorem dL_law_600 : decode cL_law 600 = .ok (.iconst 1, 1) := by decide +kernel
theorem dL_law_601 : decode cL_law 601 = .ok (.iadd, 1) := by decide +kernel
theorem dL_law_602 : decode cL_law 602 = .ok (.iaload, 1) := by decide +kernel
theorem dL_law_603 : decode cL_law 603 = .ok (.aload_n 0, 1) := by decide +kernel
theorem dL_law_604 : decode cL_law 604 = .ok (.iload_n 3, 1) := by decide +kernel
theorem dL_law_605 : decode cL_law 605 = .ok (.iconst 2, 1) := by decide +kernel
theorem dL_law_606 : decode cL_law 606 = .ok (.iadd, 1) := by decide +kernel
theorem dL_law_607 : decode cL_law 607 = .ok (.iaload, 1) := by decide +kernel
theorem dL_law_608 : decode cL_law 608 = .ok (.ifCond .eq 7, 3) := by decide +kernel
theorem dL_law_611 : decode cL_law 611 = .ok (.iconst 1, 1) := by decide +kernel
theorem dL_law_612 : decode cL_law 612 = .ok (.goto 4, 3) := by decide +kernel
theorem dL_law_615 : decode cL_law 615 = .ok (.iconst 0, 1) := by decide +kernel
theorem dL_law_616 : decode cL_law 616 = .ok (.invokevirtual 69, 3) := by decide +kernel
theorem dL_law_619 : decode cL_law 619 = .ok (.if_icmp .eq 353, 3) := by decide +kernel
theorem dL_law_622 : decode cL_law 622 = .ok (.iconst 0, 1) := by decide +kernel
theorem dL_law_623 : decode cL_law 623 = .ok (.ireturn, 1) := by decide +kernel
theorem dL_law_624 : decode cL_law 624 = .ok (.aload_n 1, 1) := by decide +kernel
theorem dL_law_625 : decode cL_law 625 = .ok (.aload_n 0, 1) := by decide +kernel
theorem dL_law_626 : decode cL_law 626 = .ok (.iload_n 3, 1) := by decide +kernel
theorem dL_law_627 : decode cL_law 627 = .ok (.iconst 1, 1) := by decide +kernel
theorem dL_law_628 : decode cL_law 628 = .ok (.iadd, 1) := by decide +kernel
theorem dL_law_629 : decode cL_law 629 = .ok (.iaload, 1) := by decide +kernel
theorem dL_law_630 : decode cL_law 630 = .ok (.invokevirtual 70, 3) := by decide +kernel
theorem dL_law_633 : decode cL_law 633 = .ok (.aload_n 2, 1) := by decide +kernel
theorem dL_law_634 : decode cL_law 634 = .ok (.aload_n 0, 1) := by decide +kernel
theorem dL_law_635 : decode cL_law 635 = .ok (.iload_n 3, 1) := by decide +kernel
theorem dL_law_636 : decode cL_law 636 = .ok (.iconst 1, 1) := by decide +kernel
theorem dL_law_637 : decode cL_law 637 = .ok (.iadd, 1) := by decide +kernel
theorem dL_law_638 : decode cL_law 638 = .ok (.iaload, 1) := by decide +kernel
theorem dL_law_639 : decode cL_law 639 = .ok (.invokevirtual 73, 3) := by decide +kernel
theorem dL_law_642 : decode cL_law 642 = .ok (.if_icmp .eq 330, 3) := by decide +kernel
theorem dL_law_645 : decode cL_law 645 = .ok (.iconst 0, 1) := by decide +kernel
theorem dL_law_646 : decode cL_law 646 = .ok (.ireturn, 1) := by decide +kernel
theorem dL_law_647 : decode cL_law 647 = .ok (.aload_n 1, 1) := by decide +kernel
theorem dL_law_648 : decode cL_law 648 = .ok (.invokevirtual 74, 3) := by decide +kernel
theorem dL_law_651 : decode cL_law 651 = .ok (.aload_n 2, 1) := by decide +kernel
theorem dL_law_652 : decode cL_law 652 = .ok (.invokevirtual 77, 3) := by decide +kernel
theorem dL_law_655 : decode cL_law 655 = .ok (.if_icmp .eq 317, 3) := by decide +kernel
theorem dL_law_658 : decode cL_law 658 = .ok (.iconst 0, 1) := by decide +kernel
theorem dL_law_659 : decode cL_law 659 = .ok (.ireturn, 1) := by decide +kernel
theorem dL_law_660 : decode cL_law 660 = .ok (.aload_n 1, 1) := by decide +kernel
theorem dL_law_661 : decode cL_law 661 = .ok (.invokevirtual 78, 3) := by decide +kernel
theorem dL_law_664 : decode cL_law 664 = .ok (.aload_n 2, 1) := by decide +kernel
theorem dL_law_665 : decode cL_law 665 = .ok (.invokevirtual 81, 3) := by decide +kernel
theorem dL_law_668 : decode cL_law 668 = .ok (.if_icmp .eq 304, 3) := by decide +kernel
theorem dL_law_671 : decode cL_law 671 = .ok (.iconst 0, 1) := by decide +kernel
theorem dL_law_672 : decode cL_law 672 = .ok (.ireturn, 1) := by decide +kernel
theorem dL_law_673 : decode cL_law 673 = .ok (.aload_n 1, 1) := by decide +kernel
theorem dL_law_674 : decode cL_law 674 = .ok (.aload_n 0, 1) := by decide +kernel
theorem dL_law_675 : decode cL_law 675 = .ok (.iload_n 3, 1) := by decide +kernel
theorem dL_law_676 : decode cL_law 676 = .ok (.iconst 1, 1) := by decide +kernel
theorem dL_law_677 : decode cL_law 677 = .ok (.iadd, 1) := by decide +kernel
theorem dL_law_678 : decode cL_law 678 = .ok (.iaload, 1) := by decide +kernel
theorem dL_law_679 : decode cL_law 679 = .ok (.aload_n 0, 1) := by decide +kernel
theorem dL_law_680 : decode cL_law 680 = .ok (.iload_n 3, 1) := by decide +kernel
theorem dL_law_681 : decode cL_law 681 = .ok (.iconst 2, 1) := by decide +kernel
theorem dL_law_682 : decode cL_law 682 = .ok (.iadd, 1) := by decide +kernel
theorem dL_law_683 : decode cL_law 683 = .ok (.iaload, 1) := by decide +kernel
theorem dL_law_684 : decode cL_law 684 = .ok (.aload_n 0, 1) := by decide +kernel
theorem dL_law_685 : decode cL_law 685 = .ok (.iload_n 3, 1) := by decide +kernel
theorem dL_law_686 : decode cL_law 686 = .ok (.iconst 3, 1) := by decide +kernel
theorem dL_law_687 : decode cL_law 687 = .ok (.iadd, 1) := by decide +kernel
theorem dL_law_688 : decode cL_law 688 = .ok (.iaload, 1) := by decide +kernel
theorem dL_law_689 : decode cL_law 689 = .ok (.invokevirtual 82, 3) := by decide +kernel
theorem dL_law_692 : decode cL_law 692 = .ok (.aload_n 2, 1) := by decide +kernel
theorem dL_law_693 : decode cL_law 693 = .ok (.aload_n 0, 1) := by decide +kernel
theorem dL_law_694 : decode cL_law 694 = .ok (.iload_n 3, 1) := by decide +kernel
theorem dL_law_695 : decode cL_law 695 = .ok (.iconst 1, 1) := by decide +kernel
theorem dL_law_696 : decode cL_law 696 = .ok (.iadd, 1) := by decide +kernel
theorem dL_law_697 : decode cL_law 697 = .ok (.iaload, 1) := by decide +kernel
theorem dL_law_698 : decode cL_law 698 = .ok (.aload_n 0, 1) := by decide +kernel
theorem dL_law_699 : decode cL_law 699 = .ok (.iload_n 3, 1) := by decide +kernel
theorem dL_law_700 : decode cL_law 700 = .ok (.iconst 2, 1) := by decide +kernel
theorem dL_law_701 : decode cL_law 701 = .ok (.iadd, 1) := by decide +kernel
theorem dL_law_702 : decode cL_law 702 = .ok (.iaload, 1) := by decide +kernel
theorem dL_law_703 : decode cL_law 703 = .ok (.aload_n 0, 1) := by decide +kernel
theorem dL_law_704 : decode cL_law 704 = .ok (.iload_n 3, 1) := by decide +kernel
theorem dL_law_705 : decode cL_law 705 = .ok (.iconst 3, 1) := by decide +kernel
theorem dL_law_706 : decode cL_law 706 = .ok (.iadd, 1) := by decide +kernel
theorem dL_law_707 : decode cL_law 707 = .ok (.iaload, 1) := by decide +kernel
theorem dL_law_708 : decode cL_law 708 = .ok (.invokevirtual 85, 3) := by decide +kernel
theorem dL_law_711 : decode cL_law 711 = .ok (.if_icmp .eq 261, 3) := by decide +kernel
theorem dL_law_714 : decode cL_law 714 = .ok (.iconst 0, 1) := by decide +kernel
theorem dL_law_715 : decode cL_law 715 = .ok (.ireturn, 1) := by decide +kernel
theorem dL_law_716 : decode cL_law 716 = .ok (.aload_n 1, 1) := by decide +kernel
theorem dL_law_717 : decode cL_law 717 = .ok (.aload_n 0, 1) := by decide +kernel
theorem dL_law_718 : decode cL_law 718 = .ok (.iload_n 3, 1) := by decide +kernel
theorem dL_law_719 : decode cL_law 719 = .ok (.iconst 1, 1) := by decide +kernel
theorem dL_law_720 : decode cL_law 720 = .ok (.iadd, 1) := by decide +kernel
theorem dL_law_721 : decode cL_law 721 = .ok (.iaload, 1) := by decide +kernel
theorem dL_law_722 : decode cL_law 722 = .ok (.aload_n 0, 1) := by decide +kernel
theorem dL_law_723 : decode cL_law 723 = .ok (.iload_n 3, 1) := by decide +kernel
theorem dL_law_724 : decode cL_law 724 = .ok (.iconst 2, 1) := by decide +kernel
theorem dL_law_725 : decode cL_law 725 = .ok (.iadd, 1) := by decide +kernel
theorem dL_law_726 : decode cL_law 726 = .ok (.iaload, 1) := by decide +kernel
theorem dL_law_727 : decode cL_law 727 = .ok (.invokevirtual 86, 3) := by decide +kernel
theorem dL_law_730 : decode cL_law 730 = .ok (.aload_n 2, 1) := by decide +kernel
theorem dL_law_731 : decode cL_law 731 = .ok (.aload_n 0, 1) := by decide +kernel
theorem dL_law_732 : decode cL_law 732 = .ok (.iload_n 3, 1) := by decide +kernel
theorem dL_law_733 : decode cL_law 733 = .ok (.iconst 1, 1) := by decide +kernel
theorem dL_law_734 : decode cL_law 734 = .ok (.iadd, 1) := by decide +kernel
theorem dL_law_735 : decode cL_law 735 = .ok (.iaload, 1) := by decide +kernel
theorem dL_law_736 : decode cL_law 736 = .ok (.aload_n 0, 1) := by decide +kernel
theorem dL_law_737 : decode cL_law 737 = .ok (.iload_n 3, 1) := by decide +kernel
theorem dL_law_738 : decode cL_law 738 = .ok (.iconst 2, 1) := by decide +kernel
theorem dL_law_739 : decode cL_law 739 = .ok (.iadd, 1) := by decide +kernel
theorem dL_law_740 : decode cL_law 740 = .ok (.iaload, 1) := by decide +kernel
theorem dL_law_741 : decode cL_law 741 = .ok (.invokevirtual 89, 3) := by decide +kernel
theorem dL_law_744 : decode cL_law 744 = .ok (.if_icmp .eq 228, 3) := by decide +kernel
theorem dL_law_747 : decode cL_law 747 = .ok (.iconst 0, 1) := by decide +kernel
theorem dL_law_748 : decode cL_law 748 = .ok (.ireturn, 1) := by decide +kernel
theorem dL_law_749 : decode cL_law 749 = .ok (.aload_n 1, 1) := by decide +kernel
theorem dL_law_750 : decode cL_law 750 = .ok (.aload_n 0, 1) := by decide +kernel
theorem dL_law_751 : decode cL_law 751 = .ok (.iload_n 3, 1) := by decide +kernel
theorem dL_law_752 : decode cL_law 752 = .ok (.iconst 1, 1) := by decide +kernel
theorem dL_law_753 : decode cL_law 753 = .ok (.iadd, 1) := by decide +kernel
theorem dL_law_754 : decode cL_law 754 = .ok (.iaload, 1) := by decide +kernel
theorem dL_law_755 : decode cL_law 755 = .ok (.invokevirtual 90, 3) := by decide +kernel
theorem dL_law_758 : decode cL_law 758 = .ok (.aload_n 2, 1) := by decide +kernel
theorem dL_law_759 : decode cL_law 759 = .ok (.aload_n 0, 1) := by decide +kernel
theorem dL_law_760 : decode cL_law 760 = .ok (.iload_n 3, 1) := by decide +kernel
theorem dL_law_761 : decode cL_law 761 = .ok (.iconst 1, 1) := by decide +kernel
theorem dL_law_762 : decode cL_law 762 = .ok (.iadd, 1) := by decide +kernel
theorem dL_law_763 : decode cL_law 763 = .ok (.iaload, 1) := by decide +kernel
theorem dL_law_764 : decode cL_law 764 = .ok (.invokevirtual 93, 3) := by decide +kernel
theorem dL_law_767 : decode cL_law 767 = .ok (.if_icmp .eq 205, 3) := by decide +kernel
theorem dL_law_770 : decode cL_law 770 = .ok (.iconst 0, 1) := by decide +kernel
theorem dL_law_771 : decode cL_law 771 = .ok (.ireturn, 1) := by decide +kernel
theorem dL_law_772 : decode cL_law 772 = .ok (.aload_n 1, 1) := by decide +kernel
theorem dL_law_773 : decode cL_law 773 = .ok (.invokevirtual 94, 3) := by decide +kernel
theorem dL_law_776 : decode cL_law 776 = .ok (.aload_n 2, 1) := by decide +kernel
theorem dL_law_777 : decode cL_law 777 = .ok (.invokevirtual 97, 3) := by decide +kernel
theorem dL_law_780 : decode cL_law 780 = .ok (.if_icmp .eq 192, 3) := by decide +kernel
theorem dL_law_783 : decode cL_law 783 = .ok (.iconst 0, 1) := by decide +kernel
theorem dL_law_784 : decode cL_law 784 = .ok (.ireturn, 1) := by decide +kernel
theorem dL_law_785 : decode cL_law 785 = .ok (.aload_n 1, 1) := by decide +kernel
theorem dL_law_786 : decode cL_law 786 = .ok (.aload_n 0, 1) := by decide +kernel
theorem dL_law_787 : decode cL_law 787 = .ok (.iload_n 3, 1) := by decide +kernel
theorem dL_law_788 : decode cL_law 788 = .ok (.iconst 1, 1) := by decide +kernel
theorem dL_law_789 : decode cL_law 789 = .ok (.iadd, 1) := by decide +kernel
theorem dL_law_790 : decode cL_law 790 = .ok (.iaload, 1) := by decide +kernel
theorem dL_law_791 : decode cL_law 791 = .ok (.aload_n 0, 1) := by decide +kernel
theorem dL_law_792 : decode cL_law 792 = .ok (.iload_n 3, 1) := by decide +kernel
theorem dL_law_793 : decode cL_law 793 = .ok (.iconst 2, 1) := by decide +kernel
theorem dL_law_794 : decode cL_law 794 = .ok (.iadd, 1) := by decide +kernel
theorem dL_law_795 : decode cL_law 795 = .ok (.iaload, 1) := by decide +kernel
theorem dL_law_796 : decode cL_law 796 = .ok (.invokevirtual 98, 3) := by decide +kernel
theorem dL_law_799 : decode cL_law 799 = .ok (.aload_n 2, 1) := by decide +kernel
theorem dL_law_800 : decode cL_law 800 = .ok (.aload_n 0, 1) := by decide +kernel
theorem dL_law_801 : decode cL_law 801 = .ok (.iload_n 3, 1) := by decide +kernel
theorem dL_law_802 : decode cL_law 802 = .ok (.iconst 1, 1) := by decide +kernel
theorem dL_law_803 : decode cL_law 803 = .ok (.iadd, 1) := by decide +kernel
theorem dL_law_804 : decode cL_law 804 = .ok (.iaload, 1) := by decide +kernel
theorem dL_law_805 : decode cL_law 805 = .ok (.aload_n 0, 1) := by decide +kernel
theorem dL_law_806 : decode cL_law 806 = .ok (.iload_n 3, 1) := by decide +kernel
theorem dL_law_807 : decode cL_law 807 = .ok (.iconst 2, 1) := by decide +kernel
theorem dL_law_808 : decode cL_law 808 = .ok (.iadd, 1) := by decide +kernel
theorem dL_law_809 : decode cL_law 809 = .ok (.iaload, 1) := by decide +kernel
theorem dL_law_810 : decode cL_law 810 = .ok (.invokevirtual 101, 3) := by decide +kernel
theorem dL_law_813 : decode cL_law 813 = .ok (.if_icmp .eq 159, 3) := by decide +kernel
theorem dL_law_816 : decode cL_law 816 = .ok (.iconst 0, 1) := by decide +kernel
theorem dL_law_817 : decode cL_law 817 = .ok (.ireturn, 1) := by decide +kernel
theorem dL_law_818 : decode cL_law 818 = .ok (.aload_n 1, 1) := by decide +kernel
theorem dL_law_819 : decode cL_law 819 = .ok (.invokevirtual 102, 3) := by decide +kernel
theorem dL_law_822 : decode cL_law 822 = .ok (.aload_n 2, 1) := by decide +kernel
theorem dL_law_823 : decode cL_law 823 = .ok (.invokevirtual 105, 3) := by decide +kernel
theorem dL_law_826 : decode cL_law 826 = .ok (.if_icmp .eq 146, 3) := by decide +kernel
theorem dL_law_829 : decode cL_law 829 = .ok (.iconst 0, 1) := by decide +kernel
theorem dL_law_830 : decode cL_law 830 = .ok (.ireturn, 1) := by decide +kernel
theorem dL_law_831 : decode cL_law 831 = .ok (.aload_n 1, 1) := by decide +kernel
theorem dL_law_832 : decode cL_law 832 = .ok (.aload_n 0, 1) := by decide +kernel
theorem dL_law_833 : decode cL_law 833 = .ok (.iload_n 3, 1) := by decide +kernel
theorem dL_law_834 : decode cL_law 834 = .ok (.iconst 1, 1) := by decide +kernel
theorem dL_law_835 : decode cL_law 835 = .ok (.iadd, 1) := by decide +kernel
theorem dL_law_836 : decode cL_law 836 = .ok (.iaload, 1) := by decide +kernel
theorem dL_law_837 : decode cL_law 837 = .ok (.aload_n 0, 1) := by decide +kernel
theorem dL_law_838 : decode cL_law 838 = .ok (.iload_n 3, 1) := by decide +kernel
theorem dL_law_839 : decode cL_law 839 = .ok (.iconst 2, 1) := by decide +kernel
theorem dL_law_840 : decode cL_law 840 = .ok (.iadd, 1) := by decide +kernel
theorem dL_law_841 : decode cL_law 841 = .ok (.iaload, 1) := by decide +kernel
theorem dL_law_842 : decode cL_law 842 = .ok (.invokevirtual 106, 3) := by decide +kernel
theorem dL_law_845 : decode cL_law 845 = .ok (.aload_n 2, 1) := by decide +kernel
theorem dL_law_846 : decode cL_law 846 = .ok (.aload_n 0, 1) := by decide +kernel
theorem dL_law_847 : decode cL_law 847 = .ok (.iload_n 3, 1) := by decide +kernel
theorem dL_law_848 : decode cL_law 848 = .ok (.iconst 1, 1) := by decide +kernel
theorem dL_law_849 : decode cL_law 849 = .ok (.iadd, 1) := by decide +kernel
theorem dL_law_850 : decode cL_law 850 = .ok (.iaload, 1) := by decide +kernel
theorem dL_law_851 : decode cL_law 851 = .ok (.aload_n 0, 1) := by decide +kernel
theorem dL_law_852 : decode cL_law 852 = .ok (.iload_n 3, 1) := by decide +kernel
theorem dL_law_853 : decode cL_law 853 = .ok (.iconst 2, 1) := by decide +kernel
theorem dL_law_854 : decode cL_law 854 = .ok (.iadd, 1) := by decide +kernel
theorem dL_law_855 : decode cL_law 855 = .ok (.iaload, 1) := by decide +kernel
theorem dL_law_856 : decode cL_law 856 = .ok (.invokevirtual 109, 3) := by decide +kernel
theorem dL_law_859 : decode cL_law 859 = .ok (.if_icmp .eq 113, 3) := by decide +kernel
theorem dL_law_862 : decode cL_law 862 = .ok (.iconst 0, 1) := by decide +kernel
theorem dL_law_863 : decode cL_law 863 = .ok (.ireturn, 1) := by decide +kernel
theorem dL_law_864 : decode cL_law 864 = .ok (.aload_n 1, 1) := by decide +kernel
theorem dL_law_865 : decode cL_law 865 = .ok (.aload_n 0, 1) := by decide +kernel
theorem dL_law_866 : decode cL_law 866 = .ok (.iload_n 3, 1) := by decide +kernel
theorem dL_law_867 : decode cL_law 867 = .ok (.iconst 1, 1) := by decide +kernel
theorem dL_law_868 : decode cL_law 868 = .ok (.iadd, 1) := by decide +kernel
theorem dL_law_869 : decode cL_law 869 = .ok (.iaload, 1) := by decide +kernel
theorem dL_law_870 : decode cL_law 870 = .ok (.invokevirtual 110, 3) := by decide +kernel
theorem dL_law_873 : decode cL_law 873 = .ok (.aload_n 2, 1) := by decide +kernel
theorem dL_law_874 : decode cL_law 874 = .ok (.aload_n 0, 1) := by decide +kernel
theorem dL_law_875 : decode cL_law 875 = .ok (.iload_n 3, 1) := by decide +kernel
theorem dL_law_876 : decode cL_law 876 = .ok (.iconst 1, 1) := by decide +kernel
theorem dL_law_877 : decode cL_law 877 = .ok (.iadd, 1) := by decide +kernel
theorem dL_law_878 : decode cL_law 878 = .ok (.iaload, 1) := by decide +kernel
theorem dL_law_879 : decode cL_law 879 = .ok (.invokevirtual 113, 3) := by decide +kernel
theorem dL_law_882 : decode cL_law 882 = .ok (.if_icmp .eq 90, 3) := by decide +kernel
theorem dL_law_885 : decode cL_law 885 = .ok (.iconst 0, 1) := by decide +kernel
theorem dL_law_886 : decode cL_law 886 = .ok (.ireturn, 1) := by decide +kernel
theorem dL_law_887 : decode cL_law 887 = .ok (.aload_n 1, 1) := by decide +kernel
theorem dL_law_888 : decode cL_law 888 = .ok (.aload_n 0, 1) := by decide +kernel
theorem dL_law_889 : decode cL_law 889 = .ok (.iload_n 3, 1) := by decide +kernel
theorem dL_law_890 : decode cL_law 890 = .ok (.iconst 1, 1) := by decide +kernel
theorem dL_law_891 : decode cL_law 891 = .ok (.iadd, 1) := by decide +kernel
theorem dL_law_892 : decode cL_law 892 = .ok (.iaload, 1) := by decide +kernel
theorem dL_law_893 : decode cL_law 893 = .ok (.invokevirtual 114, 3) := by decide +kernel
theorem dL_law_896 : decode cL_law 896 = .ok (.aload_n 2, 1) := by decide +kernel
theorem dL_law_897 : decode cL_law 897 = .ok (.aload_n 0, 1) := by decide +kernel
theorem dL_law_898 : decode cL_law 898 = .ok (.iload_n 3, 1) := by decide +kernel
theorem dL_law_899 : decode cL_law 899 = .ok (.iconst 1, 1) := by decide +kernel
theorem dL_law_900 : decode cL_law 900 = .ok (.iadd, 1) := by decide +kernel
theorem dL_law_901 : decode cL_law 901 = .ok (.iaload, 1) := by decide +kernel
theorem dL_law_902 : decode cL_law 902 = .ok (.invokevirtual 117, 3) := by decide +kernel
theorem dL_law_905 : decode cL_law 905 = .ok (.if_icmp .eq 67, 3) := by decide +kernel
theorem dL_law_908 : decode cL_law 908 = .ok (.iconst 0, 1) := by decide +kernel
theorem dL_law_909 : decode cL_law 909 = .ok (.ireturn, 1) := by decide +kernel
theorem dL_law_910 : decode cL_law 910 = .ok (.aload_n 1, 1) := by decide +kernel
theorem dL_law_911 : decode cL_law 911 = .ok (.invokevirtual 118, 3) := by decide +kernel
theorem dL_law_914 : decode cL_law 914 = .ok (.aload_n 2, 1) := by decide +kernel
theorem dL_law_915 : decode cL_law 915 = .ok (.invokevirtual 121, 3) := by decide +kernel
theorem dL_law_918 : decode cL_law 918 = .ok (.if_icmp .eq 54, 3) := by decide +kernel
theorem dL_law_921 : decode cL_law 921 = .ok (.iconst 0, 1) := by decide +kernel
theorem dL_law_922 : decode cL_law 922 = .ok (.ireturn, 1) := by decide +kernel
theorem dL_law_923 : decode cL_law 923 = .ok (.aload_n 1, 1) := by decide +kernel
theorem dL_law_924 : decode cL_law 924 = .ok (.invokevirtual 122, 3) := by decide +kernel
theorem dL_law_927 : decode cL_law 927 = .ok (.aload_n 2, 1) := by decide +kernel
theorem dL_law_928 : decode cL_law 928 = .ok (.invokevirtual 125, 3) := by decide +kernel
theorem dL_law_931 : decode cL_law 931 = .ok (.if_icmp .eq 41, 3) := by decide +kernel
theorem dL_law_934 : decode cL_law 934 = .ok (.iconst 0, 1) := by decide +kernel
theorem dL_law_935 : decode cL_law 935 = .ok (.ireturn, 1) := by decide +kernel
theorem dL_law_936 : decode cL_law 936 = .ok (.aload_n 1, 1) := by decide +kernel
theorem dL_law_937 : decode cL_law 937 = .ok (.invokevirtual 126, 3) := by decide +kernel
theorem dL_law_940 : decode cL_law 940 = .ok (.aload_n 2, 1) := by decide +kernel
theorem dL_law_941 : decode cL_law 941 = .ok (.invokevirtual 129, 3) := by decide +kernel
theorem dL_law_944 : decode cL_law 944 = .ok (.if_icmp .eq 28, 3) := by decide +kernel
theorem dL_law_947 : decode cL_law 947 = .ok (.iconst 0, 1) := by decide +kernel
theorem dL_law_948 : decode cL_law 948 = .ok (.ireturn, 1) := by decide +kernel
theorem dL_law_949 : decode cL_law 949 = .ok (.aload_n 1, 1) := by decide +kernel
theorem dL_law_950 : decode cL_law 950 = .ok (.aload_n 0, 1) := by decide +kernel
theorem dL_law_951 : decode cL_law 951 = .ok (.iload_n 3, 1) := by decide +kernel
theorem dL_law_952 : decode cL_law 952 = .ok (.iconst 1, 1) := by decide +kernel
theorem dL_law_953 : decode cL_law 953 = .ok (.iadd, 1) := by decide +kernel
theorem dL_law_954 : decode cL_law 954 = .ok (.iaload, 1) := by decide +kernel
theorem dL_law_955 : decode cL_law 955 = .ok (.invokevirtual 130, 3) := by decide +kernel
theorem dL_law_958 : decode cL_law 958 = .ok (.aload_n 2, 1) := by decide +kernel
theorem dL_law_959 : decode cL_law 959 = .ok (.aload_n 0, 1) := by decide +kernel
theorem dL_law_960 : decode cL_law 960 = .ok (.iload_n 3, 1) := by decide +kernel
theorem dL_law_961 : decode cL_law 961 = .ok (.iconst 1, 1) := by decide +kernel
theorem dL_law_962 : decode cL_law 962 = .ok (.iadd, 1) := by decide +kernel
theorem dL_law_963 : decode cL_law 963 = .ok (.iaload, 1) := by decide +kernel
theorem dL_law_964 : decode cL_law 964 = .ok (.invokevirtual 133, 3) := by decide +kernel
theorem dL_law_967 : decode cL_law 967 = .ok (.if_icmp .eq 5, 3) := by decide +kernel
theorem dL_law_970 : decode cL_law 970 = .ok (.iconst 0, 1) := by decide +kernel
theorem dL_law_971 : decode cL_law 971 = .ok (.ireturn, 1) := by decide +kernel
theorem dL_law_972 : decode cL_law 972 = .ok (.iinc 3 4, 3) := by decide +kernel
theorem dL_law_975 : decode cL_law 975 = .ok (.goto (-957), 3) := by decide +kernel
theorem dL_law_978 : decode cL_law 978 = .ok (.iconst 1, 1) := by decide +kernel
theorem dL_law_979 : decode cL_law 979 = .ok (.ireturn, 1) := by decide +kernel
def f_L_law_J972 (xs : Nat → Int32) (L : Nat) (rc : Int32 → vS → Option (vS ⊕ (Int32 × vS))) (x3 : Int32) (S : vS) : Option (vS ⊕ (Int32 × vS)) := rc (x3 + 4) S
def f_L_law_J288 (xs : Nat → Int32) (L : Nat) (rc : Int32 → vS → Option (vS ⊕ (Int32 × vS))) (x3 : Int32) (k1 : Int32) (k2 : Int32) (S : vS) : Option (vS ⊕ (Int32 × vS)) := b2 (f_X3_show k1 k2 S) fun r38 S37 => if inb (x3 + (1 : Int32)) L = true then if inb (x3 + (2 : Int32)) L = true then if (xs (x3 + (2 : Int32)).toNatClampNeg) = 0 then b2 (f_X4_show (xs (x3 + (1 : Int32)).toNatClampNeg) (0 : Int32) S37) fun r44 S43 => if r38 = r44 then f_L_law_J972 xs L rc x3 S43 else some (.inr ((0 : Int32), S43)) else b2 (f_X4_show (xs (x3 + (1 : Int32)).toNatClampNeg) (1 : Int32) S37) fun r48 S47 => if r38 = r48 then f_L_law_J972 xs L rc x3 S47 else some (.inr ((0 : Int32), S47)) else none else none
def f_L_law_J418 (xs : Nat → Int32) (L : Nat) (rc : Int32 → vS → Option (vS ⊕ (Int32 × vS))) (x3 : Int32) (k1 : Int32) (k2 : Int32) (k3 : Int32) (S : vS) : Option (vS ⊕ (Int32 × vS)) := b2 (f_X3_pact k1 k2 k3 S) fun r78 S77 => if inb (x3 + (1 : Int32)) L = true then if inb (x3 + (2 : Int32)) L = true then if inb (x3 + (3 : Int32)) L = true then if (xs (x3 + (3 : Int32)).toNatClampNeg) = 0 then b2 (f_X4_pact (xs (x3 + (1 : Int32)).toNatClampNeg) (xs (x3 + (2 : Int32)).toNatClampNeg) (0 : Int32) S77) fun r85 S84 => if r78 = r85 then f_L_law_J972 xs L rc x3 S84 else some (.inr ((0 : Int32), S84)) else b2 (f_X4_pact (xs (x3 + (1 : Int32)).toNatClampNeg) (xs (x3 + (2 : Int32)).toNatClampNeg) (1 : Int32) S77) fun r89 S88 => if r78 = r89 then f_L_law_J972 xs L rc x3 S88 else some (.inr ((0 : Int32), S88)) else none else none else none
def f_L_law_J594 (xs : Nat → Int32) (L : Nat) (rc : Int32 → vS → Option (vS ⊕ (Int32 × vS))) (x3 : Int32) (k1 : Int32) (k2 : Int32) (S : vS) : Option (vS ⊕ (Int32 × vS)) := b2 (f_X3_lacks k1 k2 S) fun r136 S135 => if inb (x3 + (1 : Int32)) L = true then if inb (x3 + (2 : Int32)) L = true then if (xs (x3 + (2 : Int32)).toNatClampNeg) = 0 then b2 (f_X4_lacks (xs (x3 + (1 : Int32)).toNatClampNeg) (0 : Int32) S135) fun r142 S141 => if r136 = r142 then f_L_law_J972 xs L rc x3 S141 else some (.inr ((0 : Int32), S141)) else b2 (f_X4_lacks (xs (x3 + (1 : Int32)).toNatClampNeg) (1 : Int32) S135) fun r146 S145 => if r136 = r146 then f_L_law_J972 xs L rc x3 S145 else some (.inr ((0 : Int32), S145)) else none else none
def f_L_law_L18 (xs : Nat → Int32) (L : Nat) : Nat → Int32 → vS → Option (vS ⊕ (Int32 × vS))
  | 0, _, _ => none
  | n + 1, x3, S => if ((nI L) - (4 : Int32)) < x3 then some (.inl S) else if inb x3 L = true then if ((xs x3.toNatClampNeg) &&& (31 : Int32)) = (0 : Int32) then if inb (x3 + (1 : Int32)) L = true then if inb (x3 + (2 : Int32)) L = true then if inb (x3 + (3 : Int32)) L = true then b2 (f_X3_feed (xs (x3 + (1 : Int32)).toNatClampNeg) (((xs (x3 + (2 : Int32)).toNatClampNeg).toInt64 <<< ((32 : Int32).toInt64 &&& 63)) ||| ((xs (x3 + (3 : Int32)).toNatClampNeg).toInt64 &&& (4294967295 : Int64))) S) fun r9 S8 => b2 (f_X4_feed (xs (x3 + (1 : Int32)).toNatClampNeg) (((xs (x3 + (2 : Int32)).toNatClampNeg).toInt64 <<< ((32 : Int32).toInt64 &&& 63)) ||| ((xs (x3 + (3 : Int32)).toNatClampNeg).toInt64 &&& (4294967295 : Int64))) S8) fun r12 S11 => if r9 = r12 then f_L_law_J972 xs L (f_L_law_L18 xs L n) x3 S11 else some (.inr ((0 : Int32), S11)) else none else none else none else if ((xs x3.toNatClampNeg) &&& (31 : Int32)) = (1 : Int32) then b2 (f_X3_spell  S) fun r17 S16 => b2 (f_X4_spell  S16) fun r20 S19 => if r17 = r20 then f_L_law_J972 xs L (f_L_law_L18 xs L n) x3 S19 else some (.inr ((0 : Int32), S19)) else if ((xs x3.toNatClampNeg) &&& (31 : Int32)) = (2 : Int32) then if inb (x3 + (1 : Int32)) L = true then if inb (x3 + (2 : Int32)) L = true then b2 (f_X3_spellOf (xs (x3 + (1 : Int32)).toNatClampNeg) (xs (x3 + (2 : Int32)).toNatClampNeg) S) fun r27 S26 => b2 (f_X4_spellOf (xs (x3 + (1 : Int32)).toNatClampNeg) (xs (x3 + (2 : Int32)).toNatClampNeg) S26) fun r30 S29 => if r27 = r30 then f_L_law_J972 xs L (f_L_law_L18 xs L n) x3 S29 else some (.inr ((0 : Int32), S29)) else none else none else if ((xs x3.toNatClampNeg) &&& (31 : Int32)) = (3 : Int32) then if inb (x3 + (1 : Int32)) L = true then if inb (x3 + (2 : Int32)) L = true then if (xs (x3 + (2 : Int32)).toNatClampNeg) = 0 then f_L_law_J288 xs L (f_L_law_L18 xs L n) x3 (xs (x3 + (1 : Int32)).toNatClampNeg) (0 : Int32) S else f_L_law_J288 xs L (f_L_law_L18 xs L n) x3 (xs (x3 + (1 : Int32)).toNatClampNeg) (1 : Int32) S else none else none else if ((xs x3.toNatClampNeg) &&& (31 : Int32)) = (4 : Int32) then if inb (x3 + (1 : Int32)) L = true then if inb (x3 + (2 : Int32)) L = true then if inb (x3 + (3 : Int32)) L = true then b2 (f_X3_law (xs (x3 + (1 : Int32)).toNatClampNeg) (xs (x3 + (2 : Int32)).toNatClampNeg) (xs (x3 + (3 : Int32)).toNatClampNeg) S) fun r56 S55 => b2 (f_X4_law (xs (x3 + (1 : Int32)).toNatClampNeg) (xs (x3 + (2 : Int32)).toNatClampNeg) (xs (x3 + (3 : Int32)).toNatClampNeg) S55) fun r59 S58 => if r56 = r59 then f_L_law_J972 xs L (f_L_law_L18 xs L n) x3 S58 else some (.inr ((0 : Int32), S58)) else none else none else none else if ((xs x3.toNatClampNeg) &&& (31 : Int32)) = (5 : Int32) then if inb (x3 + (1 : Int32)) L = true then if inb (x3 + (2 : Int32)) L = true then b2 (f_X3_kind (xs (x3 + (1 : Int32)).toNatClampNeg) (xs (x3 + (2 : Int32)).toNatClampNeg) S) fun r66 S65 => b2 (f_X4_kind (xs (x3 + (1 : Int32)).toNatClampNeg) (xs (x3 + (2 : Int32)).toNatClampNeg) S65) fun r69 S68 => if r66 = r69 then f_L_law_J972 xs L (f_L_law_L18 xs L n) x3 S68 else some (.inr ((0 : Int32), S68)) else none else none else if ((xs x3.toNatClampNeg) &&& (31 : Int32)) = (6 : Int32) then if inb (x3 + (1 : Int32)) L = true then if inb (x3 + (2 : Int32)) L = true then if inb (x3 + (3 : Int32)) L = true then if (xs (x3 + (3 : Int32)).toNatClampNeg) = 0 then f_L_law_J418 xs L (f_L_law_L18 xs L n) x3 (xs (x3 + (1 : Int32)).toNatClampNeg) (xs (x3 + (2 : Int32)).toNatClampNeg) (0 : Int32) S else f_L_law_J418 xs L (f_L_law_L18 xs L n) x3 (xs (x3 + (1 : Int32)).toNatClampNeg) (xs (x3 + (2 : Int32)).toNatClampNeg) (1 : Int32) S else none else none else none else if ((xs x3.toNatClampNeg) &&& (31 : Int32)) = (7 : Int32) then if inb (x3 + (1 : Int32)) L = true then if inb (x3 + (2 : Int32)) L = true then b2 (f_X3_counts (xs (x3 + (1 : Int32)).toNatClampNeg) (xs (x3 + (2 : Int32)).toNatClampNeg) S) fun r96 S95 => b2 (f_X4_counts (xs (x3 + (1 : Int32)).toNatClampNeg) (xs (x3 + (2 : Int32)).toNatClampNeg) S95) fun r99 S98 => if r96 = r99 then f_L_law_J972 xs L (f_L_law_L18 xs L n) x3 S98 else some (.inr ((0 : Int32), S98)) else none else none else if ((xs x3.toNatClampNeg) &&& (31 : Int32)) = (8 : Int32) then if inb (x3 + (1 : Int32)) L = true then if inb (x3 + (2 : Int32)) L = true then b2 (f_X3_month (xs (x3 + (1 : Int32)).toNatClampNeg) (xs (x3 + (2 : Int32)).toNatClampNeg) S) fun r106 S105 => b2 (f_X4_month (xs (x3 + (1 : Int32)).toNatClampNeg) (xs (x3 + (2 : Int32)).toNatClampNeg) S105) fun r109 S108 => if r106 = r109 then f_L_law_J972 xs L (f_L_law_L18 xs L n) x3 S108 else some (.inr ((0 : Int32), S108)) else none else none else if ((xs x3.toNatClampNeg) &&& (31 : Int32)) = (9 : Int32) then if inb (x3 + (1 : Int32)) L = true then b2 (f_X3_over (xs (x3 + (1 : Int32)).toNatClampNeg) S) fun r115 S114 => b2 (f_X4_over (xs (x3 + (1 : Int32)).toNatClampNeg) S114) fun r118 S117 => if r115 = r118 then f_L_law_J972 xs L (f_L_law_L18 xs L n) x3 S117 else some (.inr ((0 : Int32), S117)) else none else if ((xs x3.toNatClampNeg) &&& (31 : Int32)) = (10 : Int32) then if inb (x3 + (1 : Int32)) L = true then if inb (x3 + (2 : Int32)) L = true then b2 (f_X3_alone (xs (x3 + (1 : Int32)).toNatClampNeg) (xs (x3 + (2 : Int32)).toNatClampNeg) S) fun r125 S124 => b2 (f_X4_alone (xs (x3 + (1 : Int32)).toNatClampNeg) (xs (x3 + (2 : Int32)).toNatClampNeg) S124) fun r128 S127 => if r125 = r128 then f_L_law_J972 xs L (f_L_law_L18 xs L n) x3 S127 else some (.inr ((0 : Int32), S127)) else none else none else if ((xs x3.toNatClampNeg) &&& (31 : Int32)) = (11 : Int32) then if inb (x3 + (1 : Int32)) L = true then if inb (x3 + (2 : Int32)) L = true then if (xs (x3 + (2 : Int32)).toNatClampNeg) = 0 then f_L_law_J594 xs L (f_L_law_L18 xs L n) x3 (xs (x3 + (1 : Int32)).toNatClampNeg) (0 : Int32) S else f_L_law_J594 xs L (f_L_law_L18 xs L n) x3 (xs (x3 + (1 : Int32)).toNatClampNeg) (1 : Int32) S else none else none else if ((xs x3.toNatClampNeg) &&& (31 : Int32)) = (12 : Int32) then if inb (x3 + (1 : Int32)) L = true then b2 (f_X3_owed (xs (x3 + (1 : Int32)).toNatClampNeg) S) fun r152 S151 => b2 (f_X4_owed (xs (x3 + (1 : Int32)).toNatClampNeg) S151) fun r155 S154 => if r152 = r155 then f_L_law_J972 xs L (f_L_law_L18 xs L n) x3 S154 else some (.inr ((0 : Int32), S154)) else none else if ((xs x3.toNatClampNeg) &&& (31 : Int32)) = (13 : Int32) then b2 (f_X3_rests  S) fun r160 S159 => b2 (f_X4_rests  S159) fun r163 S162 => if r160 = r163 then f_L_law_J972 xs L (f_L_law_L18 xs L n) x3 S162 else some (.inr ((0 : Int32), S162)) else if ((xs x3.toNatClampNeg) &&& (31 : Int32)) = (14 : Int32) then b2 (f_X3_all  S) fun r168 S167 => b2 (f_X4_all  S167) fun r171 S170 => if r168 = r171 then f_L_law_J972 xs L (f_L_law_L18 xs L n) x3 S170 else some (.inr ((0 : Int32), S170)) else if ((xs x3.toNatClampNeg) &&& (31 : Int32)) = (15 : Int32) then if inb (x3 + (1 : Int32)) L = true then if inb (x3 + (2 : Int32)) L = true then if inb (x3 + (3 : Int32)) L = true then b2 (f_X3_asks (xs (x3 + (1 : Int32)).toNatClampNeg) (xs (x3 + (2 : Int32)).toNatClampNeg) (xs (x3 + (3 : Int32)).toNatClampNeg) S) fun r179 S178 => b2 (f_X4_asks (xs (x3 + (1 : Int32)).toNatClampNeg) (xs (x3 + (2 : Int32)).toNatClampNeg) (xs (x3 + (3 : Int32)).toNatClampNeg) S178) fun r182 S181 => if r179 = r182 then f_L_law_J972 xs L (f_L_law_L18 xs L n) x3 S181 else some (.inr ((0 : Int32), S181)) else none else none else none else if ((xs x3.toNatClampNeg) &&& (31 : Int32)) = (16 : Int32) then if inb (x3 + (1 : Int32)) L = true then if inb (x3 + (2 : Int32)) L = true then b2 (f_X3_when (xs (x3 + (1 : Int32)).toNatClampNeg) (xs (x3 + (2 : Int32)).toNatClampNeg) S) fun r189 S188 => b2 (f_X4_when (xs (x3 + (1 : Int32)).toNatClampNeg) (xs (x3 + (2 : Int32)).toNatClampNeg) S188) fun r192 S191 => if r189 = r192 then f_L_law_J972 xs L (f_L_law_L18 xs L n) x3 S191 else some (.inr ((0 : Int32), S191)) else none else none else if ((xs x3.toNatClampNeg) &&& (31 : Int32)) = (17 : Int32) then if inb (x3 + (1 : Int32)) L = true then b2 (f_X3_lives (xs (x3 + (1 : Int32)).toNatClampNeg) S) fun r198 S197 => b2 (f_X4_lives (xs (x3 + (1 : Int32)).toNatClampNeg) S197) fun r201 S200 => if r198 = r201 then f_L_law_J972 xs L (f_L_law_L18 xs L n) x3 S200 else some (.inr ((0 : Int32), S200)) else none else if ((xs x3.toNatClampNeg) &&& (31 : Int32)) = (18 : Int32) then b2 (f_X3_where  S) fun r206 S205 => b2 (f_X4_where  S205) fun r209 S208 => if r206 = r209 then f_L_law_J972 xs L (f_L_law_L18 xs L n) x3 S208 else some (.inr ((0 : Int32), S208)) else if ((xs x3.toNatClampNeg) &&& (31 : Int32)) = (19 : Int32) then if inb (x3 + (1 : Int32)) L = true then if inb (x3 + (2 : Int32)) L = true then b2 (f_X3_edge (xs (x3 + (1 : Int32)).toNatClampNeg) (xs (x3 + (2 : Int32)).toNatClampNeg) S) fun r216 S215 => b2 (f_X4_edge (xs (x3 + (1 : Int32)).toNatClampNeg) (xs (x3 + (2 : Int32)).toNatClampNeg) S215) fun r219 S218 => if r216 = r219 then f_L_law_J972 xs L (f_L_law_L18 xs L n) x3 S218 else some (.inr ((0 : Int32), S218)) else none else none else if ((xs x3.toNatClampNeg) &&& (31 : Int32)) = (20 : Int32) then b2 (f_X3_hangs  S) fun r224 S223 => b2 (f_X4_hangs  S223) fun r227 S226 => if r224 = r227 then f_L_law_J972 xs L (f_L_law_L18 xs L n) x3 S226 else some (.inr ((0 : Int32), S226)) else if ((xs x3.toNatClampNeg) &&& (31 : Int32)) = (21 : Int32) then if inb (x3 + (1 : Int32)) L = true then if inb (x3 + (2 : Int32)) L = true then b2 (f_X3_year (xs (x3 + (1 : Int32)).toNatClampNeg) (xs (x3 + (2 : Int32)).toNatClampNeg) S) fun r234 S233 => b2 (f_X4_year (xs (x3 + (1 : Int32)).toNatClampNeg) (xs (x3 + (2 : Int32)).toNatClampNeg) S233) fun r237 S236 => if r234 = r237 then f_L_law_J972 xs L (f_L_law_L18 xs L n) x3 S236 else some (.inr ((0 : Int32), S236)) else none else none else if ((xs x3.toNatClampNeg) &&& (31 : Int32)) = (22 : Int32) then if inb (x3 + (1 : Int32)) L = true then b2 (f_X3_proof (xs (x3 + (1 : Int32)).toNatClampNeg) S) fun r243 S242 => b2 (f_X4_proof (xs (x3 + (1 : Int32)).toNatClampNeg) S242) fun r246 S245 => if r243 = r246 then f_L_law_J972 xs L (f_L_law_L18 xs L n) x3 S245 else some (.inr ((0 : Int32), S245)) else none else if ((xs x3.toNatClampNeg) &&& (31 : Int32)) = (23 : Int32) then if inb (x3 + (1 : Int32)) L = true then b2 (f_X3_put (xs (x3 + (1 : Int32)).toNatClampNeg) S) fun r252 S251 => b2 (f_X4_put (xs (x3 + (1 : Int32)).toNatClampNeg) S251) fun r255 S254 => if r252 = r255 then f_L_law_J972 xs L (f_L_law_L18 xs L n) x3 S254 else some (.inr ((0 : Int32), S254)) else none else if ((xs x3.toNatClampNeg) &&& (31 : Int32)) = (24 : Int32) then b2 (f_X3_judge  S) fun r260 S259 => b2 (f_X4_judge  S259) fun r263 S262 => if r260 = r263 then f_L_law_J972 xs L (f_L_law_L18 xs L n) x3 S262 else some (.inr ((0 : Int32), S262)) else if ((xs x3.toNatClampNeg) &&& (31 : Int32)) = (25 : Int32) then b2 (f_X3_image  S) fun r268 S267 => b2 (f_X4_image  S267) fun r271 S270 => if r268 = r271 then f_L_law_J972 xs L (f_L_law_L18 xs L n) x3 S270 else some (.inr ((0 : Int32), S270)) else if ((xs x3.toNatClampNeg) &&& (31 : Int32)) = (26 : Int32) then b2 (f_X3_on  S) fun r276 S275 => b2 (f_X4_on  S275) fun r279 S278 => if r276 = r279 then f_L_law_J972 xs L (f_L_law_L18 xs L n) x3 S278 else some (.inr ((0 : Int32), S278)) else if ((xs x3.toNatClampNeg) &&& (31 : Int32)) = (27 : Int32) then if inb (x3 + (1 : Int32)) L = true then b1 (f_X3_count (xs (x3 + (1 : Int32)).toNatClampNeg) S) fun r284 => b1 (f_X4_count (xs (x3 + (1 : Int32)).toNatClampNeg) S) fun r286 => if r284 = r286 then f_L_law_J972 xs L (f_L_law_L18 xs L n) x3 S else some (.inr ((0 : Int32), S)) else none else f_L_law_J972 xs L (f_L_law_L18 xs L n) x3 S else none
def f_L_law (xs : Nat → Int32) (L : Nat) (S : vS) : Option (Int32 × vS) := bS (f_L_law_L18 xs L FU (0 : Int32) S) some fun S288 => some ((1 : Int32), S288)
set_option maxHeartbeats 8000000 in
set_option maxRecDepth 20000 in
theorem c_L_law {p : Program} {l : Launch} {e : Env} {s : State} {m : MethodId} {args : Array Value} {below : List Frame} {meth : Method} {c : Code} {Q : State → Prop} {CC SS : Nat} {c0 : Cond} {b L : Nat} {xs : Nat → Int32} (D : va_G) (cI cO : ClassId) (ad : Nat → Nat) (X : CallFix p m c cL_law 4 s args (c0 :: tW) RL) (hcs : CC ≤ room_1.cells ∧ SS ≤ room_1.slots) (hX : va_X b L xs s s.heap) (hbl : b < s.heap.size) (hbA : ¬ AA ad s.heap.size b) (S : vS) (R9 : Int32) (S9 : vS) (hf : f_L_law xs L S = some (R9, S9)) (H : Heap) (locs : List Loc) (ls : Array Slot) (hw : WD D cI cO ad s S H locs) (hl : lv_has ls 4 [(0, .ref b), (1, .ref (ad 0)), (2, .ref (ad 5))]) (hfin : ∀ (H : Heap) (locs : List Loc) (v : Int32) (S1 : vS) (pc : Nat) (ls : Array Slot), WD D cI cO ad s S1 H locs → v = R9 → S1 = S9 → narrow .boolean (.int v) = .int v → decode cL_law pc = .ok (.ireturn, 1) → W p l e room_1 s m args below meth c H locs CC SS Q (F0 m pc ls [.int v])) : W p l e room_1 s m args below meth c H locs CC SS Q (F0 m 16 ls []) := by
  have hx := X.1
  have hb := X.2.1
  have L18 : ∀ (n : Nat) (x3 : Int32) (S : vS) (res : (vS ⊕ (Int32 × vS))), f_L_law_L18 xs L n x3 S = some res → (K : ∀  (S2 : vS), some (Sum.inl S2) = some res → ∀ (H : Heap) (locs : List Loc) (ls : Array Slot), WD D cI cO ad s S2 H locs → lv_has ls 4 [] → W p l e room_1 s m args below meth c H locs CC SS Q (F0 m 978 ls [])) → (K2 : ∀ q : (Int32 × vS), some (Sum.inr q) = some res → some q = some (R9, S9)) → ∀ (H : Heap) (locs : List Loc) (ls : Array Slot), WD D cI cO ad s S H locs → lv_has ls 4 [(0, .ref b), (1, .ref (ad 0)), (2, .ref (ad 5)), (3, .int x3)] → W p l e room_1 s m args below meth c H locs CC SS Q (F0 m 18 ls []) := by
    intro n
    induction n with
    | zero => intro x3 S res hf; cases hf
    | succ n ih =>
      intro x3 S res hf K K2 H locs ls hw hl
      have J972 : ∀ (x3 : Int32) (S : vS), f_L_law_J972 xs L (f_L_law_L18 xs L n) x3 S = some res → ∀ (H : Heap) (locs : List Loc) (ls : Array Slot), WD D cI cO ad s S H locs → lv_has ls 4 [(0, .ref b), (1, .ref (ad 0)), (2, .ref (ad 5)), (3, .int x3)] → W p l e room_1 s m args below meth c H locs CC SS Q (F0 m 972 ls []) := by
        intro x3 S hf H locs ls hw hl
        unfold f_L_law_J972 at hf
        refine lv_iinc (v := (x3 + 4)) (lv' := [(3, .int (x3 + 4)), (0, .ref b), (1, .ref (ad 0)), (2, .ref (ad 5))]) hx hb dL_law_972 hl (k := 3) rfl rfl (by decide) rfl (fun ls hl => ?_)
        refine lv_goto (tgt := 18) hx hb dL_law_975 (by decide) ?_
        exact ih (x3 + 4) S _ hf K K2 _ _ _ hw (lv_sub hl [1, 2, 3, 0] rfl)
      have J594 : ∀ (x3 : Int32) (k1 : Int32) (k2 : Int32) (S : vS), f_L_law_J594 xs L (f_L_law_L18 xs L n) x3 k1 k2 S = some res → ∀ (H : Heap) (locs : List Loc) (ls : Array Slot), WD D cI cO ad s S H locs → lv_has ls 4 [(0, .ref b), (1, .ref (ad 0)), (2, .ref (ad 5)), (3, .int x3)] → W p l e room_1 s m args below meth c H locs CC SS Q (F0 m 594 ls [.int k2, .int k1, .ref (ad 0)]) := by
        intro x3 k1 k2 S hf H locs ls hw hl
        unfold f_L_law_J594 at hf
        obtain ⟨r136, S135, h134, hf⟩ := b2_s hf
        refine kVg hcs X hw (c_X3_lacks l D cI cO ad k1 k2 S r136 S135 h134) (Nat.le_of_ble_eq_true rfl) ce0 rfl ⟨rfl, rfl⟩ q450 q451 q452 q59 q453 hd_X3_lacks ⟨Nat.le_of_ble_eq_true rfl, Nat.le_of_ble_eq_true rfl⟩ rfl hl.1 rfl (Nat.le_of_ble_eq_true rfl) dL_law_594 (fun H locs hw => ?_)
        refine lv_aload_n hx hb dL_law_597 rfl (lv_at hl 2 rfl) ?_
        refine lv_aload_n hx hb dL_law_598 rfl (lv_at hl 0 rfl) ?_
        refine lv_iload_n hx hb dL_law_599 rfl (lv_at hl 3 rfl) ?_
        refine lv_iconst (v := 1) hx hb dL_law_600 (by decide) ?_
        refine lv_iadd hx hb dL_law_601 ?_
        obtain ⟨h137, hf⟩ := if_s hf
        refine xs_ld X hw hX hbl hbA h137 dL_law_602 ?_
        refine lv_aload_n hx hb dL_law_603 rfl (lv_at hl 0 rfl) ?_
        refine lv_iload_n hx hb dL_law_604 rfl (lv_at hl 3 rfl) ?_
        refine lv_iconst (v := 2) hx hb dL_law_605 (by decide) ?_
        refine lv_iadd hx hb dL_law_606 ?_
        obtain ⟨h138, hf⟩ := if_s hf
        refine xs_ld X hw hX hbl hbA h138 dL_law_607 ?_
        refine lv_if_eq (tgt := 615) hx hb dL_law_608 (by decide) (fun c139 => ?_) (fun c139 => ?_)
        · replace hf := if_t c139 hf
          refine lv_iconst (v := 0) hx hb dL_law_615 (by decide) ?_
          obtain ⟨r142, S141, h140, hf⟩ := b2_s hf
          refine kVg hcs X hw (c_X4_lacks l D cI cO ad (xs (x3 + (1 : Int32)).toNatClampNeg) (0 : Int32) S135 r142 S141 h140) (Nat.le_of_ble_eq_true rfl) ce5 rfl ⟨rfl, rfl⟩ q798 q799 q800 q64 q801 hd_X4_lacks ⟨Nat.le_of_ble_eq_true rfl, Nat.le_of_ble_eq_true rfl⟩ rfl hl.1 rfl (Nat.le_of_ble_eq_true rfl) dL_law_616 (fun H locs hw => ?_)
          refine lv_icmp_eq (tgt := 972) hx hb dL_law_619 (by decide) (fun c143 => ?_) (fun c143 => ?_)
          · replace hf := if_t c143 hf
            exact J972 x3 S141 hf _ _ _ hw hl
          · replace hf := if_f c143 hf
            refine lv_iconst (v := 0) hx hb dL_law_622 (by decide) ?_
            replace hf := K2 _ hf
            exact hfin _ _ _ _ _ _ hw (s2a hf) (s2b hf) rfl dL_law_623
        · replace hf := if_f c139 hf
          refine lv_iconst (v := 1) hx hb dL_law_611 (by decide) ?_
          refine lv_goto (tgt := 616) hx hb dL_law_612 (by decide) ?_
          obtain ⟨r146, S145, h144, hf⟩ := b2_s hf
          refine kVg hcs X hw (c_X4_lacks l D cI cO ad (xs (x3 + (1 : Int32)).toNatClampNeg) (1 : Int32) S135 r146 S145 h144) (Nat.le_of_ble_eq_true rfl) ce5 rfl ⟨rfl, rfl⟩ q798 q799 q800 q64 q801 hd_X4_lacks ⟨Nat.le_of_ble_eq_true rfl, Nat.le_of_ble_eq_true rfl⟩ rfl hl.1 rfl (Nat.le_of_ble_eq_true rfl) dL_law_616 (fun H locs hw => ?_)
          refine lv_icmp_eq (tgt := 972) hx hb dL_law_619 (by decide) (fun c147 => ?_) (fun c147 => ?_)
          · replace hf := if_t c147 hf
            exact J972 x3 S145 hf _ _ _ hw hl
          · replace hf := if_f c147 hf
            refine lv_iconst (v := 0) hx hb dL_law_622 (by decide) ?_
            replace hf := K2 _ hf
            exact hfin _ _ _ _ _ _ hw (s2a hf) (s2b hf) rfl dL_law_623
      have J418 : ∀ (x3 : Int32) (k1 : Int32) (k2 : Int32) (k3 : Int32) (S : vS), f_L_law_J418 xs L (f_L_law_L18 xs L n) x3 k1 k2 k3 S = some res → ∀ (H : Heap) (locs : List Loc) (ls : Array Slot), WD D cI cO ad s S H locs → lv_has ls 4 [(0, .ref b), (1, .ref (ad 0)), (2, .ref (ad 5)), (3, .int x3)] → W p l e room_1 s m args below meth c H locs CC SS Q (F0 m 418 ls [.int k3, .int k2, .int k1, .ref (ad 0)]) := by
        intro x3 k1 k2 k3 S hf H locs ls hw hl
        unfold f_L_law_J418 at hf
        obtain ⟨r78, S77, h76, hf⟩ := b2_s hf
        refine kVg hcs X hw (c_X3_pact l D cI cO ad k1 k2 k3 S r78 S77 h76) (Nat.le_of_ble_eq_true rfl) ce0 rfl ⟨rfl, rfl⟩ q357 q358 q359 q59 q360 hd_X3_pact ⟨Nat.le_of_ble_eq_true rfl, Nat.le_of_ble_eq_true rfl⟩ rfl hl.1 rfl (Nat.le_of_ble_eq_true rfl) dL_law_418 (fun H locs hw => ?_)
        refine lv_aload_n hx hb dL_law_421 rfl (lv_at hl 2 rfl) ?_
        refine lv_aload_n hx hb dL_law_422 rfl (lv_at hl 0 rfl) ?_
        refine lv_iload_n hx hb dL_law_423 rfl (lv_at hl 3 rfl) ?_
        refine lv_iconst (v := 1) hx hb dL_law_424 (by decide) ?_
        refine lv_iadd hx hb dL_law_425 ?_
        obtain ⟨h79, hf⟩ := if_s hf
        refine xs_ld X hw hX hbl hbA h79 dL_law_426 ?_
        refine lv_aload_n hx hb dL_law_427 rfl (lv_at hl 0 rfl) ?_
        refine lv_iload_n hx hb dL_law_428 rfl (lv_at hl 3 rfl) ?_
        refine lv_iconst (v := 2) hx hb dL_law_429 (by decide) ?_
        refine lv_iadd hx hb dL_law_430 ?_
        obtain ⟨h80, hf⟩ := if_s hf
        refine xs_ld X hw hX hbl hbA h80 dL_law_431 ?_
        refine lv_aload_n hx hb dL_law_432 rfl (lv_at hl 0 rfl) ?_
        refine lv_iload_n hx hb dL_law_433 rfl (lv_at hl 3 rfl) ?_
        refine lv_iconst (v := 3) hx hb dL_law_434 (by decide) ?_
        refine lv_iadd hx hb dL_law_435 ?_
        obtain ⟨h81, hf⟩ := if_s hf
        refine xs_ld X hw hX hbl hbA h81 dL_law_436 ?_
        refine lv_if_eq (tgt := 444) hx hb dL_law_437 (by decide) (fun c82 => ?_) (fun c82 => ?_)
        · replace hf := if_t c82 hf
          refine lv_iconst (v := 0) hx hb dL_law_444 (by decide) ?_
          obtain ⟨r85, S84, h83, hf⟩ := b2_s hf
          refine kVg hcs X hw (c_X4_pact l D cI cO ad (xs (x3 + (1 : Int32)).toNatClampNeg) (xs (x3 + (2 : Int32)).toNatClampNeg) (0 : Int32) S77 r85 S84 h83) (Nat.le_of_ble_eq_true rfl) ce5 rfl ⟨rfl, rfl⟩ q739 q740 q741 q64 q742 hd_X4_pact ⟨Nat.le_of_ble_eq_true rfl, Nat.le_of_ble_eq_true rfl⟩ rfl hl.1 rfl (Nat.le_of_ble_eq_true rfl) dL_law_445 (fun H locs hw => ?_)
          refine lv_icmp_eq (tgt := 972) hx hb dL_law_448 (by decide) (fun c86 => ?_) (fun c86 => ?_)
          · replace hf := if_t c86 hf
            exact J972 x3 S84 hf _ _ _ hw hl
          · replace hf := if_f c86 hf
            refine lv_iconst (v := 0) hx hb dL_law_451 (by decide) ?_
            replace hf := K2 _ hf
            exact hfin _ _ _ _ _ _ hw (s2a hf) (s2b hf) rfl dL_law_452
        · replace hf := if_f c82 hf
          refine lv_iconst (v := 1) hx hb dL_law_440 (by decide) ?_
          refine lv_goto (tgt := 445) hx hb dL_law_441 (by decide) ?_
          obtain ⟨r89, S88, h87, hf⟩ := b2_s hf
          refine kVg hcs X hw (c_X4_pact l D cI cO ad (xs (x3 + (1 : Int32)).toNatClampNeg) (xs (x3 + (2 : Int32)).toNatClampNeg) (1 : Int32) S77 r89 S88 h87) (Nat.le_of_ble_eq_true rfl) ce5 rfl ⟨rfl, rfl⟩ q739 q740 q741 q64 q742 hd_X4_pact ⟨Nat.le_of_ble_eq_true rfl, Nat.le_of_ble_eq_true rfl⟩ rfl hl.1 rfl (Nat.le_of_ble_eq_true rfl) dL_law_445 (fun H locs hw => ?_)
          refine lv_icmp_eq (tgt := 972) hx hb dL_law_448 (by decide) (fun c90 => ?_) (fun c90 => ?_)
          · replace hf := if_t c90 hf
            exact J972 x3 S88 hf _ _ _ hw hl
          · replace hf := if_f c90 hf
            refine lv_iconst (v := 0) hx hb dL_law_451 (by decide) ?_
            replace hf := K2 _ hf
            exact hfin _ _ _ _ _ _ hw (s2a hf) (s2b hf) rfl dL_law_452
      have J288 : ∀ (x3 : Int32) (k1 : Int32) (k2 : Int32) (S : vS), f_L_law_J288 xs L (f_L_law_L18 xs L n) x3 k1 k2 S = some res → ∀ (H : Heap) (locs : List Loc) (ls : Array Slot), WD D cI cO ad s S H locs → lv_has ls 4 [(0, .ref b), (1, .ref (ad 0)), (2, .ref (ad 5)), (3, .int x3)] → W p l e room_1 s m args below meth c H locs CC SS Q (F0 m 288 ls [.int k2, .int k1, .ref (ad 0)]) := by
        intro x3 k1 k2 S hf H locs ls hw hl
        unfold f_L_law_J288 at hf
        obtain ⟨r38, S37, h36, hf⟩ := b2_s hf
        refine kVg hcs X hw (c_X3_show l D cI cO ad k1 k2 S r38 S37 h36) (Nat.le_of_ble_eq_true rfl) ce0 rfl ⟨rfl, rfl⟩ q337 q338 q339 q59 q340 hd_X3_show ⟨Nat.le_of_ble_eq_true rfl, Nat.le_of_ble_eq_true rfl⟩ rfl hl.1 rfl (Nat.le_of_ble_eq_true rfl) dL_law_288 (fun H locs hw => ?_)
        refine lv_aload_n hx hb dL_law_291 rfl (lv_at hl 2 rfl) ?_
        refine lv_aload_n hx hb dL_law_292 rfl (lv_at hl 0 rfl) ?_
        refine lv_iload_n hx hb dL_law_293 rfl (lv_at hl 3 rfl) ?_
        refine lv_iconst (v := 1) hx hb dL_law_294 (by decide) ?_
        refine lv_iadd hx hb dL_law_295 ?_
        obtain ⟨h39, hf⟩ := if_s hf
        refine xs_ld X hw hX hbl hbA h39 dL_law_296 ?_
        refine lv_aload_n hx hb dL_law_297 rfl (lv_at hl 0 rfl) ?_
        refine lv_iload_n hx hb dL_law_298 rfl (lv_at hl 3 rfl) ?_
        refine lv_iconst (v := 2) hx hb dL_law_299 (by decide) ?_
        refine lv_iadd hx hb dL_law_300 ?_
        obtain ⟨h40, hf⟩ := if_s hf
        refine xs_ld X hw hX hbl hbA h40 dL_law_301 ?_
        refine lv_if_eq (tgt := 309) hx hb dL_law_302 (by decide) (fun c41 => ?_) (fun c41 => ?_)
        · replace hf := if_t c41 hf
          refine lv_iconst (v := 0) hx hb dL_law_309 (by decide) ?_
          obtain ⟨r44, S43, h42, hf⟩ := b2_s hf
          refine kVg hcs X hw (c_X4_show l D cI cO ad (xs (x3 + (1 : Int32)).toNatClampNeg) (0 : Int32) S37 r44 S43 h42) (Nat.le_of_ble_eq_true rfl) ce5 rfl ⟨rfl, rfl⟩ q727 q728 q729 q64 q730 hd_X4_show ⟨Nat.le_of_ble_eq_true rfl, Nat.le_of_ble_eq_true rfl⟩ rfl hl.1 rfl (Nat.le_of_ble_eq_true rfl) dL_law_310 (fun H locs hw => ?_)
          refine lv_icmp_eq (tgt := 972) hx hb dL_law_313 (by decide) (fun c45 => ?_) (fun c45 => ?_)
          · replace hf := if_t c45 hf
            exact J972 x3 S43 hf _ _ _ hw hl
          · replace hf := if_f c45 hf
            refine lv_iconst (v := 0) hx hb dL_law_316 (by decide) ?_
            replace hf := K2 _ hf
            exact hfin _ _ _ _ _ _ hw (s2a hf) (s2b hf) rfl dL_law_317
        · replace hf := if_f c41 hf
          refine lv_iconst (v := 1) hx hb dL_law_305 (by decide) ?_
          refine lv_goto (tgt := 310) hx hb dL_law_306 (by decide) ?_
          obtain ⟨r48, S47, h46, hf⟩ := b2_s hf
          refine kVg hcs X hw (c_X4_show l D cI cO ad (xs (x3 + (1 : Int32)).toNatClampNeg) (1 : Int32) S37 r48 S47 h46) (Nat.le_of_ble_eq_true rfl) ce5 rfl ⟨rfl, rfl⟩ q727 q728 q729 q64 q730 hd_X4_show ⟨Nat.le_of_ble_eq_true rfl, Nat.le_of_ble_eq_true rfl⟩ rfl hl.1 rfl (Nat.le_of_ble_eq_true rfl) dL_law_310 (fun H locs hw => ?_)
          refine lv_icmp_eq (tgt := 972) hx hb dL_law_313 (by decide) (fun c49 => ?_) (fun c49 => ?_)
          · replace hf := if_t c49 hf
            exact J972 x3 S47 hf _ _ _ hw hl
          · replace hf := if_f c49 hf
            refine lv_iconst (v := 0) hx hb dL_law_316 (by decide) ?_
            replace hf := K2 _ hf
            exact hfin _ _ _ _ _ _ hw (s2a hf) (s2b hf) rfl dL_law_317
      unfold f_L_law_L18 at hf
      refine lv_iload_n hx hb dL_law_18 rfl (lv_at hl 3 rfl) ?_
      refine lv_aload_n hx hb dL_law_19 rfl (lv_at hl 0 rfl) ?_
      refine xs_len X hw hX hbl hbA dL_law_20 ?_
      refine lv_iconst (v := 4) hx hb dL_law_21 (by decide) ?_
      refine lv_isub hx hb dL_law_22 ?_
      refine lv_icmp_gt (tgt := 978) hx hb dL_law_23 (by decide) (fun c1 => ?_) (fun c1 => ?_)
      · replace hf := if_t c1 hf
        exact K S hf _ _ _ hw (lv_sub hl [] rfl)
      · replace hf := if_f c1 hf
        refine lv_aload_n hx hb dL_law_26 rfl (lv_at hl 0 rfl) ?_
        refine lv_iload_n hx hb dL_law_27 rfl (lv_at hl 3 rfl) ?_
        obtain ⟨h2, hf⟩ := if_s hf
        refine xs_ld X hw hX hbl hbA h2 dL_law_28 ?_
        refine lv_bipush (v := 31) hx hb dL_law_29 (by decide +kernel) ?_
        refine lv_iand hx hb dL_law_31 ?_
        by_cases c3 : ((xs x3.toNatClampNeg) &&& (31 : Int32)) = (0 : Int32)
        · replace hf := if_t c3 hf
          refine lv_tableIn (off := 128) (tgt := 160) hx hb dL_law_32 (by rw [c3]; decide) (by rw [c3]; decide) (by rw [c3]; rfl) (by decide) ?_
          refine lv_aload_n hx hb dL_law_160 rfl (lv_at hl 1 rfl) ?_
          refine lv_aload_n hx hb dL_law_161 rfl (lv_at hl 0 rfl) ?_
          refine lv_iload_n hx hb dL_law_162 rfl (lv_at hl 3 rfl) ?_
          refine lv_iconst (v := 1) hx hb dL_law_163 (by decide) ?_
          refine lv_iadd hx hb dL_law_164 ?_
          obtain ⟨h4, hf⟩ := if_s hf
          refine xs_ld X hw hX hbl hbA h4 dL_law_165 ?_
          refine lv_aload_n hx hb dL_law_166 rfl (lv_at hl 0 rfl) ?_
          refine lv_iload_n hx hb dL_law_167 rfl (lv_at hl 3 rfl) ?_
          refine lv_iconst (v := 2) hx hb dL_law_168 (by decide) ?_
          refine lv_iadd hx hb dL_law_169 ?_
          obtain ⟨h5, hf⟩ := if_s hf
          refine xs_ld X hw hX hbl hbA h5 dL_law_170 ?_
          refine lv_i2l (v := (xs (x3 + (2 : Int32)).toNatClampNeg).toInt64) hx hb dL_law_171 rfl ?_
          refine lv_bipush (v := 32) hx hb dL_law_172 (by decide +kernel) ?_
          refine lv_lshl (v := ((xs (x3 + (2 : Int32)).toNatClampNeg).toInt64 <<< ((32 : Int32).toInt64 &&& 63))) hx hb dL_law_174 rfl ?_
          refine lv_aload_n hx hb dL_law_175 rfl (lv_at hl 0 rfl) ?_
          refine lv_iload_n hx hb dL_law_176 rfl (lv_at hl 3 rfl) ?_
          refine lv_iconst (v := 3) hx hb dL_law_177 (by decide) ?_
          refine lv_iadd hx hb dL_law_178 ?_
          obtain ⟨h6, hf⟩ := if_s hf
          refine xs_ld X hw hX hbl hbA h6 dL_law_179 ?_
          refine lv_i2l (v := (xs (x3 + (3 : Int32)).toNatClampNeg).toInt64) hx hb dL_law_180 rfl ?_
          refine lv_ldc2 (v := 4294967295) hx hb X.2.2.2.1 (X.2.2.2.2 _ (List.mem_cons_of_mem _ q903)) dL_law_181 ?_
          refine lv_land hx hb dL_law_184 ?_
          refine lv_lor hx hb dL_law_185 ?_
          obtain ⟨r9, S8, h7, hf⟩ := b2_s hf
          refine kVg hcs X hw (c_X3_feed l D cI cO ad (xs (x3 + (1 : Int32)).toNatClampNeg) (((xs (x3 + (2 : Int32)).toNatClampNeg).toInt64 <<< ((32 : Int32).toInt64 &&& 63)) ||| ((xs (x3 + (3 : Int32)).toNatClampNeg).toInt64 &&& (4294967295 : Int64))) S r9 S8 h7) (Nat.le_of_ble_eq_true rfl) ce0 rfl ⟨rfl, rfl⟩ q207 q208 q209 q59 q210 hd_X3_feed ⟨Nat.le_of_ble_eq_true rfl, Nat.le_of_ble_eq_true rfl⟩ rfl hl.1 rfl (Nat.le_of_ble_eq_true rfl) dL_law_186 (fun H locs hw => ?_)
          refine lv_aload_n hx hb dL_law_189 rfl (lv_at hl 2 rfl) ?_
          refine lv_aload_n hx hb dL_law_190 rfl (lv_at hl 0 rfl) ?_
          refine lv_iload_n hx hb dL_law_191 rfl (lv_at hl 3 rfl) ?_
          refine lv_iconst (v := 1) hx hb dL_law_192 (by decide) ?_
          refine lv_iadd hx hb dL_law_193 ?_
          refine xs_ld X hw hX hbl hbA h4 dL_law_194 ?_
          refine lv_aload_n hx hb dL_law_195 rfl (lv_at hl 0 rfl) ?_
          refine lv_iload_n hx hb dL_law_196 rfl (lv_at hl 3 rfl) ?_
          refine lv_iconst (v := 2) hx hb dL_law_197 (by decide) ?_
          refine lv_iadd hx hb dL_law_198 ?_
          refine xs_ld X hw hX hbl hbA h5 dL_law_199 ?_
          refine lv_i2l (v := (xs (x3 + (2 : Int32)).toNatClampNeg).toInt64) hx hb dL_law_200 rfl ?_
          refine lv_bipush (v := 32) hx hb dL_law_201 (by decide +kernel) ?_
          refine lv_lshl (v := ((xs (x3 + (2 : Int32)).toNatClampNeg).toInt64 <<< ((32 : Int32).toInt64 &&& 63))) hx hb dL_law_203 rfl ?_
          refine lv_aload_n hx hb dL_law_204 rfl (lv_at hl 0 rfl) ?_
          refine lv_iload_n hx hb dL_law_205 rfl (lv_at hl 3 rfl) ?_
          refine lv_iconst (v := 3) hx hb dL_law_206 (by decide) ?_
          refine lv_iadd hx hb dL_law_207 ?_
          refine xs_ld X hw hX hbl hbA h6 dL_law_208 ?_
          refine lv_i2l (v := (xs (x3 + (3 : Int32)).toNatClampNeg).toInt64) hx hb dL_law_209 rfl ?_
          refine lv_ldc2 (v := 4294967295) hx hb X.2.2.2.1 (X.2.2.2.2 _ (List.mem_cons_of_mem _ q903)) dL_law_210 ?_
          refine lv_land hx hb dL_law_213 ?_
          refine lv_lor hx hb dL_law_214 ?_
          obtain ⟨r12, S11, h10, hf⟩ := b2_s hf
          refine kVg hcs X hw (c_X4_feed l D cI cO ad (xs (x3 + (1 : Int32)).toNatClampNeg) (((xs (x3 + (2 : Int32)).toNatClampNeg).toInt64 <<< ((32 : Int32).toInt64 &&& 63)) ||| ((xs (x3 + (3 : Int32)).toNatClampNeg).toInt64 &&& (4294967295 : Int64))) S8 r12 S11 h10) (Nat.le_of_ble_eq_true rfl) ce5 rfl ⟨rfl, rfl⟩ q681 q682 q683 q64 q684 hd_X4_feed ⟨Nat.le_of_ble_eq_true rfl, Nat.le_of_ble_eq_true rfl⟩ rfl hl.1 rfl (Nat.le_of_ble_eq_true rfl) dL_law_215 (fun H locs hw => ?_)
          refine lv_icmp_eq (tgt := 972) hx hb dL_law_218 (by decide) (fun c13 => ?_) (fun c13 => ?_)
          · replace hf := if_t c13 hf
            exact J972 x3 S11 hf _ _ _ hw hl
          · replace hf := if_f c13 hf
            refine lv_iconst (v := 0) hx hb dL_law_221 (by decide) ?_
            replace hf := K2 _ hf
            exact hfin _ _ _ _ _ _ hw (s2a hf) (s2b hf) rfl dL_law_222
        · replace hf := if_f c3 hf
          by_cases c14 : ((xs x3.toNatClampNeg) &&& (31 : Int32)) = (1 : Int32)
          · replace hf := if_t c14 hf
            refine lv_tableIn (off := 191) (tgt := 223) hx hb dL_law_32 (by rw [c14]; decide) (by rw [c14]; decide) (by rw [c14]; rfl) (by decide) ?_
            refine lv_aload_n hx hb dL_law_223 rfl (lv_at hl 1 rfl) ?_
            obtain ⟨r17, S16, h15, hf⟩ := b2_s hf
            refine kVg hcs X hw (c_X3_spell l D cI cO ad  S r17 S16 h15) (Nat.le_of_ble_eq_true rfl) ce0 rfl ⟨rfl, rfl⟩ q216 q217 q218 q59 q219 hd_X3_spell ⟨Nat.le_of_ble_eq_true rfl, Nat.le_of_ble_eq_true rfl⟩ rfl hl.1 rfl (Nat.le_of_ble_eq_true rfl) dL_law_224 (fun H locs hw => ?_)
            refine lv_aload_n hx hb dL_law_227 rfl (lv_at hl 2 rfl) ?_
            obtain ⟨r20, S19, h18, hf⟩ := b2_s hf
            refine kVg hcs X hw (c_X4_spell l D cI cO ad  S16 r20 S19 h18) (Nat.le_of_ble_eq_true rfl) ce5 rfl ⟨rfl, rfl⟩ q693 q694 q695 q64 q696 hd_X4_spell ⟨Nat.le_of_ble_eq_true rfl, Nat.le_of_ble_eq_true rfl⟩ rfl hl.1 rfl (Nat.le_of_ble_eq_true rfl) dL_law_228 (fun H locs hw => ?_)
            refine lv_icmp_eq (tgt := 972) hx hb dL_law_231 (by decide) (fun c21 => ?_) (fun c21 => ?_)
            · replace hf := if_t c21 hf
              exact J972 x3 S19 hf _ _ _ hw hl
            · replace hf := if_f c21 hf
              refine lv_iconst (v := 0) hx hb dL_law_234 (by decide) ?_
              replace hf := K2 _ hf
              exact hfin _ _ _ _ _ _ hw (s2a hf) (s2b hf) rfl dL_law_235
          · replace hf := if_f c14 hf
            by_cases c22 : ((xs x3.toNatClampNeg) &&& (31 : Int32)) = (2 : Int32)
            · replace hf := if_t c22 hf
              refine lv_tableIn (off := 204) (tgt := 236) hx hb dL_law_32 (by rw [c22]; decide) (by rw [c22]; decide) (by rw [c22]; rfl) (by decide) ?_
              refine lv_aload_n hx hb dL_law_236 rfl (lv_at hl 1 rfl) ?_
              refine lv_aload_n hx hb dL_law_237 rfl (lv_at hl 0 rfl) ?_
              refine lv_iload_n hx hb dL_law_238 rfl (lv_at hl 3 rfl) ?_
              refine lv_iconst (v := 1) hx hb dL_law_239 (by decide) ?_
              refine lv_iadd hx hb dL_law_240 ?_
              obtain ⟨h23, hf⟩ := if_s hf
              refine xs_ld X hw hX hbl hbA h23 dL_law_241 ?_
              refine lv_aload_n hx hb dL_law_242 rfl (lv_at hl 0 rfl) ?_
              refine lv_iload_n hx hb dL_law_243 rfl (lv_at hl 3 rfl) ?_
              refine lv_iconst (v := 2) hx hb dL_law_244 (by decide) ?_
              refine lv_iadd hx hb dL_law_245 ?_
              obtain ⟨h24, hf⟩ := if_s hf
              refine xs_ld X hw hX hbl hbA h24 dL_law_246 ?_
              obtain ⟨r27, S26, h25, hf⟩ := b2_s hf
              refine kVg hcs X hw (c_X3_spellOf l D cI cO ad (xs (x3 + (1 : Int32)).toNatClampNeg) (xs (x3 + (2 : Int32)).toNatClampNeg) S r27 S26 h25) (Nat.le_of_ble_eq_true rfl) ce0 rfl ⟨rfl, rfl⟩ q329 q330 q331 q59 q332 hd_X3_spellOf ⟨Nat.le_of_ble_eq_true rfl, Nat.le_of_ble_eq_true rfl⟩ rfl hl.1 rfl (Nat.le_of_ble_eq_true rfl) dL_law_247 (fun H locs hw => ?_)
              refine lv_aload_n hx hb dL_law_250 rfl (lv_at hl 2 rfl) ?_
              refine lv_aload_n hx hb dL_law_251 rfl (lv_at hl 0 rfl) ?_
              refine lv_iload_n hx hb dL_law_252 rfl (lv_at hl 3 rfl) ?_
              refine lv_iconst (v := 1) hx hb dL_law_253 (by decide) ?_
              refine lv_iadd hx hb dL_law_254 ?_
              refine xs_ld X hw hX hbl hbA h23 dL_law_255 ?_
              refine lv_aload_n hx hb dL_law_256 rfl (lv_at hl 0 rfl) ?_
              refine lv_iload_n hx hb dL_law_257 rfl (lv_at hl 3 rfl) ?_
              refine lv_iconst (v := 2) hx hb dL_law_258 (by decide) ?_
              refine lv_iadd hx hb dL_law_259 ?_
              refine xs_ld X hw hX hbl hbA h24 dL_law_260 ?_
              obtain ⟨r30, S29, h28, hf⟩ := b2_s hf
              refine kVg hcs X hw (c_X4_spellOf l D cI cO ad (xs (x3 + (1 : Int32)).toNatClampNeg) (xs (x3 + (2 : Int32)).toNatClampNeg) S26 r30 S29 h28) (Nat.le_of_ble_eq_true rfl) ce5 rfl ⟨rfl, rfl⟩ q719 q720 q721 q64 q722 hd_X4_spellOf ⟨Nat.le_of_ble_eq_true rfl, Nat.le_of_ble_eq_true rfl⟩ rfl hl.1 rfl (Nat.le_of_ble_eq_true rfl) dL_law_261 (fun H locs hw => ?_)
              refine lv_icmp_eq (tgt := 972) hx hb dL_law_264 (by decide) (fun c31 => ?_) (fun c31 => ?_)
              · replace hf := if_t c31 hf
                exact J972 x3 S29 hf _ _ _ hw hl
              · replace hf := if_f c31 hf
                refine lv_iconst (v := 0) hx hb dL_law_267 (by decide) ?_
                replace hf := K2 _ hf
                exact hfin _ _ _ _ _ _ hw (s2a hf) (s2b hf) rfl dL_law_268
            · replace hf := if_f c22 hf
              by_cases c32 : ((xs x3.toNatClampNeg) &&& (31 : Int32)) = (3 : Int32)
              · replace hf := if_t c32 hf
                refine lv_tableIn (off := 237) (tgt := 269) hx hb dL_law_32 (by rw [c32]; decide) (by rw [c32]; decide) (by rw [c32]; rfl) (by decide) ?_
                refine lv_aload_n hx hb dL_law_269 rfl (lv_at hl 1 rfl) ?_
                refine lv_aload_n hx hb dL_law_270 rfl (lv_at hl 0 rfl) ?_
                refine lv_iload_n hx hb dL_law_271 rfl (lv_at hl 3 rfl) ?_
                refine lv_iconst (v := 1) hx hb dL_law_272 (by decide) ?_
                refine lv_iadd hx hb dL_law_273 ?_
                obtain ⟨h33, hf⟩ := if_s hf
                refine xs_ld X hw hX hbl hbA h33 dL_law_274 ?_
                refine lv_aload_n hx hb dL_law_275 rfl (lv_at hl 0 rfl) ?_
                refine lv_iload_n hx hb dL_law_276 rfl (lv_at hl 3 rfl) ?_
                refine lv_iconst (v := 2) hx hb dL_law_277 (by decide) ?_
                refine lv_iadd hx hb dL_law_278 ?_
                obtain ⟨h34, hf⟩ := if_s hf
                refine xs_ld X hw hX hbl hbA h34 dL_law_279 ?_
                refine lv_if_eq (tgt := 287) hx hb dL_law_280 (by decide) (fun c35 => ?_) (fun c35 => ?_)
                · replace hf := if_t c35 hf
                  refine lv_iconst (v := 0) hx hb dL_law_287 (by decide) ?_
                  exact J288 x3 (xs (x3 + (1 : Int32)).toNatClampNeg) (0 : Int32) S hf _ _ _ hw hl
                · replace hf := if_f c35 hf
                  refine lv_iconst (v := 1) hx hb dL_law_283 (by decide) ?_
                  refine lv_goto (tgt := 288) hx hb dL_law_284 (by decide) ?_
                  exact J288 x3 (xs (x3 + (1 : Int32)).toNatClampNeg) (1 : Int32) S hf _ _ _ hw hl
              · replace hf := if_f c32 hf
                by_cases c50 : ((xs x3.toNatClampNeg) &&& (31 : Int32)) = (4 : Int32)
                · replace hf := if_t c50 hf
                  refine lv_tableIn (off := 286) (tgt := 318) hx hb dL_law_32 (by rw [c50]; decide) (by rw [c50]; decide) (by rw [c50]; rfl) (by decide) ?_
                  refine lv_aload_n hx hb dL_law_318 rfl (lv_at hl 1 rfl) ?_
                  refine lv_aload_n hx hb dL_law_319 rfl (lv_at hl 0 rfl) ?_
                  refine lv_iload_n hx hb dL_law_320 rfl (lv_at hl 3 rfl) ?_
                  refine lv_iconst (v := 1) hx hb dL_law_321 (by decide) ?_
                  refine lv_iadd hx hb dL_law_322 ?_
                  obtain ⟨h51, hf⟩ := if_s hf
                  refine xs_ld X hw hX hbl hbA h51 dL_law_323 ?_
                  refine lv_aload_n hx hb dL_law_324 rfl (lv_at hl 0 rfl) ?_
                  refine lv_iload_n hx hb dL_law_325 rfl (lv_at hl 3 rfl) ?_
                  refine lv_iconst (v := 2) hx hb dL_law_326 (by decide) ?_
                  refine lv_iadd hx hb dL_law_327 ?_
                  obtain ⟨h52, hf⟩ := if_s hf
                  refine xs_ld X hw hX hbl hbA h52 dL_law_328 ?_
                  refine lv_aload_n hx hb dL_law_329 rfl (lv_at hl 0 rfl) ?_
                  refine lv_iload_n hx hb dL_law_330 rfl (lv_at hl 3 rfl) ?_
                  refine lv_iconst (v := 3) hx hb dL_law_331 (by decide) ?_
                  refine lv_iadd hx hb dL_law_332 ?_
                  obtain ⟨h53, hf⟩ := if_s hf
                  refine xs_ld X hw hX hbl hbA h53 dL_law_333 ?_
                  obtain ⟨r56, S55, h54, hf⟩ := b2_s hf
                  refine kVg hcs X hw (c_X3_law l D cI cO ad (xs (x3 + (1 : Int32)).toNatClampNeg) (xs (x3 + (2 : Int32)).toNatClampNeg) (xs (x3 + (3 : Int32)).toNatClampNeg) S r56 S55 h54) (Nat.le_of_ble_eq_true rfl) ce0 rfl ⟨rfl, rfl⟩ q341 q342 q343 q59 q344 hd_X3_law ⟨Nat.le_of_ble_eq_true rfl, Nat.le_of_ble_eq_true rfl⟩ rfl hl.1 rfl (Nat.le_of_ble_eq_true rfl) dL_law_334 (fun H locs hw => ?_)
                  refine lv_aload_n hx hb dL_law_337 rfl (lv_at hl 2 rfl) ?_
                  refine lv_aload_n hx hb dL_law_338 rfl (lv_at hl 0 rfl) ?_
                  refine lv_iload_n hx hb dL_law_339 rfl (lv_at hl 3 rfl) ?_
                  refine lv_iconst (v := 1) hx hb dL_law_340 (by decide) ?_
                  refine lv_iadd hx hb dL_law_341 ?_
                  refine xs_ld X hw hX hbl hbA h51 dL_law_342 ?_
                  refine lv_aload_n hx hb dL_law_343 rfl (lv_at hl 0 rfl) ?_
                  refine lv_iload_n hx hb dL_law_344 rfl (lv_at hl 3 rfl) ?_
                  refine lv_iconst (v := 2) hx hb dL_law_345 (by decide) ?_
                  refine lv_iadd hx hb dL_law_346 ?_
                  refine xs_ld X hw hX hbl hbA h52 dL_law_347 ?_
                  refine lv_aload_n hx hb dL_law_348 rfl (lv_at hl 0 rfl) ?_
                  refine lv_iload_n hx hb dL_law_349 rfl (lv_at hl 3 rfl) ?_
                  refine lv_iconst (v := 3) hx hb dL_law_350 (by decide) ?_
                  refine lv_iadd hx hb dL_law_351 ?_
                  refine xs_ld X hw hX hbl hbA h53 dL_law_352 ?_
                  obtain ⟨r59, S58, h57, hf⟩ := b2_s hf
                  refine kVg hcs X hw (c_X4_law l D cI cO ad (xs (x3 + (1 : Int32)).toNatClampNeg) (xs (x3 + (2 : Int32)).toNatClampNeg) (xs (x3 + (3 : Int32)).toNatClampNeg) S55 r59 S58 h57) (Nat.le_of_ble_eq_true rfl) ce5 rfl ⟨rfl, rfl⟩ q731 q732 q733 q64 q734 hd_X4_law ⟨Nat.le_of_ble_eq_true rfl, Nat.le_of_ble_eq_true rfl⟩ rfl hl.1 rfl (Nat.le_of_ble_eq_true rfl) dL_law_353 (fun H locs hw => ?_)
                  refine lv_icmp_eq (tgt := 972) hx hb dL_law_356 (by decide) (fun c60 => ?_) (fun c60 => ?_)
                  · replace hf := if_t c60 hf
                    exact J972 x3 S58 hf _ _ _ hw hl
                  · replace hf := if_f c60 hf
                    refine lv_iconst (v := 0) hx hb dL_law_359 (by decide) ?_
                    replace hf := K2 _ hf
                    exact hfin _ _ _ _ _ _ hw (s2a hf) (s2b hf) rfl dL_law_360
                · replace hf := if_f c50 hf
                  by_cases c61 : ((xs x3.toNatClampNeg) &&& (31 : Int32)) = (5 : Int32)
                  · replace hf := if_t c61 hf
                    refine lv_tableIn (off := 329) (tgt := 361) hx hb dL_law_32 (by rw [c61]; decide) (by rw [c61]; decide) (by rw [c61]; rfl) (by decide) ?_
                    refine lv_aload_n hx hb dL_law_361 rfl (lv_at hl 1 rfl) ?_
                    refine lv_aload_n hx hb dL_law_362 rfl (lv_at hl 0 rfl) ?_
                    refine lv_iload_n hx hb dL_law_363 rfl (lv_at hl 3 rfl) ?_
                    refine lv_iconst (v := 1) hx hb dL_law_364 (by decide) ?_
                    refine lv_iadd hx hb dL_law_365 ?_
                    obtain ⟨h62, hf⟩ := if_s hf
                    refine xs_ld X hw hX hbl hbA h62 dL_law_366 ?_
                    refine lv_aload_n hx hb dL_law_367 rfl (lv_at hl 0 rfl) ?_
                    refine lv_iload_n hx hb dL_law_368 rfl (lv_at hl 3 rfl) ?_
                    refine lv_iconst (v := 2) hx hb dL_law_369 (by decide) ?_
                    refine lv_iadd hx hb dL_law_370 ?_
                    obtain ⟨h63, hf⟩ := if_s hf
                    refine xs_ld X hw hX hbl hbA h63 dL_law_371 ?_
                    obtain ⟨r66, S65, h64, hf⟩ := b2_s hf
                    refine kVg hcs X hw (c_X3_kind l D cI cO ad (xs (x3 + (1 : Int32)).toNatClampNeg) (xs (x3 + (2 : Int32)).toNatClampNeg) S r66 S65 h64) (Nat.le_of_ble_eq_true rfl) ce0 rfl ⟨rfl, rfl⟩ q350 q351 q352 q59 q353 hd_X3_kind ⟨Nat.le_of_ble_eq_true rfl, Nat.le_of_ble_eq_true rfl⟩ rfl hl.1 rfl (Nat.le_of_ble_eq_true rfl) dL_law_372 (fun H locs hw => ?_)
                    refine lv_aload_n hx hb dL_law_375 rfl (lv_at hl 2 rfl) ?_
                    refine lv_aload_n hx hb dL_law_376 rfl (lv_at hl 0 rfl) ?_
                    refine lv_iload_n hx hb dL_law_377 rfl (lv_at hl 3 rfl) ?_
                    refine lv_iconst (v := 1) hx hb dL_law_378 (by decide) ?_
                    refine lv_iadd hx hb dL_law_379 ?_
                    refine xs_ld X hw hX hbl hbA h62 dL_law_380 ?_
                    refine lv_aload_n hx hb dL_law_381 rfl (lv_at hl 0 rfl) ?_
                    refine lv_iload_n hx hb dL_law_382 rfl (lv_at hl 3 rfl) ?_
                    refine lv_iconst (v := 2) hx hb dL_law_383 (by decide) ?_
                    refine lv_iadd hx hb dL_law_384 ?_
                    refine xs_ld X hw hX hbl hbA h63 dL_law_385 ?_
                    obtain ⟨r69, S68, h67, hf⟩ := b2_s hf
                    refine kVg hcs X hw (c_X4_kind l D cI cO ad (xs (x3 + (1 : Int32)).toNatClampNeg) (xs (x3 + (2 : Int32)).toNatClampNeg) S65 r69 S68 h67) (Nat.le_of_ble_eq_true rfl) ce5 rfl ⟨rfl, rfl⟩ q735 q736 q737 q64 q738 hd_X4_kind ⟨Nat.le_of_ble_eq_true rfl, Nat.le_of_ble_eq_true rfl⟩ rfl hl.1 rfl (Nat.le_of_ble_eq_true rfl) dL_law_386 (fun H locs hw => ?_)
                    refine lv_icmp_eq (tgt := 972) hx hb dL_law_389 (by decide) (fun c70 => ?_) (fun c70 => ?_)
                    · replace hf := if_t c70 hf
                      exact J972 x3 S68 hf _ _ _ hw hl
                    · replace hf := if_f c70 hf
                      refine lv_iconst (v := 0) hx hb dL_law_392 (by decide) ?_
                      replace hf := K2 _ hf
                      exact hfin _ _ _ _ _ _ hw (s2a hf) (s2b hf) rfl dL_law_393
                  · replace hf := if_f c61 hf
                    by_cases c71 : ((xs x3.toNatClampNeg) &&& (31 : Int32)) = (6 : Int32)
                    · replace hf := if_t c71 hf
                      refine lv_tableIn (off := 362) (tgt := 394) hx hb dL_law_32 (by rw [c71]; decide) (by rw [c71]; decide) (by rw [c71]; rfl) (by decide) ?_
                      refine lv_aload_n hx hb dL_law_394 rfl (lv_at hl 1 rfl) ?_
                      refine lv_aload_n hx hb dL_law_395 rfl (lv_at hl 0 rfl) ?_
                      refine lv_iload_n hx hb dL_law_396 rfl (lv_at hl 3 rfl) ?_
                      refine lv_iconst (v := 1) hx hb dL_law_397 (by decide) ?_
                      refine lv_iadd hx hb dL_law_398 ?_
                      obtain ⟨h72, hf⟩ := if_s hf
                      refine xs_ld X hw hX hbl hbA h72 dL_law_399 ?_
                      refine lv_aload_n hx hb dL_law_400 rfl (lv_at hl 0 rfl) ?_
                      refine lv_iload_n hx hb dL_law_401 rfl (lv_at hl 3 rfl) ?_
                      refine lv_iconst (v := 2) hx hb dL_law_402 (by decide) ?_
                      refine lv_iadd hx hb dL_law_403 ?_
                      obtain ⟨h73, hf⟩ := if_s hf
                      refine xs_ld X hw hX hbl hbA h73 dL_law_404 ?_
                      refine lv_aload_n hx hb dL_law_405 rfl (lv_at hl 0 rfl) ?_
                      refine lv_iload_n hx hb dL_law_406 rfl (lv_at hl 3 rfl) ?_
                      refine lv_iconst (v := 3) hx hb dL_law_407 (by decide) ?_
                      refine lv_iadd hx hb dL_law_408 ?_
                      obtain ⟨h74, hf⟩ := if_s hf
                      refine xs_ld X hw hX hbl hbA h74 dL_law_409 ?_
                      refine lv_if_eq (tgt := 417) hx hb dL_law_410 (by decide) (fun c75 => ?_) (fun c75 => ?_)
                      · replace hf := if_t c75 hf
                        refine lv_iconst (v := 0) hx hb dL_law_417 (by decide) ?_
                        exact J418 x3 (xs (x3 + (1 : Int32)).toNatClampNeg) (xs (x3 + (2 : Int32)).toNatClampNeg) (0 : Int32) S hf _ _ _ hw hl
                      · replace hf := if_f c75 hf
                        refine lv_iconst (v := 1) hx hb dL_law_413 (by decide) ?_
                        refine lv_goto (tgt := 418) hx hb dL_law_414 (by decide) ?_
                        exact J418 x3 (xs (x3 + (1 : Int32)).toNatClampNeg) (xs (x3 + (2 : Int32)).toNatClampNeg) (1 : Int32) S hf _ _ _ hw hl
                    · replace hf := if_f c71 hf
                      by_cases c91 : ((xs x3.toNatClampNeg) &&& (31 : Int32)) = (7 : Int32)
                      · replace hf := if_t c91 hf
                        refine lv_tableIn (off := 421) (tgt := 453) hx hb dL_law_32 (by rw [c91]; decide) (by rw [c91]; decide) (by rw [c91]; rfl) (by decide) ?_
                        refine lv_aload_n hx hb dL_law_453 rfl (lv_at hl 1 rfl) ?_
                        refine lv_aload_n hx hb dL_law_454 rfl (lv_at hl 0 rfl) ?_
                        refine lv_iload_n hx hb dL_law_455 rfl (lv_at hl 3 rfl) ?_
                        refine lv_iconst (v := 1) hx hb dL_law_456 (by decide) ?_
                        refine lv_iadd hx hb dL_law_457 ?_
                        obtain ⟨h92, hf⟩ := if_s hf
                        refine xs_ld X hw hX hbl hbA h92 dL_law_458 ?_
                        refine lv_aload_n hx hb dL_law_459 rfl (lv_at hl 0 rfl) ?_
                        refine lv_iload_n hx hb dL_law_460 rfl (lv_at hl 3 rfl) ?_
                        refine lv_iconst (v := 2) hx hb dL_law_461 (by decide) ?_
                        refine lv_iadd hx hb dL_law_462 ?_
                        obtain ⟨h93, hf⟩ := if_s hf
                        refine xs_ld X hw hX hbl hbA h93 dL_law_463 ?_
                        obtain ⟨r96, S95, h94, hf⟩ := b2_s hf
                        refine kVg hcs X hw (c_X3_counts l D cI cO ad (xs (x3 + (1 : Int32)).toNatClampNeg) (xs (x3 + (2 : Int32)).toNatClampNeg) S r96 S95 h94) (Nat.le_of_ble_eq_true rfl) ce0 rfl ⟨rfl, rfl⟩ q361 q362 q363 q59 q364 hd_X3_counts ⟨Nat.le_of_ble_eq_true rfl, Nat.le_of_ble_eq_true rfl⟩ rfl hl.1 rfl (Nat.le_of_ble_eq_true rfl) dL_law_464 (fun H locs hw => ?_)
                        refine lv_aload_n hx hb dL_law_467 rfl (lv_at hl 2 rfl) ?_
                        refine lv_aload_n hx hb dL_law_468 rfl (lv_at hl 0 rfl) ?_
                        refine lv_iload_n hx hb dL_law_469 rfl (lv_at hl 3 rfl) ?_
                        refine lv_iconst (v := 1) hx hb dL_law_470 (by decide) ?_
                        refine lv_iadd hx hb dL_law_471 ?_
                        refine xs_ld X hw hX hbl hbA h92 dL_law_472 ?_
                        refine lv_aload_n hx hb dL_law_473 rfl (lv_at hl 0 rfl) ?_
                        refine lv_iload_n hx hb dL_law_474 rfl (lv_at hl 3 rfl) ?_
                        refine lv_iconst (v := 2) hx hb dL_law_475 (by decide) ?_
                        refine lv_iadd hx hb dL_law_476 ?_
                        refine xs_ld X hw hX hbl hbA h93 dL_law_477 ?_
                        obtain ⟨r99, S98, h97, hf⟩ := b2_s hf
                        refine kVg hcs X hw (c_X4_counts l D cI cO ad (xs (x3 + (1 : Int32)).toNatClampNeg) (xs (x3 + (2 : Int32)).toNatClampNeg) S95 r99 S98 h97) (Nat.le_of_ble_eq_true rfl) ce5 rfl ⟨rfl, rfl⟩ q743 q744 q745 q64 q746 hd_X4_counts ⟨Nat.le_of_ble_eq_true rfl, Nat.le_of_ble_eq_true rfl⟩ rfl hl.1 rfl (Nat.le_of_ble_eq_true rfl) dL_law_478 (fun H locs hw => ?_)
                        refine lv_icmp_eq (tgt := 972) hx hb dL_law_481 (by decide) (fun c100 => ?_) (fun c100 => ?_)
                        · replace hf := if_t c100 hf
                          exact J972 x3 S98 hf _ _ _ hw hl
                        · replace hf := if_f c100 hf
                          refine lv_iconst (v := 0) hx hb dL_law_484 (by decide) ?_
                          replace hf := K2 _ hf
                          exact hfin _ _ _ _ _ _ hw (s2a hf) (s2b hf) rfl dL_law_485
                      · replace hf := if_f c91 hf
                        by_cases c101 : ((xs x3.toNatClampNeg) &&& (31 : Int32)) = (8 : Int32)
                        · replace hf := if_t c101 hf
                          refine lv_tableIn (off := 454) (tgt := 486) hx hb dL_law_32 (by rw [c101]; decide) (by rw [c101]; decide) (by rw [c101]; rfl) (by decide) ?_
                          refine lv_aload_n hx hb dL_law_486 rfl (lv_at hl 1 rfl) ?_
                          refine lv_aload_n hx hb dL_law_487 rfl (lv_at hl 0 rfl) ?_
                          refine lv_iload_n hx hb dL_law_488 rfl (lv_at hl 3 rfl) ?_
                          refine lv_iconst (v := 1) hx hb dL_law_489 (by decide) ?_
                          refine lv_iadd hx hb dL_law_490 ?_
                          obtain ⟨h102, hf⟩ := if_s hf
                          refine xs_ld X hw hX hbl hbA h102 dL_law_491 ?_
                          refine lv_aload_n hx hb dL_law_492 rfl (lv_at hl 0 rfl) ?_
                          refine lv_iload_n hx hb dL_law_493 rfl (lv_at hl 3 rfl) ?_
                          refine lv_iconst (v := 2) hx hb dL_law_494 (by decide) ?_
                          refine lv_iadd hx hb dL_law_495 ?_
                          obtain ⟨h103, hf⟩ := if_s hf
                          refine xs_ld X hw hX hbl hbA h103 dL_law_496 ?_
                          obtain ⟨r106, S105, h104, hf⟩ := b2_s hf
                          refine kVg hcs X hw (c_X3_month l D cI cO ad (xs (x3 + (1 : Int32)).toNatClampNeg) (xs (x3 + (2 : Int32)).toNatClampNeg) S r106 S105 h104) (Nat.le_of_ble_eq_true rfl) ce0 rfl ⟨rfl, rfl⟩ q414 q415 q416 q59 q417 hd_X3_month ⟨Nat.le_of_ble_eq_true rfl, Nat.le_of_ble_eq_true rfl⟩ rfl hl.1 rfl (Nat.le_of_ble_eq_true rfl) dL_law_497 (fun H locs hw => ?_)
                          refine lv_aload_n hx hb dL_law_500 rfl (lv_at hl 2 rfl) ?_
                          refine lv_aload_n hx hb dL_law_501 rfl (lv_at hl 0 rfl) ?_
                          refine lv_iload_n hx hb dL_law_502 rfl (lv_at hl 3 rfl) ?_
                          refine lv_iconst (v := 1) hx hb dL_law_503 (by decide) ?_
                          refine lv_iadd hx hb dL_law_504 ?_
                          refine xs_ld X hw hX hbl hbA h102 dL_law_505 ?_
                          refine lv_aload_n hx hb dL_law_506 rfl (lv_at hl 0 rfl) ?_
                          refine lv_iload_n hx hb dL_law_507 rfl (lv_at hl 3 rfl) ?_
                          refine lv_iconst (v := 2) hx hb dL_law_508 (by decide) ?_
                          refine lv_iadd hx hb dL_law_509 ?_
                          refine xs_ld X hw hX hbl hbA h103 dL_law_510 ?_
                          obtain ⟨r109, S108, h107, hf⟩ := b2_s hf
                          refine kVg hcs X hw (c_X4_month l D cI cO ad (xs (x3 + (1 : Int32)).toNatClampNeg) (xs (x3 + (2 : Int32)).toNatClampNeg) S105 r109 S108 h107) (Nat.le_of_ble_eq_true rfl) ce5 rfl ⟨rfl, rfl⟩ q763 q764 q765 q64 q766 hd_X4_month ⟨Nat.le_of_ble_eq_true rfl, Nat.le_of_ble_eq_true rfl⟩ rfl hl.1 rfl (Nat.le_of_ble_eq_true rfl) dL_law_511 (fun H locs hw => ?_)
                          refine lv_icmp_eq (tgt := 972) hx hb dL_law_514 (by decide) (fun c110 => ?_) (fun c110 => ?_)
                          · replace hf := if_t c110 hf
                            exact J972 x3 S108 hf _ _ _ hw hl
                          · replace hf := if_f c110 hf
                            refine lv_iconst (v := 0) hx hb dL_law_517 (by decide) ?_
                            replace hf := K2 _ hf
                            exact hfin _ _ _ _ _ _ hw (s2a hf) (s2b hf) rfl dL_law_518
                        · replace hf := if_f c101 hf
                          by_cases c111 : ((xs x3.toNatClampNeg) &&& (31 : Int32)) = (9 : Int32)
                          · replace hf := if_t c111 hf
                            refine lv_tableIn (off := 487) (tgt := 519) hx hb dL_law_32 (by rw [c111]; decide) (by rw [c111]; decide) (by rw [c111]; rfl) (by decide) ?_
                            refine lv_aload_n hx hb dL_law_519 rfl (lv_at hl 1 rfl) ?_
                            refine lv_aload_n hx hb dL_law_520 rfl (lv_at hl 0 rfl) ?_
                            refine lv_iload_n hx hb dL_law_521 rfl (lv_at hl 3 rfl) ?_
                            refine lv_iconst (v := 1) hx hb dL_law_522 (by decide) ?_
                            refine lv_iadd hx hb dL_law_523 ?_
                            obtain ⟨h112, hf⟩ := if_s hf
                            refine xs_ld X hw hX hbl hbA h112 dL_law_524 ?_
                            obtain ⟨r115, S114, h113, hf⟩ := b2_s hf
                            refine kVg hcs X hw (c_X3_over l D cI cO ad (xs (x3 + (1 : Int32)).toNatClampNeg) S r115 S114 h113) (Nat.le_of_ble_eq_true rfl) ce0 rfl ⟨rfl, rfl⟩ q419 q420 q421 q59 q422 hd_X3_over ⟨Nat.le_of_ble_eq_true rfl, Nat.le_of_ble_eq_true rfl⟩ rfl hl.1 rfl (Nat.le_of_ble_eq_true rfl) dL_law_525 (fun H locs hw => ?_)
                            refine lv_aload_n hx hb dL_law_528 rfl (lv_at hl 2 rfl) ?_
                            refine lv_aload_n hx hb dL_law_529 rfl (lv_at hl 0 rfl) ?_
                            refine lv_iload_n hx hb dL_law_530 rfl (lv_at hl 3 rfl) ?_
                            refine lv_iconst (v := 1) hx hb dL_law_531 (by decide) ?_
                            refine lv_iadd hx hb dL_law_532 ?_
                            refine xs_ld X hw hX hbl hbA h112 dL_law_533 ?_
                            obtain ⟨r118, S117, h116, hf⟩ := b2_s hf
                            refine kVg hcs X hw (c_X4_over l D cI cO ad (xs (x3 + (1 : Int32)).toNatClampNeg) S114 r118 S117 h116) (Nat.le_of_ble_eq_true rfl) ce5 rfl ⟨rfl, rfl⟩ q767 q768 q769 q64 q770 hd_X4_over ⟨Nat.le_of_ble_eq_true rfl, Nat.le_of_ble_eq_true rfl⟩ rfl hl.1 rfl (Nat.le_of_ble_eq_true rfl) dL_law_534 (fun H locs hw => ?_)
                            refine lv_icmp_eq (tgt := 972) hx hb dL_law_537 (by decide) (fun c119 => ?_) (fun c119 => ?_)
                            · replace hf := if_t c119 hf
                              exact J972 x3 S117 hf _ _ _ hw hl
                            · replace hf := if_f c119 hf
                              refine lv_iconst (v := 0) hx hb dL_law_540 (by decide) ?_
                              replace hf := K2 _ hf
                              exact hfin _ _ _ _ _ _ hw (s2a hf) (s2b hf) rfl dL_law_541
                          · replace hf := if_f c111 hf
                            by_cases c120 : ((xs x3.toNatClampNeg) &&& (31 : Int32)) = (10 : Int32)
                            · replace hf := if_t c120 hf
                              refine lv_tableIn (off := 510) (tgt := 542) hx hb dL_law_32 (by rw [c120]; decide) (by rw [c120]; decide) (by rw [c120]; rfl) (by decide) ?_
                              refine lv_aload_n hx hb dL_law_542 rfl (lv_at hl 1 rfl) ?_
                              refine lv_aload_n hx hb dL_law_543 rfl (lv_at hl 0 rfl) ?_
                              refine lv_iload_n hx hb dL_law_544 rfl (lv_at hl 3 rfl) ?_
                              refine lv_iconst (v := 1) hx hb dL_law_545 (by decide) ?_
                              refine lv_iadd hx hb dL_law_546 ?_
                              obtain ⟨h121, hf⟩ := if_s hf
                              refine xs_ld X hw hX hbl hbA h121 dL_law_547 ?_
                              refine lv_aload_n hx hb dL_law_548 rfl (lv_at hl 0 rfl) ?_
                              refine lv_iload_n hx hb dL_law_549 rfl (lv_at hl 3 rfl) ?_
                              refine lv_iconst (v := 2) hx hb dL_law_550 (by decide) ?_
                              refine lv_iadd hx hb dL_law_551 ?_
                              obtain ⟨h122, hf⟩ := if_s hf
                              refine xs_ld X hw hX hbl hbA h122 dL_law_552 ?_
                              obtain ⟨r125, S124, h123, hf⟩ := b2_s hf
                              refine kVg hcs X hw (c_X3_alone l D cI cO ad (xs (x3 + (1 : Int32)).toNatClampNeg) (xs (x3 + (2 : Int32)).toNatClampNeg) S r125 S124 h123) (Nat.le_of_ble_eq_true rfl) ce0 rfl ⟨rfl, rfl⟩ q423 q424 q425 q59 q426 hd_X3_alone ⟨Nat.le_of_ble_eq_true rfl, Nat.le_of_ble_eq_true rfl⟩ rfl hl.1 rfl (Nat.le_of_ble_eq_true rfl) dL_law_553 (fun H locs hw => ?_)
                              refine lv_aload_n hx hb dL_law_556 rfl (lv_at hl 2 rfl) ?_
                              refine lv_aload_n hx hb dL_law_557 rfl (lv_at hl 0 rfl) ?_
                              refine lv_iload_n hx hb dL_law_558 rfl (lv_at hl 3 rfl) ?_
                              refine lv_iconst (v := 1) hx hb dL_law_559 (by decide) ?_
                              refine lv_iadd hx hb dL_law_560 ?_
                              refine xs_ld X hw hX hbl hbA h121 dL_law_561 ?_
                              refine lv_aload_n hx hb dL_law_562 rfl (lv_at hl 0 rfl) ?_
                              refine lv_iload_n hx hb dL_law_563 rfl (lv_at hl 3 rfl) ?_
                              refine lv_iconst (v := 2) hx hb dL_law_564 (by decide) ?_
                              refine lv_iadd hx hb dL_law_565 ?_
                              refine xs_ld X hw hX hbl hbA h122 dL_law_566 ?_
                              obtain ⟨r128, S127, h126, hf⟩ := b2_s hf
                              refine kVg hcs X hw (c_X4_alone l D cI cO ad (xs (x3 + (1 : Int32)).toNatClampNeg) (xs (x3 + (2 : Int32)).toNatClampNeg) S124 r128 S127 h126) (Nat.le_of_ble_eq_true rfl) ce5 rfl ⟨rfl, rfl⟩ q771 q772 q773 q64 q774 hd_X4_alone ⟨Nat.le_of_ble_eq_true rfl, Nat.le_of_ble_eq_true rfl⟩ rfl hl.1 rfl (Nat.le_of_ble_eq_true rfl) dL_law_567 (fun H locs hw => ?_)
                              refine lv_icmp_eq (tgt := 972) hx hb dL_law_570 (by decide) (fun c129 => ?_) (fun c129 => ?_)
                              · replace hf := if_t c129 hf
                                exact J972 x3 S127 hf _ _ _ hw hl
                              · replace hf := if_f c129 hf
                                refine lv_iconst (v := 0) hx hb dL_law_573 (by decide) ?_
                                replace hf := K2 _ hf
                                exact hfin _ _ _ _ _ _ hw (s2a hf) (s2b hf) rfl dL_law_574
                            · replace hf := if_f c120 hf
                              by_cases c130 : ((xs x3.toNatClampNeg) &&& (31 : Int32)) = (11 : Int32)
                              · replace hf := if_t c130 hf
                                refine lv_tableIn (off := 543) (tgt := 575) hx hb dL_law_32 (by rw [c130]; decide) (by rw [c130]; decide) (by rw [c130]; rfl) (by decide) ?_
                                refine lv_aload_n hx hb dL_law_575 rfl (lv_at hl 1 rfl) ?_
                                refine lv_aload_n hx hb dL_law_576 rfl (lv_at hl 0 rfl) ?_
                                refine lv_iload_n hx hb dL_law_577 rfl (lv_at hl 3 rfl) ?_
                                refine lv_iconst (v := 1) hx hb dL_law_578 (by decide) ?_
                                refine lv_iadd hx hb dL_law_579 ?_
                                obtain ⟨h131, hf⟩ := if_s hf
                                refine xs_ld X hw hX hbl hbA h131 dL_law_580 ?_
                                refine lv_aload_n hx hb dL_law_581 rfl (lv_at hl 0 rfl) ?_
                                refine lv_iload_n hx hb dL_law_582 rfl (lv_at hl 3 rfl) ?_
                                refine lv_iconst (v := 2) hx hb dL_law_583 (by decide) ?_
                                refine lv_iadd hx hb dL_law_584 ?_
                                obtain ⟨h132, hf⟩ := if_s hf
                                refine xs_ld X hw hX hbl hbA h132 dL_law_585 ?_
                                refine lv_if_eq (tgt := 593) hx hb dL_law_586 (by decide) (fun c133 => ?_) (fun c133 => ?_)
                                · replace hf := if_t c133 hf
                                  refine lv_iconst (v := 0) hx hb dL_law_593 (by decide) ?_
                                  exact J594 x3 (xs (x3 + (1 : Int32)).toNatClampNeg) (0 : Int32) S hf _ _ _ hw hl
                                · replace hf := if_f c133 hf
                                  refine lv_iconst (v := 1) hx hb dL_law_589 (by decide) ?_
                                  refine lv_goto (tgt := 594) hx hb dL_law_590 (by decide) ?_
                                  exact J594 x3 (xs (x3 + (1 : Int32)).toNatClampNeg) (1 : Int32) S hf _ _ _ hw hl
                              · replace hf := if_f c130 hf
                                by_cases c148 : ((xs x3.toNatClampNeg) &&& (31 : Int32)) = (12 : Int32)
                                · replace hf := if_t c148 hf
                                  refine lv_tableIn (off := 592) (tgt := 624) hx hb dL_law_32 (by rw [c148]; decide) (by rw [c148]; decide) (by rw [c148]; rfl) (by decide) ?_
                                  refine lv_aload_n hx hb dL_law_624 rfl (lv_at hl 1 rfl) ?_
                                  refine lv_aload_n hx hb dL_law_625 rfl (lv_at hl 0 rfl) ?_
                                  refine lv_iload_n hx hb dL_law_626 rfl (lv_at hl 3 rfl) ?_
                                  refine lv_iconst (v := 1) hx hb dL_law_627 (by decide) ?_
                                  refine lv_iadd hx hb dL_law_628 ?_
                                  obtain ⟨h149, hf⟩ := if_s hf
                                  refine xs_ld X hw hX hbl hbA h149 dL_law_629 ?_
                                  obtain ⟨r152, S151, h150, hf⟩ := b2_s hf
                                  refine kVg hcs X hw (c_X3_owed l D cI cO ad (xs (x3 + (1 : Int32)).toNatClampNeg) S r152 S151 h150) (Nat.le_of_ble_eq_true rfl) ce0 rfl ⟨rfl, rfl⟩ q455 q456 q457 q59 q458 hd_X3_owed ⟨Nat.le_of_ble_eq_true rfl, Nat.le_of_ble_eq_true rfl⟩ rfl hl.1 rfl (Nat.le_of_ble_eq_true rfl) dL_law_630 (fun H locs hw => ?_)
                                  refine lv_aload_n hx hb dL_law_633 rfl (lv_at hl 2 rfl) ?_
                                  refine lv_aload_n hx hb dL_law_634 rfl (lv_at hl 0 rfl) ?_
                                  refine lv_iload_n hx hb dL_law_635 rfl (lv_at hl 3 rfl) ?_
                                  refine lv_iconst (v := 1) hx hb dL_law_636 (by decide) ?_
                                  refine lv_iadd hx hb dL_law_637 ?_
                                  refine xs_ld X hw hX hbl hbA h149 dL_law_638 ?_
                                  obtain ⟨r155, S154, h153, hf⟩ := b2_s hf
                                  refine kVg hcs X hw (c_X4_owed l D cI cO ad (xs (x3 + (1 : Int32)).toNatClampNeg) S151 r155 S154 h153) (Nat.le_of_ble_eq_true rfl) ce5 rfl ⟨rfl, rfl⟩ q802 q803 q804 q64 q805 hd_X4_owed ⟨Nat.le_of_ble_eq_true rfl, Nat.le_of_ble_eq_true rfl⟩ rfl hl.1 rfl (Nat.le_of_ble_eq_true rfl) dL_law_639 (fun H locs hw => ?_)
                                  refine lv_icmp_eq (tgt := 972) hx hb dL_law_642 (by decide) (fun c156 => ?_) (fun c156 => ?_)
                                  · replace hf := if_t c156 hf
                                    exact J972 x3 S154 hf _ _ _ hw hl
                                  · replace hf := if_f c156 hf
                                    refine lv_iconst (v := 0) hx hb dL_law_645 (by decide) ?_
                                    replace hf := K2 _ hf
                                    exact hfin _ _ _ _ _ _ hw (s2a hf) (s2b hf) rfl dL_law_646
                                · replace hf := if_f c148 hf
                                  by_cases c157 : ((xs x3.toNatClampNeg) &&& (31 : Int32)) = (13 : Int32)
                                  · replace hf := if_t c157 hf
                                    refine lv_tableIn (off := 615) (tgt := 647) hx hb dL_law_32 (by rw [c157]; decide) (by rw [c157]; decide) (by rw [c157]; rfl) (by decide) ?_
                                    refine lv_aload_n hx hb dL_law_647 rfl (lv_at hl 1 rfl) ?_
                                    obtain ⟨r160, S159, h158, hf⟩ := b2_s hf
                                    refine kVg hcs X hw (c_X3_rests l D cI cO ad  S r160 S159 h158) (Nat.le_of_ble_eq_true rfl) ce0 rfl ⟨rfl, rfl⟩ q474 q475 q476 q59 q477 hd_X3_rests ⟨Nat.le_of_ble_eq_true rfl, Nat.le_of_ble_eq_true rfl⟩ rfl hl.1 rfl (Nat.le_of_ble_eq_true rfl) dL_law_648 (fun H locs hw => ?_)
                                    refine lv_aload_n hx hb dL_law_651 rfl (lv_at hl 2 rfl) ?_
                                    obtain ⟨r163, S162, h161, hf⟩ := b2_s hf
                                    refine kVg hcs X hw (c_X4_rests l D cI cO ad  S159 r163 S162 h161) (Nat.le_of_ble_eq_true rfl) ce5 rfl ⟨rfl, rfl⟩ q814 q815 q816 q64 q817 hd_X4_rests ⟨Nat.le_of_ble_eq_true rfl, Nat.le_of_ble_eq_true rfl⟩ rfl hl.1 rfl (Nat.le_of_ble_eq_true rfl) dL_law_652 (fun H locs hw => ?_)
                                    refine lv_icmp_eq (tgt := 972) hx hb dL_law_655 (by decide) (fun c164 => ?_) (fun c164 => ?_)
                                    · replace hf := if_t c164 hf
                                      exact J972 x3 S162 hf _ _ _ hw hl
                                    · replace hf := if_f c164 hf
                                      refine lv_iconst (v := 0) hx hb dL_law_658 (by decide) ?_
                                      replace hf := K2 _ hf
                                      exact hfin _ _ _ _ _ _ hw (s2a hf) (s2b hf) rfl dL_law_659
                                  · replace hf := if_f c157 hf
                                    by_cases c165 : ((xs x3.toNatClampNeg) &&& (31 : Int32)) = (14 : Int32)
                                    · replace hf := if_t c165 hf
                                      refine lv_tableIn (off := 628) (tgt := 660) hx hb dL_law_32 (by rw [c165]; decide) (by rw [c165]; decide) (by rw [c165]; rfl) (by decide) ?_
                                      refine lv_aload_n hx hb dL_law_660 rfl (lv_at hl 1 rfl) ?_
                                      obtain ⟨r168, S167, h166, hf⟩ := b2_s hf
                                      refine kVg hcs X hw (c_X3_all l D cI cO ad  S r168 S167 h166) (Nat.le_of_ble_eq_true rfl) ce0 rfl ⟨rfl, rfl⟩ q478 q479 q480 q59 q481 hd_X3_all ⟨Nat.le_of_ble_eq_true rfl, Nat.le_of_ble_eq_true rfl⟩ rfl hl.1 rfl (Nat.le_of_ble_eq_true rfl) dL_law_661 (fun H locs hw => ?_)
                                      refine lv_aload_n hx hb dL_law_664 rfl (lv_at hl 2 rfl) ?_
                                      obtain ⟨r171, S170, h169, hf⟩ := b2_s hf
                                      refine kVg hcs X hw (c_X4_all l D cI cO ad  S167 r171 S170 h169) (Nat.le_of_ble_eq_true rfl) ce5 rfl ⟨rfl, rfl⟩ q818 q819 q820 q64 q821 hd_X4_all ⟨Nat.le_of_ble_eq_true rfl, Nat.le_of_ble_eq_true rfl⟩ rfl hl.1 rfl (Nat.le_of_ble_eq_true rfl) dL_law_665 (fun H locs hw => ?_)
                                      refine lv_icmp_eq (tgt := 972) hx hb dL_law_668 (by decide) (fun c172 => ?_) (fun c172 => ?_)
                                      · replace hf := if_t c172 hf
                                        exact J972 x3 S170 hf _ _ _ hw hl
                                      · replace hf := if_f c172 hf
                                        refine lv_iconst (v := 0) hx hb dL_law_671 (by decide) ?_
                                        replace hf := K2 _ hf
                                        exact hfin _ _ _ _ _ _ hw (s2a hf) (s2b hf) rfl dL_law_672
                                    · replace hf := if_f c165 hf
                                      by_cases c173 : ((xs x3.toNatClampNeg) &&& (31 : Int32)) = (15 : Int32)
                                      · replace hf := if_t c173 hf
                                        refine lv_tableIn (off := 641) (tgt := 673) hx hb dL_law_32 (by rw [c173]; decide) (by rw [c173]; decide) (by rw [c173]; rfl) (by decide) ?_
                                        refine lv_aload_n hx hb dL_law_673 rfl (lv_at hl 1 rfl) ?_
                                        refine lv_aload_n hx hb dL_law_674 rfl (lv_at hl 0 rfl) ?_
                                        refine lv_iload_n hx hb dL_law_675 rfl (lv_at hl 3 rfl) ?_
                                        refine lv_iconst (v := 1) hx hb dL_law_676 (by decide) ?_
                                        refine lv_iadd hx hb dL_law_677 ?_
                                        obtain ⟨h174, hf⟩ := if_s hf
                                        refine xs_ld X hw hX hbl hbA h174 dL_law_678 ?_
                                        refine lv_aload_n hx hb dL_law_679 rfl (lv_at hl 0 rfl) ?_
                                        refine lv_iload_n hx hb dL_law_680 rfl (lv_at hl 3 rfl) ?_
                                        refine lv_iconst (v := 2) hx hb dL_law_681 (by decide) ?_
                                        refine lv_iadd hx hb dL_law_682 ?_
                                        obtain ⟨h175, hf⟩ := if_s hf
                                        refine xs_ld X hw hX hbl hbA h175 dL_law_683 ?_
                                        refine lv_aload_n hx hb dL_law_684 rfl (lv_at hl 0 rfl) ?_
                                        refine lv_iload_n hx hb dL_law_685 rfl (lv_at hl 3 rfl) ?_
                                        refine lv_iconst (v := 3) hx hb dL_law_686 (by decide) ?_
                                        refine lv_iadd hx hb dL_law_687 ?_
                                        obtain ⟨h176, hf⟩ := if_s hf
                                        refine xs_ld X hw hX hbl hbA h176 dL_law_688 ?_
                                        obtain ⟨r179, S178, h177, hf⟩ := b2_s hf
                                        refine kVg hcs X hw (c_X3_asks l D cI cO ad (xs (x3 + (1 : Int32)).toNatClampNeg) (xs (x3 + (2 : Int32)).toNatClampNeg) (xs (x3 + (3 : Int32)).toNatClampNeg) S r179 S178 h177) (Nat.le_of_ble_eq_true rfl) ce0 rfl ⟨rfl, rfl⟩ q482 q483 q484 q59 q485 hd_X3_asks ⟨Nat.le_of_ble_eq_true rfl, Nat.le_of_ble_eq_true rfl⟩ rfl hl.1 rfl (Nat.le_of_ble_eq_true rfl) dL_law_689 (fun H locs hw => ?_)
                                        refine lv_aload_n hx hb dL_law_692 rfl (lv_at hl 2 rfl) ?_
                                        refine lv_aload_n hx hb dL_law_693 rfl (lv_at hl 0 rfl) ?_
                                        refine lv_iload_n hx hb dL_law_694 rfl (lv_at hl 3 rfl) ?_
                                        refine lv_iconst (v := 1) hx hb dL_law_695 (by decide) ?_
                                        refine lv_iadd hx hb dL_law_696 ?_
                                        refine xs_ld X hw hX hbl hbA h174 dL_law_697 ?_
                                        refine lv_aload_n hx hb dL_law_698 rfl (lv_at hl 0 rfl) ?_
                                        refine lv_iload_n hx hb dL_law_699 rfl (lv_at hl 3 rfl) ?_
                                        refine lv_iconst (v := 2) hx hb dL_law_700 (by decide) ?_
                                        refine lv_iadd hx hb dL_law_701 ?_
                                        refine xs_ld X hw hX hbl hbA h175 dL_law_702 ?_
                                        refine lv_aload_n hx hb dL_law_703 rfl (lv_at hl 0 rfl) ?_
                                        refine lv_iload_n hx hb dL_law_704 rfl (lv_at hl 3 rfl) ?_
                                        refine lv_iconst (v := 3) hx hb dL_law_705 (by decide) ?_
                                        refine lv_iadd hx hb dL_law_706 ?_
                                        refine xs_ld X hw hX hbl hbA h176 dL_law_707 ?_
                                        obtain ⟨r182, S181, h180, hf⟩ := b2_s hf
                                        refine kVg hcs X hw (c_X4_asks l D cI cO ad (xs (x3 + (1 : Int32)).toNatClampNeg) (xs (x3 + (2 : Int32)).toNatClampNeg) (xs (x3 + (3 : Int32)).toNatClampNeg) S178 r182 S181 h180) (Nat.le_of_ble_eq_true rfl) ce5 rfl ⟨rfl, rfl⟩ q822 q823 q824 q64 q825 hd_X4_asks ⟨Nat.le_of_ble_eq_true rfl, Nat.le_of_ble_eq_true rfl⟩ rfl hl.1 rfl (Nat.le_of_ble_eq_true rfl) dL_law_708 (fun H locs hw => ?_)
                                        refine lv_icmp_eq (tgt := 972) hx hb dL_law_711 (by decide) (fun c183 => ?_) (fun c183 => ?_)
                                        · replace hf := if_t c183 hf
                                          exact J972 x3 S181 hf _ _ _ hw hl
                                        · replace hf := if_f c183 hf
                                          refine lv_iconst (v := 0) hx hb dL_law_714 (by decide) ?_
                                          replace hf := K2 _ hf
                                          exact hfin _ _ _ _ _ _ hw (s2a hf) (s2b hf) rfl dL_law_715
                                      · replace hf := if_f c173 hf
                                        by_cases c184 : ((xs x3.toNatClampNeg) &&& (31 : Int32)) = (16 : Int32)
                                        · replace hf := if_t c184 hf
                                          refine lv_tableIn (off := 684) (tgt := 716) hx hb dL_law_32 (by rw [c184]; decide) (by rw [c184]; decide) (by rw [c184]; rfl) (by decide) ?_
                                          refine lv_aload_n hx hb dL_law_716 rfl (lv_at hl 1 rfl) ?_
                                          refine lv_aload_n hx hb dL_law_717 rfl (lv_at hl 0 rfl) ?_
                                          refine lv_iload_n hx hb dL_law_718 rfl (lv_at hl 3 rfl) ?_
                                          refine lv_iconst (v := 1) hx hb dL_law_719 (by decide) ?_
                                          refine lv_iadd hx hb dL_law_720 ?_
                                          obtain ⟨h185, hf⟩ := if_s hf
                                          refine xs_ld X hw hX hbl hbA h185 dL_law_721 ?_
                                          refine lv_aload_n hx hb dL_law_722 rfl (lv_at hl 0 rfl) ?_
                                          refine lv_iload_n hx hb dL_law_723 rfl (lv_at hl 3 rfl) ?_
                                          refine lv_iconst (v := 2) hx hb dL_law_724 (by decide) ?_
                                          refine lv_iadd hx hb dL_law_725 ?_
                                          obtain ⟨h186, hf⟩ := if_s hf
                                          refine xs_ld X hw hX hbl hbA h186 dL_law_726 ?_
                                          obtain ⟨r189, S188, h187, hf⟩ := b2_s hf
                                          refine kVg hcs X hw (c_X3_when l D cI cO ad (xs (x3 + (1 : Int32)).toNatClampNeg) (xs (x3 + (2 : Int32)).toNatClampNeg) S r189 S188 h187) (Nat.le_of_ble_eq_true rfl) ce0 rfl ⟨rfl, rfl⟩ q490 q491 q492 q59 q493 hd_X3_when ⟨Nat.le_of_ble_eq_true rfl, Nat.le_of_ble_eq_true rfl⟩ rfl hl.1 rfl (Nat.le_of_ble_eq_true rfl) dL_law_727 (fun H locs hw => ?_)
                                          refine lv_aload_n hx hb dL_law_730 rfl (lv_at hl 2 rfl) ?_
                                          refine lv_aload_n hx hb dL_law_731 rfl (lv_at hl 0 rfl) ?_
                                          refine lv_iload_n hx hb dL_law_732 rfl (lv_at hl 3 rfl) ?_
                                          refine lv_iconst (v := 1) hx hb dL_law_733 (by decide) ?_
                                          refine lv_iadd hx hb dL_law_734 ?_
                                          refine xs_ld X hw hX hbl hbA h185 dL_law_735 ?_
                                          refine lv_aload_n hx hb dL_law_736 rfl (lv_at hl 0 rfl) ?_
                                          refine lv_iload_n hx hb dL_law_737 rfl (lv_at hl 3 rfl) ?_
                                          refine lv_iconst (v := 2) hx hb dL_law_738 (by decide) ?_
                                          refine lv_iadd hx hb dL_law_739 ?_
                                          refine xs_ld X hw hX hbl hbA h186 dL_law_740 ?_
                                          obtain ⟨r192, S191, h190, hf⟩ := b2_s hf
                                          refine kVg hcs X hw (c_X4_when l D cI cO ad (xs (x3 + (1 : Int32)).toNatClampNeg) (xs (x3 + (2 : Int32)).toNatClampNeg) S188 r192 S191 h190) (Nat.le_of_ble_eq_true rfl) ce5 rfl ⟨rfl, rfl⟩ q830 q831 q832 q64 q833 hd_X4_when ⟨Nat.le_of_ble_eq_true rfl, Nat.le_of_ble_eq_true rfl⟩ rfl hl.1 rfl (Nat.le_of_ble_eq_true rfl) dL_law_741 (fun H locs hw => ?_)
                                          refine lv_icmp_eq (tgt := 972) hx hb dL_law_744 (by decide) (fun c193 => ?_) (fun c193 => ?_)
                                          · replace hf := if_t c193 hf
                                            exact J972 x3 S191 hf _ _ _ hw hl
                                          · replace hf := if_f c193 hf
                                            refine lv_iconst (v := 0) hx hb dL_law_747 (by decide) ?_
                                            replace hf := K2 _ hf
                                            exact hfin _ _ _ _ _ _ hw (s2a hf) (s2b hf) rfl dL_law_748
                                        · replace hf := if_f c184 hf
                                          by_cases c194 : ((xs x3.toNatClampNeg) &&& (31 : Int32)) = (17 : Int32)
                                          · replace hf := if_t c194 hf
                                            refine lv_tableIn (off := 717) (tgt := 749) hx hb dL_law_32 (by rw [c194]; decide) (by rw [c194]; decide) (by rw [c194]; rfl) (by decide) ?_
                                            refine lv_aload_n hx hb dL_law_749 rfl (lv_at hl 1 rfl) ?_
                                            refine lv_aload_n hx hb dL_law_750 rfl (lv_at hl 0 rfl) ?_
                                            refine lv_iload_n hx hb dL_law_751 rfl (lv_at hl 3 rfl) ?_
                                            refine lv_iconst (v := 1) hx hb dL_law_752 (by decide) ?_
                                            refine lv_iadd hx hb dL_law_753 ?_
                                            obtain ⟨h195, hf⟩ := if_s hf
                                            refine xs_ld X hw hX hbl hbA h195 dL_law_754 ?_
                                            obtain ⟨r198, S197, h196, hf⟩ := b2_s hf
                                            refine kVg hcs X hw (c_X3_lives l D cI cO ad (xs (x3 + (1 : Int32)).toNatClampNeg) S r198 S197 h196) (Nat.le_of_ble_eq_true rfl) ce0 rfl ⟨rfl, rfl⟩ q494 q495 q496 q59 q497 hd_X3_lives ⟨Nat.le_of_ble_eq_true rfl, Nat.le_of_ble_eq_true rfl⟩ rfl hl.1 rfl (Nat.le_of_ble_eq_true rfl) dL_law_755 (fun H locs hw => ?_)
                                            refine lv_aload_n hx hb dL_law_758 rfl (lv_at hl 2 rfl) ?_
                                            refine lv_aload_n hx hb dL_law_759 rfl (lv_at hl 0 rfl) ?_
                                            refine lv_iload_n hx hb dL_law_760 rfl (lv_at hl 3 rfl) ?_
                                            refine lv_iconst (v := 1) hx hb dL_law_761 (by decide) ?_
                                            refine lv_iadd hx hb dL_law_762 ?_
                                            refine xs_ld X hw hX hbl hbA h195 dL_law_763 ?_
                                            obtain ⟨r201, S200, h199, hf⟩ := b2_s hf
                                            refine kVg hcs X hw (c_X4_lives l D cI cO ad (xs (x3 + (1 : Int32)).toNatClampNeg) S197 r201 S200 h199) (Nat.le_of_ble_eq_true rfl) ce5 rfl ⟨rfl, rfl⟩ q834 q835 q836 q64 q837 hd_X4_lives ⟨Nat.le_of_ble_eq_true rfl, Nat.le_of_ble_eq_true rfl⟩ rfl hl.1 rfl (Nat.le_of_ble_eq_true rfl) dL_law_764 (fun H locs hw => ?_)
                                            refine lv_icmp_eq (tgt := 972) hx hb dL_law_767 (by decide) (fun c202 => ?_) (fun c202 => ?_)
                                            · replace hf := if_t c202 hf
                                              exact J972 x3 S200 hf _ _ _ hw hl
                                            · replace hf := if_f c202 hf
                                              refine lv_iconst (v := 0) hx hb dL_law_770 (by decide) ?_
                                              replace hf := K2 _ hf
                                              exact hfin _ _ _ _ _ _ hw (s2a hf) (s2b hf) rfl dL_law_771
                                          · replace hf := if_f c194 hf
                                            by_cases c203 : ((xs x3.toNatClampNeg) &&& (31 : Int32)) = (18 : Int32)
                                            · replace hf := if_t c203 hf
                                              refine lv_tableIn (off := 740) (tgt := 772) hx hb dL_law_32 (by rw [c203]; decide) (by rw [c203]; decide) (by rw [c203]; rfl) (by decide) ?_
                                              refine lv_aload_n hx hb dL_law_772 rfl (lv_at hl 1 rfl) ?_
                                              obtain ⟨r206, S205, h204, hf⟩ := b2_s hf
                                              refine kVg hcs X hw (c_X3_where l D cI cO ad  S r206 S205 h204) (Nat.le_of_ble_eq_true rfl) ce0 rfl ⟨rfl, rfl⟩ q502 q503 q504 q59 q505 hd_X3_where ⟨Nat.le_of_ble_eq_true rfl, Nat.le_of_ble_eq_true rfl⟩ rfl hl.1 rfl (Nat.le_of_ble_eq_true rfl) dL_law_773 (fun H locs hw => ?_)
                                              refine lv_aload_n hx hb dL_law_776 rfl (lv_at hl 2 rfl) ?_
                                              obtain ⟨r209, S208, h207, hf⟩ := b2_s hf
                                              refine kVg hcs X hw (c_X4_where l D cI cO ad  S205 r209 S208 h207) (Nat.le_of_ble_eq_true rfl) ce5 rfl ⟨rfl, rfl⟩ q842 q843 q844 q64 q845 hd_X4_where ⟨Nat.le_of_ble_eq_true rfl, Nat.le_of_ble_eq_true rfl⟩ rfl hl.1 rfl (Nat.le_of_ble_eq_true rfl) dL_law_777 (fun H locs hw => ?_)
                                              refine lv_icmp_eq (tgt := 972) hx hb dL_law_780 (by decide) (fun c210 => ?_) (fun c210 => ?_)
                                              · replace hf := if_t c210 hf
                                                exact J972 x3 S208 hf _ _ _ hw hl
                                              · replace hf := if_f c210 hf
                                                refine lv_iconst (v := 0) hx hb dL_law_783 (by decide) ?_
                                                replace hf := K2 _ hf
                                                exact hfin _ _ _ _ _ _ hw (s2a hf) (s2b hf) rfl dL_law_784
                                            · replace hf := if_f c203 hf
                                              by_cases c211 : ((xs x3.toNatClampNeg) &&& (31 : Int32)) = (19 : Int32)
                                              · replace hf := if_t c211 hf
                                                refine lv_tableIn (off := 753) (tgt := 785) hx hb dL_law_32 (by rw [c211]; decide) (by rw [c211]; decide) (by rw [c211]; rfl) (by decide) ?_
                                                refine lv_aload_n hx hb dL_law_785 rfl (lv_at hl 1 rfl) ?_
                                                refine lv_aload_n hx hb dL_law_786 rfl (lv_at hl 0 rfl) ?_
                                                refine lv_iload_n hx hb dL_law_787 rfl (lv_at hl 3 rfl) ?_
                                                refine lv_iconst (v := 1) hx hb dL_law_788 (by decide) ?_
                                                refine lv_iadd hx hb dL_law_789 ?_
                                                obtain ⟨h212, hf⟩ := if_s hf
                                                refine xs_ld X hw hX hbl hbA h212 dL_law_790 ?_
                                                refine lv_aload_n hx hb dL_law_791 rfl (lv_at hl 0 rfl) ?_
                                                refine lv_iload_n hx hb dL_law_792 rfl (lv_at hl 3 rfl) ?_
                                                refine lv_iconst (v := 2) hx hb dL_law_793 (by decide) ?_
                                                refine lv_iadd hx hb dL_law_794 ?_
                                                obtain ⟨h213, hf⟩ := if_s hf
                                                refine xs_ld X hw hX hbl hbA h213 dL_law_795 ?_
                                                obtain ⟨r216, S215, h214, hf⟩ := b2_s hf
                                                refine kVg hcs X hw (c_X3_edge l D cI cO ad (xs (x3 + (1 : Int32)).toNatClampNeg) (xs (x3 + (2 : Int32)).toNatClampNeg) S r216 S215 h214) (Nat.le_of_ble_eq_true rfl) ce0 rfl ⟨rfl, rfl⟩ q506 q507 q508 q59 q509 hd_X3_edge ⟨Nat.le_of_ble_eq_true rfl, Nat.le_of_ble_eq_true rfl⟩ rfl hl.1 rfl (Nat.le_of_ble_eq_true rfl) dL_law_796 (fun H locs hw => ?_)
                                                refine lv_aload_n hx hb dL_law_799 rfl (lv_at hl 2 rfl) ?_
                                                refine lv_aload_n hx hb dL_law_800 rfl (lv_at hl 0 rfl) ?_
                                                refine lv_iload_n hx hb dL_law_801 rfl (lv_at hl 3 rfl) ?_
                                                refine lv_iconst (v := 1) hx hb dL_law_802 (by decide) ?_
                                                refine lv_iadd hx hb dL_law_803 ?_
                                                refine xs_ld X hw hX hbl hbA h212 dL_law_804 ?_
                                                refine lv_aload_n hx hb dL_law_805 rfl (lv_at hl 0 rfl) ?_
                                                refine lv_iload_n hx hb dL_law_806 rfl (lv_at hl 3 rfl) ?_
                                                refine lv_iconst (v := 2) hx hb dL_law_807 (by decide) ?_
                                                refine lv_iadd hx hb dL_law_808 ?_
                                                refine xs_ld X hw hX hbl hbA h213 dL_law_809 ?_
                                                obtain ⟨r219, S218, h217, hf⟩ := b2_s hf
                                                refine kVg hcs X hw (c_X4_edge l D cI cO ad (xs (x3 + (1 : Int32)).toNatClampNeg) (xs (x3 + (2 : Int32)).toNatClampNeg) S215 r219 S218 h217) (Nat.le_of_ble_eq_true rfl) ce5 rfl ⟨rfl, rfl⟩ q846 q847 q848 q64 q849 hd_X4_edge ⟨Nat.le_of_ble_eq_true rfl, Nat.le_of_ble_eq_true rfl⟩ rfl hl.1 rfl (Nat.le_of_ble_eq_true rfl) dL_law_810 (fun H locs hw => ?_)
                                                refine lv_icmp_eq (tgt := 972) hx hb dL_law_813 (by decide) (fun c220 => ?_) (fun c220 => ?_)
                                                · replace hf := if_t c220 hf
                                                  exact J972 x3 S218 hf _ _ _ hw hl
                                                · replace hf := if_f c220 hf
                                                  refine lv_iconst (v := 0) hx hb dL_law_816 (by decide) ?_
                                                  replace hf := K2 _ hf
                                                  exact hfin _ _ _ _ _ _ hw (s2a hf) (s2b hf) rfl dL_law_817
                                              · replace hf := if_f c211 hf
                                                by_cases c221 : ((xs x3.toNatClampNeg) &&& (31 : Int32)) = (20 : Int32)
                                                · replace hf := if_t c221 hf
                                                  refine lv_tableIn (off := 786) (tgt := 818) hx hb dL_law_32 (by rw [c221]; decide) (by rw [c221]; decide) (by rw [c221]; rfl) (by decide) ?_
                                                  refine lv_aload_n hx hb dL_law_818 rfl (lv_at hl 1 rfl) ?_
                                                  obtain ⟨r224, S223, h222, hf⟩ := b2_s hf
                                                  refine kVg hcs X hw (c_X3_hangs l D cI cO ad  S r224 S223 h222) (Nat.le_of_ble_eq_true rfl) ce0 rfl ⟨rfl, rfl⟩ q520 q521 q522 q59 q523 hd_X3_hangs ⟨Nat.le_of_ble_eq_true rfl, Nat.le_of_ble_eq_true rfl⟩ rfl hl.1 rfl (Nat.le_of_ble_eq_true rfl) dL_law_819 (fun H locs hw => ?_)
                                                  refine lv_aload_n hx hb dL_law_822 rfl (lv_at hl 2 rfl) ?_
                                                  obtain ⟨r227, S226, h225, hf⟩ := b2_s hf
                                                  refine kVg hcs X hw (c_X4_hangs l D cI cO ad  S223 r227 S226 h225) (Nat.le_of_ble_eq_true rfl) ce5 rfl ⟨rfl, rfl⟩ q858 q859 q860 q64 q861 hd_X4_hangs ⟨Nat.le_of_ble_eq_true rfl, Nat.le_of_ble_eq_true rfl⟩ rfl hl.1 rfl (Nat.le_of_ble_eq_true rfl) dL_law_823 (fun H locs hw => ?_)
                                                  refine lv_icmp_eq (tgt := 972) hx hb dL_law_826 (by decide) (fun c228 => ?_) (fun c228 => ?_)
                                                  · replace hf := if_t c228 hf
                                                    exact J972 x3 S226 hf _ _ _ hw hl
                                                  · replace hf := if_f c228 hf
                                                    refine lv_iconst (v := 0) hx hb dL_law_829 (by decide) ?_
                                                    replace hf := K2 _ hf
                                                    exact hfin _ _ _ _ _ _ hw (s2a hf) (s2b hf) rfl dL_law_830
                                                · replace hf := if_f c221 hf
                                                  by_cases c229 : ((xs x3.toNatClampNeg) &&& (31 : Int32)) = (21 : Int32)
                                                  · replace hf := if_t c229 hf
                                                    refine lv_tableIn (off := 799) (tgt := 831) hx hb dL_law_32 (by rw [c229]; decide) (by rw [c229]; decide) (by rw [c229]; rfl) (by decide) ?_
                                                    refine lv_aload_n hx hb dL_law_831 rfl (lv_at hl 1 rfl) ?_
                                                    refine lv_aload_n hx hb dL_law_832 rfl (lv_at hl 0 rfl) ?_
                                                    refine lv_iload_n hx hb dL_law_833 rfl (lv_at hl 3 rfl) ?_
                                                    refine lv_iconst (v := 1) hx hb dL_law_834 (by decide) ?_
                                                    refine lv_iadd hx hb dL_law_835 ?_
                                                    obtain ⟨h230, hf⟩ := if_s hf
                                                    refine xs_ld X hw hX hbl hbA h230 dL_law_836 ?_
                                                    refine lv_aload_n hx hb dL_law_837 rfl (lv_at hl 0 rfl) ?_
                                                    refine lv_iload_n hx hb dL_law_838 rfl (lv_at hl 3 rfl) ?_
                                                    refine lv_iconst (v := 2) hx hb dL_law_839 (by decide) ?_
                                                    refine lv_iadd hx hb dL_law_840 ?_
                                                    obtain ⟨h231, hf⟩ := if_s hf
                                                    refine xs_ld X hw hX hbl hbA h231 dL_law_841 ?_
                                                    obtain ⟨r234, S233, h232, hf⟩ := b2_s hf
                                                    refine kVg hcs X hw (c_X3_year l D cI cO ad (xs (x3 + (1 : Int32)).toNatClampNeg) (xs (x3 + (2 : Int32)).toNatClampNeg) S r234 S233 h232) (Nat.le_of_ble_eq_true rfl) ce0 rfl ⟨rfl, rfl⟩ q528 q529 q530 q59 q531 hd_X3_year ⟨Nat.le_of_ble_eq_true rfl, Nat.le_of_ble_eq_true rfl⟩ rfl hl.1 rfl (Nat.le_of_ble_eq_true rfl) dL_law_842 (fun H locs hw => ?_)
                                                    refine lv_aload_n hx hb dL_law_845 rfl (lv_at hl 2 rfl) ?_
                                                    refine lv_aload_n hx hb dL_law_846 rfl (lv_at hl 0 rfl) ?_
                                                    refine lv_iload_n hx hb dL_law_847 rfl (lv_at hl 3 rfl) ?_
                                                    refine lv_iconst (v := 1) hx hb dL_law_848 (by decide) ?_
                                                    refine lv_iadd hx hb dL_law_849 ?_
                                                    refine xs_ld X hw hX hbl hbA h230 dL_law_850 ?_
                                                    refine lv_aload_n hx hb dL_law_851 rfl (lv_at hl 0 rfl) ?_
                                                    refine lv_iload_n hx hb dL_law_852 rfl (lv_at hl 3 rfl) ?_
                                                    refine lv_iconst (v := 2) hx hb dL_law_853 (by decide) ?_
                                                    refine lv_iadd hx hb dL_law_854 ?_
                                                    refine xs_ld X hw hX hbl hbA h231 dL_law_855 ?_
                                                    obtain ⟨r237, S236, h235, hf⟩ := b2_s hf
                                                    refine kVg hcs X hw (c_X4_year l D cI cO ad (xs (x3 + (1 : Int32)).toNatClampNeg) (xs (x3 + (2 : Int32)).toNatClampNeg) S233 r237 S236 h235) (Nat.le_of_ble_eq_true rfl) ce5 rfl ⟨rfl, rfl⟩ q862 q863 q864 q64 q865 hd_X4_year ⟨Nat.le_of_ble_eq_true rfl, Nat.le_of_ble_eq_true rfl⟩ rfl hl.1 rfl (Nat.le_of_ble_eq_true rfl) dL_law_856 (fun H locs hw => ?_)
                                                    refine lv_icmp_eq (tgt := 972) hx hb dL_law_859 (by decide) (fun c238 => ?_) (fun c238 => ?_)
                                                    · replace hf := if_t c238 hf
                                                      exact J972 x3 S236 hf _ _ _ hw hl
                                                    · replace hf := if_f c238 hf
                                                      refine lv_iconst (v := 0) hx hb dL_law_862 (by decide) ?_
                                                      replace hf := K2 _ hf
                                                      exact hfin _ _ _ _ _ _ hw (s2a hf) (s2b hf) rfl dL_law_863
                                                  · replace hf := if_f c229 hf
                                                    by_cases c239 : ((xs x3.toNatClampNeg) &&& (31 : Int32)) = (22 : Int32)
                                                    · replace hf := if_t c239 hf
                                                      refine lv_tableIn (off := 832) (tgt := 864) hx hb dL_law_32 (by rw [c239]; decide) (by rw [c239]; decide) (by rw [c239]; rfl) (by decide) ?_
                                                      refine lv_aload_n hx hb dL_law_864 rfl (lv_at hl 1 rfl) ?_
                                                      refine lv_aload_n hx hb dL_law_865 rfl (lv_at hl 0 rfl) ?_
                                                      refine lv_iload_n hx hb dL_law_866 rfl (lv_at hl 3 rfl) ?_
                                                      refine lv_iconst (v := 1) hx hb dL_law_867 (by decide) ?_
                                                      refine lv_iadd hx hb dL_law_868 ?_
                                                      obtain ⟨h240, hf⟩ := if_s hf
                                                      refine xs_ld X hw hX hbl hbA h240 dL_law_869 ?_
                                                      obtain ⟨r243, S242, h241, hf⟩ := b2_s hf
                                                      refine kVg hcs X hw (c_X3_proof l D cI cO ad (xs (x3 + (1 : Int32)).toNatClampNeg) S r243 S242 h241) (Nat.le_of_ble_eq_true rfl) ce0 rfl ⟨rfl, rfl⟩ q541 q542 q543 q59 q544 hd_X3_proof ⟨Nat.le_of_ble_eq_true rfl, Nat.le_of_ble_eq_true rfl⟩ rfl hl.1 rfl (Nat.le_of_ble_eq_true rfl) dL_law_870 (fun H locs hw => ?_)
                                                      refine lv_aload_n hx hb dL_law_873 rfl (lv_at hl 2 rfl) ?_
                                                      refine lv_aload_n hx hb dL_law_874 rfl (lv_at hl 0 rfl) ?_
                                                      refine lv_iload_n hx hb dL_law_875 rfl (lv_at hl 3 rfl) ?_
                                                      refine lv_iconst (v := 1) hx hb dL_law_876 (by decide) ?_
                                                      refine lv_iadd hx hb dL_law_877 ?_
                                                      refine xs_ld X hw hX hbl hbA h240 dL_law_878 ?_
                                                      obtain ⟨r246, S245, h244, hf⟩ := b2_s hf
                                                      refine kVg hcs X hw (c_X4_proof l D cI cO ad (xs (x3 + (1 : Int32)).toNatClampNeg) S242 r246 S245 h244) (Nat.le_of_ble_eq_true rfl) ce5 rfl ⟨rfl, rfl⟩ q871 q872 q873 q64 q874 hd_X4_proof ⟨Nat.le_of_ble_eq_true rfl, Nat.le_of_ble_eq_true rfl⟩ rfl hl.1 rfl (Nat.le_of_ble_eq_true rfl) dL_law_879 (fun H locs hw => ?_)
                                                      refine lv_icmp_eq (tgt := 972) hx hb dL_law_882 (by decide) (fun c247 => ?_) (fun c247 => ?_)
                                                      · replace hf := if_t c247 hf
                                                        exact J972 x3 S245 hf _ _ _ hw hl
                                                      · replace hf := if_f c247 hf
                                                        refine lv_iconst (v := 0) hx hb dL_law_885 (by decide) ?_
                                                        replace hf := K2 _ hf
                                                        exact hfin _ _ _ _ _ _ hw (s2a hf) (s2b hf) rfl dL_law_886
                                                    · replace hf := if_f c239 hf
                                                      by_cases c248 : ((xs x3.toNatClampNeg) &&& (31 : Int32)) = (23 : Int32)
                                                      · replace hf := if_t c248 hf
                                                        refine lv_tableIn (off := 855) (tgt := 887) hx hb dL_law_32 (by rw [c248]; decide) (by rw [c248]; decide) (by rw [c248]; rfl) (by decide) ?_
                                                        refine lv_aload_n hx hb dL_law_887 rfl (lv_at hl 1 rfl) ?_
                                                        refine lv_aload_n hx hb dL_law_888 rfl (lv_at hl 0 rfl) ?_
                                                        refine lv_iload_n hx hb dL_law_889 rfl (lv_at hl 3 rfl) ?_
                                                        refine lv_iconst (v := 1) hx hb dL_law_890 (by decide) ?_
                                                        refine lv_iadd hx hb dL_law_891 ?_
                                                        obtain ⟨h249, hf⟩ := if_s hf
                                                        refine xs_ld X hw hX hbl hbA h249 dL_law_892 ?_
                                                        obtain ⟨r252, S251, h250, hf⟩ := b2_s hf
                                                        refine kVg hcs X hw (c_X3_put l D cI cO ad (xs (x3 + (1 : Int32)).toNatClampNeg) S r252 S251 h250) (Nat.le_of_ble_eq_true rfl) ce0 rfl ⟨rfl, rfl⟩ q545 q546 q547 q59 q548 hd_X3_put ⟨Nat.le_of_ble_eq_true rfl, Nat.le_of_ble_eq_true rfl⟩ rfl hl.1 rfl (Nat.le_of_ble_eq_true rfl) dL_law_893 (fun H locs hw => ?_)
                                                        refine lv_aload_n hx hb dL_law_896 rfl (lv_at hl 2 rfl) ?_
                                                        refine lv_aload_n hx hb dL_law_897 rfl (lv_at hl 0 rfl) ?_
                                                        refine lv_iload_n hx hb dL_law_898 rfl (lv_at hl 3 rfl) ?_
                                                        refine lv_iconst (v := 1) hx hb dL_law_899 (by decide) ?_
                                                        refine lv_iadd hx hb dL_law_900 ?_
                                                        refine xs_ld X hw hX hbl hbA h249 dL_law_901 ?_
                                                        obtain ⟨r255, S254, h253, hf⟩ := b2_s hf
                                                        refine kVg hcs X hw (c_X4_put l D cI cO ad (xs (x3 + (1 : Int32)).toNatClampNeg) S251 r255 S254 h253) (Nat.le_of_ble_eq_true rfl) ce5 rfl ⟨rfl, rfl⟩ q875 q876 q877 q64 q878 hd_X4_put ⟨Nat.le_of_ble_eq_true rfl, Nat.le_of_ble_eq_true rfl⟩ rfl hl.1 rfl (Nat.le_of_ble_eq_true rfl) dL_law_902 (fun H locs hw => ?_)
                                                        refine lv_icmp_eq (tgt := 972) hx hb dL_law_905 (by decide) (fun c256 => ?_) (fun c256 => ?_)
                                                        · replace hf := if_t c256 hf
                                                          exact J972 x3 S254 hf _ _ _ hw hl
                                                        · replace hf := if_f c256 hf
                                                          refine lv_iconst (v := 0) hx hb dL_law_908 (by decide) ?_
                                                          replace hf := K2 _ hf
                                                          exact hfin _ _ _ _ _ _ hw (s2a hf) (s2b hf) rfl dL_law_909
                                                      · replace hf := if_f c248 hf
                                                        by_cases c257 : ((xs x3.toNatClampNeg) &&& (31 : Int32)) = (24 : Int32)
                                                        · replace hf := if_t c257 hf
                                                          refine lv_tableIn (off := 878) (tgt := 910) hx hb dL_law_32 (by rw [c257]; decide) (by rw [c257]; decide) (by rw [c257]; rfl) (by decide) ?_
                                                          refine lv_aload_n hx hb dL_law_910 rfl (lv_at hl 1 rfl) ?_
                                                          obtain ⟨r260, S259, h258, hf⟩ := b2_s hf
                                                          refine kVg hcs X hw (c_X3_judge l D cI cO ad  S r260 S259 h258) (Nat.le_of_ble_eq_true rfl) ce0 rfl ⟨rfl, rfl⟩ q549 q550 q551 q59 q552 hd_X3_judge ⟨Nat.le_of_ble_eq_true rfl, Nat.le_of_ble_eq_true rfl⟩ rfl hl.1 rfl (Nat.le_of_ble_eq_true rfl) dL_law_911 (fun H locs hw => ?_)
                                                          refine lv_aload_n hx hb dL_law_914 rfl (lv_at hl 2 rfl) ?_
                                                          obtain ⟨r263, S262, h261, hf⟩ := b2_s hf
                                                          refine kVg hcs X hw (c_X4_judge l D cI cO ad  S259 r263 S262 h261) (Nat.le_of_ble_eq_true rfl) ce5 rfl ⟨rfl, rfl⟩ q879 q880 q881 q64 q882 hd_X4_judge ⟨Nat.le_of_ble_eq_true rfl, Nat.le_of_ble_eq_true rfl⟩ rfl hl.1 rfl (Nat.le_of_ble_eq_true rfl) dL_law_915 (fun H locs hw => ?_)
                                                          refine lv_icmp_eq (tgt := 972) hx hb dL_law_918 (by decide) (fun c264 => ?_) (fun c264 => ?_)
                                                          · replace hf := if_t c264 hf
                                                            exact J972 x3 S262 hf _ _ _ hw hl
                                                          · replace hf := if_f c264 hf
                                                            refine lv_iconst (v := 0) hx hb dL_law_921 (by decide) ?_
                                                            replace hf := K2 _ hf
                                                            exact hfin _ _ _ _ _ _ hw (s2a hf) (s2b hf) rfl dL_law_922
                                                        · replace hf := if_f c257 hf
                                                          by_cases c265 : ((xs x3.toNatClampNeg) &&& (31 : Int32)) = (25 : Int32)
                                                          · replace hf := if_t c265 hf
                                                            refine lv_tableIn (off := 891) (tgt := 923) hx hb dL_law_32 (by rw [c265]; decide) (by rw [c265]; decide) (by rw [c265]; rfl) (by decide) ?_
                                                            refine lv_aload_n hx hb dL_law_923 rfl (lv_at hl 1 rfl) ?_
                                                            obtain ⟨r268, S267, h266, hf⟩ := b2_s hf
                                                            refine kVg hcs X hw (c_X3_image l D cI cO ad  S r268 S267 h266) (Nat.le_of_ble_eq_true rfl) ce0 rfl ⟨rfl, rfl⟩ q560 q561 q562 q59 q563 hd_X3_image ⟨Nat.le_of_ble_eq_true rfl, Nat.le_of_ble_eq_true rfl⟩ rfl hl.1 rfl (Nat.le_of_ble_eq_true rfl) dL_law_924 (fun H locs hw => ?_)
                                                            refine lv_aload_n hx hb dL_law_927 rfl (lv_at hl 2 rfl) ?_
                                                            obtain ⟨r271, S270, h269, hf⟩ := b2_s hf
                                                            refine kVg hcs X hw (c_X4_image l D cI cO ad  S267 r271 S270 h269) (Nat.le_of_ble_eq_true rfl) ce5 rfl ⟨rfl, rfl⟩ q883 q884 q885 q64 q886 hd_X4_image ⟨Nat.le_of_ble_eq_true rfl, Nat.le_of_ble_eq_true rfl⟩ rfl hl.1 rfl (Nat.le_of_ble_eq_true rfl) dL_law_928 (fun H locs hw => ?_)
                                                            refine lv_icmp_eq (tgt := 972) hx hb dL_law_931 (by decide) (fun c272 => ?_) (fun c272 => ?_)
                                                            · replace hf := if_t c272 hf
                                                              exact J972 x3 S270 hf _ _ _ hw hl
                                                            · replace hf := if_f c272 hf
                                                              refine lv_iconst (v := 0) hx hb dL_law_934 (by decide) ?_
                                                              replace hf := K2 _ hf
                                                              exact hfin _ _ _ _ _ _ hw (s2a hf) (s2b hf) rfl dL_law_935
                                                          · replace hf := if_f c265 hf
                                                            by_cases c273 : ((xs x3.toNatClampNeg) &&& (31 : Int32)) = (26 : Int32)
                                                            · replace hf := if_t c273 hf
                                                              refine lv_tableIn (off := 904) (tgt := 936) hx hb dL_law_32 (by rw [c273]; decide) (by rw [c273]; decide) (by rw [c273]; rfl) (by decide) ?_
                                                              refine lv_aload_n hx hb dL_law_936 rfl (lv_at hl 1 rfl) ?_
                                                              obtain ⟨r276, S275, h274, hf⟩ := b2_s hf
                                                              refine kVg hcs X hw (c_X3_on l D cI cO ad  S r276 S275 h274) (Nat.le_of_ble_eq_true rfl) ce0 rfl ⟨rfl, rfl⟩ q568 q569 q570 q59 q571 hd_X3_on ⟨Nat.le_of_ble_eq_true rfl, Nat.le_of_ble_eq_true rfl⟩ rfl hl.1 rfl (Nat.le_of_ble_eq_true rfl) dL_law_937 (fun H locs hw => ?_)
                                                              refine lv_aload_n hx hb dL_law_940 rfl (lv_at hl 2 rfl) ?_
                                                              obtain ⟨r279, S278, h277, hf⟩ := b2_s hf
                                                              refine kVg hcs X hw (c_X4_on l D cI cO ad  S275 r279 S278 h277) (Nat.le_of_ble_eq_true rfl) ce5 rfl ⟨rfl, rfl⟩ q895 q896 q897 q64 q898 hd_X4_on ⟨Nat.le_of_ble_eq_true rfl, Nat.le_of_ble_eq_true rfl⟩ rfl hl.1 rfl (Nat.le_of_ble_eq_true rfl) dL_law_941 (fun H locs hw => ?_)
                                                              refine lv_icmp_eq (tgt := 972) hx hb dL_law_944 (by decide) (fun c280 => ?_) (fun c280 => ?_)
                                                              · replace hf := if_t c280 hf
                                                                exact J972 x3 S278 hf _ _ _ hw hl
                                                              · replace hf := if_f c280 hf
                                                                refine lv_iconst (v := 0) hx hb dL_law_947 (by decide) ?_
                                                                replace hf := K2 _ hf
                                                                exact hfin _ _ _ _ _ _ hw (s2a hf) (s2b hf) rfl dL_law_948
                                                            · replace hf := if_f c273 hf
                                                              by_cases c281 : ((xs x3.toNatClampNeg) &&& (31 : Int32)) = (27 : Int32)
                                                              · replace hf := if_t c281 hf
                                                                refine lv_tableIn (off := 917) (tgt := 949) hx hb dL_law_32 (by rw [c281]; decide) (by rw [c281]; decide) (by rw [c281]; rfl) (by decide) ?_
                                                                refine lv_aload_n hx hb dL_law_949 rfl (lv_at hl 1 rfl) ?_
                                                                refine lv_aload_n hx hb dL_law_950 rfl (lv_at hl 0 rfl) ?_
                                                                refine lv_iload_n hx hb dL_law_951 rfl (lv_at hl 3 rfl) ?_
                                                                refine lv_iconst (v := 1) hx hb dL_law_952 (by decide) ?_
                                                                refine lv_iadd hx hb dL_law_953 ?_
                                                                obtain ⟨h282, hf⟩ := if_s hf
                                                                refine xs_ld X hw hX hbl hbA h282 dL_law_954 ?_
                                                                obtain ⟨r284, h283, hf⟩ := b1_s hf
                                                                refine kVg hcs X hw (c_X3_count l D cI cO ad (xs (x3 + (1 : Int32)).toNatClampNeg) S r284 h283) (Nat.le_of_ble_eq_true rfl) ce0 rfl ⟨rfl, rfl⟩ q572 q573 q574 q59 q575 hd_X3_count ⟨Nat.le_of_ble_eq_true rfl, Nat.le_of_ble_eq_true rfl⟩ rfl hl.1 rfl (Nat.le_of_ble_eq_true rfl) dL_law_955 (fun H locs hw => ?_)
                                                                refine lv_aload_n hx hb dL_law_958 rfl (lv_at hl 2 rfl) ?_
                                                                refine lv_aload_n hx hb dL_law_959 rfl (lv_at hl 0 rfl) ?_
                                                                refine lv_iload_n hx hb dL_law_960 rfl (lv_at hl 3 rfl) ?_
                                                                refine lv_iconst (v := 1) hx hb dL_law_961 (by decide) ?_
                                                                refine lv_iadd hx hb dL_law_962 ?_
                                                                refine xs_ld X hw hX hbl hbA h282 dL_law_963 ?_
                                                                obtain ⟨r286, h285, hf⟩ := b1_s hf
                                                                refine kVg hcs X hw (c_X4_count l D cI cO ad (xs (x3 + (1 : Int32)).toNatClampNeg) S r286 h285) (Nat.le_of_ble_eq_true rfl) ce5 rfl ⟨rfl, rfl⟩ q899 q900 q901 q64 q902 hd_X4_count ⟨Nat.le_of_ble_eq_true rfl, Nat.le_of_ble_eq_true rfl⟩ rfl hl.1 rfl (Nat.le_of_ble_eq_true rfl) dL_law_964 (fun H locs hw => ?_)
                                                                refine lv_icmp_eq (tgt := 972) hx hb dL_law_967 (by decide) (fun c287 => ?_) (fun c287 => ?_)
                                                                · replace hf := if_t c287 hf
                                                                  exact J972 x3 S hf _ _ _ hw hl
                                                                · replace hf := if_f c287 hf
                                                                  refine lv_iconst (v := 0) hx hb dL_law_970 (by decide) ?_
                                                                  replace hf := K2 _ hf
                                                                  exact hfin _ _ _ _ _ _ hw (s2a hf) (s2b hf) rfl dL_law_971
                                                              · replace hf := if_f c281 hf
                                                                have nc3 : ¬ (((xs x3.toNatClampNeg) &&& (31 : Int32))).toInt = 0 := lv_neT c3 (by decide)
                                                                have nc14 : ¬ (((xs x3.toNatClampNeg) &&& (31 : Int32))).toInt = 1 := lv_neT c14 (by decide)
                                                                have nc22 : ¬ (((xs x3.toNatClampNeg) &&& (31 : Int32))).toInt = 2 := lv_neT c22 (by decide)
                                                                have nc32 : ¬ (((xs x3.toNatClampNeg) &&& (31 : Int32))).toInt = 3 := lv_neT c32 (by decide)
                                                                have nc50 : ¬ (((xs x3.toNatClampNeg) &&& (31 : Int32))).toInt = 4 := lv_neT c50 (by decide)
                                                                have nc61 : ¬ (((xs x3.toNatClampNeg) &&& (31 : Int32))).toInt = 5 := lv_neT c61 (by decide)
                                                                have nc71 : ¬ (((xs x3.toNatClampNeg) &&& (31 : Int32))).toInt = 6 := lv_neT c71 (by decide)
                                                                have nc91 : ¬ (((xs x3.toNatClampNeg) &&& (31 : Int32))).toInt = 7 := lv_neT c91 (by decide)
                                                                have nc101 : ¬ (((xs x3.toNatClampNeg) &&& (31 : Int32))).toInt = 8 := lv_neT c101 (by decide)
                                                                have nc111 : ¬ (((xs x3.toNatClampNeg) &&& (31 : Int32))).toInt = 9 := lv_neT c111 (by decide)
                                                                have nc120 : ¬ (((xs x3.toNatClampNeg) &&& (31 : Int32))).toInt = 10 := lv_neT c120 (by decide)
                                                                have nc130 : ¬ (((xs x3.toNatClampNeg) &&& (31 : Int32))).toInt = 11 := lv_neT c130 (by decide)
                                                                have nc148 : ¬ (((xs x3.toNatClampNeg) &&& (31 : Int32))).toInt = 12 := lv_neT c148 (by decide)
                                                                have nc157 : ¬ (((xs x3.toNatClampNeg) &&& (31 : Int32))).toInt = 13 := lv_neT c157 (by decide)
                                                                have nc165 : ¬ (((xs x3.toNatClampNeg) &&& (31 : Int32))).toInt = 14 := lv_neT c165 (by decide)
                                                                have nc173 : ¬ (((xs x3.toNatClampNeg) &&& (31 : Int32))).toInt = 15 := lv_neT c173 (by decide)
                                                                have nc184 : ¬ (((xs x3.toNatClampNeg) &&& (31 : Int32))).toInt = 16 := lv_neT c184 (by decide)
                                                                have nc194 : ¬ (((xs x3.toNatClampNeg) &&& (31 : Int32))).toInt = 17 := lv_neT c194 (by decide)
                                                                have nc203 : ¬ (((xs x3.toNatClampNeg) &&& (31 : Int32))).toInt = 18 := lv_neT c203 (by decide)
                                                                have nc211 : ¬ (((xs x3.toNatClampNeg) &&& (31 : Int32))).toInt = 19 := lv_neT c211 (by decide)
                                                                have nc221 : ¬ (((xs x3.toNatClampNeg) &&& (31 : Int32))).toInt = 20 := lv_neT c221 (by decide)
                                                                have nc229 : ¬ (((xs x3.toNatClampNeg) &&& (31 : Int32))).toInt = 21 := lv_neT c229 (by decide)
                                                                have nc239 : ¬ (((xs x3.toNatClampNeg) &&& (31 : Int32))).toInt = 22 := lv_neT c239 (by decide)
                                                                have nc248 : ¬ (((xs x3.toNatClampNeg) &&& (31 : Int32))).toInt = 23 := lv_neT c248 (by decide)
                                                                have nc257 : ¬ (((xs x3.toNatClampNeg) &&& (31 : Int32))).toInt = 24 := lv_neT c257 (by decide)
                                                                have nc265 : ¬ (((xs x3.toNatClampNeg) &&& (31 : Int32))).toInt = 25 := lv_neT c265 (by decide)
                                                                have nc273 : ¬ (((xs x3.toNatClampNeg) &&& (31 : Int32))).toInt = 26 := lv_neT c273 (by decide)
                                                                have nc281 : ¬ (((xs x3.toNatClampNeg) &&& (31 : Int32))).toInt = 27 := lv_neT c281 (by decide)
                                                                refine lv_tableOut (tgt := 972) hx hb dL_law_32 (by omega) (by decide) ?_
                                                                exact J972 x3 S hf _ _ _ hw hl
  unfold f_L_law at hf
  refine lv_iconst (v := 0) hx hb dL_law_16 (by decide) ?_
  refine lv_istore_n (lv' := [(3, .int (0 : Int32)), (0, .ref b), (1, .ref (ad 0)), (2, .ref (ad 5))]) hx hb dL_law_17 rfl hl (by decide) rfl (fun ls hl => ?_)
  obtain ⟨res, h289, hk1, hk2⟩ := bS_x hf
  refine L18 FU (0 : Int32) S res h289 (fun S288 eK H locs ls hw hl => ?_) (fun q eK => hk2 q (Option.some.inj eK).symm) _ _ _ hw (lv_sub hl [1, 2, 3, 0] rfl)
  replace hf := hk1 _ (Option.some.inj eK).symm
  refine lv_iconst (v := 1) hx hb dL_law_978 (by decide) ?_
  exact hfin _ _ _ _ _ _ hw (s2a hf) (s2b hf) rfl dL_law_979
