theorem dX4_init_0 : decode cX4_init 0 = .ok (.aload_n 0, 1) := by decide +kernel
theorem dX4_init_1 : decode cX4_init 1 = .ok (.invokespecial 1, 3) := by decide +kernel
theorem dX4_init_4 : decode cX4_init 4 = .ok (.aload_n 0, 1) := by decide +kernel
theorem dX4_init_5 : decode cX4_init 5 = .ok (.bipush 7, 2) := by decide +kernel
theorem dX4_init_7 : decode cX4_init 7 = .ok (.newarray .int, 2) := by decide +kernel
theorem dX4_init_9 : decode cX4_init 9 = .ok (.putfield 7, 3) := by decide +kernel
theorem dX4_init_12 : decode cX4_init 12 = .ok (.aload_n 0, 1) := by decide +kernel
theorem dX4_init_13 : decode cX4_init 13 = .ok (.bipush 16, 2) := by decide +kernel
theorem dX4_init_15 : decode cX4_init 15 = .ok (.newarray .int, 2) := by decide +kernel
theorem dX4_init_17 : decode cX4_init 17 = .ok (.putfield 13, 3) := by decide +kernel
theorem dX4_init_20 : decode cX4_init 20 = .ok (.aload_n 0, 1) := by decide +kernel
theorem dX4_init_21 : decode cX4_init 21 = .ok (.bipush 21, 2) := by decide +kernel
theorem dX4_init_23 : decode cX4_init 23 = .ok (.newarray .int, 2) := by decide +kernel
theorem dX4_init_25 : decode cX4_init 25 = .ok (.putfield 16, 3) := by decide +kernel
theorem dX4_init_28 : decode cX4_init 28 = .ok (.aload_n 0, 1) := by decide +kernel
theorem dX4_init_29 : decode cX4_init 29 = .ok (.bipush 21, 2) := by decide +kernel
theorem dX4_init_31 : decode cX4_init 31 = .ok (.newarray .int, 2) := by decide +kernel
theorem dX4_init_33 : decode cX4_init 33 = .ok (.putfield 19, 3) := by decide +kernel
theorem dX4_init_36 : decode cX4_init 36 = .ok (.aload_n 0, 1) := by decide +kernel
theorem dX4_init_37 : decode cX4_init 37 = .ok (.bipush 21, 2) := by decide +kernel
theorem dX4_init_39 : decode cX4_init 39 = .ok (.newarray .int, 2) := by decide +kernel
theorem dX4_init_41 : decode cX4_init 41 = .ok (.putfield 22, 3) := by decide +kernel
theorem dX4_init_44 : decode cX4_init 44 = .ok (.aload_n 0, 1) := by decide +kernel
theorem dX4_init_45 : decode cX4_init 45 = .ok (.bipush 21, 2) := by decide +kernel
theorem dX4_init_47 : decode cX4_init 47 = .ok (.newarray .int, 2) := by decide +kernel
theorem dX4_init_49 : decode cX4_init 49 = .ok (.putfield 25, 3) := by decide +kernel
theorem dX4_init_52 : decode cX4_init 52 = .ok (.aload_n 0, 1) := by decide +kernel
theorem dX4_init_53 : decode cX4_init 53 = .ok (.bipush 21, 2) := by decide +kernel
theorem dX4_init_55 : decode cX4_init 55 = .ok (.newarray .int, 2) := by decide +kernel
theorem dX4_init_57 : decode cX4_init 57 = .ok (.putfield 28, 3) := by decide +kernel
theorem dX4_init_60 : decode cX4_init 60 = .ok (.aload_n 0, 1) := by decide +kernel
theorem dX4_init_61 : decode cX4_init 61 = .ok (.bipush 21, 2) := by decide +kernel
theorem dX4_init_63 : decode cX4_init 63 = .ok (.newarray .int, 2) := by decide +kernel
theorem dX4_init_65 : decode cX4_init 65 = .ok (.putfield 31, 3) := by decide +kernel
theorem dX4_init_68 : decode cX4_init 68 = .ok (.aload_n 0, 1) := by decide +kernel
theorem dX4_init_69 : decode cX4_init 69 = .ok (.bipush 21, 2) := by decide +kernel
theorem dX4_init_71 : decode cX4_init 71 = .ok (.newarray .int, 2) := by decide +kernel
theorem dX4_init_73 : decode cX4_init 73 = .ok (.putfield 34, 3) := by decide +kernel
theorem dX4_init_76 : decode cX4_init 76 = .ok (.aload_n 0, 1) := by decide +kernel
theorem dX4_init_77 : decode cX4_init 77 = .ok (.bipush 54, 2) := by decide +kernel
theorem dX4_init_79 : decode cX4_init 79 = .ok (.newarray .int, 2) := by decide +kernel
theorem dX4_init_81 : decode cX4_init 81 = .ok (.putfield 37, 3) := by decide +kernel
theorem dX4_init_84 : decode cX4_init 84 = .ok (.aload_n 0, 1) := by decide +kernel
theorem dX4_init_85 : decode cX4_init 85 = .ok (.bipush 6, 2) := by decide +kernel
theorem dX4_init_87 : decode cX4_init 87 = .ok (.newarray .int, 2) := by decide +kernel
theorem dX4_init_89 : decode cX4_init 89 = .ok (.putfield 40, 3) := by decide +kernel
theorem dX4_init_92 : decode cX4_init 92 = .ok (.aload_n 0, 1) := by decide +kernel
theorem dX4_init_93 : decode cX4_init 93 = .ok (.bipush 36, 2) := by decide +kernel
theorem dX4_init_95 : decode cX4_init 95 = .ok (.newarray .int, 2) := by decide +kernel
theorem dX4_init_97 : decode cX4_init 97 = .ok (.putfield 43, 3) := by decide +kernel
theorem dX4_init_100 : decode cX4_init 100 = .ok (.aload_n 0, 1) := by decide +kernel
theorem dX4_init_101 : decode cX4_init 101 = .ok (.bipush 9, 2) := by decide +kernel
theorem dX4_init_103 : decode cX4_init 103 = .ok (.newarray .int, 2) := by decide +kernel
theorem dX4_init_105 : decode cX4_init 105 = .ok (.dup, 1) := by decide +kernel
theorem dX4_init_106 : decode cX4_init 106 = .ok (.iconst 0, 1) := by decide +kernel
theorem dX4_init_107 : decode cX4_init 107 = .ok (.sipush 900, 3) := by decide +kernel
theorem dX4_init_110 : decode cX4_init 110 = .ok (.iastore, 1) := by decide +kernel
theorem dX4_init_111 : decode cX4_init 111 = .ok (.dup, 1) := by decide +kernel
theorem dX4_init_112 : decode cX4_init 112 = .ok (.iconst 1, 1) := by decide +kernel
theorem dX4_init_113 : decode cX4_init 113 = .ok (.sipush 900, 3) := by decide +kernel
theorem dX4_init_116 : decode cX4_init 116 = .ok (.iastore, 1) := by decide +kernel
theorem dX4_init_117 : decode cX4_init 117 = .ok (.dup, 1) := by decide +kernel
theorem dX4_init_118 : decode cX4_init 118 = .ok (.iconst 2, 1) := by decide +kernel
theorem dX4_init_119 : decode cX4_init 119 = .ok (.bipush 99, 2) := by decide +kernel
theorem dX4_init_121 : decode cX4_init 121 = .ok (.iastore, 1) := by decide +kernel
theorem dX4_init_122 : decode cX4_init 122 = .ok (.dup, 1) := by decide +kernel
theorem dX4_init_123 : decode cX4_init 123 = .ok (.iconst 3, 1) := by decide +kernel
theorem dX4_init_124 : decode cX4_init 124 = .ok (.sipush 9999, 3) := by decide +kernel
theorem dX4_init_127 : decode cX4_init 127 = .ok (.iastore, 1) := by decide +kernel
theorem dX4_init_128 : decode cX4_init 128 = .ok (.dup, 1) := by decide +kernel
theorem dX4_init_129 : decode cX4_init 129 = .ok (.iconst 4, 1) := by decide +kernel
theorem dX4_init_130 : decode cX4_init 130 = .ok (.sipush 9999, 3) := by decide +kernel
theorem dX4_init_133 : decode cX4_init 133 = .ok (.iastore, 1) := by decide +kernel
theorem dX4_init_134 : decode cX4_init 134 = .ok (.dup, 1) := by decide +kernel
theorem dX4_init_135 : decode cX4_init 135 = .ok (.iconst 5, 1) := by decide +kernel
theorem dX4_init_136 : decode cX4_init 136 = .ok (.bipush 100, 2) := by decide +kernel
theorem dX4_init_138 : decode cX4_init 138 = .ok (.iastore, 1) := by decide +kernel
theorem dX4_init_139 : decode cX4_init 139 = .ok (.dup, 1) := by decide +kernel
theorem dX4_init_140 : decode cX4_init 140 = .ok (.bipush 6, 2) := by decide +kernel
theorem dX4_init_142 : decode cX4_init 142 = .ok (.bipush 100, 2) := by decide +kernel
theorem dX4_init_144 : decode cX4_init 144 = .ok (.iastore, 1) := by decide +kernel
theorem dX4_init_145 : decode cX4_init 145 = .ok (.dup, 1) := by decide +kernel
theorem dX4_init_146 : decode cX4_init 146 = .ok (.bipush 7, 2) := by decide +kernel
theorem dX4_init_148 : decode cX4_init 148 = .ok (.bipush 50, 2) := by decide +kernel
theorem dX4_init_150 : decode cX4_init 150 = .ok (.iastore, 1) := by decide +kernel
theorem dX4_init_151 : decode cX4_init 151 = .ok (.dup, 1) := by decide +kernel
theorem dX4_init_152 : decode cX4_init 152 = .ok (.bipush 8, 2) := by decide +kernel
theorem dX4_init_154 : decode cX4_init 154 = .ok (.bipush 15, 2) := by decide +kernel
theorem dX4_init_156 : decode cX4_init 156 = .ok (.iastore, 1) := by decide +kernel
theorem dX4_init_157 : decode cX4_init 157 = .ok (.putfield 46, 3) := by decide +kernel
theorem dX4_init_160 : decode cX4_init 160 = .ok (.aload_n 0, 1) := by decide +kernel
theorem dX4_init_161 : decode cX4_init 161 = .ok (.iconst (-1), 1) := by decide +kernel
theorem dX4_init_162 : decode cX4_init 162 = .ok (.putfield 49, 3) := by decide +kernel
theorem dX4_init_165 : decode cX4_init 165 = .ok (.aload_n 0, 1) := by decide +kernel
theorem dX4_init_166 : decode cX4_init 166 = .ok (.sipush 5400, 3) := by decide +kernel
theorem dX4_init_169 : decode cX4_init 169 = .ok (.newarray .int, 2) := by decide +kernel
theorem dX4_init_171 : decode cX4_init 171 = .ok (.putfield 53, 3) := by decide +kernel
theorem dX4_init_174 : decode cX4_init 174 = .ok (.aload_n 0, 1) := by decide +kernel
theorem dX4_init_175 : decode cX4_init 175 = .ok (.bipush 6, 2) := by decide +kernel
theorem dX4_init_177 : decode cX4_init 177 = .ok (.newarray .int, 2) := by decide +kernel
theorem dX4_init_179 : decode cX4_init 179 = .ok (.putfield 56, 3) := by decide +kernel
theorem dX4_init_182 : decode cX4_init 182 = .ok (.aload_n 0, 1) := by decide +kernel
theorem dX4_init_183 : decode cX4_init 183 = .ok (.bipush 6, 2) := by decide +kernel
theorem dX4_init_185 : decode cX4_init 185 = .ok (.newarray .int, 2) := by decide +kernel
theorem dX4_init_187 : decode cX4_init 187 = .ok (.putfield 59, 3) := by decide +kernel
theorem dX4_init_190 : decode cX4_init 190 = .ok (.aload_n 0, 1) := by decide +kernel
theorem dX4_init_191 : decode cX4_init 191 = .ok (.bipush 6, 2) := by decide +kernel
theorem dX4_init_193 : decode cX4_init 193 = .ok (.newarray .int, 2) := by decide +kernel
theorem dX4_init_195 : decode cX4_init 195 = .ok (.putfield 62, 3) := by decide +kernel
theorem dX4_init_198 : decode cX4_init 198 = .ok (.aload_n 0, 1) := by decide +kernel
theorem dX4_init_199 : decode cX4_init 199 = .ok (.bipush 6, 2) := by decide +kernel
theorem dX4_init_201 : decode cX4_init 201 = .ok (.newarray .int, 2) := by decide +kernel
theorem dX4_init_203 : decode cX4_init 203 = .ok (.putfield 65, 3) := by decide +kernel
theorem dX4_init_206 : decode cX4_init 206 = .ok (.aload_n 0, 1) := by decide +kernel
theorem dX4_init_207 : decode cX4_init 207 = .ok (.bipush 6, 2) := by decide +kernel
theorem dX4_init_209 : decode cX4_init 209 = .ok (.newarray .int, 2) := by decide +kernel
theorem dX4_init_211 : decode cX4_init 211 = .ok (.putfield 68, 3) := by decide +kernel
theorem dX4_init_214 : decode cX4_init 214 = .ok (.aload_n 0, 1) := by decide +kernel
theorem dX4_init_215 : decode cX4_init 215 = .ok (.bipush 6, 2) := by decide +kernel
theorem dX4_init_217 : decode cX4_init 217 = .ok (.newarray .int, 2) := by decide +kernel
theorem dX4_init_219 : decode cX4_init 219 = .ok (.putfield 71, 3) := by decide +kernel
theorem dX4_init_222 : decode cX4_init 222 = .ok (.aload_n 0, 1) := by decide +kernel
theorem dX4_init_223 : decode cX4_init 223 = .ok (.sipush 300, 3) := by decide +kernel
theorem dX4_init_226 : decode cX4_init 226 = .ok (.newarray .int, 2) := by decide +kernel
theorem dX4_init_228 : decode cX4_init 228 = .ok (.putfield 74, 3) := by decide +kernel
theorem dX4_init_231 : decode cX4_init 231 = .ok (.iconst 0, 1) := by decide +kernel
theorem dX4_init_232 : decode cX4_init 232 = .ok (.istore_n 1, 1) := by decide +kernel
theorem dX4_init_233 : decode cX4_init 233 = .ok (.iload_n 1, 1) := by decide +kernel
theorem dX4_init_234 : decode cX4_init 234 = .ok (.bipush 6, 2) := by decide +kernel
theorem dX4_init_236 : decode cX4_init 236 = .ok (.if_icmp .ge 77, 3) := by decide +kernel
theorem dX4_init_239 : decode cX4_init 239 = .ok (.aload_n 0, 1) := by decide +kernel
theorem dX4_init_240 : decode cX4_init 240 = .ok (.getfield 37, 3) := by decide +kernel
theorem dX4_init_243 : decode cX4_init 243 = .ok (.bipush 9, 2) := by decide +kernel
theorem dX4_init_245 : decode cX4_init 245 = .ok (.iload_n 1, 1) := by decide +kernel
theorem dX4_init_246 : decode cX4_init 246 = .ok (.imul, 1) := by decide +kernel
theorem dX4_init_247 : decode cX4_init 247 = .ok (.iconst 0, 1) := by decide +kernel
theorem dX4_init_248 : decode cX4_init 248 = .ok (.iadd, 1) := by decide +kernel
theorem dX4_init_249 : decode cX4_init 249 = .ok (.bipush 120, 2) := by decide +kernel
theorem dX4_init_251 : decode cX4_init 251 = .ok (.iastore, 1) := by decide +kernel
theorem dX4_init_252 : decode cX4_init 252 = .ok (.aload_n 0, 1) := by decide +kernel
theorem dX4_init_253 : decode cX4_init 253 = .ok (.getfield 37, 3) := by decide +kernel
theorem dX4_init_256 : decode cX4_init 256 = .ok (.bipush 9, 2) := by decide +kernel
theorem dX4_init_258 : decode cX4_init 258 = .ok (.iload_n 1, 1) := by decide +kernel
theorem dX4_init_259 : decode cX4_init 259 = .ok (.imul, 1) := by decide +kernel
theorem dX4_init_260 : decode cX4_init 260 = .ok (.iconst 1, 1) := by decide +kernel
theorem dX4_init_261 : decode cX4_init 261 = .ok (.iadd, 1) := by decide +kernel
theorem dX4_init_262 : decode cX4_init 262 = .ok (.sipush 780, 3) := by decide +kernel
theorem dX4_init_265 : decode cX4_init 265 = .ok (.iastore, 1) := by decide +kernel
theorem dX4_init_266 : decode cX4_init 266 = .ok (.aload_n 0, 1) := by decide +kernel
theorem dX4_init_267 : decode cX4_init 267 = .ok (.getfield 37, 3) := by decide +kernel
theorem dX4_init_270 : decode cX4_init 270 = .ok (.bipush 9, 2) := by decide +kernel
theorem dX4_init_272 : decode cX4_init 272 = .ok (.iload_n 1, 1) := by decide +kernel
theorem dX4_init_273 : decode cX4_init 273 = .ok (.imul, 1) := by decide +kernel
theorem dX4_init_274 : decode cX4_init 274 = .ok (.iconst 2, 1) := by decide +kernel
theorem dX4_init_275 : decode cX4_init 275 = .ok (.iadd, 1) := by decide +kernel
theorem dX4_init_276 : decode cX4_init 276 = .ok (.bipush 10, 2) := by decide +kernel
theorem dX4_init_278 : decode cX4_init 278 = .ok (.iastore, 1) := by decide +kernel
theorem dX4_init_279 : decode cX4_init 279 = .ok (.aload_n 0, 1) := by decide +kernel
theorem dX4_init_280 : decode cX4_init 280 = .ok (.getfield 37, 3) := by decide +kernel
theorem dX4_init_283 : decode cX4_init 283 = .ok (.bipush 9, 2) := by decide +kernel
theorem dX4_init_285 : decode cX4_init 285 = .ok (.iload_n 1, 1) := by decide +kernel
theorem dX4_init_286 : decode cX4_init 286 = .ok (.imul, 1) := by decide +kernel
theorem dX4_init_287 : decode cX4_init 287 = .ok (.iconst 4, 1) := by decide +kernel
theorem dX4_init_288 : decode cX4_init 288 = .ok (.iadd, 1) := by decide +kernel
theorem dX4_init_289 : decode cX4_init 289 = .ok (.sipush 9999, 3) := by decide +kernel
theorem dX4_init_292 : decode cX4_init 292 = .ok (.iastore, 1) := by decide +kernel
theorem dX4_init_293 : decode cX4_init 293 = .ok (.aload_n 0, 1) := by decide +kernel
theorem dX4_init_294 : decode cX4_init 294 = .ok (.getfield 37, 3) := by decide +kernel
theorem dX4_init_297 : decode cX4_init 297 = .ok (.bipush 9, 2) := by decide +kernel
theorem dX4_init_299 : decode cX4_init 299 = .ok (.iload_n 1, 1) := by decide +kernel
theorem dX4_init_300 : decode cX4_init 300 = .ok (.imul, 1) := by decide +kernel
theorem dX4_init_301 : decode cX4_init 301 = .ok (.bipush 8, 2) := by decide +kernel
theorem dX4_init_303 : decode cX4_init 303 = .ok (.iadd, 1) := by decide +kernel
theorem dX4_init_304 : decode cX4_init 304 = .ok (.bipush 15, 2) := by decide +kernel
theorem dX4_init_306 : decode cX4_init 306 = .ok (.iastore, 1) := by decide +kernel
theorem dX4_init_307 : decode cX4_init 307 = .ok (.iinc 1 1, 3) := by decide +kernel
theorem dX4_init_310 : decode cX4_init 310 = .ok (.goto (-77), 3) := by decide +kernel
theorem dX4_init_313 : decode cX4_init 313 = .ok (.return_, 1) := by decide +kernel
def csX4_init (cI cO : ClassId) (z : Nat) : List va_E := [.inr (4, [.ref (z + 1), .ref (z + 2), .ref (z + 3), .ref (z + 4), .ref (z + 5), .ref (z + 6), .ref (z + 7), .ref (z + 8), .ref (z + 9), .ref (z + 10), .ref (z + 11), .ref (z + 12), .ref (z + 13), .int 0, .int 0, .int 0, .int (-1), .ref (z + 14), .ref (z + 15), .ref (z + 16), .ref (z + 17), .ref (z + 18), .ref (z + 19), .int 0, .ref (z + 20), .int 0, .ref (z + 21), .int 0, .int 0, .int 0]), zA cI 7, zA cI 16, zA cI 21, zA cI 21, zA cI 21, zA cI 21, zA cI 21, zA cI 21, zA cI 21, .inl (cI, 54, .inl (lawIt 6 0 (fun _ => 0))), zA cI 6, zA cI 36, .inl (cI, 9, .inl (upd (upd (upd (upd (upd (upd (upd (upd (upd (fun _ => 0) 0 900) 1 900) 2 99) 3 9999) 4 9999) 5 100) 6 100) 7 50) 8 15)), zA cI 5400, zA cI 6, zA cI 6, zA cI 6, zA cI 6, zA cI 6, zA cI 6, zA cI 300]
set_option maxHeartbeats 8000000 in
set_option maxRecDepth 20000 in
theorem mX4_init (l : Launch) (D : va_G) (cI cO : ClassId) (ad : Nat → Nat) (z : Nat) : CN l yX4_init cX4_init 2 ({ frames := 1, cells := 21, slots := 6011, locals := 20 } : Room) D cI cO ad z (.inr (4, [.null, .null, .null, .null, .null, .null, .null, .null, .null, .null, .null, .null, .null, .int 0, .int 0, .int 0, .int 0, .null, .null, .null, .null, .null, .null, .int 0, .null, .int 0, .null, .int 0, .int 0, .int 0])) (csX4_init cI cO z) 21 6011 := by
  refine CN.of (by decide +kernel) rfl (Nat.le_of_ble_eq_true rfl) (fun p e s m args below meth c Q ls X hin hl hB hN hfin => ?_)
  have hl : lv_has ls 2 [(0, .ref z)] := hl
  have hx := X.1
  have hb := X.2.1
  have tw : ∀ {w : Cond}, w ∈ tW → w.before args s = true := fun h => X.2.2.2.2 _ (List.mem_cons_of_mem _ h)
  generalize hHe : s.heap = H at hB ⊢
  generalize ([] : List Loc) = locs at hB ⊢
  refine lv_aload_n hx hb dX4_init_0 rfl (lv_at hl 0 rfl) ?_
  refine W.objInit hx hb X.2.2.2.1 (tw u589) (tw u78) (tw u79) rfl (by rw [X.2.2.1]; exact hl.1) rfl dX4_init_1 (Nat.le_of_ble_eq_true rfl) (Nat.le_of_ble_eq_true rfl) ?_
  refine W.eq (g2 := F0 m 4 ls []) rfl ?_
  refine lv_aload_n hx hb dX4_init_4 rfl (lv_at hl 0 rfl) ?_
  refine lv_bipush (v := 7) hx hb dX4_init_5 (by decide +kernel) ?_
  refine b_newa X hB u99 (n := 7) (N := 7) (by decide) rfl (Nat.le_of_ble_eq_true rfl) (Nat.le_of_ble_eq_true rfl) (Nat.le_of_ble_eq_true rfl) dX4_init_7 (q := z + 1) rfl (fun H hB => ?_)
  have hB : BD D cI cO z [.inr (4, [.null, .null, .null, .null, .null, .null, .null, .null, .null, .null, .null, .null, .null, .int 0, .int 0, .int 0, .int 0, .null, .null, .null, .null, .null, .null, .int 0, .null, .int 0, .null, .int 0, .int 0, .int 0]), zA cI 7] s H locs := hB
  refine b_putF X hB 0 rfl rfl i_X4 tyX4_ok nmX4 0 (by decide) u590 ⟨rfl, rfl, rfl⟩ rfl hin rfl mf1 rfl rfl (Nat.le_of_ble_eq_true rfl) rfl dX4_init_9 (fun H locs hB => ?_)
  have hB : BD D cI cO z [.inr (4, [.ref (z + 1), .null, .null, .null, .null, .null, .null, .null, .null, .null, .null, .null, .null, .int 0, .int 0, .int 0, .int 0, .null, .null, .null, .null, .null, .null, .int 0, .null, .int 0, .null, .int 0, .int 0, .int 0]), zA cI 7] s H locs := hB
  refine lv_aload_n hx hb dX4_init_12 rfl (lv_at hl 0 rfl) ?_
  refine lv_bipush (v := 16) hx hb dX4_init_13 (by decide +kernel) ?_
  refine b_newa X hB u99 (n := 16) (N := 16) (by decide) rfl (Nat.le_of_ble_eq_true rfl) (Nat.le_of_ble_eq_true rfl) (Nat.le_of_ble_eq_true rfl) dX4_init_15 (q := z + 2) rfl (fun H hB => ?_)
  have hB : BD D cI cO z [.inr (4, [.ref (z + 1), .null, .null, .null, .null, .null, .null, .null, .null, .null, .null, .null, .null, .int 0, .int 0, .int 0, .int 0, .null, .null, .null, .null, .null, .null, .int 0, .null, .int 0, .null, .int 0, .int 0, .int 0]), zA cI 7, zA cI 16] s H locs := hB
  refine b_putF X hB 0 rfl rfl i_X4 tyX4_ok nmX4 1 (by decide) u591 ⟨rfl, rfl, rfl⟩ rfl hin rfl mf1 rfl rfl (Nat.le_of_ble_eq_true rfl) rfl dX4_init_17 (fun H locs hB => ?_)
  have hB : BD D cI cO z [.inr (4, [.ref (z + 1), .ref (z + 2), .null, .null, .null, .null, .null, .null, .null, .null, .null, .null, .null, .int 0, .int 0, .int 0, .int 0, .null, .null, .null, .null, .null, .null, .int 0, .null, .int 0, .null, .int 0, .int 0, .int 0]), zA cI 7, zA cI 16] s H locs := hB
  refine lv_aload_n hx hb dX4_init_20 rfl (lv_at hl 0 rfl) ?_
  refine lv_bipush (v := 21) hx hb dX4_init_21 (by decide +kernel) ?_
  refine b_newa X hB u99 (n := 21) (N := 21) (by decide) rfl (Nat.le_of_ble_eq_true rfl) (Nat.le_of_ble_eq_true rfl) (Nat.le_of_ble_eq_true rfl) dX4_init_23 (q := z + 3) rfl (fun H hB => ?_)
  have hB : BD D cI cO z [.inr (4, [.ref (z + 1), .ref (z + 2), .null, .null, .null, .null, .null, .null, .null, .null, .null, .null, .null, .int 0, .int 0, .int 0, .int 0, .null, .null, .null, .null, .null, .null, .int 0, .null, .int 0, .null, .int 0, .int 0, .int 0]), zA cI 7, zA cI 16, zA cI 21] s H locs := hB
  refine b_putF X hB 0 rfl rfl i_X4 tyX4_ok nmX4 2 (by decide) u592 ⟨rfl, rfl, rfl⟩ rfl hin rfl mf1 rfl rfl (Nat.le_of_ble_eq_true rfl) rfl dX4_init_25 (fun H locs hB => ?_)
  have hB : BD D cI cO z [.inr (4, [.ref (z + 1), .ref (z + 2), .ref (z + 3), .null, .null, .null, .null, .null, .null, .null, .null, .null, .null, .int 0, .int 0, .int 0, .int 0, .null, .null, .null, .null, .null, .null, .int 0, .null, .int 0, .null, .int 0, .int 0, .int 0]), zA cI 7, zA cI 16, zA cI 21] s H locs := hB
  refine lv_aload_n hx hb dX4_init_28 rfl (lv_at hl 0 rfl) ?_
  refine lv_bipush (v := 21) hx hb dX4_init_29 (by decide +kernel) ?_
  refine b_newa X hB u99 (n := 21) (N := 21) (by decide) rfl (Nat.le_of_ble_eq_true rfl) (Nat.le_of_ble_eq_true rfl) (Nat.le_of_ble_eq_true rfl) dX4_init_31 (q := z + 4) rfl (fun H hB => ?_)
  have hB : BD D cI cO z [.inr (4, [.ref (z + 1), .ref (z + 2), .ref (z + 3), .null, .null, .null, .null, .null, .null, .null, .null, .null, .null, .int 0, .int 0, .int 0, .int 0, .null, .null, .null, .null, .null, .null, .int 0, .null, .int 0, .null, .int 0, .int 0, .int 0]), zA cI 7, zA cI 16, zA cI 21, zA cI 21] s H locs := hB
  refine b_putF X hB 0 rfl rfl i_X4 tyX4_ok nmX4 3 (by decide) u593 ⟨rfl, rfl, rfl⟩ rfl hin rfl mf1 rfl rfl (Nat.le_of_ble_eq_true rfl) rfl dX4_init_33 (fun H locs hB => ?_)
  have hB : BD D cI cO z [.inr (4, [.ref (z + 1), .ref (z + 2), .ref (z + 3), .ref (z + 4), .null, .null, .null, .null, .null, .null, .null, .null, .null, .int 0, .int 0, .int 0, .int 0, .null, .null, .null, .null, .null, .null, .int 0, .null, .int 0, .null, .int 0, .int 0, .int 0]), zA cI 7, zA cI 16, zA cI 21, zA cI 21] s H locs := hB
  refine lv_aload_n hx hb dX4_init_36 rfl (lv_at hl 0 rfl) ?_
  refine lv_bipush (v := 21) hx hb dX4_init_37 (by decide +kernel) ?_
  refine b_newa X hB u99 (n := 21) (N := 21) (by decide) rfl (Nat.le_of_ble_eq_true rfl) (Nat.le_of_ble_eq_true rfl) (Nat.le_of_ble_eq_true rfl) dX4_init_39 (q := z + 5) rfl (fun H hB => ?_)
  have hB : BD D cI cO z [.inr (4, [.ref (z + 1), .ref (z + 2), .ref (z + 3), .ref (z + 4), .null, .null, .null, .null, .null, .null, .null, .null, .null, .int 0, .int 0, .int 0, .int 0, .null, .null, .null, .null, .null, .null, .int 0, .null, .int 0, .null, .int 0, .int 0, .int 0]), zA cI 7, zA cI 16, zA cI 21, zA cI 21, zA cI 21] s H locs := hB
  refine b_putF X hB 0 rfl rfl i_X4 tyX4_ok nmX4 4 (by decide) u594 ⟨rfl, rfl, rfl⟩ rfl hin rfl mf1 rfl rfl (Nat.le_of_ble_eq_true rfl) rfl dX4_init_41 (fun H locs hB => ?_)
  have hB : BD D cI cO z [.inr (4, [.ref (z + 1), .ref (z + 2), .ref (z + 3), .ref (z + 4), .ref (z + 5), .null, .null, .null, .null, .null, .null, .null, .null, .int 0, .int 0, .int 0, .int 0, .null, .null, .null, .null, .null, .null, .int 0, .null, .int 0, .null, .int 0, .int 0, .int 0]), zA cI 7, zA cI 16, zA cI 21, zA cI 21, zA cI 21] s H locs := hB
  refine lv_aload_n hx hb dX4_init_44 rfl (lv_at hl 0 rfl) ?_
  refine lv_bipush (v := 21) hx hb dX4_init_45 (by decide +kernel) ?_
  refine b_newa X hB u99 (n := 21) (N := 21) (by decide) rfl (Nat.le_of_ble_eq_true rfl) (Nat.le_of_ble_eq_true rfl) (Nat.le_of_ble_eq_true rfl) dX4_init_47 (q := z + 6) rfl (fun H hB => ?_)
  have hB : BD D cI cO z [.inr (4, [.ref (z + 1), .ref (z + 2), .ref (z + 3), .ref (z + 4), .ref (z + 5), .null, .null, .null, .null, .null, .null, .null, .null, .int 0, .int 0, .int 0, .int 0, .null, .null, .null, .null, .null, .null, .int 0, .null, .int 0, .null, .int 0, .int 0, .int 0]), zA cI 7, zA cI 16, zA cI 21, zA cI 21, zA cI 21, zA cI 21] s H locs := hB
  refine b_putF X hB 0 rfl rfl i_X4 tyX4_ok nmX4 5 (by decide) u595 ⟨rfl, rfl, rfl⟩ rfl hin rfl mf1 rfl rfl (Nat.le_of_ble_eq_true rfl) rfl dX4_init_49 (fun H locs hB => ?_)
  have hB : BD D cI cO z [.inr (4, [.ref (z + 1), .ref (z + 2), .ref (z + 3), .ref (z + 4), .ref (z + 5), .ref (z + 6), .null, .null, .null, .null, .null, .null, .null, .int 0, .int 0, .int 0, .int 0, .null, .null, .null, .null, .null, .null, .int 0, .null, .int 0, .null, .int 0, .int 0, .int 0]), zA cI 7, zA cI 16, zA cI 21, zA cI 21, zA cI 21, zA cI 21] s H locs := hB
  refine lv_aload_n hx hb dX4_init_52 rfl (lv_at hl 0 rfl) ?_
  refine lv_bipush (v := 21) hx hb dX4_init_53 (by decide +kernel) ?_
  refine b_newa X hB u99 (n := 21) (N := 21) (by decide) rfl (Nat.le_of_ble_eq_true rfl) (Nat.le_of_ble_eq_true rfl) (Nat.le_of_ble_eq_true rfl) dX4_init_55 (q := z + 7) rfl (fun H hB => ?_)
  have hB : BD D cI cO z [.inr (4, [.ref (z + 1), .ref (z + 2), .ref (z + 3), .ref (z + 4), .ref (z + 5), .ref (z + 6), .null, .null, .null, .null, .null, .null, .null, .int 0, .int 0, .int 0, .int 0, .null, .null, .null, .null, .null, .null, .int 0, .null, .int 0, .null, .int 0, .int 0, .int 0]), zA cI 7, zA cI 16, zA cI 21, zA cI 21, zA cI 21, zA cI 21, zA cI 21] s H locs := hB
  refine b_putF X hB 0 rfl rfl i_X4 tyX4_ok nmX4 6 (by decide) u596 ⟨rfl, rfl, rfl⟩ rfl hin rfl mf1 rfl rfl (Nat.le_of_ble_eq_true rfl) rfl dX4_init_57 (fun H locs hB => ?_)
  have hB : BD D cI cO z [.inr (4, [.ref (z + 1), .ref (z + 2), .ref (z + 3), .ref (z + 4), .ref (z + 5), .ref (z + 6), .ref (z + 7), .null, .null, .null, .null, .null, .null, .int 0, .int 0, .int 0, .int 0, .null, .null, .null, .null, .null, .null, .int 0, .null, .int 0, .null, .int 0, .int 0, .int 0]), zA cI 7, zA cI 16, zA cI 21, zA cI 21, zA cI 21, zA cI 21, zA cI 21] s H locs := hB
  refine lv_aload_n hx hb dX4_init_60 rfl (lv_at hl 0 rfl) ?_
  refine lv_bipush (v := 21) hx hb dX4_init_61 (by decide +kernel) ?_
  refine b_newa X hB u99 (n := 21) (N := 21) (by decide) rfl (Nat.le_of_ble_eq_true rfl) (Nat.le_of_ble_eq_true rfl) (Nat.le_of_ble_eq_true rfl) dX4_init_63 (q := z + 8) rfl (fun H hB => ?_)
  have hB : BD D cI cO z [.inr (4, [.ref (z + 1), .ref (z + 2), .ref (z + 3), .ref (z + 4), .ref (z + 5), .ref (z + 6), .ref (z + 7), .null, .null, .null, .null, .null, .null, .int 0, .int 0, .int 0, .int 0, .null, .null, .null, .null, .null, .null, .int 0, .null, .int 0, .null, .int 0, .int 0, .int 0]), zA cI 7, zA cI 16, zA cI 21, zA cI 21, zA cI 21, zA cI 21, zA cI 21, zA cI 21] s H locs := hB
  refine b_putF X hB 0 rfl rfl i_X4 tyX4_ok nmX4 7 (by decide) u597 ⟨rfl, rfl, rfl⟩ rfl hin rfl mf1 rfl rfl (Nat.le_of_ble_eq_true rfl) rfl dX4_init_65 (fun H locs hB => ?_)
  have hB : BD D cI cO z [.inr (4, [.ref (z + 1), .ref (z + 2), .ref (z + 3), .ref (z + 4), .ref (z + 5), .ref (z + 6), .ref (z + 7), .ref (z + 8), .null, .null, .null, .null, .null, .int 0, .int 0, .int 0, .int 0, .null, .null, .null, .null, .null, .null, .int 0, .null, .int 0, .null, .int 0, .int 0, .int 0]), zA cI 7, zA cI 16, zA cI 21, zA cI 21, zA cI 21, zA cI 21, zA cI 21, zA cI 21] s H locs := hB
  refine lv_aload_n hx hb dX4_init_68 rfl (lv_at hl 0 rfl) ?_
  refine lv_bipush (v := 21) hx hb dX4_init_69 (by decide +kernel) ?_
  refine b_newa X hB u99 (n := 21) (N := 21) (by decide) rfl (Nat.le_of_ble_eq_true rfl) (Nat.le_of_ble_eq_true rfl) (Nat.le_of_ble_eq_true rfl) dX4_init_71 (q := z + 9) rfl (fun H hB => ?_)
  have hB : BD D cI cO z [.inr (4, [.ref (z + 1), .ref (z + 2), .ref (z + 3), .ref (z + 4), .ref (z + 5), .ref (z + 6), .ref (z + 7), .ref (z + 8), .null, .null, .null, .null, .null, .int 0, .int 0, .int 0, .int 0, .null, .null, .null, .null, .null, .null, .int 0, .null, .int 0, .null, .int 0, .int 0, .int 0]), zA cI 7, zA cI 16, zA cI 21, zA cI 21, zA cI 21, zA cI 21, zA cI 21, zA cI 21, zA cI 21] s H locs := hB
  refine b_putF X hB 0 rfl rfl i_X4 tyX4_ok nmX4 8 (by decide) u598 ⟨rfl, rfl, rfl⟩ rfl hin rfl mf1 rfl rfl (Nat.le_of_ble_eq_true rfl) rfl dX4_init_73 (fun H locs hB => ?_)
  have hB : BD D cI cO z [.inr (4, [.ref (z + 1), .ref (z + 2), .ref (z + 3), .ref (z + 4), .ref (z + 5), .ref (z + 6), .ref (z + 7), .ref (z + 8), .ref (z + 9), .null, .null, .null, .null, .int 0, .int 0, .int 0, .int 0, .null, .null, .null, .null, .null, .null, .int 0, .null, .int 0, .null, .int 0, .int 0, .int 0]), zA cI 7, zA cI 16, zA cI 21, zA cI 21, zA cI 21, zA cI 21, zA cI 21, zA cI 21, zA cI 21] s H locs := hB
  refine lv_aload_n hx hb dX4_init_76 rfl (lv_at hl 0 rfl) ?_
  refine lv_bipush (v := 54) hx hb dX4_init_77 (by decide +kernel) ?_
  refine b_newa X hB u99 (n := 54) (N := 54) (by decide) rfl (Nat.le_of_ble_eq_true rfl) (Nat.le_of_ble_eq_true rfl) (Nat.le_of_ble_eq_true rfl) dX4_init_79 (q := z + 10) rfl (fun H hB => ?_)
  have hB : BD D cI cO z [.inr (4, [.ref (z + 1), .ref (z + 2), .ref (z + 3), .ref (z + 4), .ref (z + 5), .ref (z + 6), .ref (z + 7), .ref (z + 8), .ref (z + 9), .null, .null, .null, .null, .int 0, .int 0, .int 0, .int 0, .null, .null, .null, .null, .null, .null, .int 0, .null, .int 0, .null, .int 0, .int 0, .int 0]), zA cI 7, zA cI 16, zA cI 21, zA cI 21, zA cI 21, zA cI 21, zA cI 21, zA cI 21, zA cI 21, zA cI 54] s H locs := hB
  refine b_putF X hB 0 rfl rfl i_X4 tyX4_ok nmX4 9 (by decide) u599 ⟨rfl, rfl, rfl⟩ rfl hin rfl mf1 rfl rfl (Nat.le_of_ble_eq_true rfl) rfl dX4_init_81 (fun H locs hB => ?_)
  have hB : BD D cI cO z [.inr (4, [.ref (z + 1), .ref (z + 2), .ref (z + 3), .ref (z + 4), .ref (z + 5), .ref (z + 6), .ref (z + 7), .ref (z + 8), .ref (z + 9), .ref (z + 10), .null, .null, .null, .int 0, .int 0, .int 0, .int 0, .null, .null, .null, .null, .null, .null, .int 0, .null, .int 0, .null, .int 0, .int 0, .int 0]), zA cI 7, zA cI 16, zA cI 21, zA cI 21, zA cI 21, zA cI 21, zA cI 21, zA cI 21, zA cI 21, zA cI 54] s H locs := hB
  refine lv_aload_n hx hb dX4_init_84 rfl (lv_at hl 0 rfl) ?_
  refine lv_bipush (v := 6) hx hb dX4_init_85 (by decide +kernel) ?_
  refine b_newa X hB u99 (n := 6) (N := 6) (by decide) rfl (Nat.le_of_ble_eq_true rfl) (Nat.le_of_ble_eq_true rfl) (Nat.le_of_ble_eq_true rfl) dX4_init_87 (q := z + 11) rfl (fun H hB => ?_)
  have hB : BD D cI cO z [.inr (4, [.ref (z + 1), .ref (z + 2), .ref (z + 3), .ref (z + 4), .ref (z + 5), .ref (z + 6), .ref (z + 7), .ref (z + 8), .ref (z + 9), .ref (z + 10), .null, .null, .null, .int 0, .int 0, .int 0, .int 0, .null, .null, .null, .null, .null, .null, .int 0, .null, .int 0, .null, .int 0, .int 0, .int 0]), zA cI 7, zA cI 16, zA cI 21, zA cI 21, zA cI 21, zA cI 21, zA cI 21, zA cI 21, zA cI 21, zA cI 54, zA cI 6] s H locs := hB
  refine b_putF X hB 0 rfl rfl i_X4 tyX4_ok nmX4 10 (by decide) u600 ⟨rfl, rfl, rfl⟩ rfl hin rfl mf1 rfl rfl (Nat.le_of_ble_eq_true rfl) rfl dX4_init_89 (fun H locs hB => ?_)
  have hB : BD D cI cO z [.inr (4, [.ref (z + 1), .ref (z + 2), .ref (z + 3), .ref (z + 4), .ref (z + 5), .ref (z + 6), .ref (z + 7), .ref (z + 8), .ref (z + 9), .ref (z + 10), .ref (z + 11), .null, .null, .int 0, .int 0, .int 0, .int 0, .null, .null, .null, .null, .null, .null, .int 0, .null, .int 0, .null, .int 0, .int 0, .int 0]), zA cI 7, zA cI 16, zA cI 21, zA cI 21, zA cI 21, zA cI 21, zA cI 21, zA cI 21, zA cI 21, zA cI 54, zA cI 6] s H locs := hB
  refine lv_aload_n hx hb dX4_init_92 rfl (lv_at hl 0 rfl) ?_
  refine lv_bipush (v := 36) hx hb dX4_init_93 (by decide +kernel) ?_
  refine b_newa X hB u99 (n := 36) (N := 36) (by decide) rfl (Nat.le_of_ble_eq_true rfl) (Nat.le_of_ble_eq_true rfl) (Nat.le_of_ble_eq_true rfl) dX4_init_95 (q := z + 12) rfl (fun H hB => ?_)
  have hB : BD D cI cO z [.inr (4, [.ref (z + 1), .ref (z + 2), .ref (z + 3), .ref (z + 4), .ref (z + 5), .ref (z + 6), .ref (z + 7), .ref (z + 8), .ref (z + 9), .ref (z + 10), .ref (z + 11), .null, .null, .int 0, .int 0, .int 0, .int 0, .null, .null, .null, .null, .null, .null, .int 0, .null, .int 0, .null, .int 0, .int 0, .int 0]), zA cI 7, zA cI 16, zA cI 21, zA cI 21, zA cI 21, zA cI 21, zA cI 21, zA cI 21, zA cI 21, zA cI 54, zA cI 6, zA cI 36] s H locs := hB
  refine b_putF X hB 0 rfl rfl i_X4 tyX4_ok nmX4 11 (by decide) u601 ⟨rfl, rfl, rfl⟩ rfl hin rfl mf1 rfl rfl (Nat.le_of_ble_eq_true rfl) rfl dX4_init_97 (fun H locs hB => ?_)
  have hB : BD D cI cO z [.inr (4, [.ref (z + 1), .ref (z + 2), .ref (z + 3), .ref (z + 4), .ref (z + 5), .ref (z + 6), .ref (z + 7), .ref (z + 8), .ref (z + 9), .ref (z + 10), .ref (z + 11), .ref (z + 12), .null, .int 0, .int 0, .int 0, .int 0, .null, .null, .null, .null, .null, .null, .int 0, .null, .int 0, .null, .int 0, .int 0, .int 0]), zA cI 7, zA cI 16, zA cI 21, zA cI 21, zA cI 21, zA cI 21, zA cI 21, zA cI 21, zA cI 21, zA cI 54, zA cI 6, zA cI 36] s H locs := hB
  refine lv_aload_n hx hb dX4_init_100 rfl (lv_at hl 0 rfl) ?_
  refine lv_bipush (v := 9) hx hb dX4_init_101 (by decide +kernel) ?_
  refine b_newa X hB u99 (n := 9) (N := 9) (by decide) rfl (Nat.le_of_ble_eq_true rfl) (Nat.le_of_ble_eq_true rfl) (Nat.le_of_ble_eq_true rfl) dX4_init_103 (q := z + 13) rfl (fun H hB => ?_)
  have hB : BD D cI cO z [.inr (4, [.ref (z + 1), .ref (z + 2), .ref (z + 3), .ref (z + 4), .ref (z + 5), .ref (z + 6), .ref (z + 7), .ref (z + 8), .ref (z + 9), .ref (z + 10), .ref (z + 11), .ref (z + 12), .null, .int 0, .int 0, .int 0, .int 0, .null, .null, .null, .null, .null, .null, .int 0, .null, .int 0, .null, .int 0, .int 0, .int 0]), zA cI 7, zA cI 16, zA cI 21, zA cI 21, zA cI 21, zA cI 21, zA cI 21, zA cI 21, zA cI 21, zA cI 54, zA cI 6, zA cI 36, zA cI 9] s H locs := hB
  refine lv_dup hx hb dX4_init_105 rfl ?_
  refine lv_iconst (v := 0) hx hb dX4_init_106 (by decide) ?_
  refine lv_sipush (v := 900) hx hb dX4_init_107 (by decide +kernel) ?_
  refine b_iast X hB 13 (n := 9) (f := (fun _ => 0)) rfl (i := 0) (x := 900) (by decide) 0 rfl rfl dX4_init_110 (fun H locs hB => ?_)
  have hB : BD D cI cO z [.inr (4, [.ref (z + 1), .ref (z + 2), .ref (z + 3), .ref (z + 4), .ref (z + 5), .ref (z + 6), .ref (z + 7), .ref (z + 8), .ref (z + 9), .ref (z + 10), .ref (z + 11), .ref (z + 12), .null, .int 0, .int 0, .int 0, .int 0, .null, .null, .null, .null, .null, .null, .int 0, .null, .int 0, .null, .int 0, .int 0, .int 0]), zA cI 7, zA cI 16, zA cI 21, zA cI 21, zA cI 21, zA cI 21, zA cI 21, zA cI 21, zA cI 21, zA cI 54, zA cI 6, zA cI 36, .inl (cI, 9, .inl (upd (fun _ => 0) 0 900))] s H locs := hB
  refine lv_dup hx hb dX4_init_111 rfl ?_
  refine lv_iconst (v := 1) hx hb dX4_init_112 (by decide) ?_
  refine lv_sipush (v := 900) hx hb dX4_init_113 (by decide +kernel) ?_
  refine b_iast X hB 13 (n := 9) (f := (upd (fun _ => 0) 0 900)) rfl (i := 1) (x := 900) (by decide) 1 rfl rfl dX4_init_116 (fun H locs hB => ?_)
  have hB : BD D cI cO z [.inr (4, [.ref (z + 1), .ref (z + 2), .ref (z + 3), .ref (z + 4), .ref (z + 5), .ref (z + 6), .ref (z + 7), .ref (z + 8), .ref (z + 9), .ref (z + 10), .ref (z + 11), .ref (z + 12), .null, .int 0, .int 0, .int 0, .int 0, .null, .null, .null, .null, .null, .null, .int 0, .null, .int 0, .null, .int 0, .int 0, .int 0]), zA cI 7, zA cI 16, zA cI 21, zA cI 21, zA cI 21, zA cI 21, zA cI 21, zA cI 21, zA cI 21, zA cI 54, zA cI 6, zA cI 36, .inl (cI, 9, .inl (upd (upd (fun _ => 0) 0 900) 1 900))] s H locs := hB
  refine lv_dup hx hb dX4_init_117 rfl ?_
  refine lv_iconst (v := 2) hx hb dX4_init_118 (by decide) ?_
  refine lv_bipush (v := 99) hx hb dX4_init_119 (by decide +kernel) ?_
  refine b_iast X hB 13 (n := 9) (f := (upd (upd (fun _ => 0) 0 900) 1 900)) rfl (i := 2) (x := 99) (by decide) 2 rfl rfl dX4_init_121 (fun H locs hB => ?_)
  have hB : BD D cI cO z [.inr (4, [.ref (z + 1), .ref (z + 2), .ref (z + 3), .ref (z + 4), .ref (z + 5), .ref (z + 6), .ref (z + 7), .ref (z + 8), .ref (z + 9), .ref (z + 10), .ref (z + 11), .ref (z + 12), .null, .int 0, .int 0, .int 0, .int 0, .null, .null, .null, .null, .null, .null, .int 0, .null, .int 0, .null, .int 0, .int 0, .int 0]), zA cI 7, zA cI 16, zA cI 21, zA cI 21, zA cI 21, zA cI 21, zA cI 21, zA cI 21, zA cI 21, zA cI 54, zA cI 6, zA cI 36, .inl (cI, 9, .inl (upd (upd (upd (fun _ => 0) 0 900) 1 900) 2 99))] s H locs := hB
  refine lv_dup hx hb dX4_init_122 rfl ?_
  refine lv_iconst (v := 3) hx hb dX4_init_123 (by decide) ?_
  refine lv_sipush (v := 9999) hx hb dX4_init_124 (by decide +kernel) ?_
  refine b_iast X hB 13 (n := 9) (f := (upd (upd (upd (fun _ => 0) 0 900) 1 900) 2 99)) rfl (i := 3) (x := 9999) (by decide) 3 rfl rfl dX4_init_127 (fun H locs hB => ?_)
  have hB : BD D cI cO z [.inr (4, [.ref (z + 1), .ref (z + 2), .ref (z + 3), .ref (z + 4), .ref (z + 5), .ref (z + 6), .ref (z + 7), .ref (z + 8), .ref (z + 9), .ref (z + 10), .ref (z + 11), .ref (z + 12), .null, .int 0, .int 0, .int 0, .int 0, .null, .null, .null, .null, .null, .null, .int 0, .null, .int 0, .null, .int 0, .int 0, .int 0]), zA cI 7, zA cI 16, zA cI 21, zA cI 21, zA cI 21, zA cI 21, zA cI 21, zA cI 21, zA cI 21, zA cI 54, zA cI 6, zA cI 36, .inl (cI, 9, .inl (upd (upd (upd (upd (fun _ => 0) 0 900) 1 900) 2 99) 3 9999))] s H locs := hB
  refine lv_dup hx hb dX4_init_128 rfl ?_
  refine lv_iconst (v := 4) hx hb dX4_init_129 (by decide) ?_
  refine lv_sipush (v := 9999) hx hb dX4_init_130 (by decide +kernel) ?_
  refine b_iast X hB 13 (n := 9) (f := (upd (upd (upd (upd (fun _ => 0) 0 900) 1 900) 2 99) 3 9999)) rfl (i := 4) (x := 9999) (by decide) 4 rfl rfl dX4_init_133 (fun H locs hB => ?_)
  have hB : BD D cI cO z [.inr (4, [.ref (z + 1), .ref (z + 2), .ref (z + 3), .ref (z + 4), .ref (z + 5), .ref (z + 6), .ref (z + 7), .ref (z + 8), .ref (z + 9), .ref (z + 10), .ref (z + 11), .ref (z + 12), .null, .int 0, .int 0, .int 0, .int 0, .null, .null, .null, .null, .null, .null, .int 0, .null, .int 0, .null, .int 0, .int 0, .int 0]), zA cI 7, zA cI 16, zA cI 21, zA cI 21, zA cI 21, zA cI 21, zA cI 21, zA cI 21, zA cI 21, zA cI 54, zA cI 6, zA cI 36, .inl (cI, 9, .inl (upd (upd (upd (upd (upd (fun _ => 0) 0 900) 1 900) 2 99) 3 9999) 4 9999))] s H locs := hB
  refine lv_dup hx hb dX4_init_134 rfl ?_
  refine lv_iconst (v := 5) hx hb dX4_init_135 (by decide) ?_
  refine lv_bipush (v := 100) hx hb dX4_init_136 (by decide +kernel) ?_
  refine b_iast X hB 13 (n := 9) (f := (upd (upd (upd (upd (upd (fun _ => 0) 0 900) 1 900) 2 99) 3 9999) 4 9999)) rfl (i := 5) (x := 100) (by decide) 5 rfl rfl dX4_init_138 (fun H locs hB => ?_)
  have hB : BD D cI cO z [.inr (4, [.ref (z + 1), .ref (z + 2), .ref (z + 3), .ref (z + 4), .ref (z + 5), .ref (z + 6), .ref (z + 7), .ref (z + 8), .ref (z + 9), .ref (z + 10), .ref (z + 11), .ref (z + 12), .null, .int 0, .int 0, .int 0, .int 0, .null, .null, .null, .null, .null, .null, .int 0, .null, .int 0, .null, .int 0, .int 0, .int 0]), zA cI 7, zA cI 16, zA cI 21, zA cI 21, zA cI 21, zA cI 21, zA cI 21, zA cI 21, zA cI 21, zA cI 54, zA cI 6, zA cI 36, .inl (cI, 9, .inl (upd (upd (upd (upd (upd (upd (fun _ => 0) 0 900) 1 900) 2 99) 3 9999) 4 9999) 5 100))] s H locs := hB
  refine lv_dup hx hb dX4_init_139 rfl ?_
  refine lv_bipush (v := 6) hx hb dX4_init_140 (by decide +kernel) ?_
  refine lv_bipush (v := 100) hx hb dX4_init_142 (by decide +kernel) ?_
  refine b_iast X hB 13 (n := 9) (f := (upd (upd (upd (upd (upd (upd (fun _ => 0) 0 900) 1 900) 2 99) 3 9999) 4 9999) 5 100)) rfl (i := 6) (x := 100) (by decide) 6 rfl rfl dX4_init_144 (fun H locs hB => ?_)
  have hB : BD D cI cO z [.inr (4, [.ref (z + 1), .ref (z + 2), .ref (z + 3), .ref (z + 4), .ref (z + 5), .ref (z + 6), .ref (z + 7), .ref (z + 8), .ref (z + 9), .ref (z + 10), .ref (z + 11), .ref (z + 12), .null, .int 0, .int 0, .int 0, .int 0, .null, .null, .null, .null, .null, .null, .int 0, .null, .int 0, .null, .int 0, .int 0, .int 0]), zA cI 7, zA cI 16, zA cI 21, zA cI 21, zA cI 21, zA cI 21, zA cI 21, zA cI 21, zA cI 21, zA cI 54, zA cI 6, zA cI 36, .inl (cI, 9, .inl (upd (upd (upd (upd (upd (upd (upd (fun _ => 0) 0 900) 1 900) 2 99) 3 9999) 4 9999) 5 100) 6 100))] s H locs := hB
  refine lv_dup hx hb dX4_init_145 rfl ?_
  refine lv_bipush (v := 7) hx hb dX4_init_146 (by decide +kernel) ?_
  refine lv_bipush (v := 50) hx hb dX4_init_148 (by decide +kernel) ?_
  refine b_iast X hB 13 (n := 9) (f := (upd (upd (upd (upd (upd (upd (upd (fun _ => 0) 0 900) 1 900) 2 99) 3 9999) 4 9999) 5 100) 6 100)) rfl (i := 7) (x := 50) (by decide) 7 rfl rfl dX4_init_150 (fun H locs hB => ?_)
  have hB : BD D cI cO z [.inr (4, [.ref (z + 1), .ref (z + 2), .ref (z + 3), .ref (z + 4), .ref (z + 5), .ref (z + 6), .ref (z + 7), .ref (z + 8), .ref (z + 9), .ref (z + 10), .ref (z + 11), .ref (z + 12), .null, .int 0, .int 0, .int 0, .int 0, .null, .null, .null, .null, .null, .null, .int 0, .null, .int 0, .null, .int 0, .int 0, .int 0]), zA cI 7, zA cI 16, zA cI 21, zA cI 21, zA cI 21, zA cI 21, zA cI 21, zA cI 21, zA cI 21, zA cI 54, zA cI 6, zA cI 36, .inl (cI, 9, .inl (upd (upd (upd (upd (upd (upd (upd (upd (fun _ => 0) 0 900) 1 900) 2 99) 3 9999) 4 9999) 5 100) 6 100) 7 50))] s H locs := hB
  refine lv_dup hx hb dX4_init_151 rfl ?_
  refine lv_bipush (v := 8) hx hb dX4_init_152 (by decide +kernel) ?_
  refine lv_bipush (v := 15) hx hb dX4_init_154 (by decide +kernel) ?_
  refine b_iast X hB 13 (n := 9) (f := (upd (upd (upd (upd (upd (upd (upd (upd (fun _ => 0) 0 900) 1 900) 2 99) 3 9999) 4 9999) 5 100) 6 100) 7 50)) rfl (i := 8) (x := 15) (by decide) 8 rfl rfl dX4_init_156 (fun H locs hB => ?_)
  have hB : BD D cI cO z [.inr (4, [.ref (z + 1), .ref (z + 2), .ref (z + 3), .ref (z + 4), .ref (z + 5), .ref (z + 6), .ref (z + 7), .ref (z + 8), .ref (z + 9), .ref (z + 10), .ref (z + 11), .ref (z + 12), .null, .int 0, .int 0, .int 0, .int 0, .null, .null, .null, .null, .null, .null, .int 0, .null, .int 0, .null, .int 0, .int 0, .int 0]), zA cI 7, zA cI 16, zA cI 21, zA cI 21, zA cI 21, zA cI 21, zA cI 21, zA cI 21, zA cI 21, zA cI 54, zA cI 6, zA cI 36, .inl (cI, 9, .inl (upd (upd (upd (upd (upd (upd (upd (upd (upd (fun _ => 0) 0 900) 1 900) 2 99) 3 9999) 4 9999) 5 100) 6 100) 7 50) 8 15))] s H locs := hB
  refine b_putF X hB 0 rfl rfl i_X4 tyX4_ok nmX4 12 (by decide) u602 ⟨rfl, rfl, rfl⟩ rfl hin rfl mf1 rfl rfl (Nat.le_of_ble_eq_true rfl) rfl dX4_init_157 (fun H locs hB => ?_)
  have hB : BD D cI cO z [.inr (4, [.ref (z + 1), .ref (z + 2), .ref (z + 3), .ref (z + 4), .ref (z + 5), .ref (z + 6), .ref (z + 7), .ref (z + 8), .ref (z + 9), .ref (z + 10), .ref (z + 11), .ref (z + 12), .ref (z + 13), .int 0, .int 0, .int 0, .int 0, .null, .null, .null, .null, .null, .null, .int 0, .null, .int 0, .null, .int 0, .int 0, .int 0]), zA cI 7, zA cI 16, zA cI 21, zA cI 21, zA cI 21, zA cI 21, zA cI 21, zA cI 21, zA cI 21, zA cI 54, zA cI 6, zA cI 36, .inl (cI, 9, .inl (upd (upd (upd (upd (upd (upd (upd (upd (upd (fun _ => 0) 0 900) 1 900) 2 99) 3 9999) 4 9999) 5 100) 6 100) 7 50) 8 15))] s H locs := hB
  refine lv_aload_n hx hb dX4_init_160 rfl (lv_at hl 0 rfl) ?_
  refine lv_iconst (v := -1) hx hb dX4_init_161 (by decide) ?_
  refine b_put X hB 0 rfl rfl i_X4 tyX4_ok nmX4 16 (by decide) u606 ⟨rfl, rfl, rfl⟩ rfl pfI rfl rfl (Nat.le_of_ble_eq_true rfl) rfl dX4_init_162 (fun H locs hB => ?_)
  have hB : BD D cI cO z [.inr (4, [.ref (z + 1), .ref (z + 2), .ref (z + 3), .ref (z + 4), .ref (z + 5), .ref (z + 6), .ref (z + 7), .ref (z + 8), .ref (z + 9), .ref (z + 10), .ref (z + 11), .ref (z + 12), .ref (z + 13), .int 0, .int 0, .int 0, .int (-1), .null, .null, .null, .null, .null, .null, .int 0, .null, .int 0, .null, .int 0, .int 0, .int 0]), zA cI 7, zA cI 16, zA cI 21, zA cI 21, zA cI 21, zA cI 21, zA cI 21, zA cI 21, zA cI 21, zA cI 54, zA cI 6, zA cI 36, .inl (cI, 9, .inl (upd (upd (upd (upd (upd (upd (upd (upd (upd (fun _ => 0) 0 900) 1 900) 2 99) 3 9999) 4 9999) 5 100) 6 100) 7 50) 8 15))] s H locs := hB
  refine lv_aload_n hx hb dX4_init_165 rfl (lv_at hl 0 rfl) ?_
  refine lv_sipush (v := 5400) hx hb dX4_init_166 (by decide +kernel) ?_
  refine b_newa X hB u99 (n := 5400) (N := 5400) (by decide) rfl (Nat.le_of_ble_eq_true rfl) (Nat.le_of_ble_eq_true rfl) (Nat.le_of_ble_eq_true rfl) dX4_init_169 (q := z + 14) rfl (fun H hB => ?_)
  have hB : BD D cI cO z [.inr (4, [.ref (z + 1), .ref (z + 2), .ref (z + 3), .ref (z + 4), .ref (z + 5), .ref (z + 6), .ref (z + 7), .ref (z + 8), .ref (z + 9), .ref (z + 10), .ref (z + 11), .ref (z + 12), .ref (z + 13), .int 0, .int 0, .int 0, .int (-1), .null, .null, .null, .null, .null, .null, .int 0, .null, .int 0, .null, .int 0, .int 0, .int 0]), zA cI 7, zA cI 16, zA cI 21, zA cI 21, zA cI 21, zA cI 21, zA cI 21, zA cI 21, zA cI 21, zA cI 54, zA cI 6, zA cI 36, .inl (cI, 9, .inl (upd (upd (upd (upd (upd (upd (upd (upd (upd (fun _ => 0) 0 900) 1 900) 2 99) 3 9999) 4 9999) 5 100) 6 100) 7 50) 8 15)), zA cI 5400] s H locs := hB
  refine b_putF X hB 0 rfl rfl i_X4 tyX4_ok nmX4 17 (by decide) u607 ⟨rfl, rfl, rfl⟩ rfl hin rfl mf1 rfl rfl (Nat.le_of_ble_eq_true rfl) rfl dX4_init_171 (fun H locs hB => ?_)
  have hB : BD D cI cO z [.inr (4, [.ref (z + 1), .ref (z + 2), .ref (z + 3), .ref (z + 4), .ref (z + 5), .ref (z + 6), .ref (z + 7), .ref (z + 8), .ref (z + 9), .ref (z + 10), .ref (z + 11), .ref (z + 12), .ref (z + 13), .int 0, .int 0, .int 0, .int (-1), .ref (z + 14), .null, .null, .null, .null, .null, .int 0, .null, .int 0, .null, .int 0, .int 0, .int 0]), zA cI 7, zA cI 16, zA cI 21, zA cI 21, zA cI 21, zA cI 21, zA cI 21, zA cI 21, zA cI 21, zA cI 54, zA cI 6, zA cI 36, .inl (cI, 9, .inl (upd (upd (upd (upd (upd (upd (upd (upd (upd (fun _ => 0) 0 900) 1 900) 2 99) 3 9999) 4 9999) 5 100) 6 100) 7 50) 8 15)), zA cI 5400] s H locs := hB
  refine lv_aload_n hx hb dX4_init_174 rfl (lv_at hl 0 rfl) ?_
  refine lv_bipush (v := 6) hx hb dX4_init_175 (by decide +kernel) ?_
  refine b_newa X hB u99 (n := 6) (N := 6) (by decide) rfl (Nat.le_of_ble_eq_true rfl) (Nat.le_of_ble_eq_true rfl) (Nat.le_of_ble_eq_true rfl) dX4_init_177 (q := z + 15) rfl (fun H hB => ?_)
  have hB : BD D cI cO z [.inr (4, [.ref (z + 1), .ref (z + 2), .ref (z + 3), .ref (z + 4), .ref (z + 5), .ref (z + 6), .ref (z + 7), .ref (z + 8), .ref (z + 9), .ref (z + 10), .ref (z + 11), .ref (z + 12), .ref (z + 13), .int 0, .int 0, .int 0, .int (-1), .ref (z + 14), .null, .null, .null, .null, .null, .int 0, .null, .int 0, .null, .int 0, .int 0, .int 0]), zA cI 7, zA cI 16, zA cI 21, zA cI 21, zA cI 21, zA cI 21, zA cI 21, zA cI 21, zA cI 21, zA cI 54, zA cI 6, zA cI 36, .inl (cI, 9, .inl (upd (upd (upd (upd (upd (upd (upd (upd (upd (fun _ => 0) 0 900) 1 900) 2 99) 3 9999) 4 9999) 5 100) 6 100) 7 50) 8 15)), zA cI 5400, zA cI 6] s H locs := hB
  refine b_putF X hB 0 rfl rfl i_X4 tyX4_ok nmX4 18 (by decide) u608 ⟨rfl, rfl, rfl⟩ rfl hin rfl mf1 rfl rfl (Nat.le_of_ble_eq_true rfl) rfl dX4_init_179 (fun H locs hB => ?_)
  have hB : BD D cI cO z [.inr (4, [.ref (z + 1), .ref (z + 2), .ref (z + 3), .ref (z + 4), .ref (z + 5), .ref (z + 6), .ref (z + 7), .ref (z + 8), .ref (z + 9), .ref (z + 10), .ref (z + 11), .ref (z + 12), .ref (z + 13), .int 0, .int 0, .int 0, .int (-1), .ref (z + 14), .ref (z + 15), .null, .null, .null, .null, .int 0, .null, .int 0, .null, .int 0, .int 0, .int 0]), zA cI 7, zA cI 16, zA cI 21, zA cI 21, zA cI 21, zA cI 21, zA cI 21, zA cI 21, zA cI 21, zA cI 54, zA cI 6, zA cI 36, .inl (cI, 9, .inl (upd (upd (upd (upd (upd (upd (upd (upd (upd (fun _ => 0) 0 900) 1 900) 2 99) 3 9999) 4 9999) 5 100) 6 100) 7 50) 8 15)), zA cI 5400, zA cI 6] s H locs := hB
  refine lv_aload_n hx hb dX4_init_182 rfl (lv_at hl 0 rfl) ?_
  refine lv_bipush (v := 6) hx hb dX4_init_183 (by decide +kernel) ?_
  refine b_newa X hB u99 (n := 6) (N := 6) (by decide) rfl (Nat.le_of_ble_eq_true rfl) (Nat.le_of_ble_eq_true rfl) (Nat.le_of_ble_eq_true rfl) dX4_init_185 (q := z + 16) rfl (fun H hB => ?_)
  have hB : BD D cI cO z [.inr (4, [.ref (z + 1), .ref (z + 2), .ref (z + 3), .ref (z + 4), .ref (z + 5), .ref (z + 6), .ref (z + 7), .ref (z + 8), .ref (z + 9), .ref (z + 10), .ref (z + 11), .ref (z + 12), .ref (z + 13), .int 0, .int 0, .int 0, .int (-1), .ref (z + 14), .ref (z + 15), .null, .null, .null, .null, .int 0, .null, .int 0, .null, .int 0, .int 0, .int 0]), zA cI 7, zA cI 16, zA cI 21, zA cI 21, zA cI 21, zA cI 21, zA cI 21, zA cI 21, zA cI 21, zA cI 54, zA cI 6, zA cI 36, .inl (cI, 9, .inl (upd (upd (upd (upd (upd (upd (upd (upd (upd (fun _ => 0) 0 900) 1 900) 2 99) 3 9999) 4 9999) 5 100) 6 100) 7 50) 8 15)), zA cI 5400, zA cI 6, zA cI 6] s H locs := hB
  refine b_putF X hB 0 rfl rfl i_X4 tyX4_ok nmX4 19 (by decide) u609 ⟨rfl, rfl, rfl⟩ rfl hin rfl mf1 rfl rfl (Nat.le_of_ble_eq_true rfl) rfl dX4_init_187 (fun H locs hB => ?_)
  have hB : BD D cI cO z [.inr (4, [.ref (z + 1), .ref (z + 2), .ref (z + 3), .ref (z + 4), .ref (z + 5), .ref (z + 6), .ref (z + 7), .ref (z + 8), .ref (z + 9), .ref (z + 10), .ref (z + 11), .ref (z + 12), .ref (z + 13), .int 0, .int 0, .int 0, .int (-1), .ref (z + 14), .ref (z + 15), .ref (z + 16), .null, .null, .null, .int 0, .null, .int 0, .null, .int 0, .int 0, .int 0]), zA cI 7, zA cI 16, zA cI 21, zA cI 21, zA cI 21, zA cI 21, zA cI 21, zA cI 21, zA cI 21, zA cI 54, zA cI 6, zA cI 36, .inl (cI, 9, .inl (upd (upd (upd (upd (upd (upd (upd (upd (upd (fun _ => 0) 0 900) 1 900) 2 99) 3 9999) 4 9999) 5 100) 6 100) 7 50) 8 15)), zA cI 5400, zA cI 6, zA cI 6] s H locs := hB
  refine lv_aload_n hx hb dX4_init_190 rfl (lv_at hl 0 rfl) ?_
  refine lv_bipush (v := 6) hx hb dX4_init_191 (by decide +kernel) ?_
  refine b_newa X hB u99 (n := 6) (N := 6) (by decide) rfl (Nat.le_of_ble_eq_true rfl) (Nat.le_of_ble_eq_true rfl) (Nat.le_of_ble_eq_true rfl) dX4_init_193 (q := z + 17) rfl (fun H hB => ?_)
  have hB : BD D cI cO z [.inr (4, [.ref (z + 1), .ref (z + 2), .ref (z + 3), .ref (z + 4), .ref (z + 5), .ref (z + 6), .ref (z + 7), .ref (z + 8), .ref (z + 9), .ref (z + 10), .ref (z + 11), .ref (z + 12), .ref (z + 13), .int 0, .int 0, .int 0, .int (-1), .ref (z + 14), .ref (z + 15), .ref (z + 16), .null, .null, .null, .int 0, .null, .int 0, .null, .int 0, .int 0, .int 0]), zA cI 7, zA cI 16, zA cI 21, zA cI 21, zA cI 21, zA cI 21, zA cI 21, zA cI 21, zA cI 21, zA cI 54, zA cI 6, zA cI 36, .inl (cI, 9, .inl (upd (upd (upd (upd (upd (upd (upd (upd (upd (fun _ => 0) 0 900) 1 900) 2 99) 3 9999) 4 9999) 5 100) 6 100) 7 50) 8 15)), zA cI 5400, zA cI 6, zA cI 6, zA cI 6] s H locs := hB
  refine b_putF X hB 0 rfl rfl i_X4 tyX4_ok nmX4 20 (by decide) u610 ⟨rfl, rfl, rfl⟩ rfl hin rfl mf1 rfl rfl (Nat.le_of_ble_eq_true rfl) rfl dX4_init_195 (fun H locs hB => ?_)
  have hB : BD D cI cO z [.inr (4, [.ref (z + 1), .ref (z + 2), .ref (z + 3), .ref (z + 4), .ref (z + 5), .ref (z + 6), .ref (z + 7), .ref (z + 8), .ref (z + 9), .ref (z + 10), .ref (z + 11), .ref (z + 12), .ref (z + 13), .int 0, .int 0, .int 0, .int (-1), .ref (z + 14), .ref (z + 15), .ref (z + 16), .ref (z + 17), .null, .null, .int 0, .null, .int 0, .null, .int 0, .int 0, .int 0]), zA cI 7, zA cI 16, zA cI 21, zA cI 21, zA cI 21, zA cI 21, zA cI 21, zA cI 21, zA cI 21, zA cI 54, zA cI 6, zA cI 36, .inl (cI, 9, .inl (upd (upd (upd (upd (upd (upd (upd (upd (upd (fun _ => 0) 0 900) 1 900) 2 99) 3 9999) 4 9999) 5 100) 6 100) 7 50) 8 15)), zA cI 5400, zA cI 6, zA cI 6, zA cI 6] s H locs := hB
  refine lv_aload_n hx hb dX4_init_198 rfl (lv_at hl 0 rfl) ?_
  refine lv_bipush (v := 6) hx hb dX4_init_199 (by decide +kernel) ?_
  refine b_newa X hB u99 (n := 6) (N := 6) (by decide) rfl (Nat.le_of_ble_eq_true rfl) (Nat.le_of_ble_eq_true rfl) (Nat.le_of_ble_eq_true rfl) dX4_init_201 (q := z + 18) rfl (fun H hB => ?_)
  have hB : BD D cI cO z [.inr (4, [.ref (z + 1), .ref (z + 2), .ref (z + 3), .ref (z + 4), .ref (z + 5), .ref (z + 6), .ref (z + 7), .ref (z + 8), .ref (z + 9), .ref (z + 10), .ref (z + 11), .ref (z + 12), .ref (z + 13), .int 0, .int 0, .int 0, .int (-1), .ref (z + 14), .ref (z + 15), .ref (z + 16), .ref (z + 17), .null, .null, .int 0, .null, .int 0, .null, .int 0, .int 0, .int 0]), zA cI 7, zA cI 16, zA cI 21, zA cI 21, zA cI 21, zA cI 21, zA cI 21, zA cI 21, zA cI 21, zA cI 54, zA cI 6, zA cI 36, .inl (cI, 9, .inl (upd (upd (upd (upd (upd (upd (upd (upd (upd (fun _ => 0) 0 900) 1 900) 2 99) 3 9999) 4 9999) 5 100) 6 100) 7 50) 8 15)), zA cI 5400, zA cI 6, zA cI 6, zA cI 6, zA cI 6] s H locs := hB
  refine b_putF X hB 0 rfl rfl i_X4 tyX4_ok nmX4 21 (by decide) u611 ⟨rfl, rfl, rfl⟩ rfl hin rfl mf1 rfl rfl (Nat.le_of_ble_eq_true rfl) rfl dX4_init_203 (fun H locs hB => ?_)
  have hB : BD D cI cO z [.inr (4, [.ref (z + 1), .ref (z + 2), .ref (z + 3), .ref (z + 4), .ref (z + 5), .ref (z + 6), .ref (z + 7), .ref (z + 8), .ref (z + 9), .ref (z + 10), .ref (z + 11), .ref (z + 12), .ref (z + 13), .int 0, .int 0, .int 0, .int (-1), .ref (z + 14), .ref (z + 15), .ref (z + 16), .ref (z + 17), .ref (z + 18), .null, .int 0, .null, .int 0, .null, .int 0, .int 0, .int 0]), zA cI 7, zA cI 16, zA cI 21, zA cI 21, zA cI 21, zA cI 21, zA cI 21, zA cI 21, zA cI 21, zA cI 54, zA cI 6, zA cI 36, .inl (cI, 9, .inl (upd (upd (upd (upd (upd (upd (upd (upd (upd (fun _ => 0) 0 900) 1 900) 2 99) 3 9999) 4 9999) 5 100) 6 100) 7 50) 8 15)), zA cI 5400, zA cI 6, zA cI 6, zA cI 6, zA cI 6] s H locs := hB
  refine lv_aload_n hx hb dX4_init_206 rfl (lv_at hl 0 rfl) ?_
  refine lv_bipush (v := 6) hx hb dX4_init_207 (by decide +kernel) ?_
  refine b_newa X hB u99 (n := 6) (N := 6) (by decide) rfl (Nat.le_of_ble_eq_true rfl) (Nat.le_of_ble_eq_true rfl) (Nat.le_of_ble_eq_true rfl) dX4_init_209 (q := z + 19) rfl (fun H hB => ?_)
  have hB : BD D cI cO z [.inr (4, [.ref (z + 1), .ref (z + 2), .ref (z + 3), .ref (z + 4), .ref (z + 5), .ref (z + 6), .ref (z + 7), .ref (z + 8), .ref (z + 9), .ref (z + 10), .ref (z + 11), .ref (z + 12), .ref (z + 13), .int 0, .int 0, .int 0, .int (-1), .ref (z + 14), .ref (z + 15), .ref (z + 16), .ref (z + 17), .ref (z + 18), .null, .int 0, .null, .int 0, .null, .int 0, .int 0, .int 0]), zA cI 7, zA cI 16, zA cI 21, zA cI 21, zA cI 21, zA cI 21, zA cI 21, zA cI 21, zA cI 21, zA cI 54, zA cI 6, zA cI 36, .inl (cI, 9, .inl (upd (upd (upd (upd (upd (upd (upd (upd (upd (fun _ => 0) 0 900) 1 900) 2 99) 3 9999) 4 9999) 5 100) 6 100) 7 50) 8 15)), zA cI 5400, zA cI 6, zA cI 6, zA cI 6, zA cI 6, zA cI 6] s H locs := hB
  refine b_putF X hB 0 rfl rfl i_X4 tyX4_ok nmX4 22 (by decide) u612 ⟨rfl, rfl, rfl⟩ rfl hin rfl mf1 rfl rfl (Nat.le_of_ble_eq_true rfl) rfl dX4_init_211 (fun H locs hB => ?_)
  have hB : BD D cI cO z [.inr (4, [.ref (z + 1), .ref (z + 2), .ref (z + 3), .ref (z + 4), .ref (z + 5), .ref (z + 6), .ref (z + 7), .ref (z + 8), .ref (z + 9), .ref (z + 10), .ref (z + 11), .ref (z + 12), .ref (z + 13), .int 0, .int 0, .int 0, .int (-1), .ref (z + 14), .ref (z + 15), .ref (z + 16), .ref (z + 17), .ref (z + 18), .ref (z + 19), .int 0, .null, .int 0, .null, .int 0, .int 0, .int 0]), zA cI 7, zA cI 16, zA cI 21, zA cI 21, zA cI 21, zA cI 21, zA cI 21, zA cI 21, zA cI 21, zA cI 54, zA cI 6, zA cI 36, .inl (cI, 9, .inl (upd (upd (upd (upd (upd (upd (upd (upd (upd (fun _ => 0) 0 900) 1 900) 2 99) 3 9999) 4 9999) 5 100) 6 100) 7 50) 8 15)), zA cI 5400, zA cI 6, zA cI 6, zA cI 6, zA cI 6, zA cI 6] s H locs := hB
  refine lv_aload_n hx hb dX4_init_214 rfl (lv_at hl 0 rfl) ?_
  refine lv_bipush (v := 6) hx hb dX4_init_215 (by decide +kernel) ?_
  refine b_newa X hB u99 (n := 6) (N := 6) (by decide) rfl (Nat.le_of_ble_eq_true rfl) (Nat.le_of_ble_eq_true rfl) (Nat.le_of_ble_eq_true rfl) dX4_init_217 (q := z + 20) rfl (fun H hB => ?_)
  have hB : BD D cI cO z [.inr (4, [.ref (z + 1), .ref (z + 2), .ref (z + 3), .ref (z + 4), .ref (z + 5), .ref (z + 6), .ref (z + 7), .ref (z + 8), .ref (z + 9), .ref (z + 10), .ref (z + 11), .ref (z + 12), .ref (z + 13), .int 0, .int 0, .int 0, .int (-1), .ref (z + 14), .ref (z + 15), .ref (z + 16), .ref (z + 17), .ref (z + 18), .ref (z + 19), .int 0, .null, .int 0, .null, .int 0, .int 0, .int 0]), zA cI 7, zA cI 16, zA cI 21, zA cI 21, zA cI 21, zA cI 21, zA cI 21, zA cI 21, zA cI 21, zA cI 54, zA cI 6, zA cI 36, .inl (cI, 9, .inl (upd (upd (upd (upd (upd (upd (upd (upd (upd (fun _ => 0) 0 900) 1 900) 2 99) 3 9999) 4 9999) 5 100) 6 100) 7 50) 8 15)), zA cI 5400, zA cI 6, zA cI 6, zA cI 6, zA cI 6, zA cI 6, zA cI 6] s H locs := hB
  refine b_putF X hB 0 rfl rfl i_X4 tyX4_ok nmX4 24 (by decide) u614 ⟨rfl, rfl, rfl⟩ rfl hin rfl mf1 rfl rfl (Nat.le_of_ble_eq_true rfl) rfl dX4_init_219 (fun H locs hB => ?_)
  have hB : BD D cI cO z [.inr (4, [.ref (z + 1), .ref (z + 2), .ref (z + 3), .ref (z + 4), .ref (z + 5), .ref (z + 6), .ref (z + 7), .ref (z + 8), .ref (z + 9), .ref (z + 10), .ref (z + 11), .ref (z + 12), .ref (z + 13), .int 0, .int 0, .int 0, .int (-1), .ref (z + 14), .ref (z + 15), .ref (z + 16), .ref (z + 17), .ref (z + 18), .ref (z + 19), .int 0, .ref (z + 20), .int 0, .null, .int 0, .int 0, .int 0]), zA cI 7, zA cI 16, zA cI 21, zA cI 21, zA cI 21, zA cI 21, zA cI 21, zA cI 21, zA cI 21, zA cI 54, zA cI 6, zA cI 36, .inl (cI, 9, .inl (upd (upd (upd (upd (upd (upd (upd (upd (upd (fun _ => 0) 0 900) 1 900) 2 99) 3 9999) 4 9999) 5 100) 6 100) 7 50) 8 15)), zA cI 5400, zA cI 6, zA cI 6, zA cI 6, zA cI 6, zA cI 6, zA cI 6] s H locs := hB
  refine lv_aload_n hx hb dX4_init_222 rfl (lv_at hl 0 rfl) ?_
  refine lv_sipush (v := 300) hx hb dX4_init_223 (by decide +kernel) ?_
  refine b_newa X hB u99 (n := 300) (N := 300) (by decide) rfl (Nat.le_of_ble_eq_true rfl) (Nat.le_of_ble_eq_true rfl) (Nat.le_of_ble_eq_true rfl) dX4_init_226 (q := z + 21) rfl (fun H hB => ?_)
  have hB : BD D cI cO z [.inr (4, [.ref (z + 1), .ref (z + 2), .ref (z + 3), .ref (z + 4), .ref (z + 5), .ref (z + 6), .ref (z + 7), .ref (z + 8), .ref (z + 9), .ref (z + 10), .ref (z + 11), .ref (z + 12), .ref (z + 13), .int 0, .int 0, .int 0, .int (-1), .ref (z + 14), .ref (z + 15), .ref (z + 16), .ref (z + 17), .ref (z + 18), .ref (z + 19), .int 0, .ref (z + 20), .int 0, .null, .int 0, .int 0, .int 0]), zA cI 7, zA cI 16, zA cI 21, zA cI 21, zA cI 21, zA cI 21, zA cI 21, zA cI 21, zA cI 21, zA cI 54, zA cI 6, zA cI 36, .inl (cI, 9, .inl (upd (upd (upd (upd (upd (upd (upd (upd (upd (fun _ => 0) 0 900) 1 900) 2 99) 3 9999) 4 9999) 5 100) 6 100) 7 50) 8 15)), zA cI 5400, zA cI 6, zA cI 6, zA cI 6, zA cI 6, zA cI 6, zA cI 6, zA cI 300] s H locs := hB
  refine b_putF X hB 0 rfl rfl i_X4 tyX4_ok nmX4 26 (by decide) u616 ⟨rfl, rfl, rfl⟩ rfl hin rfl mf1 rfl rfl (Nat.le_of_ble_eq_true rfl) rfl dX4_init_228 (fun H locs hB => ?_)
  have hB : BD D cI cO z [.inr (4, [.ref (z + 1), .ref (z + 2), .ref (z + 3), .ref (z + 4), .ref (z + 5), .ref (z + 6), .ref (z + 7), .ref (z + 8), .ref (z + 9), .ref (z + 10), .ref (z + 11), .ref (z + 12), .ref (z + 13), .int 0, .int 0, .int 0, .int (-1), .ref (z + 14), .ref (z + 15), .ref (z + 16), .ref (z + 17), .ref (z + 18), .ref (z + 19), .int 0, .ref (z + 20), .int 0, .ref (z + 21), .int 0, .int 0, .int 0]), zA cI 7, zA cI 16, zA cI 21, zA cI 21, zA cI 21, zA cI 21, zA cI 21, zA cI 21, zA cI 21, zA cI 54, zA cI 6, zA cI 36, .inl (cI, 9, .inl (upd (upd (upd (upd (upd (upd (upd (upd (upd (fun _ => 0) 0 900) 1 900) 2 99) 3 9999) 4 9999) 5 100) 6 100) 7 50) 8 15)), zA cI 5400, zA cI 6, zA cI 6, zA cI 6, zA cI 6, zA cI 6, zA cI 6, zA cI 300] s H locs := hB
  refine lv_iconst (v := 0) hx hb dX4_init_231 (by decide) ?_
  refine lv_istore_n (lv' := [(1, .int 0), (0, .ref (z))]) hx hb dX4_init_232 rfl hl (by decide) rfl (fun ls hl => ?_)
  have L : ∀ (k i : Nat), i + k = 6 → ∀ (f : Nat → Int32) (H : Heap) (locs : List Loc) (ls : Array Slot), lawIt k i f = lawIt 6 0 (fun _ => 0) → BD D cI cO z [.inr (4, [.ref (z + 1), .ref (z + 2), .ref (z + 3), .ref (z + 4), .ref (z + 5), .ref (z + 6), .ref (z + 7), .ref (z + 8), .ref (z + 9), .ref (z + 10), .ref (z + 11), .ref (z + 12), .ref (z + 13), .int 0, .int 0, .int 0, .int (-1), .ref (z + 14), .ref (z + 15), .ref (z + 16), .ref (z + 17), .ref (z + 18), .ref (z + 19), .int 0, .ref (z + 20), .int 0, .ref (z + 21), .int 0, .int 0, .int 0]), zA cI 7, zA cI 16, zA cI 21, zA cI 21, zA cI 21, zA cI 21, zA cI 21, zA cI 21, zA cI 21, .inl (cI, 54, .inl f), zA cI 6, zA cI 36, .inl (cI, 9, .inl (upd (upd (upd (upd (upd (upd (upd (upd (upd (fun _ => 0) 0 900) 1 900) 2 99) 3 9999) 4 9999) 5 100) 6 100) 7 50) 8 15)), zA cI 5400, zA cI 6, zA cI 6, zA cI 6, zA cI 6, zA cI 6, zA cI 6, zA cI 300] s H locs → lv_has ls 2 [(1, .int (nI i)), (0, .ref z)] → W p l e ({ frames := 1, cells := 21, slots := 6011, locals := 20 } : Room) s m args below meth c H locs 21 6011 Q (F0 m 233 ls []) := by
    intro k
    induction k with
    | zero =>
      intro i hi f H locs ls hf hB hl
      refine lv_iload_n hx hb dX4_init_233 rfl (lv_at hl 0 rfl) ?_
      refine lv_bipush (v := 6) hx hb dX4_init_234 (by decide +kernel) ?_
      refine lv_icmp_ge (tgt := 313) hx hb dX4_init_236 (by decide) (fun c9 => ?_) (fun c9 => absurd (by rw [L6]; exact (nI_leI (by omega) (by omega)).mpr (by omega)) c9)
      rw [lawIt] at hf
      subst hf
      exact hfin _ _ _ _ hB dX4_init_313
    | succ k ih =>
      intro i hi f H locs ls hf hB hl
      refine lv_iload_n hx hb dX4_init_233 rfl (lv_at hl 0 rfl) ?_
      refine lv_bipush (v := 6) hx hb dX4_init_234 (by decide +kernel) ?_
      refine lv_icmp_ge (tgt := 313) hx hb dX4_init_236 (by decide) (fun c9 => absurd (by rw [L6] at c9; exact (nI_leI (by omega) (by omega)).mp c9) (by omega)) (fun c9 => ?_)
      refine lv_aload_n hx hb dX4_init_239 rfl (lv_at hl 1 rfl) ?_
      refine b_get X hB 0 rfl rfl i_X4 9 (by decide) u599 ⟨rfl, rfl, rfl⟩ rfl rfl dX4_init_240 ?_
      refine lv_bipush (v := 9) hx hb dX4_init_243 (by decide +kernel) ?_
      refine lv_iload_n hx hb dX4_init_245 rfl (lv_at hl 0 rfl) ?_
      refine lv_imul hx hb dX4_init_246 ?_
      refine lv_iconst (v := 0) hx hb dX4_init_247 (by decide) ?_
      refine lv_iadd hx hb dX4_init_248 ?_
      refine lv_bipush (v := 120) hx hb dX4_init_249 (by decide +kernel) ?_
      refine b_iast X hB 10 (n := 54) (f := f) rfl (x := 120) (by rw [show (9 * nI i + 0 : Int32) = _ from lw9 i 0]; exact inb_n (by omega) (by omega)) (9 * i + 0) (by rw [show (9 * nI i + 0 : Int32) = _ from lw9 i 0]; exact nI_clamp (by omega)) rfl dX4_init_251 (fun H locs hB => ?_)
      have hB : BD D cI cO z [.inr (4, [.ref (z + 1), .ref (z + 2), .ref (z + 3), .ref (z + 4), .ref (z + 5), .ref (z + 6), .ref (z + 7), .ref (z + 8), .ref (z + 9), .ref (z + 10), .ref (z + 11), .ref (z + 12), .ref (z + 13), .int 0, .int 0, .int 0, .int (-1), .ref (z + 14), .ref (z + 15), .ref (z + 16), .ref (z + 17), .ref (z + 18), .ref (z + 19), .int 0, .ref (z + 20), .int 0, .ref (z + 21), .int 0, .int 0, .int 0]), zA cI 7, zA cI 16, zA cI 21, zA cI 21, zA cI 21, zA cI 21, zA cI 21, zA cI 21, zA cI 21, .inl (cI, 54, .inl (upd f (9 * i + 0) 120)), zA cI 6, zA cI 36, .inl (cI, 9, .inl (upd (upd (upd (upd (upd (upd (upd (upd (upd (fun _ => 0) 0 900) 1 900) 2 99) 3 9999) 4 9999) 5 100) 6 100) 7 50) 8 15)), zA cI 5400, zA cI 6, zA cI 6, zA cI 6, zA cI 6, zA cI 6, zA cI 6, zA cI 300] s H locs := hB
      refine lv_aload_n hx hb dX4_init_252 rfl (lv_at hl 1 rfl) ?_
      refine b_get X hB 0 rfl rfl i_X4 9 (by decide) u599 ⟨rfl, rfl, rfl⟩ rfl rfl dX4_init_253 ?_
      refine lv_bipush (v := 9) hx hb dX4_init_256 (by decide +kernel) ?_
      refine lv_iload_n hx hb dX4_init_258 rfl (lv_at hl 0 rfl) ?_
      refine lv_imul hx hb dX4_init_259 ?_
      refine lv_iconst (v := 1) hx hb dX4_init_260 (by decide) ?_
      refine lv_iadd hx hb dX4_init_261 ?_
      refine lv_sipush (v := 780) hx hb dX4_init_262 (by decide +kernel) ?_
      refine b_iast X hB 10 (n := 54) (f := (upd f (9 * i + 0) 120)) rfl (x := 780) (by rw [show (9 * nI i + 1 : Int32) = _ from lw9 i 1]; exact inb_n (by omega) (by omega)) (9 * i + 1) (by rw [show (9 * nI i + 1 : Int32) = _ from lw9 i 1]; exact nI_clamp (by omega)) rfl dX4_init_265 (fun H locs hB => ?_)
      have hB : BD D cI cO z [.inr (4, [.ref (z + 1), .ref (z + 2), .ref (z + 3), .ref (z + 4), .ref (z + 5), .ref (z + 6), .ref (z + 7), .ref (z + 8), .ref (z + 9), .ref (z + 10), .ref (z + 11), .ref (z + 12), .ref (z + 13), .int 0, .int 0, .int 0, .int (-1), .ref (z + 14), .ref (z + 15), .ref (z + 16), .ref (z + 17), .ref (z + 18), .ref (z + 19), .int 0, .ref (z + 20), .int 0, .ref (z + 21), .int 0, .int 0, .int 0]), zA cI 7, zA cI 16, zA cI 21, zA cI 21, zA cI 21, zA cI 21, zA cI 21, zA cI 21, zA cI 21, .inl (cI, 54, .inl (upd (upd f (9 * i + 0) 120) (9 * i + 1) 780)), zA cI 6, zA cI 36, .inl (cI, 9, .inl (upd (upd (upd (upd (upd (upd (upd (upd (upd (fun _ => 0) 0 900) 1 900) 2 99) 3 9999) 4 9999) 5 100) 6 100) 7 50) 8 15)), zA cI 5400, zA cI 6, zA cI 6, zA cI 6, zA cI 6, zA cI 6, zA cI 6, zA cI 300] s H locs := hB
      refine lv_aload_n hx hb dX4_init_266 rfl (lv_at hl 1 rfl) ?_
      refine b_get X hB 0 rfl rfl i_X4 9 (by decide) u599 ⟨rfl, rfl, rfl⟩ rfl rfl dX4_init_267 ?_
      refine lv_bipush (v := 9) hx hb dX4_init_270 (by decide +kernel) ?_
      refine lv_iload_n hx hb dX4_init_272 rfl (lv_at hl 0 rfl) ?_
      refine lv_imul hx hb dX4_init_273 ?_
      refine lv_iconst (v := 2) hx hb dX4_init_274 (by decide) ?_
      refine lv_iadd hx hb dX4_init_275 ?_
      refine lv_bipush (v := 10) hx hb dX4_init_276 (by decide +kernel) ?_
      refine b_iast X hB 10 (n := 54) (f := (upd (upd f (9 * i + 0) 120) (9 * i + 1) 780)) rfl (x := 10) (by rw [show (9 * nI i + 2 : Int32) = _ from lw9 i 2]; exact inb_n (by omega) (by omega)) (9 * i + 2) (by rw [show (9 * nI i + 2 : Int32) = _ from lw9 i 2]; exact nI_clamp (by omega)) rfl dX4_init_278 (fun H locs hB => ?_)
      have hB : BD D cI cO z [.inr (4, [.ref (z + 1), .ref (z + 2), .ref (z + 3), .ref (z + 4), .ref (z + 5), .ref (z + 6), .ref (z + 7), .ref (z + 8), .ref (z + 9), .ref (z + 10), .ref (z + 11), .ref (z + 12), .ref (z + 13), .int 0, .int 0, .int 0, .int (-1), .ref (z + 14), .ref (z + 15), .ref (z + 16), .ref (z + 17), .ref (z + 18), .ref (z + 19), .int 0, .ref (z + 20), .int 0, .ref (z + 21), .int 0, .int 0, .int 0]), zA cI 7, zA cI 16, zA cI 21, zA cI 21, zA cI 21, zA cI 21, zA cI 21, zA cI 21, zA cI 21, .inl (cI, 54, .inl (upd (upd (upd f (9 * i + 0) 120) (9 * i + 1) 780) (9 * i + 2) 10)), zA cI 6, zA cI 36, .inl (cI, 9, .inl (upd (upd (upd (upd (upd (upd (upd (upd (upd (fun _ => 0) 0 900) 1 900) 2 99) 3 9999) 4 9999) 5 100) 6 100) 7 50) 8 15)), zA cI 5400, zA cI 6, zA cI 6, zA cI 6, zA cI 6, zA cI 6, zA cI 6, zA cI 300] s H locs := hB
      refine lv_aload_n hx hb dX4_init_279 rfl (lv_at hl 1 rfl) ?_
      refine b_get X hB 0 rfl rfl i_X4 9 (by decide) u599 ⟨rfl, rfl, rfl⟩ rfl rfl dX4_init_280 ?_
      refine lv_bipush (v := 9) hx hb dX4_init_283 (by decide +kernel) ?_
      refine lv_iload_n hx hb dX4_init_285 rfl (lv_at hl 0 rfl) ?_
      refine lv_imul hx hb dX4_init_286 ?_
      refine lv_iconst (v := 4) hx hb dX4_init_287 (by decide) ?_
      refine lv_iadd hx hb dX4_init_288 ?_
      refine lv_sipush (v := 9999) hx hb dX4_init_289 (by decide +kernel) ?_
      refine b_iast X hB 10 (n := 54) (f := (upd (upd (upd f (9 * i + 0) 120) (9 * i + 1) 780) (9 * i + 2) 10)) rfl (x := 9999) (by rw [show (9 * nI i + 4 : Int32) = _ from lw9 i 4]; exact inb_n (by omega) (by omega)) (9 * i + 4) (by rw [show (9 * nI i + 4 : Int32) = _ from lw9 i 4]; exact nI_clamp (by omega)) rfl dX4_init_292 (fun H locs hB => ?_)
      have hB : BD D cI cO z [.inr (4, [.ref (z + 1), .ref (z + 2), .ref (z + 3), .ref (z + 4), .ref (z + 5), .ref (z + 6), .ref (z + 7), .ref (z + 8), .ref (z + 9), .ref (z + 10), .ref (z + 11), .ref (z + 12), .ref (z + 13), .int 0, .int 0, .int 0, .int (-1), .ref (z + 14), .ref (z + 15), .ref (z + 16), .ref (z + 17), .ref (z + 18), .ref (z + 19), .int 0, .ref (z + 20), .int 0, .ref (z + 21), .int 0, .int 0, .int 0]), zA cI 7, zA cI 16, zA cI 21, zA cI 21, zA cI 21, zA cI 21, zA cI 21, zA cI 21, zA cI 21, .inl (cI, 54, .inl (upd (upd (upd (upd f (9 * i + 0) 120) (9 * i + 1) 780) (9 * i + 2) 10) (9 * i + 4) 9999)), zA cI 6, zA cI 36, .inl (cI, 9, .inl (upd (upd (upd (upd (upd (upd (upd (upd (upd (fun _ => 0) 0 900) 1 900) 2 99) 3 9999) 4 9999) 5 100) 6 100) 7 50) 8 15)), zA cI 5400, zA cI 6, zA cI 6, zA cI 6, zA cI 6, zA cI 6, zA cI 6, zA cI 300] s H locs := hB
      refine lv_aload_n hx hb dX4_init_293 rfl (lv_at hl 1 rfl) ?_
      refine b_get X hB 0 rfl rfl i_X4 9 (by decide) u599 ⟨rfl, rfl, rfl⟩ rfl rfl dX4_init_294 ?_
      refine lv_bipush (v := 9) hx hb dX4_init_297 (by decide +kernel) ?_
      refine lv_iload_n hx hb dX4_init_299 rfl (lv_at hl 0 rfl) ?_
      refine lv_imul hx hb dX4_init_300 ?_
      refine lv_bipush (v := 8) hx hb dX4_init_301 (by decide +kernel) ?_
      refine lv_iadd hx hb dX4_init_303 ?_
      refine lv_bipush (v := 15) hx hb dX4_init_304 (by decide +kernel) ?_
      refine b_iast X hB 10 (n := 54) (f := (upd (upd (upd (upd f (9 * i + 0) 120) (9 * i + 1) 780) (9 * i + 2) 10) (9 * i + 4) 9999)) rfl (x := 15) (by rw [show (9 * nI i + 8 : Int32) = _ from lw9 i 8]; exact inb_n (by omega) (by omega)) (9 * i + 8) (by rw [show (9 * nI i + 8 : Int32) = _ from lw9 i 8]; exact nI_clamp (by omega)) rfl dX4_init_306 (fun H locs hB => ?_)
      have hB : BD D cI cO z [.inr (4, [.ref (z + 1), .ref (z + 2), .ref (z + 3), .ref (z + 4), .ref (z + 5), .ref (z + 6), .ref (z + 7), .ref (z + 8), .ref (z + 9), .ref (z + 10), .ref (z + 11), .ref (z + 12), .ref (z + 13), .int 0, .int 0, .int 0, .int (-1), .ref (z + 14), .ref (z + 15), .ref (z + 16), .ref (z + 17), .ref (z + 18), .ref (z + 19), .int 0, .ref (z + 20), .int 0, .ref (z + 21), .int 0, .int 0, .int 0]), zA cI 7, zA cI 16, zA cI 21, zA cI 21, zA cI 21, zA cI 21, zA cI 21, zA cI 21, zA cI 21, .inl (cI, 54, .inl (upd (upd (upd (upd (upd f (9 * i + 0) 120) (9 * i + 1) 780) (9 * i + 2) 10) (9 * i + 4) 9999) (9 * i + 8) 15)), zA cI 6, zA cI 36, .inl (cI, 9, .inl (upd (upd (upd (upd (upd (upd (upd (upd (upd (fun _ => 0) 0 900) 1 900) 2 99) 3 9999) 4 9999) 5 100) 6 100) 7 50) 8 15)), zA cI 5400, zA cI 6, zA cI 6, zA cI 6, zA cI 6, zA cI 6, zA cI 6, zA cI 300] s H locs := hB
      refine lv_iinc (v := nI i + 1) (lv' := [(1, .int (nI i + 1)), (0, .ref z)]) hx hb dX4_init_307 hl (k := 0) rfl rfl (by decide) rfl (fun ls hl => ?_)
      refine lv_goto (tgt := 233) hx hb dX4_init_310 (by decide) ?_
      rw [nI_1] at hl
      exact ih (i + 1) (by omega) _ _ _ _ hf hB hl
  exact L 6 0 (by omega) (fun _ => 0) _ _ _ rfl hB hl

