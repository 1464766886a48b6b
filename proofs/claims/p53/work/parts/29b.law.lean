-- deps: 29a 27 28 24b
/-! The law's body behind its beginning. -/
def AS (s : State) : Nat → Prop := fun q => s.heap.size ≤ q
theorem dL_law_0 : decode cL_law 0 = .ok (.new 26, 3) := by decide +kernel
theorem dL_law_3 : decode cL_law 3 = .ok (.dup, 1) := by decide +kernel
theorem dL_law_4 : decode cL_law 4 = .ok (.invokespecial 86, 3) := by decide +kernel
theorem dL_law_7 : decode cL_law 7 = .ok (.astore_n 1, 1) := by decide +kernel
theorem dL_law_8 : decode cL_law 8 = .ok (.aload_n 1, 1) := by decide +kernel
theorem dL_law_9 : decode cL_law 9 = .ok (.invokevirtual 87, 3) := by decide +kernel
theorem dL_law_12 : decode cL_law 12 = .ok (.ifCond .ne 28, 3) := by decide +kernel
theorem dL_law_15 : decode cL_law 15 = .ok (.aload_n 1, 1) := by decide +kernel
theorem dL_law_16 : decode cL_law 16 = .ok (.iconst 0, 1) := by decide +kernel
theorem dL_law_17 : decode cL_law 17 = .ok (.invokevirtual 90, 3) := by decide +kernel
theorem dL_law_20 : decode cL_law 20 = .ok (.iconst (-1), 1) := by decide +kernel
theorem dL_law_21 : decode cL_law 21 = .ok (.if_icmp .ne 19, 3) := by decide +kernel
theorem dL_law_24 : decode cL_law 24 = .ok (.aload_n 1, 1) := by decide +kernel
theorem dL_law_25 : decode cL_law 25 = .ok (.invokevirtual 93, 3) := by decide +kernel
theorem dL_law_28 : decode cL_law 28 = .ok (.ifCond .ne 12, 3) := by decide +kernel
theorem dL_law_31 : decode cL_law 31 = .ok (.aload_n 1, 1) := by decide +kernel
theorem dL_law_32 : decode cL_law 32 = .ok (.iconst 1, 1) := by decide +kernel
theorem dL_law_33 : decode cL_law 33 = .ok (.invokevirtual 31, 3) := by decide +kernel
theorem dL_law_36 : decode cL_law 36 = .ok (.iconst (-1), 1) := by decide +kernel
theorem dL_law_37 : decode cL_law 37 = .ok (.if_icmp .eq 5, 3) := by decide +kernel
theorem dL_law_40 : decode cL_law 40 = .ok (.iconst 0, 1) := by decide +kernel
theorem dL_law_41 : decode cL_law 41 = .ok (.ireturn, 1) := by decide +kernel
theorem dL_law_42 : decode cL_law 42 = .ok (.aload_n 1, 1) := by decide +kernel
theorem dL_law_43 : decode cL_law 43 = .ok (.aload_n 0, 1) := by decide +kernel
theorem dL_law_44 : decode cL_law 44 = .ok (.invokestatic 96, 3) := by decide +kernel
theorem dL_law_47 : decode cL_law 47 = .ok (.invokestatic 100, 3) := by decide +kernel
theorem dL_law_50 : decode cL_law 50 = .ok (.istore_n 2, 1) := by decide +kernel
theorem dL_law_51 : decode cL_law 51 = .ok (.iload_n 2, 1) := by decide +kernel
theorem dL_law_52 : decode cL_law 52 = .ok (.iconst 3, 1) := by decide +kernel
theorem dL_law_53 : decode cL_law 53 = .ok (.if_icmp .lt 23, 3) := by decide +kernel
theorem dL_law_56 : decode cL_law 56 = .ok (.iload_n 2, 1) := by decide +kernel
theorem dL_law_57 : decode cL_law 57 = .ok (.aload_n 1, 1) := by decide +kernel
theorem dL_law_58 : decode cL_law 58 = .ok (.invokevirtual 104, 3) := by decide +kernel
theorem dL_law_61 : decode cL_law 61 = .ok (.if_icmp .ne 15, 3) := by decide +kernel
theorem dL_law_64 : decode cL_law 64 = .ok (.aload_n 1, 1) := by decide +kernel
theorem dL_law_65 : decode cL_law 65 = .ok (.invokevirtual 107, 3) := by decide +kernel
theorem dL_law_68 : decode cL_law 68 = .ok (.iconst 1, 1) := by decide +kernel
theorem dL_law_69 : decode cL_law 69 = .ok (.iload_n 2, 1) := by decide +kernel
theorem dL_law_70 : decode cL_law 70 = .ok (.ishl, 1) := by decide +kernel
theorem dL_law_71 : decode cL_law 71 = .ok (.iconst 1, 1) := by decide +kernel
theorem dL_law_72 : decode cL_law 72 = .ok (.isub, 1) := by decide +kernel
theorem dL_law_73 : decode cL_law 73 = .ok (.if_icmp .eq 5, 3) := by decide +kernel
theorem dL_law_76 : decode cL_law 76 = .ok (.iconst 0, 1) := by decide +kernel
theorem dL_law_77 : decode cL_law 77 = .ok (.ireturn, 1) := by decide +kernel
theorem dL_law_78 : decode cL_law 78 = .ok (.sipush 140, 3) := by decide +kernel
theorem dL_law_81 : decode cL_law 81 = .ok (.newarray .int, 2) := by decide +kernel
theorem dL_law_83 : decode cL_law 83 = .ok (.astore_n 3, 1) := by decide +kernel
theorem dL_law_84 : decode cL_law 84 = .ok (.iconst 0, 1) := by decide +kernel
theorem dL_law_85 : decode cL_law 85 = .ok (.istore 4, 2) := by decide +kernel
theorem dL_law_87 : decode cL_law 87 = .ok (.iconst 0, 1) := by decide +kernel
theorem dL_law_88 : decode cL_law 88 = .ok (.istore 5, 2) := by decide +kernel
theorem dL_law_90 : decode cL_law 90 = .ok (.iconst 1, 1) := by decide +kernel
theorem dL_law_91 : decode cL_law 91 = .ok (.istore 6, 2) := by decide +kernel
theorem dL_law_93 : decode cL_law 93 = .ok (.iload 6, 2) := by decide +kernel
theorem dL_law_95 : decode cL_law 95 = .ok (.ifCond .eq 120, 3) := by decide +kernel
theorem dL_law_98 : decode cL_law 98 = .ok (.aload_n 1, 1) := by decide +kernel
theorem dL_law_99 : decode cL_law 99 = .ok (.aload_n 3, 1) := by decide +kernel
theorem dL_law_100 : decode cL_law 100 = .ok (.invokestatic 110, 3) := by decide +kernel
theorem dL_law_103 : decode cL_law 103 = .ok (.astore 7, 2) := by decide +kernel
theorem dL_law_105 : decode cL_law 105 = .ok (.iconst 0, 1) := by decide +kernel
theorem dL_law_106 : decode cL_law 106 = .ok (.istore 6, 2) := by decide +kernel
theorem dL_law_108 : decode cL_law 108 = .ok (.iconst 0, 1) := by decide +kernel
theorem dL_law_109 : decode cL_law 109 = .ok (.istore 8, 2) := by decide +kernel
theorem dL_law_111 : decode cL_law 111 = .ok (.iload 8, 2) := by decide +kernel
theorem dL_law_113 : decode cL_law 113 = .ok (.sipush 140, 3) := by decide +kernel
theorem dL_law_116 : decode cL_law 116 = .ok (.if_icmp .ge 78, 3) := by decide +kernel
theorem dL_law_119 : decode cL_law 119 = .ok (.iconst 0, 1) := by decide +kernel
theorem dL_law_120 : decode cL_law 120 = .ok (.istore 9, 2) := by decide +kernel
theorem dL_law_122 : decode cL_law 122 = .ok (.iload 9, 2) := by decide +kernel
theorem dL_law_124 : decode cL_law 124 = .ok (.aload_n 1, 1) := by decide +kernel
theorem dL_law_125 : decode cL_law 125 = .ok (.invokevirtual 80, 3) := by decide +kernel
theorem dL_law_128 : decode cL_law 128 = .ok (.if_icmp .ge 60, 3) := by decide +kernel
theorem dL_law_131 : decode cL_law 131 = .ok (.aload 7, 2) := by decide +kernel
theorem dL_law_133 : decode cL_law 133 = .ok (.iload 8, 2) := by decide +kernel
theorem dL_law_135 : decode cL_law 135 = .ok (.iaload, 1) := by decide +kernel
theorem dL_law_136 : decode cL_law 136 = .ok (.iload 9, 2) := by decide +kernel
theorem dL_law_138 : decode cL_law 138 = .ok (.invokestatic 114, 3) := by decide +kernel
theorem dL_law_141 : decode cL_law 141 = .ok (.ifCond .eq 41, 3) := by decide +kernel
theorem dL_law_144 : decode cL_law 144 = .ok (.aload_n 3, 1) := by decide +kernel
theorem dL_law_145 : decode cL_law 145 = .ok (.iload 8, 2) := by decide +kernel
theorem dL_law_147 : decode cL_law 147 = .ok (.iaload, 1) := by decide +kernel
theorem dL_law_148 : decode cL_law 148 = .ok (.iload 9, 2) := by decide +kernel
theorem dL_law_150 : decode cL_law 150 = .ok (.invokestatic 114, 3) := by decide +kernel
theorem dL_law_153 : decode cL_law 153 = .ok (.ifCond .eq 6, 3) := by decide +kernel
theorem dL_law_156 : decode cL_law 156 = .ok (.goto 26, 3) := by decide +kernel
theorem dL_law_159 : decode cL_law 159 = .ok (.iconst 1, 1) := by decide +kernel
theorem dL_law_160 : decode cL_law 160 = .ok (.istore 6, 2) := by decide +kernel
theorem dL_law_162 : decode cL_law 162 = .ok (.iinc 5 1, 3) := by decide +kernel
theorem dL_law_165 : decode cL_law 165 = .ok (.aload_n 1, 1) := by decide +kernel
theorem dL_law_166 : decode cL_law 166 = .ok (.iload 8, 2) := by decide +kernel
theorem dL_law_168 : decode cL_law 168 = .ok (.iload 9, 2) := by decide +kernel
theorem dL_law_170 : decode cL_law 170 = .ok (.invokevirtual 118, 3) := by decide +kernel
theorem dL_law_173 : decode cL_law 173 = .ok (.iload 4, 2) := by decide +kernel
theorem dL_law_175 : decode cL_law 175 = .ok (.iconst 1, 1) := by decide +kernel
theorem dL_law_176 : decode cL_law 176 = .ok (.iadd, 1) := by decide +kernel
theorem dL_law_177 : decode cL_law 177 = .ok (.if_icmp .eq 5, 3) := by decide +kernel
theorem dL_law_180 : decode cL_law 180 = .ok (.iconst 0, 1) := by decide +kernel
theorem dL_law_181 : decode cL_law 181 = .ok (.ireturn, 1) := by decide +kernel
theorem dL_law_182 : decode cL_law 182 = .ok (.iinc 9 1, 3) := by decide +kernel
theorem dL_law_185 : decode cL_law 185 = .ok (.goto (-63), 3) := by decide +kernel
theorem dL_law_188 : decode cL_law 188 = .ok (.iinc 8 1, 3) := by decide +kernel
theorem dL_law_191 : decode cL_law 191 = .ok (.goto (-80), 3) := by decide +kernel
theorem dL_law_194 : decode cL_law 194 = .ok (.aload 7, 2) := by decide +kernel
theorem dL_law_196 : decode cL_law 196 = .ok (.astore_n 3, 1) := by decide +kernel
theorem dL_law_197 : decode cL_law 197 = .ok (.iload 4, 2) := by decide +kernel
theorem dL_law_199 : decode cL_law 199 = .ok (.iload 6, 2) := by decide +kernel
theorem dL_law_201 : decode cL_law 201 = .ok (.ifCond .eq 7, 3) := by decide +kernel
theorem dL_law_204 : decode cL_law 204 = .ok (.iconst 1, 1) := by decide +kernel
theorem dL_law_205 : decode cL_law 205 = .ok (.goto 4, 3) := by decide +kernel
theorem dL_law_208 : decode cL_law 208 = .ok (.iconst 0, 1) := by decide +kernel
theorem dL_law_209 : decode cL_law 209 = .ok (.iadd, 1) := by decide +kernel
theorem dL_law_210 : decode cL_law 210 = .ok (.istore 4, 2) := by decide +kernel
theorem dL_law_212 : decode cL_law 212 = .ok (.goto (-119), 3) := by decide +kernel
theorem dL_law_215 : decode cL_law 215 = .ok (.aload_n 1, 1) := by decide +kernel
theorem dL_law_216 : decode cL_law 216 = .ok (.invokevirtual 87, 3) := by decide +kernel
theorem dL_law_219 : decode cL_law 219 = .ok (.iload 5, 2) := by decide +kernel
theorem dL_law_221 : decode cL_law 221 = .ok (.if_icmp .ne 12, 3) := by decide +kernel
theorem dL_law_224 : decode cL_law 224 = .ok (.aload_n 1, 1) := by decide +kernel
theorem dL_law_225 : decode cL_law 225 = .ok (.invokevirtual 122, 3) := by decide +kernel
theorem dL_law_228 : decode cL_law 228 = .ok (.iload 4, 2) := by decide +kernel
theorem dL_law_230 : decode cL_law 230 = .ok (.if_icmp .eq 5, 3) := by decide +kernel
theorem dL_law_233 : decode cL_law 233 = .ok (.iconst 0, 1) := by decide +kernel
theorem dL_law_234 : decode cL_law 234 = .ok (.ireturn, 1) := by decide +kernel
theorem dL_law_235 : decode cL_law 235 = .ok (.aload_n 1, 1) := by decide +kernel
theorem dL_law_236 : decode cL_law 236 = .ok (.invokestatic 125, 3) := by decide +kernel
theorem dL_law_239 : decode cL_law 239 = .ok (.astore 7, 2) := by decide +kernel
theorem dL_law_241 : decode cL_law 241 = .ok (.aload 7, 2) := by decide +kernel
theorem dL_law_243 : decode cL_law 243 = .ok (.astore 8, 2) := by decide +kernel
theorem dL_law_245 : decode cL_law 245 = .ok (.aload 8, 2) := by decide +kernel
theorem dL_law_247 : decode cL_law 247 = .ok (.arraylength, 1) := by decide +kernel
theorem dL_law_248 : decode cL_law 248 = .ok (.istore 9, 2) := by decide +kernel
theorem dL_law_250 : decode cL_law 250 = .ok (.iconst 0, 1) := by decide +kernel
theorem dL_law_251 : decode cL_law 251 = .ok (.istore 10, 2) := by decide +kernel
theorem dL_law_253 : decode cL_law 253 = .ok (.iload 10, 2) := by decide +kernel
theorem dL_law_255 : decode cL_law 255 = .ok (.iload 9, 2) := by decide +kernel
theorem dL_law_257 : decode cL_law 257 = .ok (.if_icmp .ge 76, 3) := by decide +kernel
theorem dL_law_260 : decode cL_law 260 = .ok (.aload 8, 2) := by decide +kernel
theorem dL_law_262 : decode cL_law 262 = .ok (.iload 10, 2) := by decide +kernel
theorem dL_law_264 : decode cL_law 264 = .ok (.iaload, 1) := by decide +kernel
theorem dL_law_265 : decode cL_law 265 = .ok (.istore 11, 2) := by decide +kernel
theorem dL_law_267 : decode cL_law 267 = .ok (.aload_n 1, 1) := by decide +kernel
theorem dL_law_268 : decode cL_law 268 = .ok (.iload 11, 2) := by decide +kernel
theorem dL_law_270 : decode cL_law 270 = .ok (.invokevirtual 90, 3) := by decide +kernel
theorem dL_law_273 : decode cL_law 273 = .ok (.aload_n 3, 1) := by decide +kernel
theorem dL_law_274 : decode cL_law 274 = .ok (.iload 11, 2) := by decide +kernel
theorem dL_law_276 : decode cL_law 276 = .ok (.iaload, 1) := by decide +kernel
theorem dL_law_277 : decode cL_law 277 = .ok (.if_icmp .eq 5, 3) := by decide +kernel
theorem dL_law_280 : decode cL_law 280 = .ok (.iconst 0, 1) := by decide +kernel
theorem dL_law_281 : decode cL_law 281 = .ok (.ireturn, 1) := by decide +kernel
theorem dL_law_282 : decode cL_law 282 = .ok (.iconst 0, 1) := by decide +kernel
theorem dL_law_283 : decode cL_law 283 = .ok (.istore 12, 2) := by decide +kernel
theorem dL_law_285 : decode cL_law 285 = .ok (.iload 12, 2) := by decide +kernel
theorem dL_law_287 : decode cL_law 287 = .ok (.aload_n 1, 1) := by decide +kernel
theorem dL_law_288 : decode cL_law 288 = .ok (.invokevirtual 80, 3) := by decide +kernel
theorem dL_law_291 : decode cL_law 291 = .ok (.if_icmp .ge 36, 3) := by decide +kernel
theorem dL_law_294 : decode cL_law 294 = .ok (.aload_n 3, 1) := by decide +kernel
theorem dL_law_295 : decode cL_law 295 = .ok (.iload 11, 2) := by decide +kernel
theorem dL_law_297 : decode cL_law 297 = .ok (.iaload, 1) := by decide +kernel
theorem dL_law_298 : decode cL_law 298 = .ok (.iload 12, 2) := by decide +kernel
theorem dL_law_300 : decode cL_law 300 = .ok (.invokestatic 114, 3) := by decide +kernel
theorem dL_law_303 : decode cL_law 303 = .ok (.ifCond .ne 18, 3) := by decide +kernel
theorem dL_law_306 : decode cL_law 306 = .ok (.aload_n 1, 1) := by decide +kernel
theorem dL_law_307 : decode cL_law 307 = .ok (.iload 11, 2) := by decide +kernel
theorem dL_law_309 : decode cL_law 309 = .ok (.iload 12, 2) := by decide +kernel
theorem dL_law_311 : decode cL_law 311 = .ok (.invokevirtual 118, 3) := by decide +kernel
theorem dL_law_314 : decode cL_law 314 = .ok (.bipush (-2), 2) := by decide +kernel
theorem dL_law_316 : decode cL_law 316 = .ok (.if_icmp .eq 5, 3) := by decide +kernel
theorem dL_law_319 : decode cL_law 319 = .ok (.iconst 0, 1) := by decide +kernel
theorem dL_law_320 : decode cL_law 320 = .ok (.ireturn, 1) := by decide +kernel
theorem dL_law_321 : decode cL_law 321 = .ok (.iinc 12 1, 3) := by decide +kernel
theorem dL_law_324 : decode cL_law 324 = .ok (.goto (-39), 3) := by decide +kernel
theorem dL_law_327 : decode cL_law 327 = .ok (.iinc 10 1, 3) := by decide +kernel
theorem dL_law_330 : decode cL_law 330 = .ok (.goto (-77), 3) := by decide +kernel
theorem dL_law_333 : decode cL_law 333 = .ok (.aload_n 1, 1) := by decide +kernel
theorem dL_law_334 : decode cL_law 334 = .ok (.aload 7, 2) := by decide +kernel
theorem dL_law_336 : decode cL_law 336 = .ok (.aload_n 3, 1) := by decide +kernel
theorem dL_law_337 : decode cL_law 337 = .ok (.invokestatic 129, 3) := by decide +kernel
theorem dL_law_340 : decode cL_law 340 = .ok (.ifCond .eq 28, 3) := by decide +kernel
theorem dL_law_343 : decode cL_law 343 = .ok (.aload_n 1, 1) := by decide +kernel
theorem dL_law_344 : decode cL_law 344 = .ok (.bipush 99, 2) := by decide +kernel
theorem dL_law_346 : decode cL_law 346 = .ok (.invokevirtual 90, 3) := by decide +kernel
theorem dL_law_349 : decode cL_law 349 = .ok (.iconst (-1), 1) := by decide +kernel
theorem dL_law_350 : decode cL_law 350 = .ok (.if_icmp .ne 18, 3) := by decide +kernel
theorem dL_law_353 : decode cL_law 353 = .ok (.aload_n 1, 1) := by decide +kernel
theorem dL_law_354 : decode cL_law 354 = .ok (.sipush 140, 3) := by decide +kernel
theorem dL_law_357 : decode cL_law 357 = .ok (.invokevirtual 90, 3) := by decide +kernel
theorem dL_law_360 : decode cL_law 360 = .ok (.iconst (-1), 1) := by decide +kernel
theorem dL_law_361 : decode cL_law 361 = .ok (.if_icmp .ne 7, 3) := by decide +kernel
theorem dL_law_364 : decode cL_law 364 = .ok (.iconst 1, 1) := by decide +kernel
theorem dL_law_365 : decode cL_law 365 = .ok (.goto 4, 3) := by decide +kernel
theorem dL_law_368 : decode cL_law 368 = .ok (.iconst 0, 1) := by decide +kernel
theorem dL_law_369 : decode cL_law 369 = .ok (.ireturn, 1) := by decide +kernel
section LAW
variable {p : Program} {l : Launch} {e : Env} {s : State} {m : MethodId} {b : Nat} {below : List Frame} {meth : Method} {c : Code}
variable {g : Gh} {Lx : Nat × (Nat → Int32)} {aC : Nat → Nat} {w : Wd}
set_option maxHeartbeats 8000000 in
set_option maxRecDepth 100000 in
theorem w_lawA (X : AmC p s m #[.ref b] meth c cL_law 13 RL g) (hZ : ZX Lx (AS s) g s s.heap) (hA : ∀ k, 1000 ≤ k → aC k = g.2.2 k) {wz : Wd} (hF : f_L_lawA w = some wz)
    (J : ∀ (H : Heap) (locs : List Loc) (ls : Array Slot), LW g (AS s) ([] ++ zcells zC (gW g aC) wz) s.heap H locs → lv_has ls 13 [(0, .ref b), (1, .ref (aC 0))] → W p l e room_1 s m #[.ref b] below meth c H locs 100 20000 (lw_Z below #[.ref b] s) (F0 m 42 ls [])) : ∀ (H : Heap) (locs : List Loc) (ls : Array Slot), LW g (AS s) ([] ++ zcells zC (gW g aC) w) s.heap H locs → lv_has ls 13 [(0, .ref b), (1, .ref (aC 0))] → W p l e room_1 s m #[.ref b] below meth c H locs 100 20000 (lw_Z below #[.ref b] s) (F0 m 8 ls []) := by
  intro H locs ls hL hl
  have hx := X.1
  have hb := X.2.1
  have hown := X.2.2.2.1
  have ht := X.2.2.2.2.1
  unfold f_L_lawA at hF
  refine lv_aload_n hx hb dL_law_8 rfl (lv_at hl 1 rfl) ?_
  refine y_C (As := []) (rest := []) X hZ hA [] hL (c_X9_factCount (l := l) (g := gW g aC) (w := w) (k0 := 0) rfl rfl) tw_3_9 ms_X9_factCount im_X9_factCount cn_9 ⟨Nat.le_of_ble_eq_true rfl, Nat.le_of_ble_eq_true rfl⟩ rfl rfl hl.1 (Nat.le_of_ble_eq_true rfl) dL_law_9 ⟨(by show _ ≤ 600086; omega), (by show _ ≤ 7301442; omega)⟩ rfl (fun H locs hL => ?_)
  refine lv_if_ne (tgt := 40) hx hb dL_law_12 (by decide) (fun c1 => ?_) (fun c1 => ?_)
  · replace hF := ifp (c1) hF
    refine lv_iconst (v := (0 : Int32)) hx hb dL_law_40 (by decide) ?_
    cases hF
  · replace hF := ifn (fun q => q c1) hF
    refine lv_aload_n hx hb dL_law_15 rfl (lv_at hl 1 rfl) ?_
    refine lv_iconst (v := (0 : Int32)) hx hb dL_law_16 (by decide) ?_
    obtain ⟨x2, hx2, hF⟩ := ob hF
    refine y_C (As := [.int (0 : Int32)]) (rest := []) X hZ hA [] hL (c_X9_pointsTo (l := l) (g := gW g aC) (w := w) (k0 := 0) (v_location := (0 : Int32)) hx2 rfl) tw_3_17 ms_X9_pointsTo im_X9_pointsTo cn_9 ⟨Nat.le_of_ble_eq_true rfl, Nat.le_of_ble_eq_true rfl⟩ rfl rfl hl.1 (Nat.le_of_ble_eq_true rfl) dL_law_17 ⟨(by show _ ≤ 600086; omega), (by show _ ≤ 7301442; omega)⟩ rfl (fun H locs hL => ?_)
    refine lv_iconst (v := (-1 : Int32)) hx hb dL_law_20 (by decide) ?_
    refine lv_icmp_ne (tgt := 40) hx hb dL_law_21 (by decide) (fun c3 => ?_) (fun c3 => ?_)
    · replace hF := ifp (c3) hF
      refine lv_iconst (v := (0 : Int32)) hx hb dL_law_40 (by decide) ?_
      cases hF
    · replace hF := ifn (fun q => q c3) hF
      refine lv_aload_n hx hb dL_law_24 rfl (lv_at hl 1 rfl) ?_
      obtain ⟨x4, hx4, hF⟩ := ob hF
      refine y_C (As := []) (rest := []) X hZ hA [] hL (c_X9_condensedNodeCount (l := l) (g := gW g aC) (w := w) (k0 := 0) hx4 rfl) tw_3_39 ms_X9_condensedNodeCount im_X9_condensedNodeCount cn_9 ⟨Nat.le_of_ble_eq_true rfl, Nat.le_of_ble_eq_true rfl⟩ rfl rfl hl.1 (Nat.le_of_ble_eq_true rfl) dL_law_25 ⟨(by show _ ≤ 600086; omega), (by show _ ≤ 7301442; omega)⟩ rfl (fun H locs hL => ?_)
      refine lv_if_ne (tgt := 40) hx hb dL_law_28 (by decide) (fun c5 => ?_) (fun c5 => ?_)
      · replace hF := ifp (c5) hF
        refine lv_iconst (v := (0 : Int32)) hx hb dL_law_40 (by decide) ?_
        cases hF
      · replace hF := ifn (fun q => q c5) hF
        refine lv_aload_n hx hb dL_law_31 rfl (lv_at hl 1 rfl) ?_
        refine lv_iconst (v := (1 : Int32)) hx hb dL_law_32 (by decide) ?_
        obtain ⟨x6, hx6, hF⟩ := ob hF
        refine y_C (As := [.int (1 : Int32)]) (rest := []) X hZ hA [] hL (c_X9_parse (l := l) (g := gW g aC) (w := x4.2) (k0 := 0) (v_length := (1 : Int32)) hx6 rfl) tw_2_77 ms_X9_parse im_X9_parse cn_9 ⟨Nat.le_of_ble_eq_true rfl, Nat.le_of_ble_eq_true rfl⟩ rfl rfl hl.1 (Nat.le_of_ble_eq_true rfl) dL_law_33 ⟨(by show _ ≤ 600086; omega), (by show _ ≤ 7301442; omega)⟩ rfl (fun H locs hL => ?_)
        refine lv_iconst (v := (-1 : Int32)) hx hb dL_law_36 (by decide) ?_
        refine lv_icmp_eq (tgt := 42) hx hb dL_law_37 (by decide) (fun c7 => ?_) (fun c7 => ?_)
        · replace hF := ifp (c7) hF
          obtain rfl := se1 hF
          exact J _ _ _ hL (lv_sub hl [0, 1] rfl)
        · replace hF := ifn (c7) hF
          refine lv_iconst (v := (0 : Int32)) hx hb dL_law_40 (by decide) ?_
          cases hF
set_option maxHeartbeats 8000000 in
set_option maxRecDepth 100000 in
theorem w_lawB (X : AmC p s m #[.ref b] meth c cL_law 13 RL g) (hr : meth.sig.returnType = ret) (hZ : ZX Lx (AS s) g s s.heap) (hA : ∀ k, 1000 ≤ k → aC k = g.2.2 k) {v2 : Int32} (hF : f_L_lawB w v2 = some ()) : ∀ (H : Heap) (locs : List Loc) (ls : Array Slot), LW g (AS s) ([] ++ zcells zC (gW g aC) w) s.heap H locs → lv_has ls 13 [(0, .ref b), (1, .ref (aC 0)), (2, .int v2)] → W p l e room_1 s m #[.ref b] below meth c H locs 500 1030000 (lw_Z below #[.ref b] s) (F0 m 51 ls []) := by
  intro H locs ls hL hl
  have hx := X.1
  have hb := X.2.1
  have hown := X.2.2.2.1
  have ht := X.2.2.2.2.1
  unfold f_L_lawB at hF
  refine lv_iload_n hx hb dL_law_51 rfl (lv_at hl 2 rfl) ?_
  refine lv_iconst (v := (3 : Int32)) hx hb dL_law_52 (by decide) ?_
  refine lv_icmp_lt (tgt := 76) hx hb dL_law_53 (by decide) (fun c1 => ?_) (fun c1 => ?_)
  · replace hF := ifp (c1) hF
    refine lv_iconst (v := (0 : Int32)) hx hb dL_law_76 (by decide) ?_
    cases hF
  · replace hF := ifn (c1) hF
    refine lv_iload_n hx hb dL_law_56 rfl (lv_at hl 2 rfl) ?_
    refine lv_aload_n hx hb dL_law_57 rfl (lv_at hl 1 rfl) ?_
    obtain ⟨x2, hx2, hF⟩ := ob hF
    refine y_C (As := []) (rest := [.int v2]) X hZ hA [] hL (c_X9_constraintCount (l := l) (g := gW g aC) (w := w) (k0 := 0) hx2 rfl) tw_3_1 ms_X9_constraintCount im_X9_constraintCount cn_9 ⟨Nat.le_of_ble_eq_true rfl, Nat.le_of_ble_eq_true rfl⟩ rfl rfl hl.1 (Nat.le_of_ble_eq_true rfl) dL_law_58 ⟨(by show _ ≤ 600086; omega), (by show _ ≤ 7301442; omega)⟩ rfl (fun H locs hL => ?_)
    refine lv_icmp_ne (tgt := 76) hx hb dL_law_61 (by decide) (fun c3 => ?_) (fun c3 => ?_)
    · replace hF := ifp (c3) hF
      refine lv_iconst (v := (0 : Int32)) hx hb dL_law_76 (by decide) ?_
      cases hF
    · replace hF := ifn (fun q => q c3) hF
      refine lv_aload_n hx hb dL_law_64 rfl (lv_at hl 1 rfl) ?_
      obtain ⟨x4, hx4, hF⟩ := ob hF
      refine y_C (As := []) (rest := []) X hZ hA [] hL (c_X9_enabledConstraints (l := l) (g := gW g aC) (w := w) (k0 := 0) hx4 rfl) tw_3_5 ms_X9_enabledConstraints im_X9_enabledConstraints cn_9 ⟨Nat.le_of_ble_eq_true rfl, Nat.le_of_ble_eq_true rfl⟩ rfl rfl hl.1 (Nat.le_of_ble_eq_true rfl) dL_law_65 ⟨(by show _ ≤ 600086; omega), (by show _ ≤ 7301442; omega)⟩ rfl (fun H locs hL => ?_)
      refine lv_iconst (v := (1 : Int32)) hx hb dL_law_68 (by decide) ?_
      refine lv_iload_n hx hb dL_law_69 rfl (lv_at hl 2 rfl) ?_
      refine w_ishl hx hb dL_law_70 ?_
      refine lv_iconst (v := (1 : Int32)) hx hb dL_law_71 (by decide) ?_
      refine lv_isub hx hb dL_law_72 ?_
      refine lv_icmp_eq (tgt := 78) hx hb dL_law_73 (by decide) (fun c5 => ?_) (fun c5 => ?_)
      · replace hF := ifp (c5) hF
        refine lv_sipush (v := (140 : Int32)) hx hb dL_law_78 (by decide) ?_
        refine x_nint X hL (N := 140) (by decide) (by decide) (by decide) (by show 500 + 1 ≤ 600086; omega) (by show 1030000 + 140 ≤ 7301442; omega) dL_law_81 (fun q3 H hL => ?_)
        have hL : LW g (AS s) ([(q3, ia g 140 (fun _ => 0))] ++ zcells zC (gW g aC) w) s.heap H locs := hL
        refine lv_astore_n (lv' := [(3, .ref q3), (0, .ref b), (1, .ref (aC 0)), (2, .int v2)]) hx hb dL_law_83 rfl hl (by decide) rfl (fun ls hl => ?_)
        refine lv_iconst (v := (0 : Int32)) hx hb dL_law_84 (by decide) ?_
        refine lv_istore (lv' := [(4, .int (0 : Int32)), (3, .ref q3), (0, .ref b), (1, .ref (aC 0)), (2, .int v2)]) hx hb dL_law_85 hl (by decide) rfl (fun ls hl => ?_)
        refine lv_iconst (v := (0 : Int32)) hx hb dL_law_87 (by decide) ?_
        refine lv_istore (lv' := [(5, .int (0 : Int32)), (4, .int (0 : Int32)), (3, .ref q3), (0, .ref b), (1, .ref (aC 0)), (2, .int v2)]) hx hb dL_law_88 hl (by decide) rfl (fun ls hl => ?_)
        refine lv_iconst (v := (1 : Int32)) hx hb dL_law_90 (by decide) ?_
        refine lv_istore (lv' := [(6, .int (1 : Int32)), (5, .int (0 : Int32)), (4, .int (0 : Int32)), (3, .ref q3), (0, .ref b), (1, .ref (aC 0)), (2, .int v2)]) hx hb dL_law_91 hl (by decide) rfl (fun ls hl => ?_)
        obtain ⟨rq6, hrq6, hF⟩ := ob hF
        have Jq6 : ∀ (a3_93 : Nat) (H : Heap) (locs : List Loc) (ls : Array Slot), LW g (AS s) ([(a3_93, ia g 140 rq6.2.2)] ++ zcells zC (gW g aC) w) s.heap H locs → lv_has ls 13 [(1, .ref (aC 0)), (3, .ref a3_93), (4, .int rq6.1), (5, .int rq6.2.1)] → W p l e room_1 s m #[.ref b] below meth c H locs (((500 + 1) + 1 * 600)) (((1030000 + 140) + 140 * 600)) (lw_Z below #[.ref b] s) (F0 m 215 ls []) := by
          intro a3_93 H locs ls hL hl
          refine lv_aload_n hx hb dL_law_215 rfl (lv_at hl 0 rfl) ?_
          refine y_C (As := []) (rest := []) X hZ hA [(a3_93, ia g 140 rq6.2.2)] hL (c_X9_factCount (l := l) (g := gW g aC) (w := w) (k0 := 0) rfl rfl) tw_3_9 ms_X9_factCount im_X9_factCount cn_9 ⟨Nat.le_of_ble_eq_true rfl, Nat.le_of_ble_eq_true rfl⟩ rfl rfl hl.1 (Nat.le_of_ble_eq_true rfl) dL_law_216 ⟨(by show _ ≤ 600086; omega), (by show _ ≤ 7301442; omega)⟩ rfl (fun H locs hL => ?_)
          refine lv_iload hx hb dL_law_219 (lv_at hl 3 rfl) ?_
          refine lv_icmp_ne (tgt := 233) hx hb dL_law_221 (by decide) (fun c21 => ?_) (fun c21 => ?_)
          · replace hF := ifp (c21) hF
            refine lv_iconst (v := (0 : Int32)) hx hb dL_law_233 (by decide) ?_
            cases hF
          · replace hF := ifn (fun q => q c21) hF
            refine lv_aload_n hx hb dL_law_224 rfl (lv_at hl 0 rfl) ?_
            refine y_C (As := []) (rest := []) X hZ hA [(a3_93, ia g 140 rq6.2.2)] hL (c_X9_roundCount (l := l) (g := gW g aC) (w := w) (k0 := 0) rfl rfl) tw_3_13 ms_X9_roundCount im_X9_roundCount cn_9 ⟨Nat.le_of_ble_eq_true rfl, Nat.le_of_ble_eq_true rfl⟩ rfl rfl hl.1 (Nat.le_of_ble_eq_true rfl) dL_law_225 ⟨(by show _ ≤ 600086; omega), (by show _ ≤ 7301442; omega)⟩ rfl (fun H locs hL => ?_)
            refine lv_iload hx hb dL_law_228 (lv_at hl 2 rfl) ?_
            refine lv_icmp_eq (tgt := 235) hx hb dL_law_230 (by decide) (fun c22 => ?_) (fun c22 => ?_)
            · replace hF := ifp (c22) hF
              refine lv_aload_n hx hb dL_law_235 rfl (lv_at hl 0 rfl) ?_
              obtain ⟨x23, hx23, hF⟩ := ob hF
              refine x_callLS (As := [.ref (aC 0)]) (rest := []) X hZ [(a3_93, ia g 140 rq6.2.2)] (zcells zC (gW g aC) w) hL (c_L_locations hx23 hA) tw_4_153 ms_L_locations tw_4_154 ⟨Nat.le_of_ble_eq_true rfl, Nat.le_of_ble_eq_true rfl⟩ rfl rfl hl.1 (Nat.le_of_ble_eq_true rfl) dL_law_236 ⟨(by show _ ≤ 600086; omega), (by show _ ≤ 7301442; omega)⟩ (fun v nb H locs hB hL => ?_)
              obtain ⟨qa, rfl, rfl⟩ := hB
              have hL : LW g (AS s) ([(a3_93, ia g 140 rq6.2.2), (qa, ia g x23.1 x23.2)] ++ zcells zC (gW g aC) w) s.heap H locs := hL
              refine lv_astore (lv' := [(7, .ref qa), (1, .ref (aC 0)), (3, .ref a3_93), (4, .int rq6.1), (5, .int rq6.2.1)]) hx hb dL_law_239 hl (by decide) rfl (fun ls hl => ?_)
              refine lv_aload hx hb dL_law_241 (lv_at hl 0 rfl) ?_
              refine lv_astore (lv' := [(8, .ref qa), (7, .ref qa), (1, .ref (aC 0)), (3, .ref a3_93), (4, .int rq6.1), (5, .int rq6.2.1)]) hx hb dL_law_243 hl (by decide) rfl (fun ls hl => ?_)
              refine lv_aload hx hb dL_law_245 (lv_at hl 0 rfl) ?_
              refine x_alenI (k := 1) X hL rfl dL_law_247 ?_
              refine lv_istore (lv' := [(9, .int (nI x23.1)), (8, .ref qa), (7, .ref qa), (1, .ref (aC 0)), (3, .ref a3_93), (4, .int rq6.1), (5, .int rq6.2.1)]) hx hb dL_law_248 hl (by decide) rfl (fun ls hl => ?_)
              refine lv_iconst (v := (0 : Int32)) hx hb dL_law_250 (by decide) ?_
              refine lv_istore (lv' := [(10, .int (0 : Int32)), (9, .int (nI x23.1)), (8, .ref qa), (7, .ref qa), (1, .ref (aC 0)), (3, .ref a3_93), (4, .int rq6.1), (5, .int rq6.2.1)]) hx hb dL_law_251 hl (by decide) rfl (fun ls hl => ?_)
              obtain ⟨rq24, hrq24, hF⟩ := ob hF
              have Jq24 : ∀ (H : Heap) (locs : List Loc) (ls : Array Slot), LW g (AS s) ([(a3_93, ia g 140 rq6.2.2), (qa, ia g x23.1 x23.2)] ++ zcells zC (gW g aC) w) s.heap H locs → lv_has ls 13 [(1, .ref (aC 0)), (3, .ref a3_93), (7, .ref qa)] → W p l e room_1 s m #[.ref b] below meth c H locs ((((500 + 1) + 1 * 600) + 1)) ((((1030000 + 140) + 140 * 600) + 2000)) (lw_Z below #[.ref b] s) (F0 m 333 ls []) := by
                intro H locs ls hL hl
                refine lv_aload_n hx hb dL_law_333 rfl (lv_at hl 0 rfl) ?_
                refine lv_aload hx hb dL_law_334 (lv_at hl 2 rfl) ?_
                refine lv_aload_n hx hb dL_law_336 rfl (lv_at hl 1 rfl) ?_
                obtain ⟨u37, hu37, hF⟩ := ob hF
                obtain ⟨x38, hx38, hF⟩ := ob hF
                have hL : LW g (AS s) ([(qa, ia g x23.1 x23.2), (a3_93, ia g 140 rq6.2.2)] ++ zcells zC (gW g aC) w) s.heap H locs := hL.perm (List.Perm.swap _ _ _)
                refine x_callLS (As := [.ref (aC 0), .ref qa, .ref a3_93]) (rest := []) X hZ [] ([(qa, ia g x23.1 x23.2), (a3_93, ia g 140 rq6.2.2)] ++ zcells zC (gW g aC) w) hL (c_L_areEdges hx38 (gN_s hu37) (Nat.mul_le_mul (gN_s hu37) (gN_s hu37)) hA) tw_5_19 ms_L_areEdges tw_5_20 ⟨Nat.le_of_ble_eq_true rfl, Nat.le_of_ble_eq_true rfl⟩ rfl rfl hl.1 (Nat.le_of_ble_eq_true rfl) dL_law_337 ⟨(by show _ ≤ 600086; omega), (by show _ ≤ 7301442; omega)⟩ (fun v nb H locs hB hL => ?_)
                obtain ⟨rfl, rfl⟩ := hB
                have hL : LW g (AS s) ([(qa, ia g x23.1 x23.2), (a3_93, ia g 140 rq6.2.2)] ++ zcells zC (gW g aC) x38.2) s.heap H locs := hL
                refine lv_if_eq (tgt := 368) hx hb dL_law_340 (by decide) (fun c39 => ?_) (fun c39 => ?_)
                · replace hF := ifp (c39) hF
                  refine lv_iconst (v := (0 : Int32)) hx hb dL_law_368 (by decide) ?_
                  cases hF
                · replace hF := ifn (c39) hF
                  refine lv_aload_n hx hb dL_law_343 rfl (lv_at hl 0 rfl) ?_
                  refine lv_bipush (v := (99 : Int32)) hx hb dL_law_344 (by decide) ?_
                  obtain ⟨x40, hx40, hF⟩ := ob hF
                  refine y_C (As := [.int (99 : Int32)]) (rest := []) X hZ hA [(qa, ia g x23.1 x23.2), (a3_93, ia g 140 rq6.2.2)] hL (c_X9_pointsTo (l := l) (g := gW g aC) (w := x38.2) (k0 := 0) (v_location := (99 : Int32)) hx40 rfl) tw_3_17 ms_X9_pointsTo im_X9_pointsTo cn_9 ⟨Nat.le_of_ble_eq_true rfl, Nat.le_of_ble_eq_true rfl⟩ rfl rfl hl.1 (Nat.le_of_ble_eq_true rfl) dL_law_346 ⟨(by show _ ≤ 600086; omega), (by show _ ≤ 7301442; omega)⟩ rfl (fun H locs hL => ?_)
                  refine lv_iconst (v := (-1 : Int32)) hx hb dL_law_349 (by decide) ?_
                  refine lv_icmp_ne (tgt := 368) hx hb dL_law_350 (by decide) (fun c41 => ?_) (fun c41 => ?_)
                  · replace hF := ifp (c41) hF
                    refine lv_iconst (v := (0 : Int32)) hx hb dL_law_368 (by decide) ?_
                    cases hF
                  · replace hF := ifn (fun q => q c41) hF
                    refine lv_aload_n hx hb dL_law_353 rfl (lv_at hl 0 rfl) ?_
                    refine lv_sipush (v := (140 : Int32)) hx hb dL_law_354 (by decide) ?_
                    obtain ⟨x42, hx42, hF⟩ := ob hF
                    refine y_C (As := [.int (140 : Int32)]) (rest := []) X hZ hA [(qa, ia g x23.1 x23.2), (a3_93, ia g 140 rq6.2.2)] hL (c_X9_pointsTo (l := l) (g := gW g aC) (w := x38.2) (k0 := 0) (v_location := (140 : Int32)) hx42 rfl) tw_3_17 ms_X9_pointsTo im_X9_pointsTo cn_9 ⟨Nat.le_of_ble_eq_true rfl, Nat.le_of_ble_eq_true rfl⟩ rfl rfl hl.1 (Nat.le_of_ble_eq_true rfl) dL_law_357 ⟨(by show _ ≤ 600086; omega), (by show _ ≤ 7301442; omega)⟩ rfl (fun H locs hL => ?_)
                    refine lv_iconst (v := (-1 : Int32)) hx hb dL_law_360 (by decide) ?_
                    refine lv_icmp_ne (tgt := 368) hx hb dL_law_361 (by decide) (fun c43 => ?_) (fun c43 => ?_)
                    · replace hF := ifp (c43) hF
                      refine lv_iconst (v := (0 : Int32)) hx hb dL_law_368 (by decide) ?_
                      cases hF
                    · replace hF := ifn (fun q => q c43) hF
                      refine lv_iconst (v := (1 : Int32)) hx hb dL_law_364 (by decide) ?_
                      refine lv_goto (tgt := 369) hx hb dL_law_365 (by decide) ?_
                      refine va_forget (fun q hq => hL.2.2.1.2.2 q hq) ?_
                      refine W.widen (k := 600086) (n := 7301442) (by omega) (by omega) ?_
                      exact lw_ret hx hb hr X.2.2.2.2.2.2.2 dL_law_369
              have Lq24 : ∀ (kf : Nat) (sq24 : Int32), lp (b_L_lawB_253 x23 w rq6) kf sq24 = some rq24 → ∀ (H : Heap) (locs : List Loc) (ls : Array Slot), LW g (AS s) ([(a3_93, ia g 140 rq6.2.2), (qa, ia g x23.1 x23.2)] ++ zcells zC (gW g aC) w) s.heap H locs → lv_has ls 13 [(1, .ref (aC 0)), (3, .ref a3_93), (7, .ref qa), (8, .ref qa), (9, .int (nI x23.1)), (10, .int sq24)] → W p l e room_1 s m #[.ref b] below meth c H locs ((((500 + 1) + 1 * 600) + 1)) ((((1030000 + 140) + 140 * 600) + 2000)) (lw_Z below #[.ref b] s) (F0 m 253 ls []) := by
                intro kf
                induction kf with
                | zero => intro sq24 hQ; exact lp_0 hQ
                | succ kf ih =>
                  intro sq24 hQ H locs ls hL hl
                  obtain ⟨bb, hF, hQ⟩ := lp_s hQ
                  unfold b_L_lawB_253 at hF
                  refine lv_iload hx hb dL_law_253 (lv_at hl 5 rfl) ?_
                  refine lv_iload hx hb dL_law_255 (lv_at hl 4 rfl) ?_
                  refine lv_icmp_ge (tgt := 333) hx hb dL_law_257 (by decide) (fun c25 => ?_) (fun c25 => ?_)
                  · replace hF := ifp (c25) hF
                    obtain rfl := se1 hF
                    subst hQ
                    exact Jq24 _ _ _ hL (lv_sub hl [0, 1, 2] rfl)
                  · replace hF := ifn (c25) hF
                    refine lv_aload hx hb dL_law_260 (lv_at hl 3 rfl) ?_
                    refine lv_iload hx hb dL_law_262 (lv_at hl 5 rfl) ?_
                    obtain ⟨x26, hx26, hF⟩ := ob hF
                    refine x_iald (k := 1) X hL rfl hx26 dL_law_264 ?_
                    refine lv_istore (lv' := [(11, .int x26), (1, .ref (aC 0)), (3, .ref a3_93), (7, .ref qa), (8, .ref qa), (9, .int (nI x23.1)), (10, .int sq24)]) hx hb dL_law_265 hl (by decide) rfl (fun ls hl => ?_)
                    refine lv_aload_n hx hb dL_law_267 rfl (lv_at hl 1 rfl) ?_
                    refine lv_iload hx hb dL_law_268 (lv_at hl 0 rfl) ?_
                    obtain ⟨x27, hx27, hF⟩ := ob hF
                    refine y_C (As := [.int x26]) (rest := []) X hZ hA [(a3_93, ia g 140 rq6.2.2), (qa, ia g x23.1 x23.2)] hL (c_X9_pointsTo (l := l) (g := gW g aC) (w := w) (k0 := 0) (v_location := x26) hx27 rfl) tw_3_17 ms_X9_pointsTo im_X9_pointsTo cn_9 ⟨Nat.le_of_ble_eq_true rfl, Nat.le_of_ble_eq_true rfl⟩ rfl rfl hl.1 (Nat.le_of_ble_eq_true rfl) dL_law_270 ⟨(by show _ ≤ 600086; omega), (by show _ ≤ 7301442; omega)⟩ rfl (fun H locs hL => ?_)
                    refine lv_aload_n hx hb dL_law_273 rfl (lv_at hl 2 rfl) ?_
                    refine lv_iload hx hb dL_law_274 (lv_at hl 0 rfl) ?_
                    obtain ⟨x28, hx28, hF⟩ := ob hF
                    refine x_iald (k := 0) X hL rfl hx28 dL_law_276 ?_
                    refine lv_icmp_eq (tgt := 282) hx hb dL_law_277 (by decide) (fun c29 => ?_) (fun c29 => ?_)
                    · replace hF := ifp (c29) hF
                      refine lv_iconst (v := (0 : Int32)) hx hb dL_law_282 (by decide) ?_
                      refine lv_istore (lv' := [(12, .int (0 : Int32)), (11, .int x26), (1, .ref (aC 0)), (3, .ref a3_93), (7, .ref qa), (8, .ref qa), (9, .int (nI x23.1)), (10, .int sq24)]) hx hb dL_law_283 hl (by decide) rfl (fun ls hl => ?_)
                      obtain ⟨rq30, hrq30, hF⟩ := ob hF
                      have Jq30 : ∀ (H : Heap) (locs : List Loc) (ls : Array Slot), LW g (AS s) ([(a3_93, ia g 140 rq6.2.2), (qa, ia g x23.1 x23.2)] ++ zcells zC (gW g aC) w) s.heap H locs → lv_has ls 13 [(1, .ref (aC 0)), (3, .ref a3_93), (7, .ref qa), (8, .ref qa), (9, .int (nI x23.1)), (10, .int sq24)] → W p l e room_1 s m #[.ref b] below meth c H locs ((((500 + 1) + 1 * 600) + 1)) ((((1030000 + 140) + 140 * 600) + 2000)) (lw_Z below #[.ref b] s) (F0 m 327 ls []) := by
                        intro H locs ls hL hl
                        refine lv_iinc (v := (sq24 + (1 : Int32))) (lv' := [(10, .int (sq24 + (1 : Int32))), (1, .ref (aC 0)), (3, .ref a3_93), (7, .ref qa), (8, .ref qa), (9, .int (nI x23.1))]) hx hb dL_law_327 hl (k := 5) rfl rfl (by decide) rfl (fun ls hl => ?_)
                        refine lv_goto (tgt := 253) hx hb dL_law_330 (by decide) ?_
                        obtain rfl := se1 hF
                        exact ih _ hQ _ _ _ hL (lv_sub hl [1, 2, 3, 4, 5, 0] rfl)
                      have Lq30 : ∀ (kf : Nat) (sq30 : Int32), lp (b_L_lawB_285 w rq6 x26) kf sq30 = some rq30 → ∀ (H : Heap) (locs : List Loc) (ls : Array Slot), LW g (AS s) ([(a3_93, ia g 140 rq6.2.2), (qa, ia g x23.1 x23.2)] ++ zcells zC (gW g aC) w) s.heap H locs → lv_has ls 13 [(1, .ref (aC 0)), (3, .ref a3_93), (7, .ref qa), (8, .ref qa), (9, .int (nI x23.1)), (10, .int sq24), (11, .int x26), (12, .int sq30)] → W p l e room_1 s m #[.ref b] below meth c H locs ((((500 + 1) + 1 * 600) + 1)) ((((1030000 + 140) + 140 * 600) + 2000)) (lw_Z below #[.ref b] s) (F0 m 285 ls []) := by
                        intro kf
                        induction kf with
                        | zero => intro sq30 hQ; exact lp_0 hQ
                        | succ kf ih =>
                          intro sq30 hQ H locs ls hL hl
                          obtain ⟨bb, hF, hQ⟩ := lp_s hQ
                          unfold b_L_lawB_285 at hF
                          have J321 : ∀ (H : Heap) (locs : List Loc) (ls : Array Slot), k_L_lawB_321 sq30 = some bb → LW g (AS s) ([(a3_93, ia g 140 rq6.2.2), (qa, ia g x23.1 x23.2)] ++ zcells zC (gW g aC) w) s.heap H locs → lv_has ls 13 [(1, .ref (aC 0)), (3, .ref a3_93), (7, .ref qa), (8, .ref qa), (9, .int (nI x23.1)), (10, .int sq24), (11, .int x26), (12, .int sq30)] → W p l e room_1 s m #[.ref b] below meth c H locs ((((500 + 1) + 1 * 600) + 1)) ((((1030000 + 140) + 140 * 600) + 2000)) (lw_Z below #[.ref b] s) (F0 m 321 ls []) := by
                            intro H locs ls hF hL hl
                            unfold k_L_lawB_321 at hF
                            refine lv_iinc (v := (sq30 + (1 : Int32))) (lv' := [(12, .int (sq30 + (1 : Int32))), (1, .ref (aC 0)), (3, .ref a3_93), (7, .ref qa), (8, .ref qa), (9, .int (nI x23.1)), (10, .int sq24), (11, .int x26)]) hx hb dL_law_321 hl (k := 7) rfl rfl (by decide) rfl (fun ls hl => ?_)
                            refine lv_goto (tgt := 285) hx hb dL_law_324 (by decide) ?_
                            obtain rfl := se1 hF
                            exact ih _ hQ _ _ _ hL (lv_sub hl [1, 2, 3, 4, 5, 6, 7, 0] rfl)
                          refine lv_iload hx hb dL_law_285 (lv_at hl 7 rfl) ?_
                          refine lv_aload_n hx hb dL_law_287 rfl (lv_at hl 0 rfl) ?_
                          obtain ⟨x31, hx31, hF⟩ := ob hF
                          refine y_C (As := []) (rest := [.int sq30]) X hZ hA [(a3_93, ia g 140 rq6.2.2), (qa, ia g x23.1 x23.2)] hL (c_X9_objectCount (l := l) (g := gW g aC) (w := w) (k0 := 0) hx31 rfl) tw_2_237 ms_X9_objectCount im_X9_objectCount cn_9 ⟨Nat.le_of_ble_eq_true rfl, Nat.le_of_ble_eq_true rfl⟩ rfl rfl hl.1 (Nat.le_of_ble_eq_true rfl) dL_law_288 ⟨(by show _ ≤ 600086; omega), (by show _ ≤ 7301442; omega)⟩ rfl (fun H locs hL => ?_)
                          refine lv_icmp_ge (tgt := 327) hx hb dL_law_291 (by decide) (fun c32 => ?_) (fun c32 => ?_)
                          · replace hF := ifp (c32) hF
                            obtain rfl := se1 hF
                            subst hQ
                            exact Jq30 _ _ _ hL (lv_sub hl [0, 1, 2, 3, 4, 5] rfl)
                          · replace hF := ifn (c32) hF
                            refine lv_aload_n hx hb dL_law_294 rfl (lv_at hl 1 rfl) ?_
                            refine lv_iload hx hb dL_law_295 (lv_at hl 6 rfl) ?_
                            obtain ⟨x33, hx33, hF⟩ := ob hF
                            refine x_iald (k := 0) X hL rfl hx33 dL_law_297 ?_
                            refine lv_iload hx hb dL_law_298 (lv_at hl 7 rfl) ?_
                            refine x_callLS (As := [.int x33, .int sq30]) (rest := []) X hZ ([(a3_93, ia g 140 rq6.2.2), (qa, ia g x23.1 x23.2)] ++ zcells zC (gW g aC) w) [] (by rw [List.append_nil]; exact hL) k_has tw_4_150 ms_L_has tw_4_151 ⟨Nat.le_of_ble_eq_true rfl, Nat.le_of_ble_eq_true rfl⟩ rfl rfl hl.1 (Nat.le_of_ble_eq_true rfl) dL_law_300 ⟨(by show _ ≤ 600086; omega), (by show _ ≤ 7301442; omega)⟩ (fun v nb H locs hB hL => ?_)
                            obtain ⟨rfl, rfl⟩ := hB
                            rw [List.append_nil] at hL
                            refine lv_if_ne (tgt := 321) hx hb dL_law_303 (by decide) (fun c34 => ?_) (fun c34 => ?_)
                            · replace hF := ifp (c34) hF
                              exact J321 _ _ _ hF hL (lv_sub hl [0, 1, 2, 3, 4, 5, 6, 7] rfl)
                            · replace hF := ifn (fun q => q c34) hF
                              refine lv_aload_n hx hb dL_law_306 rfl (lv_at hl 0 rfl) ?_
                              refine lv_iload hx hb dL_law_307 (lv_at hl 6 rfl) ?_
                              refine lv_iload hx hb dL_law_309 (lv_at hl 7 rfl) ?_
                              obtain ⟨x35, hx35, hF⟩ := ob hF
                              refine y_C (As := [.int x26, .int sq30]) (rest := []) X hZ hA [(a3_93, ia g 140 rq6.2.2), (qa, ia g x23.1 x23.2)] hL (c_X9_roundOf (l := l) (g := gW g aC) (w := w) (k0 := 0) (v_location := x26) (v_object := sq30) hx35 rfl) tw_3_25 ms_X9_roundOf im_X9_roundOf cn_9 ⟨Nat.le_of_ble_eq_true rfl, Nat.le_of_ble_eq_true rfl⟩ rfl rfl hl.1 (Nat.le_of_ble_eq_true rfl) dL_law_311 ⟨(by show _ ≤ 600086; omega), (by show _ ≤ 7301442; omega)⟩ rfl (fun H locs hL => ?_)
                              refine lv_bipush (v := (-2 : Int32)) hx hb dL_law_314 (by decide) ?_
                              refine lv_icmp_eq (tgt := 321) hx hb dL_law_316 (by decide) (fun c36 => ?_) (fun c36 => ?_)
                              · replace hF := ifp (c36) hF
                                exact J321 _ _ _ hF hL (lv_sub hl [0, 1, 2, 3, 4, 5, 6, 7] rfl)
                              · replace hF := ifn (c36) hF
                                refine lv_iconst (v := (0 : Int32)) hx hb dL_law_319 (by decide) ?_
                                cases hF
                      exact Lq30 _ (0 : Int32) hrq30 _ _ _ hL (lv_sub hl [2, 3, 4, 5, 6, 7, 1, 0] rfl)
                    · replace hF := ifn (c29) hF
                      refine lv_iconst (v := (0 : Int32)) hx hb dL_law_280 (by decide) ?_
                      cases hF
              exact Lq24 _ (0 : Int32) hrq24 _ _ _ hL (lv_sub hl [4, 5, 3, 2, 1, 0] rfl)
            · replace hF := ifn (c22) hF
              refine lv_iconst (v := (0 : Int32)) hx hb dL_law_233 (by decide) ?_
              cases hF
        have Lq6 : ∀ (kf : Nat) (sq6 : Nat × Int32 × Int32 × Int32 × (Nat → Int32)), lp (b_L_lawB_93 w) kf sq6 = some rq6 → ∀ (a3_93 : Nat) (H : Heap) (locs : List Loc) (ls : Array Slot), LW g (AS s) ([(a3_93, ia g 140 sq6.2.2.2.2)] ++ zcells zC (gW g aC) w) s.heap H locs → lv_has ls 13 [(1, .ref (aC 0)), (3, .ref a3_93), (4, .int sq6.2.1), (5, .int sq6.2.2.1), (6, .int sq6.2.2.2.1)] → W p l e room_1 s m #[.ref b] below meth c H locs (((500 + 1) + 1 * sq6.1)) (((1030000 + 140) + 140 * sq6.1)) (lw_Z below #[.ref b] s) (F0 m 93 ls []) := by
          intro kf
          induction kf with
          | zero => intro sq6 hQ; exact lp_0 hQ
          | succ kf ih =>
            intro sq6 hQ a3_93 H locs ls hL hl
            obtain ⟨bb, hF, hQ⟩ := lp_s hQ
            unfold b_L_lawB_93 at hF
            have hg : sq6.1 < 600 := Classical.byContradiction fun z => by rw [if_neg z] at hF; cases hF
            rw [if_pos hg] at hF
            refine lv_iload hx hb dL_law_93 (lv_at hl 4 rfl) ?_
            refine lv_if_eq (tgt := 215) hx hb dL_law_95 (by decide) (fun c7 => ?_) (fun c7 => ?_)
            · replace hF := ifp (c7) hF
              refine W.widen (k := ((500 + 1) + 1 * 600)) (n := ((1030000 + 140) + 140 * 600)) (by omega) (by omega) ?_
              obtain rfl := se1 hF
              subst hQ
              exact Jq6 a3_93 _ _ _ hL (lv_sub hl [0, 1, 2, 3] rfl)
            · replace hF := ifn (c7) hF
              refine lv_aload_n hx hb dL_law_98 rfl (lv_at hl 0 rfl) ?_
              refine lv_aload_n hx hb dL_law_99 rfl (lv_at hl 1 rfl) ?_
              obtain ⟨f8, hf8, hF⟩ := ob hF
              refine x_callLS (As := [.ref (aC 0), .ref a3_93]) (rest := []) X hZ [] ([(a3_93, ia g 140 sq6.2.2.2.2)] ++ zcells zC (gW g aC) w) hL (c_L_round hf8 hA) tw_4_164 ms_L_round tw_4_165 ⟨Nat.le_of_ble_eq_true rfl, Nat.le_of_ble_eq_true rfl⟩ rfl rfl hl.1 (Nat.le_of_ble_eq_true rfl) dL_law_100 ⟨(by show _ ≤ 600086; omega), (by show _ ≤ 7301442; omega)⟩ (fun v nb H locs hB hL => ?_)
              obtain ⟨qn, rfl, rfl⟩ := hB
              have hL : LW g (AS s) ([(qn, ia g 140 f8), (a3_93, ia g 140 sq6.2.2.2.2)] ++ zcells zC (gW g aC) w) s.heap H locs := hL
              refine lv_astore (lv' := [(7, .ref qn), (1, .ref (aC 0)), (3, .ref a3_93), (4, .int sq6.2.1), (5, .int sq6.2.2.1), (6, .int sq6.2.2.2.1)]) hx hb dL_law_103 hl (by decide) rfl (fun ls hl => ?_)
              refine lv_iconst (v := (0 : Int32)) hx hb dL_law_105 (by decide) ?_
              refine lv_istore (lv' := [(6, .int (0 : Int32)), (7, .ref qn), (1, .ref (aC 0)), (3, .ref a3_93), (4, .int sq6.2.1), (5, .int sq6.2.2.1)]) hx hb dL_law_106 hl (by decide) rfl (fun ls hl => ?_)
              refine lv_iconst (v := (0 : Int32)) hx hb dL_law_108 (by decide) ?_
              refine lv_istore (lv' := [(8, .int (0 : Int32)), (6, .int (0 : Int32)), (7, .ref qn), (1, .ref (aC 0)), (3, .ref a3_93), (4, .int sq6.2.1), (5, .int sq6.2.2.1)]) hx hb dL_law_109 hl (by decide) rfl (fun ls hl => ?_)
              obtain ⟨rq9, hrq9, hF⟩ := ob hF
              have Jq9 : ∀ (H : Heap) (locs : List Loc) (ls : Array Slot), LW g (AS s) ([(qn, ia g 140 f8)] ++ zcells zC (gW g aC) w) s.heap H locs → lv_has ls 13 [(1, .ref (aC 0)), (4, .int sq6.2.1), (5, .int rq9.1), (6, .int rq9.2), (7, .ref qn)] → W p l e room_1 s m #[.ref b] below meth c H locs ((((500 + 1) + 1 * sq6.1) + 1)) ((((1030000 + 140) + 140 * sq6.1) + 140)) (lw_Z below #[.ref b] s) (F0 m 194 ls []) := by
                intro H locs ls hL hl
                refine lv_aload hx hb dL_law_194 (lv_at hl 4 rfl) ?_
                refine lv_astore_n (lv' := [(3, .ref qn), (1, .ref (aC 0)), (4, .int sq6.2.1), (5, .int rq9.1), (6, .int rq9.2), (7, .ref qn)]) hx hb dL_law_196 rfl hl (by decide) rfl (fun ls hl => ?_)
                refine lv_iload hx hb dL_law_197 (lv_at hl 2 rfl) ?_
                refine lv_iload hx hb dL_law_199 (lv_at hl 4 rfl) ?_
                refine lv_if_eq (tgt := 208) hx hb dL_law_201 (by decide) (fun c20 => ?_) (fun c20 => ?_)
                · replace hF := ifp (c20) hF
                  refine lv_iconst (v := (0 : Int32)) hx hb dL_law_208 (by decide) ?_
                  refine lv_iadd hx hb dL_law_209 ?_
                  refine lv_istore (lv' := [(4, .int (sq6.2.1 + (0 : Int32))), (3, .ref qn), (1, .ref (aC 0)), (5, .int rq9.1), (6, .int rq9.2), (7, .ref qn)]) hx hb dL_law_210 hl (by decide) rfl (fun ls hl => ?_)
                  refine lv_goto (tgt := 93) hx hb dL_law_212 (by decide) ?_
                  refine W.widen (k := ((500 + 1) + 1 * (sq6.1 + 1))) (n := ((1030000 + 140) + 140 * (sq6.1 + 1))) (by omega) (by omega) ?_
                  obtain rfl := se1 hF
                  exact ih _ hQ qn _ _ _ hL (lv_sub hl [2, 1, 0, 3, 4] rfl)
                · replace hF := ifn (c20) hF
                  refine lv_iconst (v := (1 : Int32)) hx hb dL_law_204 (by decide) ?_
                  refine lv_goto (tgt := 209) hx hb dL_law_205 (by decide) ?_
                  refine lv_iadd hx hb dL_law_209 ?_
                  refine lv_istore (lv' := [(4, .int (sq6.2.1 + (1 : Int32))), (3, .ref qn), (1, .ref (aC 0)), (5, .int rq9.1), (6, .int rq9.2), (7, .ref qn)]) hx hb dL_law_210 hl (by decide) rfl (fun ls hl => ?_)
                  refine lv_goto (tgt := 93) hx hb dL_law_212 (by decide) ?_
                  refine W.widen (k := ((500 + 1) + 1 * (sq6.1 + 1))) (n := ((1030000 + 140) + 140 * (sq6.1 + 1))) (by omega) (by omega) ?_
                  obtain rfl := se1 hF
                  exact ih _ hQ qn _ _ _ hL (lv_sub hl [2, 1, 0, 3, 4] rfl)
              have Lq9 : ∀ (kf : Nat) (sq9 : Int32 × Int32 × Int32), lp (b_L_lawB_111 w f8 sq6) kf sq9 = some rq9 → ∀ (H : Heap) (locs : List Loc) (ls : Array Slot), LW g (AS s) ([(qn, ia g 140 f8), (a3_93, ia g 140 sq6.2.2.2.2)] ++ zcells zC (gW g aC) w) s.heap H locs → lv_has ls 13 [(1, .ref (aC 0)), (3, .ref a3_93), (4, .int sq6.2.1), (5, .int sq9.1), (6, .int sq9.2.1), (7, .ref qn), (8, .int sq9.2.2)] → W p l e room_1 s m #[.ref b] below meth c H locs ((((500 + 1) + 1 * sq6.1) + 1)) ((((1030000 + 140) + 140 * sq6.1) + 140)) (lw_Z below #[.ref b] s) (F0 m 111 ls []) := by
                intro kf
                induction kf with
                | zero => intro sq9 hQ; exact lp_0 hQ
                | succ kf ih =>
                  intro sq9 hQ H locs ls hL hl
                  obtain ⟨bb, hF, hQ⟩ := lp_s hQ
                  unfold b_L_lawB_111 at hF
                  refine lv_iload hx hb dL_law_111 (lv_at hl 6 rfl) ?_
                  refine lv_sipush (v := (140 : Int32)) hx hb dL_law_113 (by decide) ?_
                  refine lv_icmp_ge (tgt := 194) hx hb dL_law_116 (by decide) (fun c10 => ?_) (fun c10 => ?_)
                  · replace hF := ifp (c10) hF
                    have hL : LW g (AS s) ([(qn, ia g 140 f8)] ++ zcells zC (gW g aC) w) s.heap H locs := hL.subl (((List.Sublist.refl _).cons _).cons_cons _)
                    obtain rfl := se1 hF
                    subst hQ
                    exact Jq9 _ _ _ hL (lv_sub hl [0, 2, 3, 4, 5] rfl)
                  · replace hF := ifn (c10) hF
                    refine lv_iconst (v := (0 : Int32)) hx hb dL_law_119 (by decide) ?_
                    refine lv_istore (lv' := [(9, .int (0 : Int32)), (1, .ref (aC 0)), (3, .ref a3_93), (4, .int sq6.2.1), (5, .int sq9.1), (6, .int sq9.2.1), (7, .ref qn), (8, .int sq9.2.2)]) hx hb dL_law_120 hl (by decide) rfl (fun ls hl => ?_)
                    obtain ⟨rq11, hrq11, hF⟩ := ob hF
                    have Jq11 : ∀ (H : Heap) (locs : List Loc) (ls : Array Slot), LW g (AS s) ([(qn, ia g 140 f8), (a3_93, ia g 140 sq6.2.2.2.2)] ++ zcells zC (gW g aC) w) s.heap H locs → lv_has ls 13 [(1, .ref (aC 0)), (3, .ref a3_93), (4, .int sq6.2.1), (5, .int rq11.1), (6, .int rq11.2), (7, .ref qn), (8, .int sq9.2.2)] → W p l e room_1 s m #[.ref b] below meth c H locs ((((500 + 1) + 1 * sq6.1) + 1)) ((((1030000 + 140) + 140 * sq6.1) + 140)) (lw_Z below #[.ref b] s) (F0 m 188 ls []) := by
                      intro H locs ls hL hl
                      refine lv_iinc (v := (sq9.2.2 + (1 : Int32))) (lv' := [(8, .int (sq9.2.2 + (1 : Int32))), (1, .ref (aC 0)), (3, .ref a3_93), (4, .int sq6.2.1), (5, .int rq11.1), (6, .int rq11.2), (7, .ref qn)]) hx hb dL_law_188 hl (k := 6) rfl rfl (by decide) rfl (fun ls hl => ?_)
                      refine lv_goto (tgt := 111) hx hb dL_law_191 (by decide) ?_
                      obtain rfl := se1 hF
                      exact ih _ hQ _ _ _ hL (lv_sub hl [1, 2, 3, 4, 5, 6, 0] rfl)
                    have Lq11 : ∀ (kf : Nat) (sq11 : Int32 × Int32 × Int32), lp (b_L_lawB_122 w f8 sq9 sq6) kf sq11 = some rq11 → ∀ (H : Heap) (locs : List Loc) (ls : Array Slot), LW g (AS s) ([(qn, ia g 140 f8), (a3_93, ia g 140 sq6.2.2.2.2)] ++ zcells zC (gW g aC) w) s.heap H locs → lv_has ls 13 [(1, .ref (aC 0)), (3, .ref a3_93), (4, .int sq6.2.1), (5, .int sq11.1), (6, .int sq11.2.1), (7, .ref qn), (8, .int sq9.2.2), (9, .int sq11.2.2)] → W p l e room_1 s m #[.ref b] below meth c H locs ((((500 + 1) + 1 * sq6.1) + 1)) ((((1030000 + 140) + 140 * sq6.1) + 140)) (lw_Z below #[.ref b] s) (F0 m 122 ls []) := by
                      intro kf
                      induction kf with
                      | zero => intro sq11 hQ; exact lp_0 hQ
                      | succ kf ih =>
                        intro sq11 hQ H locs ls hL hl
                        obtain ⟨bb, hF, hQ⟩ := lp_s hQ
                        unfold b_L_lawB_122 at hF
                        have J182 : ∀ (v5_182 : Int32) (v6_182 : Int32) (H : Heap) (locs : List Loc) (ls : Array Slot), k_L_lawB_182 sq11 v5_182 v6_182 = some bb → LW g (AS s) ([(qn, ia g 140 f8), (a3_93, ia g 140 sq6.2.2.2.2)] ++ zcells zC (gW g aC) w) s.heap H locs → lv_has ls 13 [(1, .ref (aC 0)), (3, .ref a3_93), (4, .int sq6.2.1), (5, .int v5_182), (6, .int v6_182), (7, .ref qn), (8, .int sq9.2.2), (9, .int sq11.2.2)] → W p l e room_1 s m #[.ref b] below meth c H locs ((((500 + 1) + 1 * sq6.1) + 1)) ((((1030000 + 140) + 140 * sq6.1) + 140)) (lw_Z below #[.ref b] s) (F0 m 182 ls []) := by
                          intro v5_182 v6_182 H locs ls hF hL hl
                          unfold k_L_lawB_182 at hF
                          refine lv_iinc (v := (sq11.2.2 + (1 : Int32))) (lv' := [(9, .int (sq11.2.2 + (1 : Int32))), (1, .ref (aC 0)), (3, .ref a3_93), (4, .int sq6.2.1), (5, .int v5_182), (6, .int v6_182), (7, .ref qn), (8, .int sq9.2.2)]) hx hb dL_law_182 hl (k := 7) rfl rfl (by decide) rfl (fun ls hl => ?_)
                          refine lv_goto (tgt := 122) hx hb dL_law_185 (by decide) ?_
                          obtain rfl := se1 hF
                          exact ih _ hQ _ _ _ hL (lv_sub hl [1, 2, 3, 4, 5, 6, 7, 0] rfl)
                        refine lv_iload hx hb dL_law_122 (lv_at hl 7 rfl) ?_
                        refine lv_aload_n hx hb dL_law_124 rfl (lv_at hl 0 rfl) ?_
                        obtain ⟨x12, hx12, hF⟩ := ob hF
                        refine y_C (As := []) (rest := [.int sq11.2.2]) X hZ hA [(qn, ia g 140 f8), (a3_93, ia g 140 sq6.2.2.2.2)] hL (c_X9_objectCount (l := l) (g := gW g aC) (w := w) (k0 := 0) hx12 rfl) tw_2_237 ms_X9_objectCount im_X9_objectCount cn_9 ⟨Nat.le_of_ble_eq_true rfl, Nat.le_of_ble_eq_true rfl⟩ rfl rfl hl.1 (Nat.le_of_ble_eq_true rfl) dL_law_125 ⟨(by show _ ≤ 600086; omega), (by show _ ≤ 7301442; omega)⟩ rfl (fun H locs hL => ?_)
                        refine lv_icmp_ge (tgt := 188) hx hb dL_law_128 (by decide) (fun c13 => ?_) (fun c13 => ?_)
                        · replace hF := ifp (c13) hF
                          obtain rfl := se1 hF
                          subst hQ
                          exact Jq11 _ _ _ hL (lv_sub hl [0, 1, 2, 3, 4, 5, 6] rfl)
                        · replace hF := ifn (c13) hF
                          refine lv_aload hx hb dL_law_131 (lv_at hl 5 rfl) ?_
                          refine lv_iload hx hb dL_law_133 (lv_at hl 6 rfl) ?_
                          obtain ⟨x14, hx14, hF⟩ := ob hF
                          refine x_iald (k := 0) X hL rfl hx14 dL_law_135 ?_
                          refine lv_iload hx hb dL_law_136 (lv_at hl 7 rfl) ?_
                          refine x_callLS (As := [.int x14, .int sq11.2.2]) (rest := []) X hZ ([(qn, ia g 140 f8), (a3_93, ia g 140 sq6.2.2.2.2)] ++ zcells zC (gW g aC) w) [] (by rw [List.append_nil]; exact hL) k_has tw_4_150 ms_L_has tw_4_151 ⟨Nat.le_of_ble_eq_true rfl, Nat.le_of_ble_eq_true rfl⟩ rfl rfl hl.1 (Nat.le_of_ble_eq_true rfl) dL_law_138 ⟨(by show _ ≤ 600086; omega), (by show _ ≤ 7301442; omega)⟩ (fun v nb H locs hB hL => ?_)
                          obtain ⟨rfl, rfl⟩ := hB
                          rw [List.append_nil] at hL
                          refine lv_if_eq (tgt := 182) hx hb dL_law_141 (by decide) (fun c15 => ?_) (fun c15 => ?_)
                          · replace hF := ifp (c15) hF
                            exact J182 sq11.1 sq11.2.1 _ _ _ hF hL (lv_sub hl [0, 1, 2, 3, 4, 5, 6, 7] rfl)
                          · replace hF := ifn (c15) hF
                            refine lv_aload_n hx hb dL_law_144 rfl (lv_at hl 1 rfl) ?_
                            refine lv_iload hx hb dL_law_145 (lv_at hl 6 rfl) ?_
                            obtain ⟨x16, hx16, hF⟩ := ob hF
                            refine x_iald (k := 1) X hL rfl hx16 dL_law_147 ?_
                            refine lv_iload hx hb dL_law_148 (lv_at hl 7 rfl) ?_
                            refine x_callLS (As := [.int x16, .int sq11.2.2]) (rest := []) X hZ ([(qn, ia g 140 f8), (a3_93, ia g 140 sq6.2.2.2.2)] ++ zcells zC (gW g aC) w) [] (by rw [List.append_nil]; exact hL) k_has tw_4_150 ms_L_has tw_4_151 ⟨Nat.le_of_ble_eq_true rfl, Nat.le_of_ble_eq_true rfl⟩ rfl rfl hl.1 (Nat.le_of_ble_eq_true rfl) dL_law_150 ⟨(by show _ ≤ 600086; omega), (by show _ ≤ 7301442; omega)⟩ (fun v nb H locs hB hL => ?_)
                            obtain ⟨rfl, rfl⟩ := hB
                            rw [List.append_nil] at hL
                            refine lv_if_eq (tgt := 159) hx hb dL_law_153 (by decide) (fun c17 => ?_) (fun c17 => ?_)
                            · replace hF := ifp (c17) hF
                              refine lv_iconst (v := (1 : Int32)) hx hb dL_law_159 (by decide) ?_
                              refine lv_istore (lv' := [(6, .int (1 : Int32)), (1, .ref (aC 0)), (3, .ref a3_93), (4, .int sq6.2.1), (5, .int sq11.1), (7, .ref qn), (8, .int sq9.2.2), (9, .int sq11.2.2)]) hx hb dL_law_160 hl (by decide) rfl (fun ls hl => ?_)
                              refine lv_iinc (v := (sq11.1 + (1 : Int32))) (lv' := [(5, .int (sq11.1 + (1 : Int32))), (6, .int (1 : Int32)), (1, .ref (aC 0)), (3, .ref a3_93), (4, .int sq6.2.1), (7, .ref qn), (8, .int sq9.2.2), (9, .int sq11.2.2)]) hx hb dL_law_162 hl (k := 4) rfl rfl (by decide) rfl (fun ls hl => ?_)
                              refine lv_aload_n hx hb dL_law_165 rfl (lv_at hl 2 rfl) ?_
                              refine lv_iload hx hb dL_law_166 (lv_at hl 6 rfl) ?_
                              refine lv_iload hx hb dL_law_168 (lv_at hl 7 rfl) ?_
                              obtain ⟨x18, hx18, hF⟩ := ob hF
                              refine y_C (As := [.int sq9.2.2, .int sq11.2.2]) (rest := []) X hZ hA [(qn, ia g 140 f8), (a3_93, ia g 140 sq6.2.2.2.2)] hL (c_X9_roundOf (l := l) (g := gW g aC) (w := w) (k0 := 0) (v_location := sq9.2.2) (v_object := sq11.2.2) hx18 rfl) tw_3_25 ms_X9_roundOf im_X9_roundOf cn_9 ⟨Nat.le_of_ble_eq_true rfl, Nat.le_of_ble_eq_true rfl⟩ rfl rfl hl.1 (Nat.le_of_ble_eq_true rfl) dL_law_170 ⟨(by show _ ≤ 600086; omega), (by show _ ≤ 7301442; omega)⟩ rfl (fun H locs hL => ?_)
                              refine lv_iload hx hb dL_law_173 (lv_at hl 4 rfl) ?_
                              refine lv_iconst (v := (1 : Int32)) hx hb dL_law_175 (by decide) ?_
                              refine lv_iadd hx hb dL_law_176 ?_
                              refine lv_icmp_eq (tgt := 182) hx hb dL_law_177 (by decide) (fun c19 => ?_) (fun c19 => ?_)
                              · replace hF := ifp (c19) hF
                                exact J182 (sq11.1 + (1 : Int32)) (1 : Int32) _ _ _ hF hL (lv_sub hl [2, 3, 4, 0, 1, 5, 6, 7] rfl)
                              · replace hF := ifn (c19) hF
                                refine lv_iconst (v := (0 : Int32)) hx hb dL_law_180 (by decide) ?_
                                cases hF
                            · replace hF := ifn (c17) hF
                              refine lv_goto (tgt := 182) hx hb dL_law_156 (by decide) ?_
                              exact J182 sq11.1 sq11.2.1 _ _ _ hF hL (lv_sub hl [0, 1, 2, 3, 4, 5, 6, 7] rfl)
                    exact Lq11 _ (sq9.1, sq9.2.1, (0 : Int32)) hrq11 _ _ _ hL (lv_sub hl [1, 2, 3, 4, 5, 6, 7, 0] rfl)
              exact Lq9 _ (sq6.2.2.1, (0 : Int32), (0 : Int32)) hrq9 _ _ _ hL (lv_sub hl [3, 4, 5, 6, 1, 2, 0] rfl)
        refine W.widen (k := ((500 + 1) + 1 * 0)) (n := ((1030000 + 140) + 140 * 0)) (by omega) (by omega) ?_
        exact Lq6 _ (0, (0 : Int32), (0 : Int32), (1 : Int32), (fun _ => 0)) hrq6 q3 _ _ _ hL (lv_sub hl [5, 3, 2, 1, 0] rfl)
      · replace hF := ifn (c5) hF
        refine lv_iconst (v := (0 : Int32)) hx hb dL_law_76 (by decide) ?_
        cases hF
end LAW
