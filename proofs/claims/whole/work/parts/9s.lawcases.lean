/-! The law's cases: each answers alike. -/
section LC
variable {p : Program} {l : Launch} {e : Env} {s : State} {m : MethodId} {b : Nat} {below : List Frame} {meth : Method} {c : Code} {H : Heap} {locs : List Loc} {cells slots : Nat} {Q : State → Prop}
variable {L : Nat} {xs : Nat → Int32} {g : Gh} {aC aM : Nat → Nat} {qo i : Nat} {wC wM : Wd} {f : Nat → Int64} {ls : Array Slot}
/-- what the rest of the law, from the end of a case, makes of the worlds -/
def JEnd (p : Program) (l : Launch) (e : Env) (s : State) (m : MethodId) (b : Nat) (below : List Frame) (meth : Method) (c : Code) (cells slots : Nat) (Q : State → Prop) (g : Gh) (aC aM : Nat → Nat) (qo i : Nat) : Prop :=
  ∀ (wC wM : Wd) (f : Nat → Int64) (H : Heap) (locs : List Loc) (ls : Array Slot), RW wC wM → LW g (AS s) (LWo g aC aM qo wC wM f) s.heap H locs → lv_has ls 7 (lvB b aC aM qo i) → W p l e room_1 s m #[.ref b] below meth c H locs (cells + 1) (slots + 6) Q (F0 m 1632 ls [])
theorem lw_out (g : Gh) (aC aM : Nat → Nat) (qo : Nat) (wC wM : Wd) (f : Nat → Int64) : (LWo g aC aM qo wC wM f)[86]? = some (qo, OutE g f) := by
  unfold LWo
  rw [List.getElem?_append_right (by rw [zlen]; decide), zlen]
  exact zlast (Z := zM)
theorem y_b {pc : Nat} {x : Int32} {rest : List Value} (X : LwX p l s m b meth c L xs g aC aM) (d0 : decode cL_law pc = .ok (.ifCond .eq 7, 3)) (d1 : decode cL_law (pc + 3) = .ok (.iconst 1, 1)) (d2 : decode cL_law (pc + 4) = .ok (.goto 4, 3)) (d3 : decode cL_law (pc + 7) = .ok (.iconst 0, 1))
    (kk : W p l e room_1 s m #[.ref b] below meth c H locs cells slots Q (F0 m (pc + 8) ls (.int (bI (!decide (x = 0))) :: rest))) : W p l e room_1 s m #[.ref b] below meth c H locs cells slots Q (F0 m pc ls (.int x :: rest)) := by
  obtain ⟨⟨hx, hb, -⟩, -⟩ := X
  refine w_zeq_t (tgt := pc + 7) hx hb d0 (by omega) (fun h => ?_) (fun h => ?_)
  · refine lv_iconst (v := (0 : Int32)) hx hb d3 (by decide) ?_
    rw [decide_eq_true h] at kk
    exact kk
  · refine lv_iconst (v := (1 : Int32)) hx hb d1 (by decide) ?_
    refine lv_goto (tgt := pc + 8) hx hb d2 (by omega) ?_
    rw [decide_eq_false h] at kk
    exact kk
set_option maxHeartbeats 4000000 in
theorem k_0 (X : LwX p l s m b meth c L xs g aC aM) (hR : RW wC wM) (hL : LW g (AS s) (LWo g aC aM qo wC wM f) s.heap H locs) (hl : lv_has ls 7 (lvB b aC aM qo i)) (hi : i + 6 ≤ L) (hf : cells + 1 ≤ 1114 ∧ slots + 6 ≤ 20432) (J : JEnd p l e s m b below meth c cells slots Q g aC aM qo i) : W p l e room_1 s m #[.ref b] below meth c H locs cells slots Q (F0 m 256 ls []) := by
  have hx := X.1.1
  have hb := X.1.2.1
  have hl0 : lv_has ls 7 [(0, .ref b), (1, .ref (aC 0)), (2, .ref (aM 0)), (3, .ref qo), (4, .int (nI i))] := hl
  have q : Q2 (f_X9_append wC 0 (xs (i + 1)) (xs (i + 2)) (xs (i + 3)) (xs (i + 4)) (xs (i + 5))) (f_X10_append wM 0 (xs (i + 1)) (xs (i + 2)) (xs (i + 3)) (xs (i + 4)) (xs (i + 5))) := w_append hR
  obtain ⟨r, c', m', e1, e2, hR2⟩ := q
  refine W.widen (k := cells + 1) (n := slots + 6) (by omega) (by omega) ?_
  refine lv_aload_n hx hb dL_256 rfl (lv_at hl0 1 rfl) ?_
  refine y_rd X hL hl (k := 1) hi (by decide) rfl dL_257 dL_258 dL_260 dL_261 dL_262 ?_
  refine y_rd X hL hl (k := 2) hi (by decide) rfl dL_263 dL_264 dL_266 dL_267 dL_268 ?_
  refine y_rd X hL hl (k := 3) hi (by decide) rfl dL_269 dL_270 dL_272 dL_273 dL_274 ?_
  refine y_rd X hL hl (k := 4) hi (by decide) rfl dL_275 dL_276 dL_278 dL_279 dL_280 ?_
  refine y_rd X hL hl (k := 5) hi (by decide) rfl dL_281 dL_282 dL_284 dL_285 dL_286 ?_
  refine y_C (n := 5) (As := [.int (xs (i + 1)), .int (xs (i + 2)), .int (xs (i + 3)), .int (xs (i + 4)), .int (xs (i + 5))]) (rest := []) (st1 := [.int r]) X hL (c_X9_append (l := l) (g := gW g aC) (w := wC) (k0 := 0) (e1) rfl) tw_2_96 ⟨tw_2_99, tw_1_1, by decide, by decide, by decide +kernel⟩ ⟨tw_2_97, tw_2_98⟩ cn_9 ⟨(Nat.le_of_ble_eq_true rfl), (Nat.le_of_ble_eq_true rfl)⟩ rfl rfl hl0.1 (Nat.le_of_ble_eq_true rfl) dL_287 hf rfl (fun H locs hL => ?_)
  refine lv_aload_n hx hb dL_290 rfl (lv_at hl0 2 rfl) ?_
  refine y_rd X hL hl (k := 1) hi (by decide) rfl dL_291 dL_292 dL_294 dL_295 dL_296 ?_
  refine y_rd X hL hl (k := 2) hi (by decide) rfl dL_297 dL_298 dL_300 dL_301 dL_302 ?_
  refine y_rd X hL hl (k := 3) hi (by decide) rfl dL_303 dL_304 dL_306 dL_307 dL_308 ?_
  refine y_rd X hL hl (k := 4) hi (by decide) rfl dL_309 dL_310 dL_312 dL_313 dL_314 ?_
  refine y_rd X hL hl (k := 5) hi (by decide) rfl dL_315 dL_316 dL_318 dL_319 dL_320 ?_
  refine y_M (n := 5) (As := [.int (xs (i + 1)), .int (xs (i + 2)), .int (xs (i + 3)), .int (xs (i + 4)), .int (xs (i + 5))]) (rest := [.int r]) (st1 := [.int r, .int r]) X hL (c_X10_append (l := l) (g := gW g aM) (w := wM) (k0 := 0) (e2) rfl) tw_5_207 ⟨tw_5_210, tw_1_12, by decide, by decide, by decide +kernel⟩ ⟨tw_5_208, tw_5_209⟩ cn_10 ⟨(Nat.le_of_ble_eq_true rfl), (Nat.le_of_ble_eq_true rfl)⟩ rfl rfl hl0.1 (Nat.le_of_ble_eq_true rfl) dL_321 hf rfl (fun H locs hL => ?_)
  refine lv_icmp_eq (tgt := 1632) hx hb dL_324 (by decide) (fun _ => ?_) (fun h => absurd rfl h)
  exact J _ _ _ _ _ _ hR2 hL hl
set_option maxHeartbeats 4000000 in
theorem k_1 (X : LwX p l s m b meth c L xs g aC aM) (hR : RW wC wM) (hL : LW g (AS s) (LWo g aC aM qo wC wM f) s.heap H locs) (hl : lv_has ls 7 (lvB b aC aM qo i)) (hi : i + 6 ≤ L) (hf : cells + 1 ≤ 1114 ∧ slots + 6 ≤ 20432) (J : JEnd p l e s m b below meth c cells slots Q g aC aM qo i) : W p l e room_1 s m #[.ref b] below meth c H locs cells slots Q (F0 m 329 ls []) := by
  have hx := X.1.1
  have hb := X.1.2.1
  have hl0 : lv_has ls 7 [(0, .ref b), (1, .ref (aC 0)), (2, .ref (aM 0)), (3, .ref qo), (4, .int (nI i))] := hl
  have q : Q2 (f_X9_parse wC 0 (xs (i + 1))) (f_X10_parse wM 0 (xs (i + 1))) := q_parse hR
  obtain ⟨r, c', m', e1, e2, hR2⟩ := q
  refine W.widen (k := cells + 1) (n := slots + 6) (by omega) (by omega) ?_
  refine lv_aload_n hx hb dL_329 rfl (lv_at hl0 1 rfl) ?_
  refine y_rd X hL hl (k := 1) hi (by decide) rfl dL_330 dL_331 dL_333 dL_334 dL_335 ?_
  refine y_C (n := 1) (As := [.int (xs (i + 1))]) (rest := []) (st1 := [.int r]) X hL (c_X9_parse (l := l) (g := gW g aC) (w := wC) (k0 := 0) (e1) rfl) tw_2_104 ⟨tw_2_107, tw_1_1, by decide, by decide, by decide +kernel⟩ ⟨tw_2_105, tw_2_106⟩ cn_9 ⟨(Nat.le_of_ble_eq_true rfl), (Nat.le_of_ble_eq_true rfl)⟩ rfl rfl hl0.1 (Nat.le_of_ble_eq_true rfl) dL_336 hf rfl (fun H locs hL => ?_)
  refine lv_aload_n hx hb dL_339 rfl (lv_at hl0 2 rfl) ?_
  refine y_rd X hL hl (k := 1) hi (by decide) rfl dL_340 dL_341 dL_343 dL_344 dL_345 ?_
  refine y_M (n := 1) (As := [.int (xs (i + 1))]) (rest := [.int r]) (st1 := [.int r, .int r]) X hL (c_X10_parse (l := l) (g := gW g aM) (w := wM) (k0 := 0) (e2) rfl) tw_5_219 ⟨tw_5_222, tw_1_12, by decide, by decide, by decide +kernel⟩ ⟨tw_5_220, tw_5_221⟩ cn_10 ⟨(Nat.le_of_ble_eq_true rfl), (Nat.le_of_ble_eq_true rfl)⟩ rfl rfl hl0.1 (Nat.le_of_ble_eq_true rfl) dL_346 hf rfl (fun H locs hL => ?_)
  refine lv_icmp_eq (tgt := 1632) hx hb dL_349 (by decide) (fun _ => ?_) (fun h => absurd rfl h)
  exact J _ _ _ _ _ _ hR2 hL hl
set_option maxHeartbeats 4000000 in
theorem k_2 (X : LwX p l s m b meth c L xs g aC aM) (hR : RW wC wM) (hL : LW g (AS s) (LWo g aC aM qo wC wM f) s.heap H locs) (hl : lv_has ls 7 (lvB b aC aM qo i)) (hi : i + 6 ≤ L) (hf : cells + 1 ≤ 1114 ∧ slots + 6 ≤ 20432) (J : JEnd p l e s m b below meth c cells slots Q g aC aM qo i) : W p l e room_1 s m #[.ref b] below meth c H locs cells slots Q (F0 m 354 ls []) := by
  have hx := X.1.1
  have hb := X.1.2.1
  have hl0 : lv_has ls 7 [(0, .ref b), (1, .ref (aC 0)), (2, .ref (aM 0)), (3, .ref qo), (4, .int (nI i))] := hl
  obtain ⟨p0, P, K, V, O, h⟩ := id hR
  have q : Q1 wC (some (f_X9_bufferLength wC 0 )) (f_X10_bufferLength wM 0 ) := Q1.sim h (q_bufferLength h.2.2.1)
  obtain ⟨r, m', e1, e2, hR2⟩ := q
  refine W.widen (k := cells + 1) (n := slots + 6) (by omega) (by omega) ?_
  refine lv_aload_n hx hb dL_354 rfl (lv_at hl0 1 rfl) ?_
  refine y_C (n := 0) (As := []) (rest := []) (st1 := [.int r]) X hL (c_X9_bufferLength (l := l) (g := gW g aC) (w := wC) (k0 := 0) (Option.some.inj e1) rfl) tw_3_24 ⟨tw_3_27, tw_1_1, by decide, by decide, by decide +kernel⟩ ⟨tw_3_25, tw_3_26⟩ cn_9 ⟨(Nat.le_of_ble_eq_true rfl), (Nat.le_of_ble_eq_true rfl)⟩ rfl rfl hl0.1 (Nat.le_of_ble_eq_true rfl) dL_355 hf rfl (fun H locs hL => ?_)
  refine lv_aload_n hx hb dL_358 rfl (lv_at hl0 2 rfl) ?_
  refine y_M (n := 0) (As := []) (rest := [.int r]) (st1 := [.int r, .int r]) X hL (c_X10_bufferLength (l := l) (g := gW g aM) (w := wM) (k0 := 0) (e2) rfl) tw_5_215 ⟨tw_5_218, tw_1_12, by decide, by decide, by decide +kernel⟩ ⟨tw_5_216, tw_5_217⟩ cn_10 ⟨(Nat.le_of_ble_eq_true rfl), (Nat.le_of_ble_eq_true rfl)⟩ rfl rfl hl0.1 (Nat.le_of_ble_eq_true rfl) dL_359 hf rfl (fun H locs hL => ?_)
  refine lv_icmp_eq (tgt := 1632) hx hb dL_362 (by decide) (fun _ => ?_) (fun h => absurd rfl h)
  exact J _ _ _ _ _ _ hR2 hL hl
set_option maxHeartbeats 4000000 in
theorem k_3 (X : LwX p l s m b meth c L xs g aC aM) (hR : RW wC wM) (hL : LW g (AS s) (LWo g aC aM qo wC wM f) s.heap H locs) (hl : lv_has ls 7 (lvB b aC aM qo i)) (hi : i + 6 ≤ L) (hf : cells + 1 ≤ 1114 ∧ slots + 6 ≤ 20432) (J : JEnd p l e s m b below meth c cells slots Q g aC aM qo i) : W p l e room_1 s m #[.ref b] below meth c H locs cells slots Q (F0 m 367 ls []) := by
  have hx := X.1.1
  have hb := X.1.2.1
  have hl0 : lv_has ls 7 [(0, .ref b), (1, .ref (aC 0)), (2, .ref (aM 0)), (3, .ref qo), (4, .int (nI i))] := hl
  obtain ⟨p0, P, K, V, O, h⟩ := id hR
  have q : Q1 wC (f_X9_variableCount wC 0 ) (f_X10_variableCount wM 0 ) := Q1.sim h (q_variableCount h.1.1)
  obtain ⟨r, m', e1, e2, hR2⟩ := q
  refine W.widen (k := cells + 1) (n := slots + 6) (by omega) (by omega) ?_
  refine lv_aload_n hx hb dL_367 rfl (lv_at hl0 1 rfl) ?_
  refine y_C (n := 0) (As := []) (rest := []) (st1 := [.int r]) X hL (c_X9_variableCount (l := l) (g := gW g aC) (w := wC) (k0 := 0) (e1) rfl) tw_3_28 ⟨tw_3_31, tw_1_1, by decide, by decide, by decide +kernel⟩ ⟨tw_3_29, tw_3_30⟩ cn_9 ⟨(Nat.le_of_ble_eq_true rfl), (Nat.le_of_ble_eq_true rfl)⟩ rfl rfl hl0.1 (Nat.le_of_ble_eq_true rfl) dL_368 hf rfl (fun H locs hL => ?_)
  refine lv_aload_n hx hb dL_371 rfl (lv_at hl0 2 rfl) ?_
  refine y_M (n := 0) (As := []) (rest := [.int r]) (st1 := [.int r, .int r]) X hL (c_X10_variableCount (l := l) (g := gW g aM) (w := wM) (k0 := 0) (e2) rfl) tw_6_100 ⟨tw_6_103, tw_1_12, by decide, by decide, by decide +kernel⟩ ⟨tw_6_101, tw_6_102⟩ cn_10 ⟨(Nat.le_of_ble_eq_true rfl), (Nat.le_of_ble_eq_true rfl)⟩ rfl rfl hl0.1 (Nat.le_of_ble_eq_true rfl) dL_372 hf rfl (fun H locs hL => ?_)
  refine lv_icmp_eq (tgt := 1632) hx hb dL_375 (by decide) (fun _ => ?_) (fun h => absurd rfl h)
  exact J _ _ _ _ _ _ hR2 hL hl
set_option maxHeartbeats 4000000 in
theorem k_4 (X : LwX p l s m b meth c L xs g aC aM) (hR : RW wC wM) (hL : LW g (AS s) (LWo g aC aM qo wC wM f) s.heap H locs) (hl : lv_has ls 7 (lvB b aC aM qo i)) (hi : i + 6 ≤ L) (hf : cells + 1 ≤ 1114 ∧ slots + 6 ≤ 20432) (J : JEnd p l e s m b below meth c cells slots Q g aC aM qo i) : W p l e room_1 s m #[.ref b] below meth c H locs cells slots Q (F0 m 380 ls []) := by
  have hx := X.1.1
  have hb := X.1.2.1
  have hl0 : lv_has ls 7 [(0, .ref b), (1, .ref (aC 0)), (2, .ref (aM 0)), (3, .ref qo), (4, .int (nI i))] := hl
  obtain ⟨p0, P, K, V, O, h⟩ := id hR
  have q : Q1 wC (f_X9_objectCount wC 0 ) (f_X10_objectCount wM 0 ) := Q1.sim h (q_objectCount h.1.1)
  obtain ⟨r, m', e1, e2, hR2⟩ := q
  refine W.widen (k := cells + 1) (n := slots + 6) (by omega) (by omega) ?_
  refine lv_aload_n hx hb dL_380 rfl (lv_at hl0 1 rfl) ?_
  refine y_C (n := 0) (As := []) (rest := []) (st1 := [.int r]) X hL (c_X9_objectCount (l := l) (g := gW g aC) (w := wC) (k0 := 0) (e1) rfl) tw_3_32 ⟨tw_3_35, tw_1_1, by decide, by decide, by decide +kernel⟩ ⟨tw_3_33, tw_3_34⟩ cn_9 ⟨(Nat.le_of_ble_eq_true rfl), (Nat.le_of_ble_eq_true rfl)⟩ rfl rfl hl0.1 (Nat.le_of_ble_eq_true rfl) dL_381 hf rfl (fun H locs hL => ?_)
  refine lv_aload_n hx hb dL_384 rfl (lv_at hl0 2 rfl) ?_
  refine y_M (n := 0) (As := []) (rest := [.int r]) (st1 := [.int r, .int r]) X hL (c_X10_objectCount (l := l) (g := gW g aM) (w := wM) (k0 := 0) (e2) rfl) tw_6_104 ⟨tw_6_107, tw_1_12, by decide, by decide, by decide +kernel⟩ ⟨tw_6_105, tw_6_106⟩ cn_10 ⟨(Nat.le_of_ble_eq_true rfl), (Nat.le_of_ble_eq_true rfl)⟩ rfl rfl hl0.1 (Nat.le_of_ble_eq_true rfl) dL_385 hf rfl (fun H locs hL => ?_)
  refine lv_icmp_eq (tgt := 1632) hx hb dL_388 (by decide) (fun _ => ?_) (fun h => absurd rfl h)
  exact J _ _ _ _ _ _ hR2 hL hl
set_option maxHeartbeats 4000000 in
theorem k_5 (X : LwX p l s m b meth c L xs g aC aM) (hR : RW wC wM) (hL : LW g (AS s) (LWo g aC aM qo wC wM f) s.heap H locs) (hl : lv_has ls 7 (lvB b aC aM qo i)) (hi : i + 6 ≤ L) (hf : cells + 1 ≤ 1114 ∧ slots + 6 ≤ 20432) (J : JEnd p l e s m b below meth c cells slots Q g aC aM qo i) : W p l e room_1 s m #[.ref b] below meth c H locs cells slots Q (F0 m 393 ls []) := by
  have hx := X.1.1
  have hb := X.1.2.1
  have hl0 : lv_has ls 7 [(0, .ref b), (1, .ref (aC 0)), (2, .ref (aM 0)), (3, .ref qo), (4, .int (nI i))] := hl
  obtain ⟨p0, P, K, V, O, h⟩ := id hR
  have q : Q1 wC (f_X9_fieldCount wC 0 ) (f_X10_fieldCount wM 0 ) := Q1.sim h (q_fieldCount h.1.1)
  obtain ⟨r, m', e1, e2, hR2⟩ := q
  refine W.widen (k := cells + 1) (n := slots + 6) (by omega) (by omega) ?_
  refine lv_aload_n hx hb dL_393 rfl (lv_at hl0 1 rfl) ?_
  refine y_C (n := 0) (As := []) (rest := []) (st1 := [.int r]) X hL (c_X9_fieldCount (l := l) (g := gW g aC) (w := wC) (k0 := 0) (e1) rfl) tw_3_36 ⟨tw_3_39, tw_1_1, by decide, by decide, by decide +kernel⟩ ⟨tw_3_37, tw_3_38⟩ cn_9 ⟨(Nat.le_of_ble_eq_true rfl), (Nat.le_of_ble_eq_true rfl)⟩ rfl rfl hl0.1 (Nat.le_of_ble_eq_true rfl) dL_394 hf rfl (fun H locs hL => ?_)
  refine lv_aload_n hx hb dL_397 rfl (lv_at hl0 2 rfl) ?_
  refine y_M (n := 0) (As := []) (rest := [.int r]) (st1 := [.int r, .int r]) X hL (c_X10_fieldCount (l := l) (g := gW g aM) (w := wM) (k0 := 0) (e2) rfl) tw_6_108 ⟨tw_6_111, tw_1_12, by decide, by decide, by decide +kernel⟩ ⟨tw_6_109, tw_6_110⟩ cn_10 ⟨(Nat.le_of_ble_eq_true rfl), (Nat.le_of_ble_eq_true rfl)⟩ rfl rfl hl0.1 (Nat.le_of_ble_eq_true rfl) dL_398 hf rfl (fun H locs hL => ?_)
  refine lv_icmp_eq (tgt := 1632) hx hb dL_401 (by decide) (fun _ => ?_) (fun h => absurd rfl h)
  exact J _ _ _ _ _ _ hR2 hL hl
set_option maxHeartbeats 4000000 in
theorem k_6 (X : LwX p l s m b meth c L xs g aC aM) (hR : RW wC wM) (hL : LW g (AS s) (LWo g aC aM qo wC wM f) s.heap H locs) (hl : lv_has ls 7 (lvB b aC aM qo i)) (hi : i + 6 ≤ L) (hf : cells + 1 ≤ 1114 ∧ slots + 6 ≤ 20432) (J : JEnd p l e s m b below meth c cells slots Q g aC aM qo i) : W p l e room_1 s m #[.ref b] below meth c H locs cells slots Q (F0 m 406 ls []) := by
  have hx := X.1.1
  have hb := X.1.2.1
  have hl0 : lv_has ls 7 [(0, .ref b), (1, .ref (aC 0)), (2, .ref (aM 0)), (3, .ref qo), (4, .int (nI i))] := hl
  obtain ⟨p0, P, K, V, O, h⟩ := id hR
  have q : Q1 wC (f_X9_constraintCount wC 0 ) (f_X10_constraintCount wM 0 ) := Q1.sim h (q_constraintCount h.1.1)
  obtain ⟨r, m', e1, e2, hR2⟩ := q
  refine W.widen (k := cells + 1) (n := slots + 6) (by omega) (by omega) ?_
  refine lv_aload_n hx hb dL_406 rfl (lv_at hl0 1 rfl) ?_
  refine y_C (n := 0) (As := []) (rest := []) (st1 := [.int r]) X hL (c_X9_constraintCount (l := l) (g := gW g aC) (w := wC) (k0 := 0) (e1) rfl) tw_3_40 ⟨tw_3_43, tw_1_1, by decide, by decide, by decide +kernel⟩ ⟨tw_3_41, tw_3_42⟩ cn_9 ⟨(Nat.le_of_ble_eq_true rfl), (Nat.le_of_ble_eq_true rfl)⟩ rfl rfl hl0.1 (Nat.le_of_ble_eq_true rfl) dL_407 hf rfl (fun H locs hL => ?_)
  refine lv_aload_n hx hb dL_410 rfl (lv_at hl0 2 rfl) ?_
  refine y_M (n := 0) (As := []) (rest := [.int r]) (st1 := [.int r, .int r]) X hL (c_X10_constraintCount (l := l) (g := gW g aM) (w := wM) (k0 := 0) (e2) rfl) tw_6_112 ⟨tw_6_115, tw_1_12, by decide, by decide, by decide +kernel⟩ ⟨tw_6_113, tw_6_114⟩ cn_10 ⟨(Nat.le_of_ble_eq_true rfl), (Nat.le_of_ble_eq_true rfl)⟩ rfl rfl hl0.1 (Nat.le_of_ble_eq_true rfl) dL_411 hf rfl (fun H locs hL => ?_)
  refine lv_icmp_eq (tgt := 1632) hx hb dL_414 (by decide) (fun _ => ?_) (fun h => absurd rfl h)
  exact J _ _ _ _ _ _ hR2 hL hl
set_option maxHeartbeats 4000000 in
theorem k_7 (X : LwX p l s m b meth c L xs g aC aM) (hR : RW wC wM) (hL : LW g (AS s) (LWo g aC aM qo wC wM f) s.heap H locs) (hl : lv_has ls 7 (lvB b aC aM qo i)) (hi : i + 6 ≤ L) (hf : cells + 1 ≤ 1114 ∧ slots + 6 ≤ 20432) (J : JEnd p l e s m b below meth c cells slots Q g aC aM qo i) : W p l e room_1 s m #[.ref b] below meth c H locs cells slots Q (F0 m 419 ls []) := by
  have hx := X.1.1
  have hb := X.1.2.1
  have hl0 : lv_has ls 7 [(0, .ref b), (1, .ref (aC 0)), (2, .ref (aM 0)), (3, .ref qo), (4, .int (nI i))] := hl
  obtain ⟨p0, P, K, V, O, h⟩ := id hR
  have q : Q1 wC (f_X9_enabledConstraints wC 0 ) (f_X10_enabledConstraints wM 0 ) := Q1.sim h (q_enabledConstraints h.1.1)
  obtain ⟨r, m', e1, e2, hR2⟩ := q
  refine W.widen (k := cells + 1) (n := slots + 6) (by omega) (by omega) ?_
  refine lv_aload_n hx hb dL_419 rfl (lv_at hl0 1 rfl) ?_
  refine y_C (n := 0) (As := []) (rest := []) (st1 := [.int r]) X hL (c_X9_enabledConstraints (l := l) (g := gW g aC) (w := wC) (k0 := 0) (e1) rfl) tw_3_44 ⟨tw_3_47, tw_1_1, by decide, by decide, by decide +kernel⟩ ⟨tw_3_45, tw_3_46⟩ cn_9 ⟨(Nat.le_of_ble_eq_true rfl), (Nat.le_of_ble_eq_true rfl)⟩ rfl rfl hl0.1 (Nat.le_of_ble_eq_true rfl) dL_420 hf rfl (fun H locs hL => ?_)
  refine lv_aload_n hx hb dL_423 rfl (lv_at hl0 2 rfl) ?_
  refine y_M (n := 0) (As := []) (rest := [.int r]) (st1 := [.int r, .int r]) X hL (c_X10_enabledConstraints (l := l) (g := gW g aM) (w := wM) (k0 := 0) (e2) rfl) tw_6_116 ⟨tw_6_119, tw_1_12, by decide, by decide, by decide +kernel⟩ ⟨tw_6_117, tw_6_118⟩ cn_10 ⟨(Nat.le_of_ble_eq_true rfl), (Nat.le_of_ble_eq_true rfl)⟩ rfl rfl hl0.1 (Nat.le_of_ble_eq_true rfl) dL_424 hf rfl (fun H locs hL => ?_)
  refine lv_icmp_eq (tgt := 1632) hx hb dL_427 (by decide) (fun _ => ?_) (fun h => absurd rfl h)
  exact J _ _ _ _ _ _ hR2 hL hl
set_option maxHeartbeats 4000000 in
theorem k_8 (X : LwX p l s m b meth c L xs g aC aM) (hR : RW wC wM) (hL : LW g (AS s) (LWo g aC aM qo wC wM f) s.heap H locs) (hl : lv_has ls 7 (lvB b aC aM qo i)) (hi : i + 6 ≤ L) (hf : cells + 1 ≤ 1114 ∧ slots + 6 ≤ 20432) (J : JEnd p l e s m b below meth c cells slots Q g aC aM qo i) : W p l e room_1 s m #[.ref b] below meth c H locs cells slots Q (F0 m 432 ls []) := by
  have hx := X.1.1
  have hb := X.1.2.1
  have hl0 : lv_has ls 7 [(0, .ref b), (1, .ref (aC 0)), (2, .ref (aM 0)), (3, .ref qo), (4, .int (nI i))] := hl
  obtain ⟨p0, P, K, V, O, h⟩ := id hR
  have q : Q1 wC (f_X9_functions wC 0 ) (f_X10_functions wM 0 ) := Q1.sim h (q_functions h.1.1)
  obtain ⟨r, m', e1, e2, hR2⟩ := q
  refine W.widen (k := cells + 1) (n := slots + 6) (by omega) (by omega) ?_
  refine lv_aload_n hx hb dL_432 rfl (lv_at hl0 1 rfl) ?_
  refine y_C (n := 0) (As := []) (rest := []) (st1 := [.int r]) X hL (c_X9_functions (l := l) (g := gW g aC) (w := wC) (k0 := 0) (e1) rfl) tw_3_48 ⟨tw_3_51, tw_1_1, by decide, by decide, by decide +kernel⟩ ⟨tw_3_49, tw_3_50⟩ cn_9 ⟨(Nat.le_of_ble_eq_true rfl), (Nat.le_of_ble_eq_true rfl)⟩ rfl rfl hl0.1 (Nat.le_of_ble_eq_true rfl) dL_433 hf rfl (fun H locs hL => ?_)
  refine lv_aload_n hx hb dL_436 rfl (lv_at hl0 2 rfl) ?_
  refine y_M (n := 0) (As := []) (rest := [.int r]) (st1 := [.int r, .int r]) X hL (c_X10_functions (l := l) (g := gW g aM) (w := wM) (k0 := 0) (e2) rfl) tw_6_120 ⟨tw_6_123, tw_1_12, by decide, by decide, by decide +kernel⟩ ⟨tw_6_121, tw_6_122⟩ cn_10 ⟨(Nat.le_of_ble_eq_true rfl), (Nat.le_of_ble_eq_true rfl)⟩ rfl rfl hl0.1 (Nat.le_of_ble_eq_true rfl) dL_437 hf rfl (fun H locs hL => ?_)
  refine lv_icmp_eq (tgt := 1632) hx hb dL_440 (by decide) (fun _ => ?_) (fun h => absurd rfl h)
  exact J _ _ _ _ _ _ hR2 hL hl
set_option maxHeartbeats 4000000 in
theorem k_9 (X : LwX p l s m b meth c L xs g aC aM) (hR : RW wC wM) (hL : LW g (AS s) (LWo g aC aM qo wC wM f) s.heap H locs) (hl : lv_has ls 7 (lvB b aC aM qo i)) (hi : i + 6 ≤ L) (hf : cells + 1 ≤ 1114 ∧ slots + 6 ≤ 20432) (J : JEnd p l e s m b below meth c cells slots Q g aC aM qo i) : W p l e room_1 s m #[.ref b] below meth c H locs cells slots Q (F0 m 445 ls []) := by
  have hx := X.1.1
  have hb := X.1.2.1
  have hl0 : lv_has ls 7 [(0, .ref b), (1, .ref (aC 0)), (2, .ref (aM 0)), (3, .ref qo), (4, .int (nI i))] := hl
  obtain ⟨bo, r, r2, m', e1, e2, e3, hR2, e4, e5⟩ := w_kind (v := xs (i + 1)) hR
  refine lv_aload_n hx hb dL_445 rfl (lv_at hl0 1 rfl) ?_
  refine y_rd X hL hl (k := 1) hi (by decide) rfl dL_446 dL_447 dL_449 dL_450 dL_451 ?_
  refine lv_aload_n hx hb dL_452 rfl (lv_at hl0 3 rfl) ?_
  refine y_H (n := 3) (As := [.ref (aC 0), .int (xs (i + 1)), .ref qo]) (rest := []) X hL (c_L_kindOf X.2.2.2.2.2 e1 e2) tw_4_182 tw_cw1 tw_4_183 tw_1_0 ⟨by decide, by decide, by decide +kernel⟩ (by decide) rfl rfl hl0.1 (Nat.le_of_ble_eq_true rfl) dL_453 hf (fun H locs hL => ?_)
  refine lv_istore (lv' := [(5, .int (if bo = true then 0 else 1)), (0, .ref b), (1, .ref (aC 0)), (2, .ref (aM 0)), (3, .ref qo), (4, .int (nI i))]) hx hb dL_456 hl0 (by decide) rfl (fun ls hl5 => ?_)
  have hl : lv_has ls 7 (lvB b aC aM qo i) := lv_sub hl5 [1, 2, 3, 4, 5] rfl
  have hl0 := hl5
  refine lv_aload_n hx hb dL_458 rfl (lv_at hl5 3 rfl) ?_
  refine y_rd X hL hl (k := 1) hi (by decide) rfl dL_459 dL_460 dL_462 dL_463 dL_464 ?_
  refine y_M (n := 1) (As := [.int (xs (i + 1))]) (rest := []) (st1 := [.int r2]) X hL (c_X10_kindOf (l := l) (g := gW g aM) (w := wM) (k0 := 0) (e3) rfl) tw_6_128 ⟨tw_6_131, tw_1_12, by decide, by decide, by decide +kernel⟩ ⟨tw_6_129, tw_6_130⟩ cn_10 ⟨(Nat.le_of_ble_eq_true rfl), (Nat.le_of_ble_eq_true rfl)⟩ rfl rfl hl0.1 (Nat.le_of_ble_eq_true rfl) dL_465 hf rfl (fun H locs hL => ?_)
  refine lv_istore (lv' := [(6, .int r2), (5, .int (if bo = true then 0 else 1)), (0, .ref b), (1, .ref (aC 0)), (2, .ref (aM 0)), (3, .ref qo), (4, .int (nI i))]) hx hb dL_468 hl5 (by decide) rfl (fun ls hl6 => ?_)
  have hl : lv_has ls 7 (lvB b aC aM qo i) := lv_sub hl6 [2, 3, 4, 5, 6] rfl
  have hl0 := hl6
  refine lv_aload_n hx hb dL_470 rfl (lv_at hl6 4 rfl) ?_
  refine y_M (n := 0) (As := []) (rest := []) (st1 := [.int (f_X10_thrown m' 0)]) X hL (c_X10_thrown (l := l) (g := gW g aM) (w := m') (k0 := 0) (rfl) rfl) tw_5_203 ⟨tw_5_206, tw_1_12, by decide, by decide, by decide +kernel⟩ ⟨tw_5_204, tw_5_205⟩ cn_10 ⟨(Nat.le_of_ble_eq_true rfl), (Nat.le_of_ble_eq_true rfl)⟩ rfl rfl hl0.1 (Nat.le_of_ble_eq_true rfl) dL_471 hf rfl (fun H locs hL => ?_)
  rw [e4]
  refine lv_iload hx hb dL_474 (lv_at hl6 1 rfl) ?_
  refine lv_icmp_eq (tgt := 481) hx hb dL_476 (by decide) (fun _ => ?_) (fun h => absurd rfl h)
  refine lv_iload hx hb dL_481 (lv_at hl6 1 rfl) ?_
  have Je : W p l e room_1 s m #[.ref b] below meth c H locs (cells + 1) (slots + 6) Q (F0 m 498 ls []) := by
    refine lv_goto (tgt := 1632) hx hb dL_498 (by decide) ?_
    exact J _ _ _ _ _ _ hR2 hL hl
  refine w_zne_t (tgt := 498) hx hb dL_483 (by decide) (fun _ => Je) (fun hz => ?_)
  have hbo : bo = true := by
    cases bo
    · exact absurd (by decide) hz
    · rfl
  have hfv : (if bo = true then vp_updL f 0 r.toInt64 else f) = vp_updL f 0 r.toInt64 := if_pos hbo
  rw [hfv] at hL
  refine lv_aload_n hx hb dL_486 rfl (lv_at hl6 5 rfl) ?_
  refine lv_iconst (v := (0 : Int32)) hx hb dL_487 (by decide) ?_
  refine va_lald hx hb X.1.2.2.2.2.2.1 hL.1 86 1 (lw_out g aC aM qo wC m' _) rfl (vp_in_mk2 (by decide) (by decide)) dL_488 ?_
  refine lv_iload hx hb dL_489 (lv_at hl6 0 rfl) ?_
  refine lv_i2l (v := r2.toInt64) hx hb dL_491 rfl ?_
  refine w_leq_t (tgt := 498) hx hb dL_492 dL_493 (by decide) (fun _ => Je) (fun h => absurd ?_ h)
  rw [e5 hbo]
  exact updL_s f 0 r.toInt64
set_option maxHeartbeats 4000000 in
theorem k_10 (X : LwX p l s m b meth c L xs g aC aM) (hR : RW wC wM) (hL : LW g (AS s) (LWo g aC aM qo wC wM f) s.heap H locs) (hl : lv_has ls 7 (lvB b aC aM qo i)) (hi : i + 6 ≤ L) (hf : cells + 1 ≤ 1114 ∧ slots + 6 ≤ 20432) (J : JEnd p l e s m b below meth c cells slots Q g aC aM qo i) : W p l e room_1 s m #[.ref b] below meth c H locs cells slots Q (F0 m 501 ls []) := by
  have hx := X.1.1
  have hb := X.1.2.1
  have hl0 : lv_has ls 7 [(0, .ref b), (1, .ref (aC 0)), (2, .ref (aM 0)), (3, .ref qo), (4, .int (nI i))] := hl
  obtain ⟨b1, bo, r, r2, m', e1, eb, e2, e3, hR2, e4, e5⟩ := w_operand (v := xs (i + 1)) (u := xs (i + 2)) hR
  refine lv_aload_n hx hb dL_501 rfl (lv_at hl0 1 rfl) ?_
  refine y_rd X hL hl (k := 1) hi (by decide) rfl dL_502 dL_503 dL_505 dL_506 dL_507 ?_
  refine y_rd X hL hl (k := 2) hi (by decide) rfl dL_508 dL_509 dL_511 dL_512 dL_513 ?_
  refine lv_aload_n hx hb dL_514 rfl (lv_at hl0 3 rfl) ?_
  refine y_H (n := 4) (As := [.ref (aC 0), .int (xs (i + 1)), .int (xs (i + 2)), .ref qo]) (rest := []) X hL (c_L_operand X.2.2.2.2.2 e1 eb e2) tw_5_15 tw_cw2 tw_5_16 tw_1_0 ⟨by decide, by decide, by decide +kernel⟩ (by decide) rfl rfl hl0.1 (Nat.le_of_ble_eq_true rfl) dL_515 hf (fun H locs hL => ?_)
  refine lv_istore (lv' := [(5, .int (if bo = true then 0 else 1)), (0, .ref b), (1, .ref (aC 0)), (2, .ref (aM 0)), (3, .ref qo), (4, .int (nI i))]) hx hb dL_518 hl0 (by decide) rfl (fun ls hl5 => ?_)
  have hl : lv_has ls 7 (lvB b aC aM qo i) := lv_sub hl5 [1, 2, 3, 4, 5] rfl
  have hl0 := hl5
  refine lv_aload_n hx hb dL_520 rfl (lv_at hl5 3 rfl) ?_
  refine y_rd X hL hl (k := 1) hi (by decide) rfl dL_521 dL_522 dL_524 dL_525 dL_526 ?_
  refine y_rd X hL hl (k := 2) hi (by decide) rfl dL_527 dL_528 dL_530 dL_531 dL_532 ?_
  refine y_M (n := 2) (As := [.int (xs (i + 1)), .int (xs (i + 2))]) (rest := []) (st1 := [.int r2]) X hL (c_X10_operand (l := l) (g := gW g aM) (w := wM) (k0 := 0) (e3) rfl) tw_6_136 ⟨tw_6_139, tw_1_12, by decide, by decide, by decide +kernel⟩ ⟨tw_6_137, tw_6_138⟩ cn_10 ⟨(Nat.le_of_ble_eq_true rfl), (Nat.le_of_ble_eq_true rfl)⟩ rfl rfl hl0.1 (Nat.le_of_ble_eq_true rfl) dL_533 hf rfl (fun H locs hL => ?_)
  refine lv_istore (lv' := [(6, .int r2), (5, .int (if bo = true then 0 else 1)), (0, .ref b), (1, .ref (aC 0)), (2, .ref (aM 0)), (3, .ref qo), (4, .int (nI i))]) hx hb dL_536 hl5 (by decide) rfl (fun ls hl6 => ?_)
  have hl : lv_has ls 7 (lvB b aC aM qo i) := lv_sub hl6 [2, 3, 4, 5, 6] rfl
  have hl0 := hl6
  refine lv_aload_n hx hb dL_538 rfl (lv_at hl6 4 rfl) ?_
  refine y_M (n := 0) (As := []) (rest := []) (st1 := [.int (f_X10_thrown m' 0)]) X hL (c_X10_thrown (l := l) (g := gW g aM) (w := m') (k0 := 0) (rfl) rfl) tw_5_203 ⟨tw_5_206, tw_1_12, by decide, by decide, by decide +kernel⟩ ⟨tw_5_204, tw_5_205⟩ cn_10 ⟨(Nat.le_of_ble_eq_true rfl), (Nat.le_of_ble_eq_true rfl)⟩ rfl rfl hl0.1 (Nat.le_of_ble_eq_true rfl) dL_539 hf rfl (fun H locs hL => ?_)
  rw [e4]
  refine lv_iload hx hb dL_542 (lv_at hl6 1 rfl) ?_
  refine lv_icmp_eq (tgt := 549) hx hb dL_544 (by decide) (fun _ => ?_) (fun h => absurd rfl h)
  refine lv_iload hx hb dL_549 (lv_at hl6 1 rfl) ?_
  have Je : W p l e room_1 s m #[.ref b] below meth c H locs (cells + 1) (slots + 6) Q (F0 m 566 ls []) := by
    refine lv_goto (tgt := 1632) hx hb dL_566 (by decide) ?_
    exact J _ _ _ _ _ _ hR2 hL hl
  refine w_zne_t (tgt := 566) hx hb dL_551 (by decide) (fun _ => Je) (fun hz => ?_)
  have hbo : bo = true := by
    cases bo
    · exact absurd (by decide) hz
    · rfl
  have hfv : (if bo = true then vp_updL f 0 r.toInt64 else f) = vp_updL f 0 r.toInt64 := if_pos hbo
  rw [hfv] at hL
  refine lv_aload_n hx hb dL_554 rfl (lv_at hl6 5 rfl) ?_
  refine lv_iconst (v := (0 : Int32)) hx hb dL_555 (by decide) ?_
  refine va_lald hx hb X.1.2.2.2.2.2.1 hL.1 86 1 (lw_out g aC aM qo wC m' _) rfl (vp_in_mk2 (by decide) (by decide)) dL_556 ?_
  refine lv_iload hx hb dL_557 (lv_at hl6 0 rfl) ?_
  refine lv_i2l (v := r2.toInt64) hx hb dL_559 rfl ?_
  refine w_leq_t (tgt := 566) hx hb dL_560 dL_561 (by decide) (fun _ => Je) (fun h => absurd ?_ h)
  rw [e5 hbo]
  exact updL_s f 0 r.toInt64
set_option maxHeartbeats 4000000 in
theorem k_11 (X : LwX p l s m b meth c L xs g aC aM) (hR : RW wC wM) (hL : LW g (AS s) (LWo g aC aM qo wC wM f) s.heap H locs) (hl : lv_has ls 7 (lvB b aC aM qo i)) (hi : i + 6 ≤ L) (hf : cells + 1 ≤ 1114 ∧ slots + 6 ≤ 20432) (J : JEnd p l e s m b below meth c cells slots Q g aC aM qo i) : W p l e room_1 s m #[.ref b] below meth c H locs cells slots Q (F0 m 569 ls []) := by
  have hx := X.1.1
  have hb := X.1.2.1
  have hl0 : lv_has ls 7 [(0, .ref b), (1, .ref (aC 0)), (2, .ref (aM 0)), (3, .ref qo), (4, .int (nI i))] := hl
  obtain ⟨p0, P, K, V, O, h⟩ := id hR
  have q : Q1 wC (f_X9_parameterOf wC 0 (xs (i + 1))) (f_X10_parameterOf wM 0 (xs (i + 1))) := Q1.sim h (q_parameterOf h.1.1)
  obtain ⟨r, m', e1, e2, hR2⟩ := q
  refine W.widen (k := cells + 1) (n := slots + 6) (by omega) (by omega) ?_
  refine lv_aload_n hx hb dL_569 rfl (lv_at hl0 1 rfl) ?_
  refine y_rd X hL hl (k := 1) hi (by decide) rfl dL_570 dL_571 dL_573 dL_574 dL_575 ?_
  refine y_C (n := 1) (As := [.int (xs (i + 1))]) (rest := []) (st1 := [.int r]) X hL (c_X9_parameterOf (l := l) (g := gW g aC) (w := wC) (k0 := 0) (e1) rfl) tw_3_52 ⟨tw_3_55, tw_1_1, by decide, by decide, by decide +kernel⟩ ⟨tw_3_53, tw_3_54⟩ cn_9 ⟨(Nat.le_of_ble_eq_true rfl), (Nat.le_of_ble_eq_true rfl)⟩ rfl rfl hl0.1 (Nat.le_of_ble_eq_true rfl) dL_576 hf rfl (fun H locs hL => ?_)
  refine lv_aload_n hx hb dL_579 rfl (lv_at hl0 2 rfl) ?_
  refine y_rd X hL hl (k := 1) hi (by decide) rfl dL_580 dL_581 dL_583 dL_584 dL_585 ?_
  refine y_M (n := 1) (As := [.int (xs (i + 1))]) (rest := [.int r]) (st1 := [.int r, .int r]) X hL (c_X10_parameterOf (l := l) (g := gW g aM) (w := wM) (k0 := 0) (e2) rfl) tw_6_141 ⟨tw_6_144, tw_1_12, by decide, by decide, by decide +kernel⟩ ⟨tw_6_142, tw_6_143⟩ cn_10 ⟨(Nat.le_of_ble_eq_true rfl), (Nat.le_of_ble_eq_true rfl)⟩ rfl rfl hl0.1 (Nat.le_of_ble_eq_true rfl) dL_586 hf rfl (fun H locs hL => ?_)
  refine lv_icmp_eq (tgt := 1632) hx hb dL_589 (by decide) (fun _ => ?_) (fun h => absurd rfl h)
  exact J _ _ _ _ _ _ hR2 hL hl
set_option maxHeartbeats 4000000 in
theorem k_12 (X : LwX p l s m b meth c L xs g aC aM) (hR : RW wC wM) (hL : LW g (AS s) (LWo g aC aM qo wC wM f) s.heap H locs) (hl : lv_has ls 7 (lvB b aC aM qo i)) (hi : i + 6 ≤ L) (hf : cells + 1 ≤ 1114 ∧ slots + 6 ≤ 20432) (J : JEnd p l e s m b below meth c cells slots Q g aC aM qo i) : W p l e room_1 s m #[.ref b] below meth c H locs cells slots Q (F0 m 594 ls []) := by
  have hx := X.1.1
  have hb := X.1.2.1
  have hl0 : lv_has ls 7 [(0, .ref b), (1, .ref (aC 0)), (2, .ref (aM 0)), (3, .ref qo), (4, .int (nI i))] := hl
  obtain ⟨p0, P, K, V, O, h⟩ := id hR
  have q : Q1 wC (f_X9_resultOf wC 0 (xs (i + 1))) (f_X10_resultOf wM 0 (xs (i + 1))) := Q1.sim h (q_resultOf h.1.1)
  obtain ⟨r, m', e1, e2, hR2⟩ := q
  refine W.widen (k := cells + 1) (n := slots + 6) (by omega) (by omega) ?_
  refine lv_aload_n hx hb dL_594 rfl (lv_at hl0 1 rfl) ?_
  refine y_rd X hL hl (k := 1) hi (by decide) rfl dL_595 dL_596 dL_598 dL_599 dL_600 ?_
  refine y_C (n := 1) (As := [.int (xs (i + 1))]) (rest := []) (st1 := [.int r]) X hL (c_X9_resultOf (l := l) (g := gW g aC) (w := wC) (k0 := 0) (e1) rfl) tw_3_61 ⟨tw_3_64, tw_1_1, by decide, by decide, by decide +kernel⟩ ⟨tw_3_62, tw_3_63⟩ cn_9 ⟨(Nat.le_of_ble_eq_true rfl), (Nat.le_of_ble_eq_true rfl)⟩ rfl rfl hl0.1 (Nat.le_of_ble_eq_true rfl) dL_601 hf rfl (fun H locs hL => ?_)
  refine lv_aload_n hx hb dL_604 rfl (lv_at hl0 2 rfl) ?_
  refine y_rd X hL hl (k := 1) hi (by decide) rfl dL_605 dL_606 dL_608 dL_609 dL_610 ?_
  refine y_M (n := 1) (As := [.int (xs (i + 1))]) (rest := [.int r]) (st1 := [.int r, .int r]) X hL (c_X10_resultOf (l := l) (g := gW g aM) (w := wM) (k0 := 0) (e2) rfl) tw_6_149 ⟨tw_6_152, tw_1_12, by decide, by decide, by decide +kernel⟩ ⟨tw_6_150, tw_6_151⟩ cn_10 ⟨(Nat.le_of_ble_eq_true rfl), (Nat.le_of_ble_eq_true rfl)⟩ rfl rfl hl0.1 (Nat.le_of_ble_eq_true rfl) dL_611 hf rfl (fun H locs hL => ?_)
  refine lv_icmp_eq (tgt := 1632) hx hb dL_614 (by decide) (fun _ => ?_) (fun h => absurd rfl h)
  exact J _ _ _ _ _ _ hR2 hL hl
set_option maxHeartbeats 4000000 in
theorem k_13 (X : LwX p l s m b meth c L xs g aC aM) (hR : RW wC wM) (hL : LW g (AS s) (LWo g aC aM qo wC wM f) s.heap H locs) (hl : lv_has ls 7 (lvB b aC aM qo i)) (hi : i + 6 ≤ L) (hf : cells + 1 ≤ 1114 ∧ slots + 6 ≤ 20432) (J : JEnd p l e s m b below meth c cells slots Q g aC aM qo i) : W p l e room_1 s m #[.ref b] below meth c H locs cells slots Q (F0 m 619 ls []) := by
  have hx := X.1.1
  have hb := X.1.2.1
  have hl0 : lv_has ls 7 [(0, .ref b), (1, .ref (aC 0)), (2, .ref (aM 0)), (3, .ref qo), (4, .int (nI i))] := hl
  obtain ⟨p0, P, K, V, O, h⟩ := id hR
  have q : Q1 wC (some (f_X9_factCount wC 0 )) (f_X10_factCount wM 0 ) := Q1.sim h (q_factCount h.1.1)
  obtain ⟨r, m', e1, e2, hR2⟩ := q
  refine W.widen (k := cells + 1) (n := slots + 6) (by omega) (by omega) ?_
  refine lv_aload_n hx hb dL_619 rfl (lv_at hl0 1 rfl) ?_
  refine y_C (n := 0) (As := []) (rest := []) (st1 := [.int r]) X hL (c_X9_factCount (l := l) (g := gW g aC) (w := wC) (k0 := 0) (Option.some.inj e1) rfl) tw_3_65 ⟨tw_3_68, tw_1_1, by decide, by decide, by decide +kernel⟩ ⟨tw_3_66, tw_3_67⟩ cn_9 ⟨(Nat.le_of_ble_eq_true rfl), (Nat.le_of_ble_eq_true rfl)⟩ rfl rfl hl0.1 (Nat.le_of_ble_eq_true rfl) dL_620 hf rfl (fun H locs hL => ?_)
  refine lv_aload_n hx hb dL_623 rfl (lv_at hl0 2 rfl) ?_
  refine y_M (n := 0) (As := []) (rest := [.int r]) (st1 := [.int r, .int r]) X hL (c_X10_factCount (l := l) (g := gW g aM) (w := wM) (k0 := 0) (e2) rfl) tw_6_153 ⟨tw_6_156, tw_1_12, by decide, by decide, by decide +kernel⟩ ⟨tw_6_154, tw_6_155⟩ cn_10 ⟨(Nat.le_of_ble_eq_true rfl), (Nat.le_of_ble_eq_true rfl)⟩ rfl rfl hl0.1 (Nat.le_of_ble_eq_true rfl) dL_624 hf rfl (fun H locs hL => ?_)
  refine lv_icmp_eq (tgt := 1632) hx hb dL_627 (by decide) (fun _ => ?_) (fun h => absurd rfl h)
  exact J _ _ _ _ _ _ hR2 hL hl
set_option maxHeartbeats 4000000 in
theorem k_14 (X : LwX p l s m b meth c L xs g aC aM) (hR : RW wC wM) (hL : LW g (AS s) (LWo g aC aM qo wC wM f) s.heap H locs) (hl : lv_has ls 7 (lvB b aC aM qo i)) (hi : i + 6 ≤ L) (hf : cells + 1 ≤ 1114 ∧ slots + 6 ≤ 20432) (J : JEnd p l e s m b below meth c cells slots Q g aC aM qo i) : W p l e room_1 s m #[.ref b] below meth c H locs cells slots Q (F0 m 632 ls []) := by
  have hx := X.1.1
  have hb := X.1.2.1
  have hl0 : lv_has ls 7 [(0, .ref b), (1, .ref (aC 0)), (2, .ref (aM 0)), (3, .ref qo), (4, .int (nI i))] := hl
  obtain ⟨p0, P, K, V, O, h⟩ := id hR
  have q : Q1 wC (some (f_X9_roundCount wC 0 )) (f_X10_roundCount wM 0 ) := Q1.sim h (q_roundCount h.1.1)
  obtain ⟨r, m', e1, e2, hR2⟩ := q
  refine W.widen (k := cells + 1) (n := slots + 6) (by omega) (by omega) ?_
  refine lv_aload_n hx hb dL_632 rfl (lv_at hl0 1 rfl) ?_
  refine y_C (n := 0) (As := []) (rest := []) (st1 := [.int r]) X hL (c_X9_roundCount (l := l) (g := gW g aC) (w := wC) (k0 := 0) (Option.some.inj e1) rfl) tw_3_69 ⟨tw_3_72, tw_1_1, by decide, by decide, by decide +kernel⟩ ⟨tw_3_70, tw_3_71⟩ cn_9 ⟨(Nat.le_of_ble_eq_true rfl), (Nat.le_of_ble_eq_true rfl)⟩ rfl rfl hl0.1 (Nat.le_of_ble_eq_true rfl) dL_633 hf rfl (fun H locs hL => ?_)
  refine lv_aload_n hx hb dL_636 rfl (lv_at hl0 2 rfl) ?_
  refine y_M (n := 0) (As := []) (rest := [.int r]) (st1 := [.int r, .int r]) X hL (c_X10_roundCount (l := l) (g := gW g aM) (w := wM) (k0 := 0) (e2) rfl) tw_6_164 ⟨tw_6_167, tw_1_12, by decide, by decide, by decide +kernel⟩ ⟨tw_6_165, tw_6_166⟩ cn_10 ⟨(Nat.le_of_ble_eq_true rfl), (Nat.le_of_ble_eq_true rfl)⟩ rfl rfl hl0.1 (Nat.le_of_ble_eq_true rfl) dL_637 hf rfl (fun H locs hL => ?_)
  refine lv_icmp_eq (tgt := 1632) hx hb dL_640 (by decide) (fun _ => ?_) (fun h => absurd rfl h)
  exact J _ _ _ _ _ _ hR2 hL hl
set_option maxHeartbeats 4000000 in
theorem k_15 (X : LwX p l s m b meth c L xs g aC aM) (hR : RW wC wM) (hL : LW g (AS s) (LWo g aC aM qo wC wM f) s.heap H locs) (hl : lv_has ls 7 (lvB b aC aM qo i)) (hi : i + 6 ≤ L) (hf : cells + 1 ≤ 1114 ∧ slots + 6 ≤ 20432) (J : JEnd p l e s m b below meth c cells slots Q g aC aM qo i) : W p l e room_1 s m #[.ref b] below meth c H locs cells slots Q (F0 m 645 ls []) := by
  have hx := X.1.1
  have hb := X.1.2.1
  have hl0 : lv_has ls 7 [(0, .ref b), (1, .ref (aC 0)), (2, .ref (aM 0)), (3, .ref qo), (4, .int (nI i))] := hl
  obtain ⟨p0, P, K, V, O, h⟩ := id hR
  have q : Q1 wC (f_X9_pointsTo wC 0 (xs (i + 1))) (f_X10_pointsTo wM 0 (xs (i + 1))) := Q1.sim h (q_pointsTo h.1.1)
  obtain ⟨r, m', e1, e2, hR2⟩ := q
  refine W.widen (k := cells + 1) (n := slots + 6) (by omega) (by omega) ?_
  refine lv_aload_n hx hb dL_645 rfl (lv_at hl0 1 rfl) ?_
  refine y_rd X hL hl (k := 1) hi (by decide) rfl dL_646 dL_647 dL_649 dL_650 dL_651 ?_
  refine y_C (n := 1) (As := [.int (xs (i + 1))]) (rest := []) (st1 := [.int r]) X hL (c_X9_pointsTo (l := l) (g := gW g aC) (w := wC) (k0 := 0) (e1) rfl) tw_3_73 ⟨tw_3_76, tw_1_1, by decide, by decide, by decide +kernel⟩ ⟨tw_3_74, tw_3_75⟩ cn_9 ⟨(Nat.le_of_ble_eq_true rfl), (Nat.le_of_ble_eq_true rfl)⟩ rfl rfl hl0.1 (Nat.le_of_ble_eq_true rfl) dL_652 hf rfl (fun H locs hL => ?_)
  refine lv_aload_n hx hb dL_655 rfl (lv_at hl0 2 rfl) ?_
  refine y_rd X hL hl (k := 1) hi (by decide) rfl dL_656 dL_657 dL_659 dL_660 dL_661 ?_
  refine y_M (n := 1) (As := [.int (xs (i + 1))]) (rest := [.int r]) (st1 := [.int r, .int r]) X hL (c_X10_pointsTo (l := l) (g := gW g aM) (w := wM) (k0 := 0) (e2) rfl) tw_6_168 ⟨tw_6_171, tw_1_12, by decide, by decide, by decide +kernel⟩ ⟨tw_6_169, tw_6_170⟩ cn_10 ⟨(Nat.le_of_ble_eq_true rfl), (Nat.le_of_ble_eq_true rfl)⟩ rfl rfl hl0.1 (Nat.le_of_ble_eq_true rfl) dL_662 hf rfl (fun H locs hL => ?_)
  refine lv_icmp_eq (tgt := 1632) hx hb dL_665 (by decide) (fun _ => ?_) (fun h => absurd rfl h)
  exact J _ _ _ _ _ _ hR2 hL hl
set_option maxHeartbeats 4000000 in
theorem k_16 (X : LwX p l s m b meth c L xs g aC aM) (hR : RW wC wM) (hL : LW g (AS s) (LWo g aC aM qo wC wM f) s.heap H locs) (hl : lv_has ls 7 (lvB b aC aM qo i)) (hi : i + 6 ≤ L) (hf : cells + 1 ≤ 1114 ∧ slots + 6 ≤ 20432) (J : JEnd p l e s m b below meth c cells slots Q g aC aM qo i) : W p l e room_1 s m #[.ref b] below meth c H locs cells slots Q (F0 m 670 ls []) := by
  have hx := X.1.1
  have hb := X.1.2.1
  have hl0 : lv_has ls 7 [(0, .ref b), (1, .ref (aC 0)), (2, .ref (aM 0)), (3, .ref qo), (4, .int (nI i))] := hl
  obtain ⟨p0, P, K, V, O, h⟩ := id hR
  have q : Q1 wC (f_X9_pointersTo wC 0 (xs (i + 1))) (f_X10_pointersTo wM 0 (xs (i + 1))) := Q1.sim h (q_pointersTo h.1.1)
  obtain ⟨r, m', e1, e2, hR2⟩ := q
  refine W.widen (k := cells + 1) (n := slots + 6) (by omega) (by omega) ?_
  refine lv_aload_n hx hb dL_670 rfl (lv_at hl0 1 rfl) ?_
  refine y_rd X hL hl (k := 1) hi (by decide) rfl dL_671 dL_672 dL_674 dL_675 dL_676 ?_
  refine y_C (n := 1) (As := [.int (xs (i + 1))]) (rest := []) (st1 := [.int r]) X hL (c_X9_pointersTo (l := l) (g := gW g aC) (w := wC) (k0 := 0) (e1) rfl) tw_3_81 ⟨tw_3_84, tw_1_1, by decide, by decide, by decide +kernel⟩ ⟨tw_3_82, tw_3_83⟩ cn_9 ⟨(Nat.le_of_ble_eq_true rfl), (Nat.le_of_ble_eq_true rfl)⟩ rfl rfl hl0.1 (Nat.le_of_ble_eq_true rfl) dL_677 hf rfl (fun H locs hL => ?_)
  refine lv_aload_n hx hb dL_680 rfl (lv_at hl0 2 rfl) ?_
  refine y_rd X hL hl (k := 1) hi (by decide) rfl dL_681 dL_682 dL_684 dL_685 dL_686 ?_
  refine y_M (n := 1) (As := [.int (xs (i + 1))]) (rest := [.int r]) (st1 := [.int r, .int r]) X hL (c_X10_pointersTo (l := l) (g := gW g aM) (w := wM) (k0 := 0) (e2) rfl) tw_6_184 ⟨tw_6_187, tw_1_12, by decide, by decide, by decide +kernel⟩ ⟨tw_6_185, tw_6_186⟩ cn_10 ⟨(Nat.le_of_ble_eq_true rfl), (Nat.le_of_ble_eq_true rfl)⟩ rfl rfl hl0.1 (Nat.le_of_ble_eq_true rfl) dL_687 hf rfl (fun H locs hL => ?_)
  refine lv_icmp_eq (tgt := 1632) hx hb dL_690 (by decide) (fun _ => ?_) (fun h => absurd rfl h)
  exact J _ _ _ _ _ _ hR2 hL hl
set_option maxHeartbeats 4000000 in
theorem k_17 (X : LwX p l s m b meth c L xs g aC aM) (hR : RW wC wM) (hL : LW g (AS s) (LWo g aC aM qo wC wM f) s.heap H locs) (hl : lv_has ls 7 (lvB b aC aM qo i)) (hi : i + 6 ≤ L) (hf : cells + 1 ≤ 1114 ∧ slots + 6 ≤ 20432) (J : JEnd p l e s m b below meth c cells slots Q g aC aM qo i) : W p l e room_1 s m #[.ref b] below meth c H locs cells slots Q (F0 m 695 ls []) := by
  have hx := X.1.1
  have hb := X.1.2.1
  have hl0 : lv_has ls 7 [(0, .ref b), (1, .ref (aC 0)), (2, .ref (aM 0)), (3, .ref qo), (4, .int (nI i))] := hl
  obtain ⟨p0, P, K, V, O, h⟩ := id hR
  have q : Q1 wC (f_X9_commonObjects wC 0 (xs (i + 1)) (xs (i + 2))) (f_X10_commonObjects wM 0 (xs (i + 1)) (xs (i + 2))) := Q1.sim h (q_commonObjects h.1.1)
  obtain ⟨r, m', e1, e2, hR2⟩ := q
  refine W.widen (k := cells + 1) (n := slots + 6) (by omega) (by omega) ?_
  refine lv_aload_n hx hb dL_695 rfl (lv_at hl0 1 rfl) ?_
  refine y_rd X hL hl (k := 1) hi (by decide) rfl dL_696 dL_697 dL_699 dL_700 dL_701 ?_
  refine y_rd X hL hl (k := 2) hi (by decide) rfl dL_702 dL_703 dL_705 dL_706 dL_707 ?_
  refine y_C (n := 2) (As := [.int (xs (i + 1)), .int (xs (i + 2))]) (rest := []) (st1 := [.int r]) X hL (c_X9_commonObjects (l := l) (g := gW g aC) (w := wC) (k0 := 0) (e1) rfl) tw_3_86 ⟨tw_3_89, tw_1_1, by decide, by decide, by decide +kernel⟩ ⟨tw_3_87, tw_3_88⟩ cn_9 ⟨(Nat.le_of_ble_eq_true rfl), (Nat.le_of_ble_eq_true rfl)⟩ rfl rfl hl0.1 (Nat.le_of_ble_eq_true rfl) dL_708 hf rfl (fun H locs hL => ?_)
  refine lv_aload_n hx hb dL_711 rfl (lv_at hl0 2 rfl) ?_
  refine y_rd X hL hl (k := 1) hi (by decide) rfl dL_712 dL_713 dL_715 dL_716 dL_717 ?_
  refine y_rd X hL hl (k := 2) hi (by decide) rfl dL_718 dL_719 dL_721 dL_722 dL_723 ?_
  refine y_M (n := 2) (As := [.int (xs (i + 1)), .int (xs (i + 2))]) (rest := [.int r]) (st1 := [.int r, .int r]) X hL (c_X10_commonObjects (l := l) (g := gW g aM) (w := wM) (k0 := 0) (e2) rfl) tw_6_188 ⟨tw_6_191, tw_1_12, by decide, by decide, by decide +kernel⟩ ⟨tw_6_189, tw_6_190⟩ cn_10 ⟨(Nat.le_of_ble_eq_true rfl), (Nat.le_of_ble_eq_true rfl)⟩ rfl rfl hl0.1 (Nat.le_of_ble_eq_true rfl) dL_724 hf rfl (fun H locs hL => ?_)
  refine lv_icmp_eq (tgt := 1632) hx hb dL_727 (by decide) (fun _ => ?_) (fun h => absurd rfl h)
  exact J _ _ _ _ _ _ hR2 hL hl
set_option maxHeartbeats 4000000 in
theorem k_18 (X : LwX p l s m b meth c L xs g aC aM) (hR : RW wC wM) (hL : LW g (AS s) (LWo g aC aM qo wC wM f) s.heap H locs) (hl : lv_has ls 7 (lvB b aC aM qo i)) (hi : i + 6 ≤ L) (hf : cells + 1 ≤ 1114 ∧ slots + 6 ≤ 20432) (J : JEnd p l e s m b below meth c cells slots Q g aC aM qo i) : W p l e room_1 s m #[.ref b] below meth c H locs cells slots Q (F0 m 732 ls []) := by
  have hx := X.1.1
  have hb := X.1.2.1
  have hl0 : lv_has ls 7 [(0, .ref b), (1, .ref (aC 0)), (2, .ref (aM 0)), (3, .ref qo), (4, .int (nI i))] := hl
  obtain ⟨p0, P, K, V, O, h⟩ := id hR
  have q : Q1 wC (f_X9_reachableObjects wC 0 (xs (i + 1))) (f_X10_reachableObjects wM 0 (xs (i + 1))) := Q1.sim h (q_reachableObjects h.1.1)
  obtain ⟨r, m', e1, e2, hR2⟩ := q
  refine W.widen (k := cells + 1) (n := slots + 6) (by omega) (by omega) ?_
  refine lv_aload_n hx hb dL_732 rfl (lv_at hl0 1 rfl) ?_
  refine y_rd X hL hl (k := 1) hi (by decide) rfl dL_733 dL_734 dL_736 dL_737 dL_738 ?_
  refine y_C (n := 1) (As := [.int (xs (i + 1))]) (rest := []) (st1 := [.int r]) X hL (c_X9_reachableObjects (l := l) (g := gW g aC) (w := wC) (k0 := 0) (e1) rfl) tw_3_90 ⟨tw_3_93, tw_1_1, by decide, by decide, by decide +kernel⟩ ⟨tw_3_91, tw_3_92⟩ cn_9 ⟨(Nat.le_of_ble_eq_true rfl), (Nat.le_of_ble_eq_true rfl)⟩ rfl rfl hl0.1 (Nat.le_of_ble_eq_true rfl) dL_739 hf rfl (fun H locs hL => ?_)
  refine lv_aload_n hx hb dL_742 rfl (lv_at hl0 2 rfl) ?_
  refine y_rd X hL hl (k := 1) hi (by decide) rfl dL_743 dL_744 dL_746 dL_747 dL_748 ?_
  refine y_M (n := 1) (As := [.int (xs (i + 1))]) (rest := [.int r]) (st1 := [.int r, .int r]) X hL (c_X10_reachableObjects (l := l) (g := gW g aM) (w := wM) (k0 := 0) (e2) rfl) tw_6_192 ⟨tw_6_195, tw_1_12, by decide, by decide, by decide +kernel⟩ ⟨tw_6_193, tw_6_194⟩ cn_10 ⟨(Nat.le_of_ble_eq_true rfl), (Nat.le_of_ble_eq_true rfl)⟩ rfl rfl hl0.1 (Nat.le_of_ble_eq_true rfl) dL_749 hf rfl (fun H locs hL => ?_)
  refine lv_icmp_eq (tgt := 1632) hx hb dL_752 (by decide) (fun _ => ?_) (fun h => absurd rfl h)
  exact J _ _ _ _ _ _ hR2 hL hl
set_option maxHeartbeats 4000000 in
theorem k_19 (X : LwX p l s m b meth c L xs g aC aM) (hR : RW wC wM) (hL : LW g (AS s) (LWo g aC aM qo wC wM f) s.heap H locs) (hl : lv_has ls 7 (lvB b aC aM qo i)) (hi : i + 6 ≤ L) (hf : cells + 1 ≤ 1114 ∧ slots + 6 ≤ 20432) (J : JEnd p l e s m b below meth c cells slots Q g aC aM qo i) : W p l e room_1 s m #[.ref b] below meth c H locs cells slots Q (F0 m 757 ls []) := by
  have hx := X.1.1
  have hb := X.1.2.1
  have hl0 : lv_has ls 7 [(0, .ref b), (1, .ref (aC 0)), (2, .ref (aM 0)), (3, .ref qo), (4, .int (nI i))] := hl
  obtain ⟨p0, P, K, V, O, h⟩ := id hR
  have q : Q1 wC (f_X9_roundOf wC 0 (xs (i + 1)) (xs (i + 2))) (f_X10_roundOf wM 0 (xs (i + 1)) (xs (i + 2))) := Q1.sim h (q_roundOf h.1.1)
  obtain ⟨r, m', e1, e2, hR2⟩ := q
  refine W.widen (k := cells + 1) (n := slots + 6) (by omega) (by omega) ?_
  refine lv_aload_n hx hb dL_757 rfl (lv_at hl0 1 rfl) ?_
  refine y_rd X hL hl (k := 1) hi (by decide) rfl dL_758 dL_759 dL_761 dL_762 dL_763 ?_
  refine y_rd X hL hl (k := 2) hi (by decide) rfl dL_764 dL_765 dL_767 dL_768 dL_769 ?_
  refine y_C (n := 2) (As := [.int (xs (i + 1)), .int (xs (i + 2))]) (rest := []) (st1 := [.int r]) X hL (c_X9_roundOf (l := l) (g := gW g aC) (w := wC) (k0 := 0) (e1) rfl) tw_3_99 ⟨tw_3_102, tw_1_1, by decide, by decide, by decide +kernel⟩ ⟨tw_3_100, tw_3_101⟩ cn_9 ⟨(Nat.le_of_ble_eq_true rfl), (Nat.le_of_ble_eq_true rfl)⟩ rfl rfl hl0.1 (Nat.le_of_ble_eq_true rfl) dL_770 hf rfl (fun H locs hL => ?_)
  refine lv_aload_n hx hb dL_773 rfl (lv_at hl0 2 rfl) ?_
  refine y_rd X hL hl (k := 1) hi (by decide) rfl dL_774 dL_775 dL_777 dL_778 dL_779 ?_
  refine y_rd X hL hl (k := 2) hi (by decide) rfl dL_780 dL_781 dL_783 dL_784 dL_785 ?_
  refine y_M (n := 2) (As := [.int (xs (i + 1)), .int (xs (i + 2))]) (rest := [.int r]) (st1 := [.int r, .int r]) X hL (c_X10_roundOf (l := l) (g := gW g aM) (w := wM) (k0 := 0) (e2) rfl) tw_6_196 ⟨tw_6_199, tw_1_12, by decide, by decide, by decide +kernel⟩ ⟨tw_6_197, tw_6_198⟩ cn_10 ⟨(Nat.le_of_ble_eq_true rfl), (Nat.le_of_ble_eq_true rfl)⟩ rfl rfl hl0.1 (Nat.le_of_ble_eq_true rfl) dL_786 hf rfl (fun H locs hL => ?_)
  refine lv_icmp_eq (tgt := 1632) hx hb dL_789 (by decide) (fun _ => ?_) (fun h => absurd rfl h)
  exact J _ _ _ _ _ _ hR2 hL hl
set_option maxHeartbeats 4000000 in
theorem k_20 (X : LwX p l s m b meth c L xs g aC aM) (hR : RW wC wM) (hL : LW g (AS s) (LWo g aC aM qo wC wM f) s.heap H locs) (hl : lv_has ls 7 (lvB b aC aM qo i)) (hi : i + 6 ≤ L) (hf : cells + 1 ≤ 1114 ∧ slots + 6 ≤ 20432) (J : JEnd p l e s m b below meth c cells slots Q g aC aM qo i) : W p l e room_1 s m #[.ref b] below meth c H locs cells slots Q (F0 m 794 ls []) := by
  have hx := X.1.1
  have hb := X.1.2.1
  have hl0 : lv_has ls 7 [(0, .ref b), (1, .ref (aC 0)), (2, .ref (aM 0)), (3, .ref qo), (4, .int (nI i))] := hl
  obtain ⟨p0, P, K, V, O, h⟩ := id hR
  have q : Q1 wC (f_X9_derivationCount wC 0 (xs (i + 1)) (xs (i + 2))) (f_X10_derivationCount wM 0 (xs (i + 1)) (xs (i + 2))) := Q1.der h (q_derivationCount h.1.1)
  obtain ⟨r, m', e1, e2, hR2⟩ := q
  refine W.widen (k := cells + 1) (n := slots + 6) (by omega) (by omega) ?_
  refine lv_aload_n hx hb dL_794 rfl (lv_at hl0 1 rfl) ?_
  refine y_rd X hL hl (k := 1) hi (by decide) rfl dL_795 dL_796 dL_798 dL_799 dL_800 ?_
  refine y_rd X hL hl (k := 2) hi (by decide) rfl dL_801 dL_802 dL_804 dL_805 dL_806 ?_
  refine y_C (n := 2) (As := [.int (xs (i + 1)), .int (xs (i + 2))]) (rest := []) (st1 := [.int r]) X hL (c_X9_derivationCount (l := l) (g := gW g aC) (w := wC) (k0 := 0) (e1) rfl) tw_3_108 ⟨tw_3_111, tw_1_1, by decide, by decide, by decide +kernel⟩ ⟨tw_3_109, tw_3_110⟩ cn_9 ⟨(Nat.le_of_ble_eq_true rfl), (Nat.le_of_ble_eq_true rfl)⟩ rfl rfl hl0.1 (Nat.le_of_ble_eq_true rfl) dL_807 hf rfl (fun H locs hL => ?_)
  refine lv_aload_n hx hb dL_810 rfl (lv_at hl0 2 rfl) ?_
  refine y_rd X hL hl (k := 1) hi (by decide) rfl dL_811 dL_812 dL_814 dL_815 dL_816 ?_
  refine y_rd X hL hl (k := 2) hi (by decide) rfl dL_817 dL_818 dL_820 dL_821 dL_822 ?_
  refine y_M (n := 2) (As := [.int (xs (i + 1)), .int (xs (i + 2))]) (rest := [.int r]) (st1 := [.int r, .int r]) X hL (c_X10_derivationCount (l := l) (g := gW g aM) (w := wM) (k0 := 0) (e2) rfl) tw_6_208 ⟨tw_6_211, tw_1_12, by decide, by decide, by decide +kernel⟩ ⟨tw_6_209, tw_6_210⟩ cn_10 ⟨(Nat.le_of_ble_eq_true rfl), (Nat.le_of_ble_eq_true rfl)⟩ rfl rfl hl0.1 (Nat.le_of_ble_eq_true rfl) dL_823 hf rfl (fun H locs hL => ?_)
  refine lv_icmp_eq (tgt := 1632) hx hb dL_826 (by decide) (fun _ => ?_) (fun h => absurd rfl h)
  exact J _ _ _ _ _ _ hR2 hL hl
set_option maxHeartbeats 4000000 in
theorem k_21 (X : LwX p l s m b meth c L xs g aC aM) (hR : RW wC wM) (hL : LW g (AS s) (LWo g aC aM qo wC wM f) s.heap H locs) (hl : lv_has ls 7 (lvB b aC aM qo i)) (hi : i + 6 ≤ L) (hf : cells + 1 ≤ 1114 ∧ slots + 6 ≤ 20432) (J : JEnd p l e s m b below meth c cells slots Q g aC aM qo i) : W p l e room_1 s m #[.ref b] below meth c H locs cells slots Q (F0 m 831 ls []) := by
  have hx := X.1.1
  have hb := X.1.2.1
  have hl0 : lv_has ls 7 [(0, .ref b), (1, .ref (aC 0)), (2, .ref (aM 0)), (3, .ref qo), (4, .int (nI i))] := hl
  obtain ⟨p0, P, K, V, O, h⟩ := id hR
  have q : Q1 wC (f_X9_explanationLength wC 0 (xs (i + 1)) (xs (i + 2))) (f_X10_explanationLength wM 0 (xs (i + 1)) (xs (i + 2))) := Q1.der h (q_explanationLength h.1.1)
  obtain ⟨r, m', e1, e2, hR2⟩ := q
  refine W.widen (k := cells + 1) (n := slots + 6) (by omega) (by omega) ?_
  refine lv_aload_n hx hb dL_831 rfl (lv_at hl0 1 rfl) ?_
  refine y_rd X hL hl (k := 1) hi (by decide) rfl dL_832 dL_833 dL_835 dL_836 dL_837 ?_
  refine y_rd X hL hl (k := 2) hi (by decide) rfl dL_838 dL_839 dL_841 dL_842 dL_843 ?_
  refine y_C (n := 2) (As := [.int (xs (i + 1)), .int (xs (i + 2))]) (rest := []) (st1 := [.int r]) X hL (c_X9_explanationLength (l := l) (g := gW g aC) (w := wC) (k0 := 0) (e1) rfl) tw_3_117 ⟨tw_3_120, tw_1_1, by decide, by decide, by decide +kernel⟩ ⟨tw_3_118, tw_3_119⟩ cn_9 ⟨(Nat.le_of_ble_eq_true rfl), (Nat.le_of_ble_eq_true rfl)⟩ rfl rfl hl0.1 (Nat.le_of_ble_eq_true rfl) dL_844 hf rfl (fun H locs hL => ?_)
  refine lv_aload_n hx hb dL_847 rfl (lv_at hl0 2 rfl) ?_
  refine y_rd X hL hl (k := 1) hi (by decide) rfl dL_848 dL_849 dL_851 dL_852 dL_853 ?_
  refine y_rd X hL hl (k := 2) hi (by decide) rfl dL_854 dL_855 dL_857 dL_858 dL_859 ?_
  refine y_M (n := 2) (As := [.int (xs (i + 1)), .int (xs (i + 2))]) (rest := [.int r]) (st1 := [.int r, .int r]) X hL (c_X10_explanationLength (l := l) (g := gW g aM) (w := wM) (k0 := 0) (e2) rfl) tw_6_228 ⟨tw_6_231, tw_1_12, by decide, by decide, by decide +kernel⟩ ⟨tw_6_229, tw_6_230⟩ cn_10 ⟨(Nat.le_of_ble_eq_true rfl), (Nat.le_of_ble_eq_true rfl)⟩ rfl rfl hl0.1 (Nat.le_of_ble_eq_true rfl) dL_860 hf rfl (fun H locs hL => ?_)
  refine lv_icmp_eq (tgt := 1632) hx hb dL_863 (by decide) (fun _ => ?_) (fun h => absurd rfl h)
  exact J _ _ _ _ _ _ hR2 hL hl
set_option maxHeartbeats 4000000 in
theorem k_22 (X : LwX p l s m b meth c L xs g aC aM) (hR : RW wC wM) (hL : LW g (AS s) (LWo g aC aM qo wC wM f) s.heap H locs) (hl : lv_has ls 7 (lvB b aC aM qo i)) (hi : i + 6 ≤ L) (hf : cells + 1 ≤ 1114 ∧ slots + 6 ≤ 20432) (J : JEnd p l e s m b below meth c cells slots Q g aC aM qo i) : W p l e room_1 s m #[.ref b] below meth c H locs cells slots Q (F0 m 868 ls []) := by
  have hx := X.1.1
  have hb := X.1.2.1
  have hl0 : lv_has ls 7 [(0, .ref b), (1, .ref (aC 0)), (2, .ref (aM 0)), (3, .ref qo), (4, .int (nI i))] := hl
  obtain ⟨p0, P, K, V, O, h⟩ := id hR
  have q : Q1 wC (f_X9_explanationConstraint wC 0 (xs (i + 1)) (xs (i + 2)) (xs (i + 3))) (f_X10_explanationConstraint wM 0 (xs (i + 1)) (xs (i + 2)) (xs (i + 3))) := Q1.der h (q_explanationConstraint h.1.1)
  obtain ⟨r, m', e1, e2, hR2⟩ := q
  refine W.widen (k := cells + 1) (n := slots + 6) (by omega) (by omega) ?_
  refine lv_aload_n hx hb dL_868 rfl (lv_at hl0 1 rfl) ?_
  refine y_rd X hL hl (k := 1) hi (by decide) rfl dL_869 dL_870 dL_872 dL_873 dL_874 ?_
  refine y_rd X hL hl (k := 2) hi (by decide) rfl dL_875 dL_876 dL_878 dL_879 dL_880 ?_
  refine y_rd X hL hl (k := 3) hi (by decide) rfl dL_881 dL_882 dL_884 dL_885 dL_886 ?_
  refine y_C (n := 3) (As := [.int (xs (i + 1)), .int (xs (i + 2)), .int (xs (i + 3))]) (rest := []) (st1 := [.int r]) X hL (c_X9_explanationConstraint (l := l) (g := gW g aC) (w := wC) (k0 := 0) (e1) rfl) tw_3_121 ⟨tw_3_124, tw_1_1, by decide, by decide, by decide +kernel⟩ ⟨tw_3_122, tw_3_123⟩ cn_9 ⟨(Nat.le_of_ble_eq_true rfl), (Nat.le_of_ble_eq_true rfl)⟩ rfl rfl hl0.1 (Nat.le_of_ble_eq_true rfl) dL_887 hf rfl (fun H locs hL => ?_)
  refine lv_aload_n hx hb dL_890 rfl (lv_at hl0 2 rfl) ?_
  refine y_rd X hL hl (k := 1) hi (by decide) rfl dL_891 dL_892 dL_894 dL_895 dL_896 ?_
  refine y_rd X hL hl (k := 2) hi (by decide) rfl dL_897 dL_898 dL_900 dL_901 dL_902 ?_
  refine y_rd X hL hl (k := 3) hi (by decide) rfl dL_903 dL_904 dL_906 dL_907 dL_908 ?_
  refine y_M (n := 3) (As := [.int (xs (i + 1)), .int (xs (i + 2)), .int (xs (i + 3))]) (rest := [.int r]) (st1 := [.int r, .int r]) X hL (c_X10_explanationConstraint (l := l) (g := gW g aM) (w := wM) (k0 := 0) (e2) rfl) tw_6_236 ⟨tw_6_239, tw_1_12, by decide, by decide, by decide +kernel⟩ ⟨tw_6_237, tw_6_238⟩ cn_10 ⟨(Nat.le_of_ble_eq_true rfl), (Nat.le_of_ble_eq_true rfl)⟩ rfl rfl hl0.1 (Nat.le_of_ble_eq_true rfl) dL_909 hf rfl (fun H locs hL => ?_)
  refine lv_icmp_eq (tgt := 1632) hx hb dL_912 (by decide) (fun _ => ?_) (fun h => absurd rfl h)
  exact J _ _ _ _ _ _ hR2 hL hl
set_option maxHeartbeats 4000000 in
theorem k_23 (X : LwX p l s m b meth c L xs g aC aM) (hR : RW wC wM) (hL : LW g (AS s) (LWo g aC aM qo wC wM f) s.heap H locs) (hl : lv_has ls 7 (lvB b aC aM qo i)) (hi : i + 6 ≤ L) (hf : cells + 1 ≤ 1114 ∧ slots + 6 ≤ 20432) (J : JEnd p l e s m b below meth c cells slots Q g aC aM qo i) : W p l e room_1 s m #[.ref b] below meth c H locs cells slots Q (F0 m 917 ls []) := by
  have hx := X.1.1
  have hb := X.1.2.1
  have hl0 : lv_has ls 7 [(0, .ref b), (1, .ref (aC 0)), (2, .ref (aM 0)), (3, .ref qo), (4, .int (nI i))] := hl
  obtain ⟨p0, P, K, V, O, h⟩ := id hR
  have q : Q1 wC (f_X9_explanationSource wC 0 (xs (i + 1)) (xs (i + 2)) (xs (i + 3))) (f_X10_explanationSource wM 0 (xs (i + 1)) (xs (i + 2)) (xs (i + 3))) := Q1.der h (q_explanationSource h.1.1)
  obtain ⟨r, m', e1, e2, hR2⟩ := q
  refine W.widen (k := cells + 1) (n := slots + 6) (by omega) (by omega) ?_
  refine lv_aload_n hx hb dL_917 rfl (lv_at hl0 1 rfl) ?_
  refine y_rd X hL hl (k := 1) hi (by decide) rfl dL_918 dL_919 dL_921 dL_922 dL_923 ?_
  refine y_rd X hL hl (k := 2) hi (by decide) rfl dL_924 dL_925 dL_927 dL_928 dL_929 ?_
  refine y_rd X hL hl (k := 3) hi (by decide) rfl dL_930 dL_931 dL_933 dL_934 dL_935 ?_
  refine y_C (n := 3) (As := [.int (xs (i + 1)), .int (xs (i + 2)), .int (xs (i + 3))]) (rest := []) (st1 := [.int r]) X hL (c_X9_explanationSource (l := l) (g := gW g aC) (w := wC) (k0 := 0) (e1) rfl) tw_3_129 ⟨tw_3_132, tw_1_1, by decide, by decide, by decide +kernel⟩ ⟨tw_3_130, tw_3_131⟩ cn_9 ⟨(Nat.le_of_ble_eq_true rfl), (Nat.le_of_ble_eq_true rfl)⟩ rfl rfl hl0.1 (Nat.le_of_ble_eq_true rfl) dL_936 hf rfl (fun H locs hL => ?_)
  refine lv_aload_n hx hb dL_939 rfl (lv_at hl0 2 rfl) ?_
  refine y_rd X hL hl (k := 1) hi (by decide) rfl dL_940 dL_941 dL_943 dL_944 dL_945 ?_
  refine y_rd X hL hl (k := 2) hi (by decide) rfl dL_946 dL_947 dL_949 dL_950 dL_951 ?_
  refine y_rd X hL hl (k := 3) hi (by decide) rfl dL_952 dL_953 dL_955 dL_956 dL_957 ?_
  refine y_M (n := 3) (As := [.int (xs (i + 1)), .int (xs (i + 2)), .int (xs (i + 3))]) (rest := [.int r]) (st1 := [.int r, .int r]) X hL (c_X10_explanationSource (l := l) (g := gW g aM) (w := wM) (k0 := 0) (e2) rfl) tw_7_4 ⟨tw_7_7, tw_1_12, by decide, by decide, by decide +kernel⟩ ⟨tw_7_5, tw_7_6⟩ cn_10 ⟨(Nat.le_of_ble_eq_true rfl), (Nat.le_of_ble_eq_true rfl)⟩ rfl rfl hl0.1 (Nat.le_of_ble_eq_true rfl) dL_958 hf rfl (fun H locs hL => ?_)
  refine lv_icmp_eq (tgt := 1632) hx hb dL_961 (by decide) (fun _ => ?_) (fun h => absurd rfl h)
  exact J _ _ _ _ _ _ hR2 hL hl
set_option maxHeartbeats 4000000 in
theorem k_24 (X : LwX p l s m b meth c L xs g aC aM) (hR : RW wC wM) (hL : LW g (AS s) (LWo g aC aM qo wC wM f) s.heap H locs) (hl : lv_has ls 7 (lvB b aC aM qo i)) (hi : i + 6 ≤ L) (hf : cells + 1 ≤ 1114 ∧ slots + 6 ≤ 20432) (J : JEnd p l e s m b below meth c cells slots Q g aC aM qo i) : W p l e room_1 s m #[.ref b] below meth c H locs cells slots Q (F0 m 966 ls []) := by
  have hx := X.1.1
  have hb := X.1.2.1
  have hl0 : lv_has ls 7 [(0, .ref b), (1, .ref (aC 0)), (2, .ref (aM 0)), (3, .ref qo), (4, .int (nI i))] := hl
  obtain ⟨p0, P, K, V, O, h⟩ := id hR
  have q : Q1 wC (f_X9_explanationVia wC 0 (xs (i + 1)) (xs (i + 2)) (xs (i + 3))) (f_X10_explanationVia wM 0 (xs (i + 1)) (xs (i + 2)) (xs (i + 3))) := Q1.der h (q_explanationVia h.1.1)
  obtain ⟨r, m', e1, e2, hR2⟩ := q
  refine W.widen (k := cells + 1) (n := slots + 6) (by omega) (by omega) ?_
  refine lv_aload_n hx hb dL_966 rfl (lv_at hl0 1 rfl) ?_
  refine y_rd X hL hl (k := 1) hi (by decide) rfl dL_967 dL_968 dL_970 dL_971 dL_972 ?_
  refine y_rd X hL hl (k := 2) hi (by decide) rfl dL_973 dL_974 dL_976 dL_977 dL_978 ?_
  refine y_rd X hL hl (k := 3) hi (by decide) rfl dL_979 dL_980 dL_982 dL_983 dL_984 ?_
  refine y_C (n := 3) (As := [.int (xs (i + 1)), .int (xs (i + 2)), .int (xs (i + 3))]) (rest := []) (st1 := [.int r]) X hL (c_X9_explanationVia (l := l) (g := gW g aC) (w := wC) (k0 := 0) (e1) rfl) tw_3_136 ⟨tw_3_139, tw_1_1, by decide, by decide, by decide +kernel⟩ ⟨tw_3_137, tw_3_138⟩ cn_9 ⟨(Nat.le_of_ble_eq_true rfl), (Nat.le_of_ble_eq_true rfl)⟩ rfl rfl hl0.1 (Nat.le_of_ble_eq_true rfl) dL_985 hf rfl (fun H locs hL => ?_)
  refine lv_aload_n hx hb dL_988 rfl (lv_at hl0 2 rfl) ?_
  refine y_rd X hL hl (k := 1) hi (by decide) rfl dL_989 dL_990 dL_992 dL_993 dL_994 ?_
  refine y_rd X hL hl (k := 2) hi (by decide) rfl dL_995 dL_996 dL_998 dL_999 dL_1000 ?_
  refine y_rd X hL hl (k := 3) hi (by decide) rfl dL_1001 dL_1002 dL_1004 dL_1005 dL_1006 ?_
  refine y_M (n := 3) (As := [.int (xs (i + 1)), .int (xs (i + 2)), .int (xs (i + 3))]) (rest := [.int r]) (st1 := [.int r, .int r]) X hL (c_X10_explanationVia (l := l) (g := gW g aM) (w := wM) (k0 := 0) (e2) rfl) tw_7_11 ⟨tw_7_14, tw_1_12, by decide, by decide, by decide +kernel⟩ ⟨tw_7_12, tw_7_13⟩ cn_10 ⟨(Nat.le_of_ble_eq_true rfl), (Nat.le_of_ble_eq_true rfl)⟩ rfl rfl hl0.1 (Nat.le_of_ble_eq_true rfl) dL_1007 hf rfl (fun H locs hL => ?_)
  refine lv_icmp_eq (tgt := 1632) hx hb dL_1010 (by decide) (fun _ => ?_) (fun h => absurd rfl h)
  exact J _ _ _ _ _ _ hR2 hL hl
set_option maxHeartbeats 4000000 in
theorem k_25 (X : LwX p l s m b meth c L xs g aC aM) (hR : RW wC wM) (hL : LW g (AS s) (LWo g aC aM qo wC wM f) s.heap H locs) (hl : lv_has ls 7 (lvB b aC aM qo i)) (hi : i + 6 ≤ L) (hf : cells + 1 ≤ 1114 ∧ slots + 6 ≤ 20432) (J : JEnd p l e s m b below meth c cells slots Q g aC aM qo i) : W p l e room_1 s m #[.ref b] below meth c H locs cells slots Q (F0 m 1015 ls []) := by
  have hx := X.1.1
  have hb := X.1.2.1
  have hl0 : lv_has ls 7 [(0, .ref b), (1, .ref (aC 0)), (2, .ref (aM 0)), (3, .ref qo), (4, .int (nI i))] := hl
  obtain ⟨p0, P, K, V, O, h⟩ := id hR
  have q : Q1 wC (f_X9_proof wC 0 (xs (i + 1)) (xs (i + 2))) (f_X10_proof wM 0 (xs (i + 1)) (xs (i + 2))) := Q1.prf h (q_proof h.1.1)
  obtain ⟨r, m', e1, e2, hR2⟩ := q
  refine W.widen (k := cells + 1) (n := slots + 6) (by omega) (by omega) ?_
  refine lv_aload_n hx hb dL_1015 rfl (lv_at hl0 1 rfl) ?_
  refine y_rd X hL hl (k := 1) hi (by decide) rfl dL_1016 dL_1017 dL_1019 dL_1020 dL_1021 ?_
  refine y_rd X hL hl (k := 2) hi (by decide) rfl dL_1022 dL_1023 dL_1025 dL_1026 dL_1027 ?_
  refine y_C (n := 2) (As := [.int (xs (i + 1)), .int (xs (i + 2))]) (rest := []) (st1 := [.int r]) X hL (c_X9_proof (l := l) (g := gW g aC) (w := wC) (k0 := 0) (e1) rfl) tw_3_140 ⟨tw_3_143, tw_1_1, by decide, by decide, by decide +kernel⟩ ⟨tw_3_141, tw_3_142⟩ cn_9 ⟨(Nat.le_of_ble_eq_true rfl), (Nat.le_of_ble_eq_true rfl)⟩ rfl rfl hl0.1 (Nat.le_of_ble_eq_true rfl) dL_1028 hf rfl (fun H locs hL => ?_)
  refine lv_aload_n hx hb dL_1031 rfl (lv_at hl0 2 rfl) ?_
  refine y_rd X hL hl (k := 1) hi (by decide) rfl dL_1032 dL_1033 dL_1035 dL_1036 dL_1037 ?_
  refine y_rd X hL hl (k := 2) hi (by decide) rfl dL_1038 dL_1039 dL_1041 dL_1042 dL_1043 ?_
  refine y_M (n := 2) (As := [.int (xs (i + 1)), .int (xs (i + 2))]) (rest := [.int r]) (st1 := [.int r, .int r]) X hL (c_X10_proof (l := l) (g := gW g aM) (w := wM) (k0 := 0) (e2) rfl) tw_7_15 ⟨tw_7_18, tw_1_12, by decide, by decide, by decide +kernel⟩ ⟨tw_7_16, tw_7_17⟩ cn_10 ⟨(Nat.le_of_ble_eq_true rfl), (Nat.le_of_ble_eq_true rfl)⟩ rfl rfl hl0.1 (Nat.le_of_ble_eq_true rfl) dL_1044 hf rfl (fun H locs hL => ?_)
  refine lv_icmp_eq (tgt := 1632) hx hb dL_1047 (by decide) (fun _ => ?_) (fun h => absurd rfl h)
  exact J _ _ _ _ _ _ hR2 hL hl
set_option maxHeartbeats 4000000 in
theorem k_26 (X : LwX p l s m b meth c L xs g aC aM) (hR : RW wC wM) (hL : LW g (AS s) (LWo g aC aM qo wC wM f) s.heap H locs) (hl : lv_has ls 7 (lvB b aC aM qo i)) (hi : i + 6 ≤ L) (hf : cells + 1 ≤ 1114 ∧ slots + 6 ≤ 20432) (J : JEnd p l e s m b below meth c cells slots Q g aC aM qo i) : W p l e room_1 s m #[.ref b] below meth c H locs cells slots Q (F0 m 1052 ls []) := by
  have hx := X.1.1
  have hb := X.1.2.1
  have hl0 : lv_has ls 7 [(0, .ref b), (1, .ref (aC 0)), (2, .ref (aM 0)), (3, .ref qo), (4, .int (nI i))] := hl
  obtain ⟨p0, P, K, V, O, h⟩ := id hR
  have q : Q2 (f_X9_necessaryConstraints wC 0 (xs (i + 1)) (xs (i + 2))) (f_X10_necessaryConstraints wM 0 (xs (i + 1)) (xs (i + 2))) := Q2.wif h (q_necessaryConstraints h.1.1)
  obtain ⟨r, c', m', e1, e2, hR2⟩ := q
  refine W.widen (k := cells + 1) (n := slots + 6) (by omega) (by omega) ?_
  refine lv_aload_n hx hb dL_1052 rfl (lv_at hl0 1 rfl) ?_
  refine y_rd X hL hl (k := 1) hi (by decide) rfl dL_1053 dL_1054 dL_1056 dL_1057 dL_1058 ?_
  refine y_rd X hL hl (k := 2) hi (by decide) rfl dL_1059 dL_1060 dL_1062 dL_1063 dL_1064 ?_
  refine y_C (n := 2) (As := [.int (xs (i + 1)), .int (xs (i + 2))]) (rest := []) (st1 := [.int r]) X hL (c_X9_necessaryConstraints (l := l) (g := gW g aC) (w := wC) (k0 := 0) (e1) rfl) tw_3_144 ⟨tw_3_147, tw_1_1, by decide, by decide, by decide +kernel⟩ ⟨tw_3_145, tw_3_146⟩ cn_9 ⟨(Nat.le_of_ble_eq_true rfl), (Nat.le_of_ble_eq_true rfl)⟩ rfl rfl hl0.1 (Nat.le_of_ble_eq_true rfl) dL_1065 hf rfl (fun H locs hL => ?_)
  refine lv_aload_n hx hb dL_1068 rfl (lv_at hl0 2 rfl) ?_
  refine y_rd X hL hl (k := 1) hi (by decide) rfl dL_1069 dL_1070 dL_1072 dL_1073 dL_1074 ?_
  refine y_rd X hL hl (k := 2) hi (by decide) rfl dL_1075 dL_1076 dL_1078 dL_1079 dL_1080 ?_
  refine y_M (n := 2) (As := [.int (xs (i + 1)), .int (xs (i + 2))]) (rest := [.int r]) (st1 := [.int r, .int r]) X hL (c_X10_necessaryConstraints (l := l) (g := gW g aM) (w := wM) (k0 := 0) (e2) rfl) tw_7_23 ⟨tw_7_26, tw_1_12, by decide, by decide, by decide +kernel⟩ ⟨tw_7_24, tw_7_25⟩ cn_10 ⟨(Nat.le_of_ble_eq_true rfl), (Nat.le_of_ble_eq_true rfl)⟩ rfl rfl hl0.1 (Nat.le_of_ble_eq_true rfl) dL_1081 hf rfl (fun H locs hL => ?_)
  refine lv_icmp_eq (tgt := 1632) hx hb dL_1084 (by decide) (fun _ => ?_) (fun h => absurd rfl h)
  exact J _ _ _ _ _ _ hR2 hL hl
set_option maxHeartbeats 4000000 in
theorem k_27 (X : LwX p l s m b meth c L xs g aC aM) (hR : RW wC wM) (hL : LW g (AS s) (LWo g aC aM qo wC wM f) s.heap H locs) (hl : lv_has ls 7 (lvB b aC aM qo i)) (hi : i + 6 ≤ L) (hf : cells + 1 ≤ 1114 ∧ slots + 6 ≤ 20432) (J : JEnd p l e s m b below meth c cells slots Q g aC aM qo i) : W p l e room_1 s m #[.ref b] below meth c H locs cells slots Q (F0 m 1089 ls []) := by
  have hx := X.1.1
  have hb := X.1.2.1
  have hl0 : lv_has ls 7 [(0, .ref b), (1, .ref (aC 0)), (2, .ref (aM 0)), (3, .ref qo), (4, .int (nI i))] := hl
  obtain ⟨p0, P, K, V, O, h⟩ := id hR
  have q : Q2 (f_X9_edgeCount wC 0 ) (f_X10_edgeCount wM 0 ) := Q2.gr h (q_edgeCount h.1.1 h.2.2.2.2.2.1)
  obtain ⟨r, c', m', e1, e2, hR2⟩ := q
  refine W.widen (k := cells + 1) (n := slots + 6) (by omega) (by omega) ?_
  refine lv_aload_n hx hb dL_1089 rfl (lv_at hl0 1 rfl) ?_
  refine y_C (n := 0) (As := []) (rest := []) (st1 := [.int r]) X hL (c_X9_edgeCount (l := l) (g := gW g aC) (w := wC) (k0 := 0) (e1) rfl) tw_3_166 ⟨tw_3_169, tw_1_1, by decide, by decide, by decide +kernel⟩ ⟨tw_3_167, tw_3_168⟩ cn_9 ⟨(Nat.le_of_ble_eq_true rfl), (Nat.le_of_ble_eq_true rfl)⟩ rfl rfl hl0.1 (Nat.le_of_ble_eq_true rfl) dL_1090 hf rfl (fun H locs hL => ?_)
  refine lv_aload_n hx hb dL_1093 rfl (lv_at hl0 2 rfl) ?_
  refine y_M (n := 0) (As := []) (rest := [.int r]) (st1 := [.int r, .int r]) X hL (c_X10_edgeCount (l := l) (g := gW g aM) (w := wM) (k0 := 0) (e2) rfl) tw_7_35 ⟨tw_7_38, tw_1_12, by decide, by decide, by decide +kernel⟩ ⟨tw_7_36, tw_7_37⟩ cn_10 ⟨(Nat.le_of_ble_eq_true rfl), (Nat.le_of_ble_eq_true rfl)⟩ rfl rfl hl0.1 (Nat.le_of_ble_eq_true rfl) dL_1094 hf rfl (fun H locs hL => ?_)
  refine lv_icmp_eq (tgt := 1632) hx hb dL_1097 (by decide) (fun _ => ?_) (fun h => absurd rfl h)
  exact J _ _ _ _ _ _ hR2 hL hl
set_option maxHeartbeats 4000000 in
theorem k_28 (X : LwX p l s m b meth c L xs g aC aM) (hR : RW wC wM) (hL : LW g (AS s) (LWo g aC aM qo wC wM f) s.heap H locs) (hl : lv_has ls 7 (lvB b aC aM qo i)) (hi : i + 6 ≤ L) (hf : cells + 1 ≤ 1114 ∧ slots + 6 ≤ 20432) (J : JEnd p l e s m b below meth c cells slots Q g aC aM qo i) : W p l e room_1 s m #[.ref b] below meth c H locs cells slots Q (F0 m 1102 ls []) := by
  have hx := X.1.1
  have hb := X.1.2.1
  have hl0 : lv_has ls 7 [(0, .ref b), (1, .ref (aC 0)), (2, .ref (aM 0)), (3, .ref qo), (4, .int (nI i))] := hl
  obtain ⟨p0, P, K, V, O, h⟩ := id hR
  have q : Q2 (f_X9_hasEdge wC 0 (xs (i + 1)) (xs (i + 2))) (f_X10_hasEdge wM 0 (xs (i + 1)) (xs (i + 2))) := Q2.gr h (q_hasEdge h.1.1 h.2.2.2.2.2.1)
  obtain ⟨r, c', m', e1, e2, hR2⟩ := q
  refine W.widen (k := cells + 1) (n := slots + 6) (by omega) (by omega) ?_
  refine lv_aload_n hx hb dL_1102 rfl (lv_at hl0 1 rfl) ?_
  refine y_rd X hL hl (k := 1) hi (by decide) rfl dL_1103 dL_1104 dL_1106 dL_1107 dL_1108 ?_
  refine y_rd X hL hl (k := 2) hi (by decide) rfl dL_1109 dL_1110 dL_1112 dL_1113 dL_1114 ?_
  refine y_C (n := 2) (As := [.int (xs (i + 1)), .int (xs (i + 2))]) (rest := []) (st1 := [.int r]) X hL (c_X9_hasEdge (l := l) (g := gW g aC) (w := wC) (k0 := 0) (e1) rfl) tw_3_218 ⟨tw_3_221, tw_1_1, by decide, by decide, by decide +kernel⟩ ⟨tw_3_219, tw_3_220⟩ cn_9 ⟨(Nat.le_of_ble_eq_true rfl), (Nat.le_of_ble_eq_true rfl)⟩ rfl rfl hl0.1 (Nat.le_of_ble_eq_true rfl) dL_1115 hf rfl (fun H locs hL => ?_)
  refine lv_aload_n hx hb dL_1118 rfl (lv_at hl0 2 rfl) ?_
  refine y_rd X hL hl (k := 1) hi (by decide) rfl dL_1119 dL_1120 dL_1122 dL_1123 dL_1124 ?_
  refine y_rd X hL hl (k := 2) hi (by decide) rfl dL_1125 dL_1126 dL_1128 dL_1129 dL_1130 ?_
  refine y_M (n := 2) (As := [.int (xs (i + 1)), .int (xs (i + 2))]) (rest := [.int r]) (st1 := [.int r, .int r]) X hL (c_X10_hasEdge (l := l) (g := gW g aM) (w := wM) (k0 := 0) (e2) rfl) tw_7_50 ⟨tw_7_53, tw_1_12, by decide, by decide, by decide +kernel⟩ ⟨tw_7_51, tw_7_52⟩ cn_10 ⟨(Nat.le_of_ble_eq_true rfl), (Nat.le_of_ble_eq_true rfl)⟩ rfl rfl hl0.1 (Nat.le_of_ble_eq_true rfl) dL_1131 hf rfl (fun H locs hL => ?_)
  refine lv_icmp_eq (tgt := 1632) hx hb dL_1134 (by decide) (fun _ => ?_) (fun h => absurd rfl h)
  exact J _ _ _ _ _ _ hR2 hL hl
set_option maxHeartbeats 4000000 in
theorem k_29 (X : LwX p l s m b meth c L xs g aC aM) (hR : RW wC wM) (hL : LW g (AS s) (LWo g aC aM qo wC wM f) s.heap H locs) (hl : lv_has ls 7 (lvB b aC aM qo i)) (hi : i + 6 ≤ L) (hf : cells + 1 ≤ 1114 ∧ slots + 6 ≤ 20432) (J : JEnd p l e s m b below meth c cells slots Q g aC aM qo i) : W p l e room_1 s m #[.ref b] below meth c H locs cells slots Q (F0 m 1139 ls []) := by
  have hx := X.1.1
  have hb := X.1.2.1
  have hl0 : lv_has ls 7 [(0, .ref b), (1, .ref (aC 0)), (2, .ref (aM 0)), (3, .ref qo), (4, .int (nI i))] := hl
  obtain ⟨p0, P, K, V, O, h⟩ := id hR
  have q : Q2 (f_X9_distance wC 0 (xs (i + 1)) (xs (i + 2))) (f_X10_distance wM 0 (xs (i + 1)) (xs (i + 2))) := Q2.gr h (q_distance h.1.1 h.2.2.2.2.2.1)
  obtain ⟨r, c', m', e1, e2, hR2⟩ := q
  refine W.widen (k := cells + 1) (n := slots + 6) (by omega) (by omega) ?_
  refine lv_aload_n hx hb dL_1139 rfl (lv_at hl0 1 rfl) ?_
  refine y_rd X hL hl (k := 1) hi (by decide) rfl dL_1140 dL_1141 dL_1143 dL_1144 dL_1145 ?_
  refine y_rd X hL hl (k := 2) hi (by decide) rfl dL_1146 dL_1147 dL_1149 dL_1150 dL_1151 ?_
  refine y_C (n := 2) (As := [.int (xs (i + 1)), .int (xs (i + 2))]) (rest := []) (st1 := [.int r]) X hL (c_X9_distance (l := l) (g := gW g aC) (w := wC) (k0 := 0) (e1) rfl) tw_3_223 ⟨tw_3_226, tw_1_1, by decide, by decide, by decide +kernel⟩ ⟨tw_3_224, tw_3_225⟩ cn_9 ⟨(Nat.le_of_ble_eq_true rfl), (Nat.le_of_ble_eq_true rfl)⟩ rfl rfl hl0.1 (Nat.le_of_ble_eq_true rfl) dL_1152 hf rfl (fun H locs hL => ?_)
  refine lv_aload_n hx hb dL_1155 rfl (lv_at hl0 2 rfl) ?_
  refine y_rd X hL hl (k := 1) hi (by decide) rfl dL_1156 dL_1157 dL_1159 dL_1160 dL_1161 ?_
  refine y_rd X hL hl (k := 2) hi (by decide) rfl dL_1162 dL_1163 dL_1165 dL_1166 dL_1167 ?_
  refine y_M (n := 2) (As := [.int (xs (i + 1)), .int (xs (i + 2))]) (rest := [.int r]) (st1 := [.int r, .int r]) X hL (c_X10_distance (l := l) (g := gW g aM) (w := wM) (k0 := 0) (e2) rfl) tw_7_54 ⟨tw_7_57, tw_1_12, by decide, by decide, by decide +kernel⟩ ⟨tw_7_55, tw_7_56⟩ cn_10 ⟨(Nat.le_of_ble_eq_true rfl), (Nat.le_of_ble_eq_true rfl)⟩ rfl rfl hl0.1 (Nat.le_of_ble_eq_true rfl) dL_1168 hf rfl (fun H locs hL => ?_)
  refine lv_icmp_eq (tgt := 1632) hx hb dL_1171 (by decide) (fun _ => ?_) (fun h => absurd rfl h)
  exact J _ _ _ _ _ _ hR2 hL hl
set_option maxHeartbeats 4000000 in
theorem k_30 (X : LwX p l s m b meth c L xs g aC aM) (hR : RW wC wM) (hL : LW g (AS s) (LWo g aC aM qo wC wM f) s.heap H locs) (hl : lv_has ls 7 (lvB b aC aM qo i)) (hi : i + 6 ≤ L) (hf : cells + 1 ≤ 1114 ∧ slots + 6 ≤ 20432) (J : JEnd p l e s m b below meth c cells slots Q g aC aM qo i) : W p l e room_1 s m #[.ref b] below meth c H locs cells slots Q (F0 m 1176 ls []) := by
  have hx := X.1.1
  have hb := X.1.2.1
  have hl0 : lv_has ls 7 [(0, .ref b), (1, .ref (aC 0)), (2, .ref (aM 0)), (3, .ref qo), (4, .int (nI i))] := hl
  obtain ⟨p0, P, K, V, O, h⟩ := id hR
  have q : Q2 (f_X9_componentSize wC 0 (xs (i + 1))) (f_X10_componentSize wM 0 (xs (i + 1))) := Q2.gr h (q_componentSize h.1.1 h.2.2.2.2.2.1)
  obtain ⟨r, c', m', e1, e2, hR2⟩ := q
  refine W.widen (k := cells + 1) (n := slots + 6) (by omega) (by omega) ?_
  refine lv_aload_n hx hb dL_1176 rfl (lv_at hl0 1 rfl) ?_
  refine y_rd X hL hl (k := 1) hi (by decide) rfl dL_1177 dL_1178 dL_1180 dL_1181 dL_1182 ?_
  refine y_C (n := 1) (As := [.int (xs (i + 1))]) (rest := []) (st1 := [.int r]) X hL (c_X9_componentSize (l := l) (g := gW g aC) (w := wC) (k0 := 0) (e1) rfl) tw_3_235 ⟨tw_3_238, tw_1_1, by decide, by decide, by decide +kernel⟩ ⟨tw_3_236, tw_3_237⟩ cn_9 ⟨(Nat.le_of_ble_eq_true rfl), (Nat.le_of_ble_eq_true rfl)⟩ rfl rfl hl0.1 (Nat.le_of_ble_eq_true rfl) dL_1183 hf rfl (fun H locs hL => ?_)
  refine lv_aload_n hx hb dL_1186 rfl (lv_at hl0 2 rfl) ?_
  refine y_rd X hL hl (k := 1) hi (by decide) rfl dL_1187 dL_1188 dL_1190 dL_1191 dL_1192 ?_
  refine y_M (n := 1) (As := [.int (xs (i + 1))]) (rest := [.int r]) (st1 := [.int r, .int r]) X hL (c_X10_componentSize (l := l) (g := gW g aM) (w := wM) (k0 := 0) (e2) rfl) tw_7_58 ⟨tw_7_61, tw_1_12, by decide, by decide, by decide +kernel⟩ ⟨tw_7_59, tw_7_60⟩ cn_10 ⟨(Nat.le_of_ble_eq_true rfl), (Nat.le_of_ble_eq_true rfl)⟩ rfl rfl hl0.1 (Nat.le_of_ble_eq_true rfl) dL_1193 hf rfl (fun H locs hL => ?_)
  refine lv_icmp_eq (tgt := 1632) hx hb dL_1196 (by decide) (fun _ => ?_) (fun h => absurd rfl h)
  exact J _ _ _ _ _ _ hR2 hL hl
set_option maxHeartbeats 4000000 in
theorem k_31 (X : LwX p l s m b meth c L xs g aC aM) (hR : RW wC wM) (hL : LW g (AS s) (LWo g aC aM qo wC wM f) s.heap H locs) (hl : lv_has ls 7 (lvB b aC aM qo i)) (hi : i + 6 ≤ L) (hf : cells + 1 ≤ 1114 ∧ slots + 6 ≤ 20432) (J : JEnd p l e s m b below meth c cells slots Q g aC aM qo i) : W p l e room_1 s m #[.ref b] below meth c H locs cells slots Q (F0 m 1201 ls []) := by
  have hx := X.1.1
  have hb := X.1.2.1
  have hl0 : lv_has ls 7 [(0, .ref b), (1, .ref (aC 0)), (2, .ref (aM 0)), (3, .ref qo), (4, .int (nI i))] := hl
  obtain ⟨p0, P, K, V, O, h⟩ := id hR
  have q : Q2 (f_X9_representative wC 0 (xs (i + 1))) (f_X10_representative wM 0 (xs (i + 1))) := Q2.gr h (q_representative h.1.1 h.2.2.2.2.2.1)
  obtain ⟨r, c', m', e1, e2, hR2⟩ := q
  refine W.widen (k := cells + 1) (n := slots + 6) (by omega) (by omega) ?_
  refine lv_aload_n hx hb dL_1201 rfl (lv_at hl0 1 rfl) ?_
  refine y_rd X hL hl (k := 1) hi (by decide) rfl dL_1202 dL_1203 dL_1205 dL_1206 dL_1207 ?_
  refine y_C (n := 1) (As := [.int (xs (i + 1))]) (rest := []) (st1 := [.int r]) X hL (c_X9_representative (l := l) (g := gW g aC) (w := wC) (k0 := 0) (e1) rfl) tw_4_0 ⟨tw_4_3, tw_1_1, by decide, by decide, by decide +kernel⟩ ⟨tw_4_1, tw_4_2⟩ cn_9 ⟨(Nat.le_of_ble_eq_true rfl), (Nat.le_of_ble_eq_true rfl)⟩ rfl rfl hl0.1 (Nat.le_of_ble_eq_true rfl) dL_1208 hf rfl (fun H locs hL => ?_)
  refine lv_aload_n hx hb dL_1211 rfl (lv_at hl0 2 rfl) ?_
  refine y_rd X hL hl (k := 1) hi (by decide) rfl dL_1212 dL_1213 dL_1215 dL_1216 dL_1217 ?_
  refine y_M (n := 1) (As := [.int (xs (i + 1))]) (rest := [.int r]) (st1 := [.int r, .int r]) X hL (c_X10_representative (l := l) (g := gW g aM) (w := wM) (k0 := 0) (e2) rfl) tw_7_74 ⟨tw_7_77, tw_1_12, by decide, by decide, by decide +kernel⟩ ⟨tw_7_75, tw_7_76⟩ cn_10 ⟨(Nat.le_of_ble_eq_true rfl), (Nat.le_of_ble_eq_true rfl)⟩ rfl rfl hl0.1 (Nat.le_of_ble_eq_true rfl) dL_1218 hf rfl (fun H locs hL => ?_)
  refine lv_icmp_eq (tgt := 1632) hx hb dL_1221 (by decide) (fun _ => ?_) (fun h => absurd rfl h)
  exact J _ _ _ _ _ _ hR2 hL hl
set_option maxHeartbeats 4000000 in
theorem k_32 (X : LwX p l s m b meth c L xs g aC aM) (hR : RW wC wM) (hL : LW g (AS s) (LWo g aC aM qo wC wM f) s.heap H locs) (hl : lv_has ls 7 (lvB b aC aM qo i)) (hi : i + 6 ≤ L) (hf : cells + 1 ≤ 1114 ∧ slots + 6 ≤ 20432) (J : JEnd p l e s m b below meth c cells slots Q g aC aM qo i) : W p l e room_1 s m #[.ref b] below meth c H locs cells slots Q (F0 m 1226 ls []) := by
  have hx := X.1.1
  have hb := X.1.2.1
  have hl0 : lv_has ls 7 [(0, .ref b), (1, .ref (aC 0)), (2, .ref (aM 0)), (3, .ref qo), (4, .int (nI i))] := hl
  obtain ⟨p0, P, K, V, O, h⟩ := id hR
  have q : Q2 (f_X9_cyclicComponentCount wC 0 ) (f_X10_cyclicComponentCount wM 0 ) := Q2.gr h (q_cyclicComponentCount h.1.1 h.2.2.2.2.2.1)
  obtain ⟨r, c', m', e1, e2, hR2⟩ := q
  refine W.widen (k := cells + 1) (n := slots + 6) (by omega) (by omega) ?_
  refine lv_aload_n hx hb dL_1226 rfl (lv_at hl0 1 rfl) ?_
  refine y_C (n := 0) (As := []) (rest := []) (st1 := [.int r]) X hL (c_X9_cyclicComponentCount (l := l) (g := gW g aC) (w := wC) (k0 := 0) (e1) rfl) tw_4_15 ⟨tw_4_18, tw_1_1, by decide, by decide, by decide +kernel⟩ ⟨tw_4_16, tw_4_17⟩ cn_9 ⟨(Nat.le_of_ble_eq_true rfl), (Nat.le_of_ble_eq_true rfl)⟩ rfl rfl hl0.1 (Nat.le_of_ble_eq_true rfl) dL_1227 hf rfl (fun H locs hL => ?_)
  refine lv_aload_n hx hb dL_1230 rfl (lv_at hl0 2 rfl) ?_
  refine y_M (n := 0) (As := []) (rest := [.int r]) (st1 := [.int r, .int r]) X hL (c_X10_cyclicComponentCount (l := l) (g := gW g aM) (w := wM) (k0 := 0) (e2) rfl) tw_7_82 ⟨tw_7_85, tw_1_12, by decide, by decide, by decide +kernel⟩ ⟨tw_7_83, tw_7_84⟩ cn_10 ⟨(Nat.le_of_ble_eq_true rfl), (Nat.le_of_ble_eq_true rfl)⟩ rfl rfl hl0.1 (Nat.le_of_ble_eq_true rfl) dL_1231 hf rfl (fun H locs hL => ?_)
  refine lv_icmp_eq (tgt := 1632) hx hb dL_1234 (by decide) (fun _ => ?_) (fun h => absurd rfl h)
  exact J _ _ _ _ _ _ hR2 hL hl
set_option maxHeartbeats 4000000 in
theorem k_33 (X : LwX p l s m b meth c L xs g aC aM) (hR : RW wC wM) (hL : LW g (AS s) (LWo g aC aM qo wC wM f) s.heap H locs) (hl : lv_has ls 7 (lvB b aC aM qo i)) (hi : i + 6 ≤ L) (hf : cells + 1 ≤ 1114 ∧ slots + 6 ≤ 20432) (J : JEnd p l e s m b below meth c cells slots Q g aC aM qo i) : W p l e room_1 s m #[.ref b] below meth c H locs cells slots Q (F0 m 1239 ls []) := by
  have hx := X.1.1
  have hb := X.1.2.1
  have hl0 : lv_has ls 7 [(0, .ref b), (1, .ref (aC 0)), (2, .ref (aM 0)), (3, .ref qo), (4, .int (nI i))] := hl
  obtain ⟨p0, P, K, V, O, h⟩ := id hR
  have q : Q2 (f_X9_condensedNodeCount wC 0 ) (f_X10_condensedNodeCount wM 0 ) := Q2.gr h (q_condensedNodeCount h.1.1 h.2.2.2.2.2.1)
  obtain ⟨r, c', m', e1, e2, hR2⟩ := q
  refine W.widen (k := cells + 1) (n := slots + 6) (by omega) (by omega) ?_
  refine lv_aload_n hx hb dL_1239 rfl (lv_at hl0 1 rfl) ?_
  refine y_C (n := 0) (As := []) (rest := []) (st1 := [.int r]) X hL (c_X9_condensedNodeCount (l := l) (g := gW g aC) (w := wC) (k0 := 0) (e1) rfl) tw_4_28 ⟨tw_4_31, tw_1_1, by decide, by decide, by decide +kernel⟩ ⟨tw_4_29, tw_4_30⟩ cn_9 ⟨(Nat.le_of_ble_eq_true rfl), (Nat.le_of_ble_eq_true rfl)⟩ rfl rfl hl0.1 (Nat.le_of_ble_eq_true rfl) dL_1240 hf rfl (fun H locs hL => ?_)
  refine lv_aload_n hx hb dL_1243 rfl (lv_at hl0 2 rfl) ?_
  refine y_M (n := 0) (As := []) (rest := [.int r]) (st1 := [.int r, .int r]) X hL (c_X10_condensedNodeCount (l := l) (g := gW g aM) (w := wM) (k0 := 0) (e2) rfl) tw_7_90 ⟨tw_7_93, tw_1_12, by decide, by decide, by decide +kernel⟩ ⟨tw_7_91, tw_7_92⟩ cn_10 ⟨(Nat.le_of_ble_eq_true rfl), (Nat.le_of_ble_eq_true rfl)⟩ rfl rfl hl0.1 (Nat.le_of_ble_eq_true rfl) dL_1244 hf rfl (fun H locs hL => ?_)
  refine lv_icmp_eq (tgt := 1632) hx hb dL_1247 (by decide) (fun _ => ?_) (fun h => absurd rfl h)
  exact J _ _ _ _ _ _ hR2 hL hl
set_option maxHeartbeats 4000000 in
theorem k_34 (X : LwX p l s m b meth c L xs g aC aM) (hR : RW wC wM) (hL : LW g (AS s) (LWo g aC aM qo wC wM f) s.heap H locs) (hl : lv_has ls 7 (lvB b aC aM qo i)) (hi : i + 6 ≤ L) (hf : cells + 1 ≤ 1114 ∧ slots + 6 ≤ 20432) (J : JEnd p l e s m b below meth c cells slots Q g aC aM qo i) : W p l e room_1 s m #[.ref b] below meth c H locs cells slots Q (F0 m 1252 ls []) := by
  have hx := X.1.1
  have hb := X.1.2.1
  have hl0 : lv_has ls 7 [(0, .ref b), (1, .ref (aC 0)), (2, .ref (aM 0)), (3, .ref qo), (4, .int (nI i))] := hl
  obtain ⟨p0, P, K, V, O, h⟩ := id hR
  have q : Q2 (f_X9_condensedEdgeCount wC 0 ) (f_X10_condensedEdgeCount wM 0 ) := Q2.gr h (q_condensedEdgeCount h.1.1 h.2.2.2.2.2.1)
  obtain ⟨r, c', m', e1, e2, hR2⟩ := q
  refine W.widen (k := cells + 1) (n := slots + 6) (by omega) (by omega) ?_
  refine lv_aload_n hx hb dL_1252 rfl (lv_at hl0 1 rfl) ?_
  refine y_C (n := 0) (As := []) (rest := []) (st1 := [.int r]) X hL (c_X9_condensedEdgeCount (l := l) (g := gW g aC) (w := wC) (k0 := 0) (e1) rfl) tw_4_32 ⟨tw_4_35, tw_1_1, by decide, by decide, by decide +kernel⟩ ⟨tw_4_33, tw_4_34⟩ cn_9 ⟨(Nat.le_of_ble_eq_true rfl), (Nat.le_of_ble_eq_true rfl)⟩ rfl rfl hl0.1 (Nat.le_of_ble_eq_true rfl) dL_1253 hf rfl (fun H locs hL => ?_)
  refine lv_aload_n hx hb dL_1256 rfl (lv_at hl0 2 rfl) ?_
  refine y_M (n := 0) (As := []) (rest := [.int r]) (st1 := [.int r, .int r]) X hL (c_X10_condensedEdgeCount (l := l) (g := gW g aM) (w := wM) (k0 := 0) (e2) rfl) tw_7_94 ⟨tw_7_97, tw_1_12, by decide, by decide, by decide +kernel⟩ ⟨tw_7_95, tw_7_96⟩ cn_10 ⟨(Nat.le_of_ble_eq_true rfl), (Nat.le_of_ble_eq_true rfl)⟩ rfl rfl hl0.1 (Nat.le_of_ble_eq_true rfl) dL_1257 hf rfl (fun H locs hL => ?_)
  refine lv_icmp_eq (tgt := 1632) hx hb dL_1260 (by decide) (fun _ => ?_) (fun h => absurd rfl h)
  exact J _ _ _ _ _ _ hR2 hL hl
set_option maxHeartbeats 4000000 in
theorem k_35 (X : LwX p l s m b meth c L xs g aC aM) (hR : RW wC wM) (hL : LW g (AS s) (LWo g aC aM qo wC wM f) s.heap H locs) (hl : lv_has ls 7 (lvB b aC aM qo i)) (hi : i + 6 ≤ L) (hf : cells + 1 ≤ 1114 ∧ slots + 6 ≤ 20432) (J : JEnd p l e s m b below meth c cells slots Q g aC aM qo i) : W p l e room_1 s m #[.ref b] below meth c H locs cells slots Q (F0 m 1265 ls []) := by
  have hx := X.1.1
  have hb := X.1.2.1
  have hl0 : lv_has ls 7 [(0, .ref b), (1, .ref (aC 0)), (2, .ref (aM 0)), (3, .ref qo), (4, .int (nI i))] := hl
  obtain ⟨p0, P, K, V, O, h⟩ := id hR
  have q : Q1 wC (f_X9_callTargets wC 0 (xs (i + 1))) (f_X10_callTargets wM 0 (xs (i + 1))) := Q1.sim h (q_callTargets h.1.1)
  obtain ⟨r, m', e1, e2, hR2⟩ := q
  refine W.widen (k := cells + 1) (n := slots + 6) (by omega) (by omega) ?_
  refine lv_aload_n hx hb dL_1265 rfl (lv_at hl0 1 rfl) ?_
  refine y_rd X hL hl (k := 1) hi (by decide) rfl dL_1266 dL_1267 dL_1269 dL_1270 dL_1271 ?_
  refine y_C (n := 1) (As := [.int (xs (i + 1))]) (rest := []) (st1 := [.int r]) X hL (c_X9_callTargets (l := l) (g := gW g aC) (w := wC) (k0 := 0) (e1) rfl) tw_4_45 ⟨tw_4_48, tw_1_1, by decide, by decide, by decide +kernel⟩ ⟨tw_4_46, tw_4_47⟩ cn_9 ⟨(Nat.le_of_ble_eq_true rfl), (Nat.le_of_ble_eq_true rfl)⟩ rfl rfl hl0.1 (Nat.le_of_ble_eq_true rfl) dL_1272 hf rfl (fun H locs hL => ?_)
  refine lv_aload_n hx hb dL_1275 rfl (lv_at hl0 2 rfl) ?_
  refine y_rd X hL hl (k := 1) hi (by decide) rfl dL_1276 dL_1277 dL_1279 dL_1280 dL_1281 ?_
  refine y_M (n := 1) (As := [.int (xs (i + 1))]) (rest := [.int r]) (st1 := [.int r, .int r]) X hL (c_X10_callTargets (l := l) (g := gW g aM) (w := wM) (k0 := 0) (e2) rfl) tw_7_98 ⟨tw_7_101, tw_1_12, by decide, by decide, by decide +kernel⟩ ⟨tw_7_99, tw_7_100⟩ cn_10 ⟨(Nat.le_of_ble_eq_true rfl), (Nat.le_of_ble_eq_true rfl)⟩ rfl rfl hl0.1 (Nat.le_of_ble_eq_true rfl) dL_1282 hf rfl (fun H locs hL => ?_)
  refine lv_icmp_eq (tgt := 1632) hx hb dL_1285 (by decide) (fun _ => ?_) (fun h => absurd rfl h)
  exact J _ _ _ _ _ _ hR2 hL hl
set_option maxHeartbeats 4000000 in
theorem k_36 (X : LwX p l s m b meth c L xs g aC aM) (hR : RW wC wM) (hL : LW g (AS s) (LWo g aC aM qo wC wM f) s.heap H locs) (hl : lv_has ls 7 (lvB b aC aM qo i)) (hi : i + 6 ≤ L) (hf : cells + 1 ≤ 1114 ∧ slots + 6 ≤ 20432) (J : JEnd p l e s m b below meth c cells slots Q g aC aM qo i) : W p l e room_1 s m #[.ref b] below meth c H locs cells slots Q (F0 m 1290 ls []) := by
  have hx := X.1.1
  have hb := X.1.2.1
  have hl0 : lv_has ls 7 [(0, .ref b), (1, .ref (aC 0)), (2, .ref (aM 0)), (3, .ref qo), (4, .int (nI i))] := hl
  obtain ⟨p0, P, K, V, O, h⟩ := id hR
  have q : Q1 wC (f_X9_callersOf wC 0 (xs (i + 1))) (f_X10_callersOf wM 0 (xs (i + 1))) := Q1.sim h (q_callersOf h.1.1)
  obtain ⟨r, m', e1, e2, hR2⟩ := q
  refine W.widen (k := cells + 1) (n := slots + 6) (by omega) (by omega) ?_
  refine lv_aload_n hx hb dL_1290 rfl (lv_at hl0 1 rfl) ?_
  refine y_rd X hL hl (k := 1) hi (by decide) rfl dL_1291 dL_1292 dL_1294 dL_1295 dL_1296 ?_
  refine y_C (n := 1) (As := [.int (xs (i + 1))]) (rest := []) (st1 := [.int r]) X hL (c_X9_callersOf (l := l) (g := gW g aC) (w := wC) (k0 := 0) (e1) rfl) tw_4_58 ⟨tw_4_61, tw_1_1, by decide, by decide, by decide +kernel⟩ ⟨tw_4_59, tw_4_60⟩ cn_9 ⟨(Nat.le_of_ble_eq_true rfl), (Nat.le_of_ble_eq_true rfl)⟩ rfl rfl hl0.1 (Nat.le_of_ble_eq_true rfl) dL_1297 hf rfl (fun H locs hL => ?_)
  refine lv_aload_n hx hb dL_1300 rfl (lv_at hl0 2 rfl) ?_
  refine y_rd X hL hl (k := 1) hi (by decide) rfl dL_1301 dL_1302 dL_1304 dL_1305 dL_1306 ?_
  refine y_M (n := 1) (As := [.int (xs (i + 1))]) (rest := [.int r]) (st1 := [.int r, .int r]) X hL (c_X10_callersOf (l := l) (g := gW g aM) (w := wM) (k0 := 0) (e2) rfl) tw_7_106 ⟨tw_7_109, tw_1_12, by decide, by decide, by decide +kernel⟩ ⟨tw_7_107, tw_7_108⟩ cn_10 ⟨(Nat.le_of_ble_eq_true rfl), (Nat.le_of_ble_eq_true rfl)⟩ rfl rfl hl0.1 (Nat.le_of_ble_eq_true rfl) dL_1307 hf rfl (fun H locs hL => ?_)
  refine lv_icmp_eq (tgt := 1632) hx hb dL_1310 (by decide) (fun _ => ?_) (fun h => absurd rfl h)
  exact J _ _ _ _ _ _ hR2 hL hl
set_option maxHeartbeats 4000000 in
theorem k_37 (X : LwX p l s m b meth c L xs g aC aM) (hR : RW wC wM) (hL : LW g (AS s) (LWo g aC aM qo wC wM f) s.heap H locs) (hl : lv_has ls 7 (lvB b aC aM qo i)) (hi : i + 6 ≤ L) (hf : cells + 1 ≤ 1114 ∧ slots + 6 ≤ 20432) (J : JEnd p l e s m b below meth c cells slots Q g aC aM qo i) : W p l e room_1 s m #[.ref b] below meth c H locs cells slots Q (F0 m 1315 ls []) := by
  have hx := X.1.1
  have hb := X.1.2.1
  have hl0 : lv_has ls 7 [(0, .ref b), (1, .ref (aC 0)), (2, .ref (aM 0)), (3, .ref qo), (4, .int (nI i))] := hl
  obtain ⟨p0, P, K, V, O, h⟩ := id hR
  have q : Q1 wC (f_X9_uncalledFunctions wC 0 ) (f_X10_uncalledFunctions wM 0 ) := Q1.sim h (q_uncalledFunctions h.1.1)
  obtain ⟨r, m', e1, e2, hR2⟩ := q
  refine W.widen (k := cells + 1) (n := slots + 6) (by omega) (by omega) ?_
  refine lv_aload_n hx hb dL_1315 rfl (lv_at hl0 1 rfl) ?_
  refine y_C (n := 0) (As := []) (rest := []) (st1 := [.int r]) X hL (c_X9_uncalledFunctions (l := l) (g := gW g aC) (w := wC) (k0 := 0) (e1) rfl) tw_4_62 ⟨tw_4_65, tw_1_1, by decide, by decide, by decide +kernel⟩ ⟨tw_4_63, tw_4_64⟩ cn_9 ⟨(Nat.le_of_ble_eq_true rfl), (Nat.le_of_ble_eq_true rfl)⟩ rfl rfl hl0.1 (Nat.le_of_ble_eq_true rfl) dL_1316 hf rfl (fun H locs hL => ?_)
  refine lv_aload_n hx hb dL_1319 rfl (lv_at hl0 2 rfl) ?_
  refine y_M (n := 0) (As := []) (rest := [.int r]) (st1 := [.int r, .int r]) X hL (c_X10_uncalledFunctions (l := l) (g := gW g aM) (w := wM) (k0 := 0) (e2) rfl) tw_7_110 ⟨tw_7_113, tw_1_12, by decide, by decide, by decide +kernel⟩ ⟨tw_7_111, tw_7_112⟩ cn_10 ⟨(Nat.le_of_ble_eq_true rfl), (Nat.le_of_ble_eq_true rfl)⟩ rfl rfl hl0.1 (Nat.le_of_ble_eq_true rfl) dL_1320 hf rfl (fun H locs hL => ?_)
  refine lv_icmp_eq (tgt := 1632) hx hb dL_1323 (by decide) (fun _ => ?_) (fun h => absurd rfl h)
  exact J _ _ _ _ _ _ hR2 hL hl
set_option maxHeartbeats 4000000 in
theorem k_38 (X : LwX p l s m b meth c L xs g aC aM) (hR : RW wC wM) (hL : LW g (AS s) (LWo g aC aM qo wC wM f) s.heap H locs) (hl : lv_has ls 7 (lvB b aC aM qo i)) (hi : i + 6 ≤ L) (hf : cells + 1 ≤ 1114 ∧ slots + 6 ≤ 20432) (J : JEnd p l e s m b below meth c cells slots Q g aC aM qo i) : W p l e room_1 s m #[.ref b] below meth c H locs cells slots Q (F0 m 1328 ls []) := by
  have hx := X.1.1
  have hb := X.1.2.1
  have hl0 : lv_has ls 7 [(0, .ref b), (1, .ref (aC 0)), (2, .ref (aM 0)), (3, .ref qo), (4, .int (nI i))] := hl
  obtain ⟨p0, P, K, V, O, h⟩ := id hR
  have q : Q2 (f_X9_factCountIfToggled wC 0 (xs (i + 1))) (f_X10_factCountIfToggled wM 0 (xs (i + 1))) := Q2.wif h (q_factCountIfToggled h.1.1)
  obtain ⟨r, c', m', e1, e2, hR2⟩ := q
  refine W.widen (k := cells + 1) (n := slots + 6) (by omega) (by omega) ?_
  refine lv_aload_n hx hb dL_1328 rfl (lv_at hl0 1 rfl) ?_
  refine y_rd X hL hl (k := 1) hi (by decide) rfl dL_1329 dL_1330 dL_1332 dL_1333 dL_1334 ?_
  refine y_C (n := 1) (As := [.int (xs (i + 1))]) (rest := []) (st1 := [.int r]) X hL (c_X9_factCountIfToggled (l := l) (g := gW g aC) (w := wC) (k0 := 0) (e1) rfl) tw_4_66 ⟨tw_4_69, tw_1_1, by decide, by decide, by decide +kernel⟩ ⟨tw_4_67, tw_4_68⟩ cn_9 ⟨(Nat.le_of_ble_eq_true rfl), (Nat.le_of_ble_eq_true rfl)⟩ rfl rfl hl0.1 (Nat.le_of_ble_eq_true rfl) dL_1335 hf rfl (fun H locs hL => ?_)
  refine lv_aload_n hx hb dL_1338 rfl (lv_at hl0 2 rfl) ?_
  refine y_rd X hL hl (k := 1) hi (by decide) rfl dL_1339 dL_1340 dL_1342 dL_1343 dL_1344 ?_
  refine y_M (n := 1) (As := [.int (xs (i + 1))]) (rest := [.int r]) (st1 := [.int r, .int r]) X hL (c_X10_factCountIfToggled (l := l) (g := gW g aM) (w := wM) (k0 := 0) (e2) rfl) tw_7_114 ⟨tw_7_117, tw_1_12, by decide, by decide, by decide +kernel⟩ ⟨tw_7_115, tw_7_116⟩ cn_10 ⟨(Nat.le_of_ble_eq_true rfl), (Nat.le_of_ble_eq_true rfl)⟩ rfl rfl hl0.1 (Nat.le_of_ble_eq_true rfl) dL_1345 hf rfl (fun H locs hL => ?_)
  refine lv_icmp_eq (tgt := 1632) hx hb dL_1348 (by decide) (fun _ => ?_) (fun h => absurd rfl h)
  exact J _ _ _ _ _ _ hR2 hL hl
set_option maxHeartbeats 4000000 in
theorem k_39 (X : LwX p l s m b meth c L xs g aC aM) (hR : RW wC wM) (hL : LW g (AS s) (LWo g aC aM qo wC wM f) s.heap H locs) (hl : lv_has ls 7 (lvB b aC aM qo i)) (hi : i + 6 ≤ L) (hf : cells + 1 ≤ 1114 ∧ slots + 6 ≤ 20432) (J : JEnd p l e s m b below meth c cells slots Q g aC aM qo i) : W p l e room_1 s m #[.ref b] below meth c H locs cells slots Q (F0 m 1353 ls []) := by
  have hx := X.1.1
  have hb := X.1.2.1
  have hl0 : lv_has ls 7 [(0, .ref b), (1, .ref (aC 0)), (2, .ref (aM 0)), (3, .ref qo), (4, .int (nI i))] := hl
  obtain ⟨p0, P, K, V, O, h⟩ := id hR
  have q : Q2 (f_X9_factCountWithout wC 0 (xs (i + 1))) (f_X10_factCountWithout wM 0 (xs (i + 1))) := Q2.wif h (q_factCountWithout h.1.1)
  obtain ⟨r, c', m', e1, e2, hR2⟩ := q
  refine W.widen (k := cells + 1) (n := slots + 6) (by omega) (by omega) ?_
  refine lv_aload_n hx hb dL_1353 rfl (lv_at hl0 1 rfl) ?_
  refine y_rd X hL hl (k := 1) hi (by decide) rfl dL_1354 dL_1355 dL_1357 dL_1358 dL_1359 ?_
  refine y_C (n := 1) (As := [.int (xs (i + 1))]) (rest := []) (st1 := [.int r]) X hL (c_X9_factCountWithout (l := l) (g := gW g aC) (w := wC) (k0 := 0) (e1) rfl) tw_4_80 ⟨tw_4_83, tw_1_1, by decide, by decide, by decide +kernel⟩ ⟨tw_4_81, tw_4_82⟩ cn_9 ⟨(Nat.le_of_ble_eq_true rfl), (Nat.le_of_ble_eq_true rfl)⟩ rfl rfl hl0.1 (Nat.le_of_ble_eq_true rfl) dL_1360 hf rfl (fun H locs hL => ?_)
  refine lv_aload_n hx hb dL_1363 rfl (lv_at hl0 2 rfl) ?_
  refine y_rd X hL hl (k := 1) hi (by decide) rfl dL_1364 dL_1365 dL_1367 dL_1368 dL_1369 ?_
  refine y_M (n := 1) (As := [.int (xs (i + 1))]) (rest := [.int r]) (st1 := [.int r, .int r]) X hL (c_X10_factCountWithout (l := l) (g := gW g aM) (w := wM) (k0 := 0) (e2) rfl) tw_7_122 ⟨tw_7_125, tw_1_12, by decide, by decide, by decide +kernel⟩ ⟨tw_7_123, tw_7_124⟩ cn_10 ⟨(Nat.le_of_ble_eq_true rfl), (Nat.le_of_ble_eq_true rfl)⟩ rfl rfl hl0.1 (Nat.le_of_ble_eq_true rfl) dL_1370 hf rfl (fun H locs hL => ?_)
  refine lv_icmp_eq (tgt := 1632) hx hb dL_1373 (by decide) (fun _ => ?_) (fun h => absurd rfl h)
  exact J _ _ _ _ _ _ hR2 hL hl
set_option maxHeartbeats 4000000 in
theorem k_40 (X : LwX p l s m b meth c L xs g aC aM) (hR : RW wC wM) (hL : LW g (AS s) (LWo g aC aM qo wC wM f) s.heap H locs) (hl : lv_has ls 7 (lvB b aC aM qo i)) (hi : i + 6 ≤ L) (hf : cells + 1 ≤ 1114 ∧ slots + 6 ≤ 20432) (J : JEnd p l e s m b below meth c cells slots Q g aC aM qo i) : W p l e room_1 s m #[.ref b] below meth c H locs cells slots Q (F0 m 1378 ls []) := by
  have hx := X.1.1
  have hb := X.1.2.1
  have hl0 : lv_has ls 7 [(0, .ref b), (1, .ref (aC 0)), (2, .ref (aM 0)), (3, .ref qo), (4, .int (nI i))] := hl
  obtain ⟨p0, P, K, V, O, h⟩ := id hR
  have q : Q2 (f_X9_mostInfluentialConstraint wC 0 ) (f_X10_mostInfluentialConstraint wM 0 ) := Q2.wif h (q_mostInfluentialConstraint h.1.1)
  obtain ⟨r, c', m', e1, e2, hR2⟩ := q
  refine W.widen (k := cells + 1) (n := slots + 6) (by omega) (by omega) ?_
  refine lv_aload_n hx hb dL_1378 rfl (lv_at hl0 1 rfl) ?_
  refine y_C (n := 0) (As := []) (rest := []) (st1 := [.int r]) X hL (c_X9_mostInfluentialConstraint (l := l) (g := gW g aC) (w := wC) (k0 := 0) (e1) rfl) tw_4_88 ⟨tw_4_91, tw_1_1, by decide, by decide, by decide +kernel⟩ ⟨tw_4_89, tw_4_90⟩ cn_9 ⟨(Nat.le_of_ble_eq_true rfl), (Nat.le_of_ble_eq_true rfl)⟩ rfl rfl hl0.1 (Nat.le_of_ble_eq_true rfl) dL_1379 hf rfl (fun H locs hL => ?_)
  refine lv_aload_n hx hb dL_1382 rfl (lv_at hl0 2 rfl) ?_
  refine y_M (n := 0) (As := []) (rest := [.int r]) (st1 := [.int r, .int r]) X hL (c_X10_mostInfluentialConstraint (l := l) (g := gW g aM) (w := wM) (k0 := 0) (e2) rfl) tw_7_126 ⟨tw_7_129, tw_1_12, by decide, by decide, by decide +kernel⟩ ⟨tw_7_127, tw_7_128⟩ cn_10 ⟨(Nat.le_of_ble_eq_true rfl), (Nat.le_of_ble_eq_true rfl)⟩ rfl rfl hl0.1 (Nat.le_of_ble_eq_true rfl) dL_1383 hf rfl (fun H locs hL => ?_)
  refine lv_icmp_eq (tgt := 1632) hx hb dL_1386 (by decide) (fun _ => ?_) (fun h => absurd rfl h)
  exact J _ _ _ _ _ _ hR2 hL hl
set_option maxHeartbeats 4000000 in
theorem k_41 (X : LwX p l s m b meth c L xs g aC aM) (hR : RW wC wM) (hL : LW g (AS s) (LWo g aC aM qo wC wM f) s.heap H locs) (hl : lv_has ls 7 (lvB b aC aM qo i)) (hi : i + 6 ≤ L) (hf : cells + 1 ≤ 1114 ∧ slots + 6 ≤ 20432) (J : JEnd p l e s m b below meth c cells slots Q g aC aM qo i) : W p l e room_1 s m #[.ref b] below meth c H locs cells slots Q (F0 m 1391 ls []) := by
  have hx := X.1.1
  have hb := X.1.2.1
  have hl0 : lv_has ls 7 [(0, .ref b), (1, .ref (aC 0)), (2, .ref (aM 0)), (3, .ref qo), (4, .int (nI i))] := hl
  obtain ⟨p0, P, K, V, O, h⟩ := id hR
  have q : Q2 (f_X9_redundantConstraintCount wC 0 ) (f_X10_redundantConstraintCount wM 0 ) := Q2.wif h (q_redundantConstraintCount h.1.1)
  obtain ⟨r, c', m', e1, e2, hR2⟩ := q
  refine W.widen (k := cells + 1) (n := slots + 6) (by omega) (by omega) ?_
  refine lv_aload_n hx hb dL_1391 rfl (lv_at hl0 1 rfl) ?_
  refine y_C (n := 0) (As := []) (rest := []) (st1 := [.int r]) X hL (c_X9_redundantConstraintCount (l := l) (g := gW g aC) (w := wC) (k0 := 0) (e1) rfl) tw_4_96 ⟨tw_4_99, tw_1_1, by decide, by decide, by decide +kernel⟩ ⟨tw_4_97, tw_4_98⟩ cn_9 ⟨(Nat.le_of_ble_eq_true rfl), (Nat.le_of_ble_eq_true rfl)⟩ rfl rfl hl0.1 (Nat.le_of_ble_eq_true rfl) dL_1392 hf rfl (fun H locs hL => ?_)
  refine lv_aload_n hx hb dL_1395 rfl (lv_at hl0 2 rfl) ?_
  refine y_M (n := 0) (As := []) (rest := [.int r]) (st1 := [.int r, .int r]) X hL (c_X10_redundantConstraintCount (l := l) (g := gW g aM) (w := wM) (k0 := 0) (e2) rfl) tw_7_130 ⟨tw_7_133, tw_1_12, by decide, by decide, by decide +kernel⟩ ⟨tw_7_131, tw_7_132⟩ cn_10 ⟨(Nat.le_of_ble_eq_true rfl), (Nat.le_of_ble_eq_true rfl)⟩ rfl rfl hl0.1 (Nat.le_of_ble_eq_true rfl) dL_1396 hf rfl (fun H locs hL => ?_)
  refine lv_icmp_eq (tgt := 1632) hx hb dL_1399 (by decide) (fun _ => ?_) (fun h => absurd rfl h)
  exact J _ _ _ _ _ _ hR2 hL hl
set_option maxHeartbeats 4000000 in
theorem k_42 (X : LwX p l s m b meth c L xs g aC aM) (hR : RW wC wM) (hL : LW g (AS s) (LWo g aC aM qo wC wM f) s.heap H locs) (hl : lv_has ls 7 (lvB b aC aM qo i)) (hi : i + 6 ≤ L) (hf : cells + 1 ≤ 1114 ∧ slots + 6 ≤ 20432) (J : JEnd p l e s m b below meth c cells slots Q g aC aM qo i) : W p l e room_1 s m #[.ref b] below meth c H locs cells slots Q (F0 m 1404 ls []) := by
  have hx := X.1.1
  have hb := X.1.2.1
  have hl0 : lv_has ls 7 [(0, .ref b), (1, .ref (aC 0)), (2, .ref (aM 0)), (3, .ref qo), (4, .int (nI i))] := hl
  obtain ⟨p0, P, K, V, O, h⟩ := id hR
  have q : Q2 (f_X9_dumpLength wC 0 ) (f_X10_dumpLength wM 0 ) := Q2.dmp h (q_dumpLength h.1.1 h.2.2.2.1 h.2.2.2.2.1 h.2.2.2.2.2.2.1)
  obtain ⟨r, c', m', e1, e2, hR2⟩ := q
  refine W.widen (k := cells + 1) (n := slots + 6) (by omega) (by omega) ?_
  refine lv_aload_n hx hb dL_1404 rfl (lv_at hl0 1 rfl) ?_
  refine y_C (n := 0) (As := []) (rest := []) (st1 := [.int r]) X hL (c_X9_dumpLength (l := l) (g := gW g aC) (w := wC) (k0 := 0) (e1) rfl) tw_4_100 ⟨tw_4_103, tw_1_1, by decide, by decide, by decide +kernel⟩ ⟨tw_4_101, tw_4_102⟩ cn_9 ⟨(Nat.le_of_ble_eq_true rfl), (Nat.le_of_ble_eq_true rfl)⟩ rfl rfl hl0.1 (Nat.le_of_ble_eq_true rfl) dL_1405 hf rfl (fun H locs hL => ?_)
  refine lv_aload_n hx hb dL_1408 rfl (lv_at hl0 2 rfl) ?_
  refine y_M (n := 0) (As := []) (rest := [.int r]) (st1 := [.int r, .int r]) X hL (c_X10_dumpLength (l := l) (g := gW g aM) (w := wM) (k0 := 0) (e2) rfl) tw_7_134 ⟨tw_7_137, tw_1_12, by decide, by decide, by decide +kernel⟩ ⟨tw_7_135, tw_7_136⟩ cn_10 ⟨(Nat.le_of_ble_eq_true rfl), (Nat.le_of_ble_eq_true rfl)⟩ rfl rfl hl0.1 (Nat.le_of_ble_eq_true rfl) dL_1409 hf rfl (fun H locs hL => ?_)
  refine lv_icmp_eq (tgt := 1632) hx hb dL_1412 (by decide) (fun _ => ?_) (fun h => absurd rfl h)
  exact J _ _ _ _ _ _ hR2 hL hl
set_option maxHeartbeats 4000000 in
theorem k_43 (X : LwX p l s m b meth c L xs g aC aM) (hR : RW wC wM) (hL : LW g (AS s) (LWo g aC aM qo wC wM f) s.heap H locs) (hl : lv_has ls 7 (lvB b aC aM qo i)) (hi : i + 6 ≤ L) (hf : cells + 1 ≤ 1114 ∧ slots + 6 ≤ 20432) (J : JEnd p l e s m b below meth c cells slots Q g aC aM qo i) : W p l e room_1 s m #[.ref b] below meth c H locs cells slots Q (F0 m 1417 ls []) := by
  have hx := X.1.1
  have hb := X.1.2.1
  have hl0 : lv_has ls 7 [(0, .ref b), (1, .ref (aC 0)), (2, .ref (aM 0)), (3, .ref qo), (4, .int (nI i))] := hl
  obtain ⟨p0, P, K, V, O, h⟩ := id hR
  have q : Q2 (f_X9_dumpByte wC 0 (xs (i + 1))) (f_X10_dumpByte wM 0 (xs (i + 1))) := Q2.dmp h (q_dumpByte h.1.1 h.2.2.2.1 h.2.2.2.2.1 h.2.2.2.2.2.2.1)
  obtain ⟨r, c', m', e1, e2, hR2⟩ := q
  refine W.widen (k := cells + 1) (n := slots + 6) (by omega) (by omega) ?_
  refine lv_aload_n hx hb dL_1417 rfl (lv_at hl0 1 rfl) ?_
  refine y_rd X hL hl (k := 1) hi (by decide) rfl dL_1418 dL_1419 dL_1421 dL_1422 dL_1423 ?_
  refine y_C (n := 1) (As := [.int (xs (i + 1))]) (rest := []) (st1 := [.int r]) X hL (c_X9_dumpByte (l := l) (g := gW g aC) (w := wC) (k0 := 0) (e1) rfl) tw_4_125 ⟨tw_4_128, tw_1_1, by decide, by decide, by decide +kernel⟩ ⟨tw_4_126, tw_4_127⟩ cn_9 ⟨(Nat.le_of_ble_eq_true rfl), (Nat.le_of_ble_eq_true rfl)⟩ rfl rfl hl0.1 (Nat.le_of_ble_eq_true rfl) dL_1424 hf rfl (fun H locs hL => ?_)
  refine lv_aload_n hx hb dL_1427 rfl (lv_at hl0 2 rfl) ?_
  refine y_rd X hL hl (k := 1) hi (by decide) rfl dL_1428 dL_1429 dL_1431 dL_1432 dL_1433 ?_
  refine y_M (n := 1) (As := [.int (xs (i + 1))]) (rest := [.int r]) (st1 := [.int r, .int r]) X hL (c_X10_dumpByte (l := l) (g := gW g aM) (w := wM) (k0 := 0) (e2) rfl) tw_7_151 ⟨tw_7_154, tw_1_12, by decide, by decide, by decide +kernel⟩ ⟨tw_7_152, tw_7_153⟩ cn_10 ⟨(Nat.le_of_ble_eq_true rfl), (Nat.le_of_ble_eq_true rfl)⟩ rfl rfl hl0.1 (Nat.le_of_ble_eq_true rfl) dL_1434 hf rfl (fun H locs hL => ?_)
  refine lv_icmp_eq (tgt := 1632) hx hb dL_1437 (by decide) (fun _ => ?_) (fun h => absurd rfl h)
  exact J _ _ _ _ _ _ hR2 hL hl
set_option maxHeartbeats 4000000 in
theorem k_44 (X : LwX p l s m b meth c L xs g aC aM) (hR : RW wC wM) (hL : LW g (AS s) (LWo g aC aM qo wC wM f) s.heap H locs) (hl : lv_has ls 7 (lvB b aC aM qo i)) (hi : i + 6 ≤ L) (hf : cells + 1 ≤ 1114 ∧ slots + 6 ≤ 20432) (J : JEnd p l e s m b below meth c cells slots Q g aC aM qo i) : W p l e room_1 s m #[.ref b] below meth c H locs cells slots Q (F0 m 1442 ls []) := by
  have hx := X.1.1
  have hb := X.1.2.1
  have hl0 : lv_has ls 7 [(0, .ref b), (1, .ref (aC 0)), (2, .ref (aM 0)), (3, .ref qo), (4, .int (nI i))] := hl
  obtain ⟨p0, P, K, V, O, h⟩ := id hR
  have q : Q2 (f_X9_addConstraint wC 0 (xs (i + 1)) (xs (i + 2)) (xs (i + 3)) (xs (i + 4))) (f_X10_addConstraint wM 0 (xs (i + 1)) (xs (i + 2)) (xs (i + 3)) (xs (i + 4))) := Q2.chg h (q_addConstraint h.1)
  obtain ⟨r, c', m', e1, e2, hR2⟩ := q
  refine W.widen (k := cells + 1) (n := slots + 6) (by omega) (by omega) ?_
  refine lv_aload_n hx hb dL_1442 rfl (lv_at hl0 1 rfl) ?_
  refine y_rd X hL hl (k := 1) hi (by decide) rfl dL_1443 dL_1444 dL_1446 dL_1447 dL_1448 ?_
  refine y_rd X hL hl (k := 2) hi (by decide) rfl dL_1449 dL_1450 dL_1452 dL_1453 dL_1454 ?_
  refine y_rd X hL hl (k := 3) hi (by decide) rfl dL_1455 dL_1456 dL_1458 dL_1459 dL_1460 ?_
  refine y_rd X hL hl (k := 4) hi (by decide) rfl dL_1461 dL_1462 dL_1464 dL_1465 dL_1466 ?_
  refine y_C (n := 4) (As := [.int (xs (i + 1)), .int (xs (i + 2)), .int (xs (i + 3)), .int (xs (i + 4))]) (rest := []) (st1 := [.int r]) X hL (c_X9_addConstraint (l := l) (g := gW g aC) (w := wC) (k0 := 0) (e1) rfl) tw_4_129 ⟨tw_4_132, tw_1_1, by decide, by decide, by decide +kernel⟩ ⟨tw_4_130, tw_4_131⟩ cn_9 ⟨(Nat.le_of_ble_eq_true rfl), (Nat.le_of_ble_eq_true rfl)⟩ rfl rfl hl0.1 (Nat.le_of_ble_eq_true rfl) dL_1467 hf rfl (fun H locs hL => ?_)
  refine lv_aload_n hx hb dL_1470 rfl (lv_at hl0 2 rfl) ?_
  refine y_rd X hL hl (k := 1) hi (by decide) rfl dL_1471 dL_1472 dL_1474 dL_1475 dL_1476 ?_
  refine y_rd X hL hl (k := 2) hi (by decide) rfl dL_1477 dL_1478 dL_1480 dL_1481 dL_1482 ?_
  refine y_rd X hL hl (k := 3) hi (by decide) rfl dL_1483 dL_1484 dL_1486 dL_1487 dL_1488 ?_
  refine y_rd X hL hl (k := 4) hi (by decide) rfl dL_1489 dL_1490 dL_1492 dL_1493 dL_1494 ?_
  refine y_M (n := 4) (As := [.int (xs (i + 1)), .int (xs (i + 2)), .int (xs (i + 3)), .int (xs (i + 4))]) (rest := [.int r]) (st1 := [.int r, .int r]) X hL (c_X10_addConstraint (l := l) (g := gW g aM) (w := wM) (k0 := 0) (e2) rfl) tw_7_155 ⟨tw_7_158, tw_1_12, by decide, by decide, by decide +kernel⟩ ⟨tw_7_156, tw_7_157⟩ cn_10 ⟨(Nat.le_of_ble_eq_true rfl), (Nat.le_of_ble_eq_true rfl)⟩ rfl rfl hl0.1 (Nat.le_of_ble_eq_true rfl) dL_1495 hf rfl (fun H locs hL => ?_)
  refine lv_icmp_eq (tgt := 1632) hx hb dL_1498 (by decide) (fun _ => ?_) (fun h => absurd rfl h)
  exact J _ _ _ _ _ _ hR2 hL hl
set_option maxHeartbeats 4000000 in
theorem k_45 (X : LwX p l s m b meth c L xs g aC aM) (hR : RW wC wM) (hL : LW g (AS s) (LWo g aC aM qo wC wM f) s.heap H locs) (hl : lv_has ls 7 (lvB b aC aM qo i)) (hi : i + 6 ≤ L) (hf : cells + 1 ≤ 1114 ∧ slots + 6 ≤ 20432) (J : JEnd p l e s m b below meth c cells slots Q g aC aM qo i) : W p l e room_1 s m #[.ref b] below meth c H locs cells slots Q (F0 m 1503 ls []) := by
  have hx := X.1.1
  have hb := X.1.2.1
  have hl0 : lv_has ls 7 [(0, .ref b), (1, .ref (aC 0)), (2, .ref (aM 0)), (3, .ref qo), (4, .int (nI i))] := hl
  obtain ⟨p0, P, K, V, O, h⟩ := id hR
  have q : Q2 (f_X9_setEnabled wC 0 (xs (i + 1)) (!decide (xs (i + 2) = 0))) (f_X10_setEnabled wM 0 (xs (i + 1)) (!decide (xs (i + 2) = 0))) := Q2.chg h (q_setEnabled h.1)
  obtain ⟨r, c', m', e1, e2, hR2⟩ := q
  refine W.widen (k := cells + 1) (n := slots + 6) (by omega) (by omega) ?_
  refine lv_aload_n hx hb dL_1503 rfl (lv_at hl0 1 rfl) ?_
  refine y_rd X hL hl (k := 1) hi (by decide) rfl dL_1504 dL_1505 dL_1507 dL_1508 dL_1509 ?_
  refine y_rd X hL hl (k := 2) hi (by decide) rfl dL_1510 dL_1511 dL_1513 dL_1514 dL_1515 ?_
  refine y_b X dL_1516 dL_1519 dL_1520 dL_1523 ?_
  refine y_C (n := 2) (As := [.int (xs (i + 1)), .int (bI (!decide (xs (i + 2) = 0)))]) (rest := []) (st1 := [.int (bI r)]) X hL (c_X9_setEnabled (l := l) (g := gW g aC) (w := wC) (k0 := 0) (e1) rfl) tw_4_145 ⟨tw_4_148, tw_1_1, by decide, by decide, by decide +kernel⟩ ⟨tw_4_146, tw_4_147⟩ cn_9 ⟨(Nat.le_of_ble_eq_true rfl), (Nat.le_of_ble_eq_true rfl)⟩ rfl rfl hl0.1 (Nat.le_of_ble_eq_true rfl) dL_1524 hf rfl (fun H locs hL => ?_)
  refine lv_aload_n hx hb dL_1527 rfl (lv_at hl0 2 rfl) ?_
  refine y_rd X hL hl (k := 1) hi (by decide) rfl dL_1528 dL_1529 dL_1531 dL_1532 dL_1533 ?_
  refine y_rd X hL hl (k := 2) hi (by decide) rfl dL_1534 dL_1535 dL_1537 dL_1538 dL_1539 ?_
  refine y_b X dL_1540 dL_1543 dL_1544 dL_1547 ?_
  refine y_M (n := 2) (As := [.int (xs (i + 1)), .int (bI (!decide (xs (i + 2) = 0)))]) (rest := [.int (bI r)]) (st1 := [.int (bI r), .int (bI r)]) X hL (c_X10_setEnabled (l := l) (g := gW g aM) (w := wM) (k0 := 0) (e2) rfl) tw_7_167 ⟨tw_7_170, tw_1_12, by decide, by decide, by decide +kernel⟩ ⟨tw_7_168, tw_7_169⟩ cn_10 ⟨(Nat.le_of_ble_eq_true rfl), (Nat.le_of_ble_eq_true rfl)⟩ rfl rfl hl0.1 (Nat.le_of_ble_eq_true rfl) dL_1548 hf rfl (fun H locs hL => ?_)
  refine lv_icmp_eq (tgt := 1632) hx hb dL_1551 (by decide) (fun _ => ?_) (fun h => absurd rfl h)
  exact J _ _ _ _ _ _ hR2 hL hl
set_option maxHeartbeats 4000000 in
theorem k_46 (X : LwX p l s m b meth c L xs g aC aM) (hR : RW wC wM) (hL : LW g (AS s) (LWo g aC aM qo wC wM f) s.heap H locs) (hl : lv_has ls 7 (lvB b aC aM qo i)) (hi : i + 6 ≤ L) (hf : cells + 1 ≤ 1114 ∧ slots + 6 ≤ 20432) (J : JEnd p l e s m b below meth c cells slots Q g aC aM qo i) : W p l e room_1 s m #[.ref b] below meth c H locs cells slots Q (F0 m 1556 ls []) := by
  have hx := X.1.1
  have hb := X.1.2.1
  have hl0 : lv_has ls 7 [(0, .ref b), (1, .ref (aC 0)), (2, .ref (aM 0)), (3, .ref qo), (4, .int (nI i))] := hl
  obtain ⟨p0, P, K, V, O, h⟩ := id hR
  have q : Q2 (f_X9_undo wC 0 ) (f_X10_undo wM 0 ) := Q2.chg h (q_undo h.1)
  obtain ⟨r, c', m', e1, e2, hR2⟩ := q
  refine W.widen (k := cells + 1) (n := slots + 6) (by omega) (by omega) ?_
  refine lv_aload_n hx hb dL_1556 rfl (lv_at hl0 1 rfl) ?_
  refine y_C (n := 0) (As := []) (rest := []) (st1 := [.int r]) X hL (c_X9_undo (l := l) (g := gW g aC) (w := wC) (k0 := 0) (e1) rfl) tw_4_153 ⟨tw_4_156, tw_1_1, by decide, by decide, by decide +kernel⟩ ⟨tw_4_154, tw_4_155⟩ cn_9 ⟨(Nat.le_of_ble_eq_true rfl), (Nat.le_of_ble_eq_true rfl)⟩ rfl rfl hl0.1 (Nat.le_of_ble_eq_true rfl) dL_1557 hf rfl (fun H locs hL => ?_)
  refine lv_aload_n hx hb dL_1560 rfl (lv_at hl0 2 rfl) ?_
  refine y_M (n := 0) (As := []) (rest := [.int r]) (st1 := [.int r, .int r]) X hL (c_X10_undo (l := l) (g := gW g aM) (w := wM) (k0 := 0) (e2) rfl) tw_7_171 ⟨tw_7_174, tw_1_12, by decide, by decide, by decide +kernel⟩ ⟨tw_7_172, tw_7_173⟩ cn_10 ⟨(Nat.le_of_ble_eq_true rfl), (Nat.le_of_ble_eq_true rfl)⟩ rfl rfl hl0.1 (Nat.le_of_ble_eq_true rfl) dL_1561 hf rfl (fun H locs hL => ?_)
  refine lv_icmp_eq (tgt := 1632) hx hb dL_1564 (by decide) (fun _ => ?_) (fun h => absurd rfl h)
  exact J _ _ _ _ _ _ hR2 hL hl
set_option maxHeartbeats 4000000 in
theorem k_47 (X : LwX p l s m b meth c L xs g aC aM) (hR : RW wC wM) (hL : LW g (AS s) (LWo g aC aM qo wC wM f) s.heap H locs) (hl : lv_has ls 7 (lvB b aC aM qo i)) (hi : i + 6 ≤ L) (hf : cells + 1 ≤ 1114 ∧ slots + 6 ≤ 20432) (J : JEnd p l e s m b below meth c cells slots Q g aC aM qo i) : W p l e room_1 s m #[.ref b] below meth c H locs cells slots Q (F0 m 1569 ls []) := by
  have hx := X.1.1
  have hb := X.1.2.1
  have hl0 : lv_has ls 7 [(0, .ref b), (1, .ref (aC 0)), (2, .ref (aM 0)), (3, .ref qo), (4, .int (nI i))] := hl
  obtain ⟨p0, P, K, V, O, h⟩ := id hR
  have q : Q1 wC (some (f_X9_undoDepth wC 0 )) (f_X10_undoDepth wM 0 ) := Q1.sim h (q_undoDepth h.1)
  obtain ⟨r, m', e1, e2, hR2⟩ := q
  refine W.widen (k := cells + 1) (n := slots + 6) (by omega) (by omega) ?_
  refine lv_aload_n hx hb dL_1569 rfl (lv_at hl0 1 rfl) ?_
  refine y_C (n := 0) (As := []) (rest := []) (st1 := [.int r]) X hL (c_X9_undoDepth (l := l) (g := gW g aC) (w := wC) (k0 := 0) (Option.some.inj e1) rfl) tw_4_165 ⟨tw_4_168, tw_1_1, by decide, by decide, by decide +kernel⟩ ⟨tw_4_166, tw_4_167⟩ cn_9 ⟨(Nat.le_of_ble_eq_true rfl), (Nat.le_of_ble_eq_true rfl)⟩ rfl rfl hl0.1 (Nat.le_of_ble_eq_true rfl) dL_1570 hf rfl (fun H locs hL => ?_)
  refine lv_aload_n hx hb dL_1573 rfl (lv_at hl0 2 rfl) ?_
  refine y_M (n := 0) (As := []) (rest := [.int r]) (st1 := [.int r, .int r]) X hL (c_X10_undoDepth (l := l) (g := gW g aM) (w := wM) (k0 := 0) (e2) rfl) tw_7_175 ⟨tw_7_178, tw_1_12, by decide, by decide, by decide +kernel⟩ ⟨tw_7_176, tw_7_177⟩ cn_10 ⟨(Nat.le_of_ble_eq_true rfl), (Nat.le_of_ble_eq_true rfl)⟩ rfl rfl hl0.1 (Nat.le_of_ble_eq_true rfl) dL_1574 hf rfl (fun H locs hL => ?_)
  refine lv_icmp_eq (tgt := 1632) hx hb dL_1577 (by decide) (fun _ => ?_) (fun h => absurd rfl h)
  exact J _ _ _ _ _ _ hR2 hL hl
set_option maxHeartbeats 4000000 in
theorem k_48 (X : LwX p l s m b meth c L xs g aC aM) (hR : RW wC wM) (hL : LW g (AS s) (LWo g aC aM qo wC wM f) s.heap H locs) (hl : lv_has ls 7 (lvB b aC aM qo i)) (hi : i + 6 ≤ L) (hf : cells + 1 ≤ 1114 ∧ slots + 6 ≤ 20432) (J : JEnd p l e s m b below meth c cells slots Q g aC aM qo i) : W p l e room_1 s m #[.ref b] below meth c H locs cells slots Q (F0 m 1582 ls []) := by
  have hx := X.1.1
  have hb := X.1.2.1
  have hl0 : lv_has ls 7 [(0, .ref b), (1, .ref (aC 0)), (2, .ref (aM 0)), (3, .ref qo), (4, .int (nI i))] := hl
  have q : Q2 (f_X9_saveSnapshot wC 0 (xs (i + 1))) (f_X10_saveSnapshot wM 0 (xs (i + 1))) := w_save hR
  obtain ⟨r, c', m', e1, e2, hR2⟩ := q
  refine W.widen (k := cells + 1) (n := slots + 6) (by omega) (by omega) ?_
  refine lv_aload_n hx hb dL_1582 rfl (lv_at hl0 1 rfl) ?_
  refine y_rd X hL hl (k := 1) hi (by decide) rfl dL_1583 dL_1584 dL_1586 dL_1587 dL_1588 ?_
  refine y_C (n := 1) (As := [.int (xs (i + 1))]) (rest := []) (st1 := [.int (bI r)]) X hL (c_X9_saveSnapshot (l := l) (g := gW g aC) (w := wC) (k0 := 0) (e1) rfl) tw_4_169 ⟨tw_4_172, tw_1_1, by decide, by decide, by decide +kernel⟩ ⟨tw_4_170, tw_4_171⟩ cn_9 ⟨(Nat.le_of_ble_eq_true rfl), (Nat.le_of_ble_eq_true rfl)⟩ rfl rfl hl0.1 (Nat.le_of_ble_eq_true rfl) dL_1589 hf rfl (fun H locs hL => ?_)
  refine lv_aload_n hx hb dL_1592 rfl (lv_at hl0 2 rfl) ?_
  refine y_rd X hL hl (k := 1) hi (by decide) rfl dL_1593 dL_1594 dL_1596 dL_1597 dL_1598 ?_
  refine y_M (n := 1) (As := [.int (xs (i + 1))]) (rest := [.int (bI r)]) (st1 := [.int (bI r), .int (bI r)]) X hL (c_X10_saveSnapshot (l := l) (g := gW g aM) (w := wM) (k0 := 0) (e2) rfl) tw_7_179 ⟨tw_7_182, tw_1_12, by decide, by decide, by decide +kernel⟩ ⟨tw_7_180, tw_7_181⟩ cn_10 ⟨(Nat.le_of_ble_eq_true rfl), (Nat.le_of_ble_eq_true rfl)⟩ rfl rfl hl0.1 (Nat.le_of_ble_eq_true rfl) dL_1599 hf rfl (fun H locs hL => ?_)
  refine lv_icmp_eq (tgt := 1632) hx hb dL_1602 (by decide) (fun _ => ?_) (fun h => absurd rfl h)
  exact J _ _ _ _ _ _ hR2 hL hl
set_option maxHeartbeats 4000000 in
theorem k_49 (X : LwX p l s m b meth c L xs g aC aM) (hR : RW wC wM) (hL : LW g (AS s) (LWo g aC aM qo wC wM f) s.heap H locs) (hl : lv_has ls 7 (lvB b aC aM qo i)) (hi : i + 6 ≤ L) (hf : cells + 1 ≤ 1114 ∧ slots + 6 ≤ 20432) (J : JEnd p l e s m b below meth c cells slots Q g aC aM qo i) : W p l e room_1 s m #[.ref b] below meth c H locs cells slots Q (F0 m 1607 ls []) := by
  have hx := X.1.1
  have hb := X.1.2.1
  have hl0 : lv_has ls 7 [(0, .ref b), (1, .ref (aC 0)), (2, .ref (aM 0)), (3, .ref qo), (4, .int (nI i))] := hl
  obtain ⟨p0, P, K, V, O, h⟩ := id hR
  have q : Q2 (f_X9_restoreSnapshot wC 0 (xs (i + 1))) (f_X10_restoreSnapshot wM 0 (xs (i + 1))) := Q2.chg h (q_restoreSnapshot h.1 h.2.1)
  obtain ⟨r, c', m', e1, e2, hR2⟩ := q
  refine W.widen (k := cells + 1) (n := slots + 6) (by omega) (by omega) ?_
  refine lv_aload_n hx hb dL_1607 rfl (lv_at hl0 1 rfl) ?_
  refine y_rd X hL hl (k := 1) hi (by decide) rfl dL_1608 dL_1609 dL_1611 dL_1612 dL_1613 ?_
  refine y_C (n := 1) (As := [.int (xs (i + 1))]) (rest := []) (st1 := [.int (bI r)]) X hL (c_X9_restoreSnapshot (l := l) (g := gW g aC) (w := wC) (k0 := 0) (e1) rfl) tw_4_178 ⟨tw_4_181, tw_1_1, by decide, by decide, by decide +kernel⟩ ⟨tw_4_179, tw_4_180⟩ cn_9 ⟨(Nat.le_of_ble_eq_true rfl), (Nat.le_of_ble_eq_true rfl)⟩ rfl rfl hl0.1 (Nat.le_of_ble_eq_true rfl) dL_1614 hf rfl (fun H locs hL => ?_)
  refine lv_aload_n hx hb dL_1617 rfl (lv_at hl0 2 rfl) ?_
  refine y_rd X hL hl (k := 1) hi (by decide) rfl dL_1618 dL_1619 dL_1621 dL_1622 dL_1623 ?_
  refine y_M (n := 1) (As := [.int (xs (i + 1))]) (rest := [.int (bI r)]) (st1 := [.int (bI r), .int (bI r)]) X hL (c_X10_restoreSnapshot (l := l) (g := gW g aM) (w := wM) (k0 := 0) (e2) rfl) tw_7_183 ⟨tw_7_186, tw_1_12, by decide, by decide, by decide +kernel⟩ ⟨tw_7_184, tw_7_185⟩ cn_10 ⟨(Nat.le_of_ble_eq_true rfl), (Nat.le_of_ble_eq_true rfl)⟩ rfl rfl hl0.1 (Nat.le_of_ble_eq_true rfl) dL_1624 hf rfl (fun H locs hL => ?_)
  refine lv_icmp_eq (tgt := 1632) hx hb dL_1627 (by decide) (fun _ => ?_) (fun h => absurd rfl h)
  exact J _ _ _ _ _ _ hR2 hL hl
end LC
