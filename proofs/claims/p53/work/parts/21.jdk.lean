-- deps: 20
/-! The JDK's builder and text methods, over lists of cells. -/
theorem zz_u10 : ∀ w ∈ u_ws RJ0 TJ0 4, w ∈ TT := zz_all (zz_ac tw_4_141 (zz_ac tw_4_143 (zz_ac tw_4_145 (zz_ac tw_4_147 zz_an))))
theorem cs_10 : CSt 10 := ⟨(RJ0, TJ0, 4), rfl, by decide, rfl, zz_u10, ⟨tyJ0, tyJ0_ok⟩, nmJ0⟩
theorem zz_u11 : ∀ w ∈ u_ws RJ4 TJ4 4, w ∈ TT := zz_all (zz_ac tw_3_191 (zz_ac tw_3_193 (zz_ac tw_3_195 (zz_ac tw_3_197 zz_an))))
theorem cs_11 : CSt 11 := ⟨(RJ4, TJ4, 4), rfl, by decide, rfl, zz_u11, ⟨tyJ4, tyJ4_ok⟩, nmJ4⟩
def sbE (v : Nat) (n : Int32) : va_E := .inr (11, [.ref v, .int 0, .int 0, .int n])
def stE (v : Nat) : va_E := .inr (10, [.ref v, .int 0, .int 0, .int 0])
theorem by_fit : ∀ c, c < 128 → (nI c).toInt8.toInt32 = nI c := by decide +kernel
theorem ch_fit : ∀ c, c < 128 → ((nI c &&& 255).toUInt32 % 65536).toInt32 = nI c := by decide +kernel
/-- cells of an array of bytes are bytes -/
def BF (m : Nat) (f : Nat → Int32) : Prop := ∀ j, j < m → fits .byte (.int (f j)) = true
theorem by_fits : ∀ c, c < 128 → fits .byte (.int (nI c)) = true := by decide +kernel
section JD
variable {p : Program} {l : Launch} {e : Env} {R : Room} {s : State} {m : MethodId} {args : Array Value} {below : List Frame} {meth : Method} {c : Code} {H : Heap} {locs : List Loc} {cells slots : Nat} {Q : State → Prop}
variable {cc : ByteArray} {nL : Nat} {own : String} {g : Gh} {pc : Nat} {ls : Array Slot} {rest : List Value} {A : Nat → Prop} {ws : va_W} {Lx : Nat × (Nat → Int32)}
theorem x_compact (X : AmC p s m args meth c cc nL own g) (hZ : ZX Lx A g s s.heap) (hL : LW g A ws s.heap H locs) {idx : Nat} (lk : Cond.fieldLink own idx "java/lang/String" "COMPACT_STRINGS" "Z" ∈ TT) (hdg : decode cc pc = .ok (.getstatic idx, 3))
    (kk : W p l e R s m args below meth c H locs cells slots Q (F0 m (pc + 3) ls (.int 1 :: rest))) : W p l e R s m args below meth c H locs cells slots Q (F0 m pc ls rest) :=
  va_gets X.1 X.2.1 (ref := "java/lang/String") hZ.1.2.2.2.2.1 hL.2.2.1 X.2.2.2.1 (X.2.2.2.2.1 _ lk) (fun _ h => h) hdg kk
theorem x_sCoder (X : AmC p s m args meth c cc nL own g) (hZ : ZX Lx A g s s.heap) (hL : LW g A ws s.heap H locs) {i idx : Nat} (hi : i < 9) (lk : Cond.fieldLink own idx "java/lang/String" "coder" "B" ∈ TT) (hdg : decode cc pc = .ok (.getfield idx, 3))
    (kk : W p l e R s m args below meth c H locs cells slots Q (F0 m (pc + 3) ls (.int 0 :: rest))) : W p l e R s m args below meth c H locs cells slots Q (F0 m pc ls (.ref (g.2.2 (2000 + i)) :: rest)) :=
  vk_getf X.1 X.2.1 (hZ.1.2.2.1.1 i hi).2.1 hL.2.2.1 X.2.2.2.1 (X.2.2.2.2.1 _ lk) (fun _ h => h) hdg kk
theorem x_sValue (X : AmC p s m args meth c cc nL own g) (hZ : ZX Lx A g s s.heap) (hL : LW g A ws s.heap H locs) {i idx : Nat} (hi : i < 9) (lk : Cond.fieldLink own idx "java/lang/String" "value" "[B" ∈ TT) (hdg : decode cc pc = .ok (.getfield idx, 3))
    (kk : W p l e R s m args below meth c H locs cells slots Q (F0 m (pc + 3) ls (.ref (g.2.2 (3000 + i)) :: rest))) : W p l e R s m args below meth c H locs cells slots Q (F0 m pc ls (.ref (g.2.2 (2000 + i)) :: rest)) :=
  vk_getf X.1 X.2.1 (hZ.1.2.2.1.1 i hi).2.2.1 hL.2.2.1 X.2.2.2.1 (X.2.2.2.2.1 _ lk) (fun _ h => h) hdg kk
theorem x_sRecv (hZ : ZX Lx A g s s.heap) (hL : LW g A ws s.heap H locs) {i : Nat} (hi : i < 9) : ∃ cell : Cell, H[g.2.2 (2000 + i)]? = some cell ∧ cell.vm.isStatics = false ∧ s.vm.findClass "java/lang/String" = some cell.cls := vk_recv (adK := fun i => g.2.2 (2000 + i)) hZ.1.2.2.1 hi hL.2.2.1
theorem x_nbyte (X : AmC p s m args meth c cc nL own g) (hL : LW g A ws s.heap H locs) {n : Int32} {N : Nat} (hn : ¬ n < 0) (hN : n.toNatClampNeg = N) (hb2 : N ≤ 5000) (hcells : cells + 1 ≤ R.cells) (hslots : slots + N ≤ R.slots) (hdg : decode cc pc = .ok (.newarray .byte, 2))
    (kk : ∀ (q : Nat) (H1 : Heap), LW g A (ws ++ [(q, ba g N (fun _ => 0))]) s.heap H1 locs → W p l e R s m args below meth c H1 locs (cells + 1) (slots + N) Q (F0 m (pc + 2) ls (.ref q :: rest))) : W p l e R s m args below meth c H locs cells slots Q (F0 m pc ls (.int n :: rest)) :=
  x_newa (atype := .byte) X hL rfl (i := 2) rfl (fun _ => rfl) tw_1_71 (a0 := (N, .inl fun _ => 0)) (fun _ => rfl) rfl hn hN (by show N * 1 ≤ _; omega) hcells hslots hdg kk
theorem x_bcopy (X : AmC p s m args meth c cc nL own g) (hL : LW g A ws s.heap H locs) {j k a b n0 n1 idx : Nat} {f h : Nat → Int32} (ha : ws[j]? = some (a, ba g n0 f)) (hb0 : ws[k]? = some (b, ba g n1 h)) (hlk : Cond.methodLink own idx arraycopyName ∈ TT) {sp dp n : Int32} (h1 : ¬ sp < 0) (h2 : ¬ dp < 0) (h3 : ¬ n < 0) (h4 : sp.toNatClampNeg + n.toNatClampNeg ≤ n0) (h5 : dp.toNatClampNeg + n.toNatClampNeg ≤ n1) (hfit : ∀ i, i < n.toNatClampNeg → fits .byte (.int (f (sp.toNatClampNeg + i))) = true)
    (hsz : ls.size = nL) (hframes : 1 ≤ R.frames) (hlocals : (rest.map fun v => v.category).sum + (nativeFrameWords "java/lang/System" "arraycopy" 5 + 11) ≤ R.locals) (hdg : decode cc pc = .ok (.invokestatic idx, 3)) {ws2 : va_W} (hws : ws.set k (b, ba g n1 (va_cpy f h sp.toNatClampNeg dp.toNatClampNeg n.toNatClampNeg)) = ws2)
    (kk : ∀ (H : Heap) (locs : List Loc), LW g A ws2 s.heap H locs → W p l e R s m args below meth c H locs cells slots Q (F0 m (pc + 3) ls rest)) : W p l e R s m args below meth c H locs cells slots Q (F0 m pc ls (.int n :: .int dp :: .ref b :: .int sp :: .ref a :: rest)) := by
  subst hws
  obtain ⟨hx, hb, hml, hown, ht, hK, hN, -⟩ := X
  exact va_copyi hx hb (hml.trans hsz.symm) hown (ht _ hlk) (ht _ tw_2_179) (ht _ tw_2_178) (ht _ tw_1_16) hK hL.1 hL.2.1 hL.2.2.1 j k 2 2 ha hb0 rfl rfl rfl h1 h2 h3 h4 h5 hfit hframes hlocals hdg (fun H1 locs1 a1 a2 a3 => kk H1 locs1 ⟨a1, a2, a3, hL.2.2.2⟩)
theorem x_tcopy (X : AmC p s m args meth c cc nL own g) (hZ : ZX Lx A g s s.heap) (hL : LW g A ws s.heap H locs) {i k b n1 idx : Nat} (hi : i < 9) {h : Nat → Int32} (hb0 : ws[k]? = some (b, ba g n1 h)) (hlk : Cond.methodLink own idx arraycopyName ∈ TT) {sp dp n : Int32} (h1 : ¬ sp < 0) (h2 : ¬ dp < 0) (h3 : ¬ n < 0) (h4 : sp.toNatClampNeg + n.toNatClampNeg ≤ lsLen.getD i 0) (h5 : dp.toNatClampNeg + n.toNatClampNeg ≤ n1) (hfit : ∀ q, q < n.toNatClampNeg → fits .byte (.int ((lsByt.getD i []).getD (sp.toNatClampNeg + q) 0)) = true)
    (hsz : ls.size = nL) (hframes : 1 ≤ R.frames) (hlocals : (rest.map fun v => v.category).sum + (nativeFrameWords "java/lang/System" "arraycopy" 5 + 11) ≤ R.locals) (hdg : decode cc pc = .ok (.invokestatic idx, 3)) {ws2 : va_W} (hws : ws.set k (b, ba g n1 (va_cpy (fun j => (lsByt.getD i []).getD j 0) h sp.toNatClampNeg dp.toNatClampNeg n.toNatClampNeg)) = ws2)
    (kk : ∀ (H : Heap) (locs : List Loc), LW g A ws2 s.heap H locs → W p l e R s m args below meth c H locs cells slots Q (F0 m (pc + 3) ls rest)) : W p l e R s m args below meth c H locs cells slots Q (F0 m pc ls (.int n :: .int dp :: .ref b :: .int sp :: .ref (g.2.2 (3000 + i)) :: rest)) := by
  subst hws
  obtain ⟨hx, hb, hml, hown, ht, hK, hN, -⟩ := X
  exact vk_copyt hx hb (hml.trans hsz.symm) hown (ht _ hlk) (ht _ tw_2_179) (ht _ tw_2_178) (ht _ tw_1_16) hK hL.1 hL.2.1 hL.2.2.1 (f := fun j => (lsByt.getD i []).getD j 0) (hZ.1.2.2.1.1 i hi).2.2.2 k 2 hb0 rfl h1 h2 h3 h4 h5 hfit hframes hlocals hdg (fun H1 locs1 a1 a2 a3 => kk H1 locs1 ⟨a1, a2, a3, hL.2.2.2⟩)
end JD

section GD
theorem gIn {w : Cond} (h : w ∈ TT) : w ∈ TT ∧ ((w.onTables && w.keeps) = true ∨ ∃ ty, w = .arrayClass ty) := ⟨h, good_of_word (List.mem_filter.mp h).2⟩
theorem goodU {own C owner : String} {idx : Nat} {x y : MethodName} {b : ByteArray} {n : Nat} {r : Option FieldType} (h1 : Cond.methodLink own idx x ∈ TT) (h2 : Cond.sameMethod x.cls owner x.name x.desc ∈ TT) (h3 : Cond.selects C x y ∈ TT) (h4 : Cond.instanceMethod y ∈ TT) (h5 : Cond.initialized y.cls ∈ TT) (h6 : Cond.code y b n r ∈ TT) : GoodIn TT (va_wsU own idx C owner x y (Cond.code y b n r :: TT)) := by
  intro w hw
  unfold va_wsU at hw
  simp only [List.cons_append, List.nil_append, List.mem_cons] at hw
  rcases hw with rfl | rfl | rfl | rfl | rfl | rfl | hw
  all_goals first | exact gIn ‹_› | exact gIn hw
theorem goodO {own C owner : String} {idx : Nat} {x y : MethodName} {b : ByteArray} {n : Nat} {r : Option FieldType} (h1 : Cond.methodLink own idx x ∈ TT) (h2 : Cond.sameMethod x.cls owner x.name x.desc ∈ TT) (h0 : Cond.instanceMethod ⟨owner, x.name, x.desc⟩ ∈ TT) (h3 : Cond.selects C x y ∈ TT) (h4 : Cond.instanceMethod y ∈ TT) (h5 : Cond.initialized y.cls ∈ TT) (h6 : Cond.code y b n r ∈ TT) : GoodIn TT (va_wsO own idx C owner x y (Cond.code y b n r :: TT)) := by
  intro w hw
  unfold va_wsO at hw
  simp only [List.cons_append, List.nil_append, List.mem_cons] at hw
  rcases hw with rfl | rfl | rfl | rfl | rfl | rfl | rfl | hw
  all_goals first | exact gIn ‹_› | exact gIn hw
theorem goodSU {own : String} {idx : Nat} {y : MethodName} {b : ByteArray} {n : Nat} {r : Option FieldType} (h1 : Cond.methodLink own idx y ∈ TT) (h2 : Cond.sameMethod y.cls y.cls y.name y.desc ∈ TT) (h3 : Cond.superclass own y.cls ∈ TT) (h4 : Cond.instanceMethod y ∈ TT) (h5 : Cond.initialized y.cls ∈ TT) (h6 : Cond.code y b n r ∈ TT) : GoodIn TT (va_wsSU own idx y (Cond.code y b n r :: TT)) := by
  intro w hw
  unfold va_wsSU at hw
  simp only [List.cons_append, List.nil_append, List.mem_cons] at hw
  rcases hw with rfl | rfl | rfl | rfl | rfl | rfl | hw
  all_goals first | exact gIn ‹_› | exact gIn hw
end GD

theorem j_mx (a b : Nat) (ha : a < 65536) (hb : b < 65536) : (if nI a < nI b then nI b else nI a) = nI (max a b) := by
  by_cases h : a < b
  · rw [if_pos (nI_lt h (by omega)), Nat.max_eq_right (by omega)]
  · rw [if_neg (nI_nlt (by omega) (by omega)), Nat.max_eq_left (by omega)]
theorem j_mn (a b : Nat) (ha : a < 65536) (hb : b < 65536) : (if nI b < nI a then nI b else nI a) = nI (min a b) := by
  by_cases h : b < a
  · rw [if_pos (nI_lt h (by omega)), Nat.min_eq_right (by omega)]
  · rw [if_neg (nI_nlt (by omega) (by omega)), Nat.min_eq_left (by omega)]
theorem j_sub {a b : Nat} (h : b ≤ a) : nI a - nI b = nI (a - b) := pk_sub h
theorem j_shr0 (x : Int32) : x >>> ((0 : Int32) &&& 31) = x := sb_shr0 x
theorem j_shl0 (x : Int32) : x <<< ((0 : Int32) &&& 31) = x := sb_shl0 x
theorem j_neg {n : Nat} (h : n < 65536) : ¬ nI n < 0 := nI_pos (by omega)
theorem j_cl {n : Nat} (h : n < 65536) : (nI n).toNatClampNeg = n := nI_clamp (by omega)

theorem dJ8_newLength_cabcc_0 : decode cJ8_newLength_cabcc 0 = .ok (.iload_n 0, 1) := by decide +kernel
theorem dJ8_newLength_cabcc_1 : decode cJ8_newLength_cabcc 1 = .ok (.iload_n 1, 1) := by decide +kernel
theorem dJ8_newLength_cabcc_2 : decode cJ8_newLength_cabcc 2 = .ok (.iload_n 2, 1) := by decide +kernel
theorem dJ8_newLength_cabcc_3 : decode cJ8_newLength_cabcc 3 = .ok (.invokestatic 194, 3) := by decide +kernel
theorem dJ8_newLength_cabcc_6 : decode cJ8_newLength_cabcc 6 = .ok (.iadd, 1) := by decide +kernel
theorem dJ8_newLength_cabcc_7 : decode cJ8_newLength_cabcc 7 = .ok (.istore_n 3, 1) := by decide +kernel
theorem dJ8_newLength_cabcc_8 : decode cJ8_newLength_cabcc 8 = .ok (.iconst 0, 1) := by decide +kernel
theorem dJ8_newLength_cabcc_9 : decode cJ8_newLength_cabcc 9 = .ok (.iload_n 3, 1) := by decide +kernel
theorem dJ8_newLength_cabcc_10 : decode cJ8_newLength_cabcc 10 = .ok (.if_icmp .ge 11, 3) := by decide +kernel
theorem dJ8_newLength_cabcc_13 : decode cJ8_newLength_cabcc 13 = .ok (.iload_n 3, 1) := by decide +kernel
theorem dJ8_newLength_cabcc_14 : decode cJ8_newLength_cabcc 14 = .ok (.ldc 200, 2) := by decide +kernel
theorem dJ8_newLength_cabcc_16 : decode cJ8_newLength_cabcc 16 = .ok (.if_icmp .gt 5, 3) := by decide +kernel
theorem dJ8_newLength_cabcc_19 : decode cJ8_newLength_cabcc 19 = .ok (.iload_n 3, 1) := by decide +kernel
theorem dJ8_newLength_cabcc_20 : decode cJ8_newLength_cabcc 20 = .ok (.ireturn, 1) := by decide +kernel
theorem dJ8_newLength_cabcc_21 : decode cJ8_newLength_cabcc 21 = .ok (.iload_n 0, 1) := by decide +kernel
theorem dJ8_newLength_cabcc_22 : decode cJ8_newLength_cabcc 22 = .ok (.iload_n 1, 1) := by decide +kernel
theorem dJ8_newLength_cabcc_23 : decode cJ8_newLength_cabcc 23 = .ok (.invokestatic 201, 3) := by decide +kernel
theorem dJ8_newLength_cabcc_26 : decode cJ8_newLength_cabcc 26 = .ok (.ireturn, 1) := by decide +kernel
theorem ms_J8_newLength_cabcc : MSt yJ8_newLength_cabcc cJ8_newLength_cabcc 4 (some .int) 3 := ⟨tw_3_230, tw_1_21, by decide, by decide, by decide +kernel⟩
set_option maxHeartbeats 4000000 in
set_option maxRecDepth 100000 in
theorem k_newLength {l : Launch} {g : Gh} {Lx : Nat × (Nat → Int32)} {x y z : Nat} (hx0 : x < 9000) (hy0 : y < 9000) (hz0 : z < 9000) (hy1 : 0 < z) : LMt l Lx g yJ8_newLength_cabcc cJ8_newLength_cabcc 4 (some .int) 1 0 0 [] [.int (nI x), .int (nI y), .int (nI z)] (fun v nb => v = some (.int (nI (x + max y z))) ∧ nb = []) := by
  refine lm_start (by decide) (Nat.le_of_ble_eq_true rfl) ?_
  intro p e s m args below meth c ls X hZ hnm hr hl hL
  have hx := X.1
  have hb := X.2.1
  have hown := X.2.2.2.1
  have ht := X.2.2.2.2.1
  have hl : lv_has ls 4 [(0, .int (nI x)), (1, .int (nI y)), (2, .int (nI z))] := hl
  refine lv_iload_n hx hb dJ8_newLength_cabcc_0 rfl (lv_at hl 0 rfl) ?_
  refine lv_iload_n hx hb dJ8_newLength_cabcc_1 rfl (lv_at hl 1 rfl) ?_
  refine lv_iload_n hx hb dJ8_newLength_cabcc_2 rfl (lv_at hl 2 rfl) ?_
  refine va_mmax hx hb (X.2.2.1.trans hl.1.symm) hown (ht _ tw_3_231) (ht _ tw_3_232) (ht _ tw_1_5) (ht _ tw_3_233) (Nat.le_of_ble_eq_true rfl) (Nat.le_of_ble_eq_true rfl) (Nat.le_refl _) (Nat.le_refl _) dJ8_newLength_cabcc_3 ?_
  rw [j_mx y z (by omega) (by omega)]
  refine lv_iadd hx hb dJ8_newLength_cabcc_6 ?_
  rw [nI_add]
  refine lv_istore_n (lv' := [(3, .int (nI (x + max y z))), (0, .int (nI x)), (1, .int (nI y)), (2, .int (nI z))]) hx hb dJ8_newLength_cabcc_7 rfl hl (by decide) rfl (fun ls hl => ?_)
  refine lv_iconst (v := (0 : Int32)) hx hb dJ8_newLength_cabcc_8 (by decide) ?_
  refine lv_iload_n hx hb dJ8_newLength_cabcc_9 rfl (lv_at hl 0 rfl) ?_
  refine lv_icmp_ge (tgt := 21) hx hb dJ8_newLength_cabcc_10 (by decide) (fun q => absurd q (show ¬ nI (x + max y z) ≤ nI 0 from nI_ge (by omega) (by omega))) (fun _ => ?_)
  refine lv_iload_n hx hb dJ8_newLength_cabcc_13 rfl (lv_at hl 0 rfl) ?_
  refine lv_ldc (own := "jdk/internal/util/ArraysSupport") (v := (2147483639 : Int32)) hx hb hown (ht _ tw_3_234) dJ8_newLength_cabcc_14 ?_
  refine lv_icmp_gt (tgt := 21) hx hb dJ8_newLength_cabcc_16 (by decide) (fun q => absurd q (show ¬ nI 2147483639 < nI (x + max y z) from nI_nlt (by omega) (by decide))) (fun _ => ?_)
  refine lv_iload_n hx hb dJ8_newLength_cabcc_19 rfl (lv_at hl 0 rfl) ?_
  exact x_iret X hL hr ⟨rfl, rfl⟩ (Nat.le_refl _) (Nat.le_refl _) dJ8_newLength_cabcc_20
theorem dJ5_newCapacity_0f7a4_0 : decode cJ5_newCapacity_0f7a4 0 = .ok (.aload_n 0, 1) := by decide +kernel
theorem dJ5_newCapacity_0f7a4_1 : decode cJ5_newCapacity_0f7a4 1 = .ok (.getfield 15, 3) := by decide +kernel
theorem dJ5_newCapacity_0f7a4_4 : decode cJ5_newCapacity_0f7a4 4 = .ok (.arraylength, 1) := by decide +kernel
theorem dJ5_newCapacity_0f7a4_5 : decode cJ5_newCapacity_0f7a4 5 = .ok (.istore_n 2, 1) := by decide +kernel
theorem dJ5_newCapacity_0f7a4_6 : decode cJ5_newCapacity_0f7a4 6 = .ok (.iload_n 1, 1) := by decide +kernel
theorem dJ5_newCapacity_0f7a4_7 : decode cJ5_newCapacity_0f7a4 7 = .ok (.aload_n 0, 1) := by decide +kernel
theorem dJ5_newCapacity_0f7a4_8 : decode cJ5_newCapacity_0f7a4 8 = .ok (.getfield 22, 3) := by decide +kernel
theorem dJ5_newCapacity_0f7a4_11 : decode cJ5_newCapacity_0f7a4 11 = .ok (.ishl, 1) := by decide +kernel
theorem dJ5_newCapacity_0f7a4_12 : decode cJ5_newCapacity_0f7a4 12 = .ok (.istore_n 3, 1) := by decide +kernel
theorem dJ5_newCapacity_0f7a4_13 : decode cJ5_newCapacity_0f7a4 13 = .ok (.iload_n 3, 1) := by decide +kernel
theorem dJ5_newCapacity_0f7a4_14 : decode cJ5_newCapacity_0f7a4 14 = .ok (.iload_n 2, 1) := by decide +kernel
theorem dJ5_newCapacity_0f7a4_15 : decode cJ5_newCapacity_0f7a4 15 = .ok (.isub, 1) := by decide +kernel
theorem dJ5_newCapacity_0f7a4_16 : decode cJ5_newCapacity_0f7a4 16 = .ok (.istore 4, 2) := by decide +kernel
theorem dJ5_newCapacity_0f7a4_18 : decode cJ5_newCapacity_0f7a4 18 = .ok (.iload_n 2, 1) := by decide +kernel
theorem dJ5_newCapacity_0f7a4_19 : decode cJ5_newCapacity_0f7a4 19 = .ok (.iload 4, 2) := by decide +kernel
theorem dJ5_newCapacity_0f7a4_21 : decode cJ5_newCapacity_0f7a4 21 = .ok (.iload_n 2, 1) := by decide +kernel
theorem dJ5_newCapacity_0f7a4_22 : decode cJ5_newCapacity_0f7a4 22 = .ok (.iconst 2, 1) := by decide +kernel
theorem dJ5_newCapacity_0f7a4_23 : decode cJ5_newCapacity_0f7a4 23 = .ok (.aload_n 0, 1) := by decide +kernel
theorem dJ5_newCapacity_0f7a4_24 : decode cJ5_newCapacity_0f7a4 24 = .ok (.getfield 22, 3) := by decide +kernel
theorem dJ5_newCapacity_0f7a4_27 : decode cJ5_newCapacity_0f7a4 27 = .ok (.ishl, 1) := by decide +kernel
theorem dJ5_newCapacity_0f7a4_28 : decode cJ5_newCapacity_0f7a4 28 = .ok (.iadd, 1) := by decide +kernel
theorem dJ5_newCapacity_0f7a4_29 : decode cJ5_newCapacity_0f7a4 29 = .ok (.invokestatic 114, 3) := by decide +kernel
theorem dJ5_newCapacity_0f7a4_32 : decode cJ5_newCapacity_0f7a4 32 = .ok (.istore 5, 2) := by decide +kernel
theorem dJ5_newCapacity_0f7a4_34 : decode cJ5_newCapacity_0f7a4 34 = .ok (.iload 5, 2) := by decide +kernel
theorem dJ5_newCapacity_0f7a4_36 : decode cJ5_newCapacity_0f7a4 36 = .ok (.ldc 39, 2) := by decide +kernel
theorem dJ5_newCapacity_0f7a4_38 : decode cJ5_newCapacity_0f7a4 38 = .ok (.if_icmp .ne 13, 3) := by decide +kernel
theorem dJ5_newCapacity_0f7a4_41 : decode cJ5_newCapacity_0f7a4 41 = .ok (.new 120, 3) := by decide +kernel
theorem dJ5_newCapacity_0f7a4_44 : decode cJ5_newCapacity_0f7a4 44 = .ok (.dup, 1) := by decide +kernel
theorem dJ5_newCapacity_0f7a4_45 : decode cJ5_newCapacity_0f7a4 45 = .ok (.ldc 122, 2) := by decide +kernel
theorem dJ5_newCapacity_0f7a4_47 : decode cJ5_newCapacity_0f7a4 47 = .ok (.invokespecial 124, 3) := by decide +kernel
theorem dJ5_newCapacity_0f7a4_50 : decode cJ5_newCapacity_0f7a4 50 = .ok (.athrow, 1) := by decide +kernel
theorem dJ5_newCapacity_0f7a4_51 : decode cJ5_newCapacity_0f7a4 51 = .ok (.iload 5, 2) := by decide +kernel
theorem dJ5_newCapacity_0f7a4_53 : decode cJ5_newCapacity_0f7a4 53 = .ok (.aload_n 0, 1) := by decide +kernel
theorem dJ5_newCapacity_0f7a4_54 : decode cJ5_newCapacity_0f7a4 54 = .ok (.getfield 22, 3) := by decide +kernel
theorem dJ5_newCapacity_0f7a4_57 : decode cJ5_newCapacity_0f7a4 57 = .ok (.ishr, 1) := by decide +kernel
theorem dJ5_newCapacity_0f7a4_58 : decode cJ5_newCapacity_0f7a4 58 = .ok (.ireturn, 1) := by decide +kernel
theorem ms_J5_newCapacity_0f7a4 : MSt yJ5_newCapacity_0f7a4 cJ5_newCapacity_0f7a4 6 (some .int) 1 := ⟨tw_3_227, tw_1_17, by decide, by decide, by decide +kernel⟩
set_option maxHeartbeats 4000000 in
set_option maxRecDepth 100000 in
theorem k_newCap {l : Launch} {g : Gh} {Lx : Nat × (Nat → Int32)} {q v m0 k : Nat} {n : Nat} {f : Nat → Int32} (hk : m0 < k) (hk2 : k ≤ 2000) : LMt l Lx g yJ5_newCapacity_0f7a4 cJ5_newCapacity_0f7a4 6 (some .int) 2 0 0 [(q, sbE v (nI n)), (v, ba g m0 f)] [.ref q, .int (nI k)] (fun r nb => r = some (.int (nI (m0 + max (k - m0) (m0 + 2)))) ∧ nb = [(q, sbE v (nI n)), (v, ba g m0 f)]) := by
  refine lm_start (by decide) (Nat.le_of_ble_eq_true rfl) ?_
  intro p e s m args below meth c ls X hZ hnm hr hl hL
  have hx := X.1
  have hb := X.2.1
  have hown := X.2.2.2.1
  have ht := X.2.2.2.2.1
  have hl : lv_has ls 6 [(0, .ref q), (1, .int (nI k))] := hl
  refine lv_aload_n hx hb dJ5_newCapacity_0f7a4_0 rfl (lv_at hl 0 rfl) ?_
  refine x_get (j := 0) (k := 0) X hL rfl rfl cs_11 (by decide) tw_3_187 rfl dJ5_newCapacity_0f7a4_1 ?_
  refine x_alenB (k := 1) X hL rfl dJ5_newCapacity_0f7a4_4 ?_
  refine lv_istore_n (lv' := [(2, .int (nI m0)), (0, .ref q), (1, .int (nI k))]) hx hb dJ5_newCapacity_0f7a4_5 rfl hl (by decide) rfl (fun ls hl => ?_)
  refine lv_iload_n hx hb dJ5_newCapacity_0f7a4_6 rfl (lv_at hl 2 rfl) ?_
  refine lv_aload_n hx hb dJ5_newCapacity_0f7a4_7 rfl (lv_at hl 1 rfl) ?_
  refine x_get (j := 0) (k := 1) X hL rfl rfl cs_11 (by decide) tw_3_188 rfl dJ5_newCapacity_0f7a4_8 ?_
  refine lv_ishl hx hb dJ5_newCapacity_0f7a4_11 ?_
  rw [j_shl0]
  refine lv_istore_n (lv' := [(3, .int (nI k)), (2, .int (nI m0)), (0, .ref q), (1, .int (nI k))]) hx hb dJ5_newCapacity_0f7a4_12 rfl hl (by decide) rfl (fun ls hl => ?_)
  refine lv_iload_n hx hb dJ5_newCapacity_0f7a4_13 rfl (lv_at hl 0 rfl) ?_
  refine lv_iload_n hx hb dJ5_newCapacity_0f7a4_14 rfl (lv_at hl 1 rfl) ?_
  refine lv_isub hx hb dJ5_newCapacity_0f7a4_15 ?_
  rw [j_sub (by omega)]
  refine lv_istore (lv' := [(4, .int (nI (k - m0))), (3, .int (nI k)), (2, .int (nI m0)), (0, .ref q), (1, .int (nI k))]) hx hb dJ5_newCapacity_0f7a4_16 hl (by decide) rfl (fun ls hl => ?_)
  refine lv_iload_n hx hb dJ5_newCapacity_0f7a4_18 rfl (lv_at hl 2 rfl) ?_
  refine lv_iload hx hb dJ5_newCapacity_0f7a4_19 (lv_at hl 0 rfl) ?_
  refine lv_iload_n hx hb dJ5_newCapacity_0f7a4_21 rfl (lv_at hl 2 rfl) ?_
  refine lv_iconst (v := (2 : Int32)) hx hb dJ5_newCapacity_0f7a4_22 (by decide) ?_
  refine lv_aload_n hx hb dJ5_newCapacity_0f7a4_23 rfl (lv_at hl 3 rfl) ?_
  refine x_get (j := 0) (k := 1) X hL rfl rfl cs_11 (by decide) tw_3_188 rfl dJ5_newCapacity_0f7a4_24 ?_
  refine lv_ishl hx hb dJ5_newCapacity_0f7a4_27 ?_
  rw [j_shl0]
  refine lv_iadd hx hb dJ5_newCapacity_0f7a4_28 ?_
  rw [show nI m0 + (2 : Int32) = nI (m0 + 2) from nI_add m0 2]
  refine x_callLS (As := [.int (nI m0), .int (nI (k - m0)), .int (nI (m0 + 2))]) (rest := []) X hZ [(q, sbE v (nI n)), (v, ba g m0 f)] [] hL (k_newLength (x := m0) (y := k - m0) (z := m0 + 2) (by omega) (by omega) (by omega) (by omega)) tw_3_228 ms_J8_newLength_cabcc tw_3_229 ⟨Nat.le_of_ble_eq_true rfl, Nat.le_of_ble_eq_true rfl⟩ rfl rfl hl.1 (Nat.le_of_ble_eq_true rfl) dJ5_newCapacity_0f7a4_29 ⟨by decide, by decide⟩ (fun v nb H locs hB hL => ?_)
  obtain ⟨rfl, rfl⟩ := hB
  rw [List.append_nil] at hL
  refine lv_istore (lv' := [(5, .int (nI (m0 + max (k - m0) (m0 + 2)))), (4, .int (nI (k - m0))), (3, .int (nI k)), (2, .int (nI m0)), (0, .ref q), (1, .int (nI k))]) hx hb dJ5_newCapacity_0f7a4_32 hl (by decide) rfl (fun ls hl => ?_)
  refine lv_iload hx hb dJ5_newCapacity_0f7a4_34 (lv_at hl 0 rfl) ?_
  refine lv_ldc (own := "java/lang/AbstractStringBuilder") (v := (2147483647 : Int32)) hx hb hown (ht _ tw_3_238) dJ5_newCapacity_0f7a4_36 ?_
  refine lv_icmp_ne (tgt := 51) hx hb dJ5_newCapacity_0f7a4_38 (by decide) (fun _ => ?_) (fun z => absurd z (fun z2 => by have := (nI_eq (by omega) (by decide)).mp (show nI (m0 + max (k - m0) (m0 + 2)) = nI 2147483647 from z2); omega))
  refine lv_iload hx hb dJ5_newCapacity_0f7a4_51 (lv_at hl 0 rfl) ?_
  refine lv_aload_n hx hb dJ5_newCapacity_0f7a4_53 rfl (lv_at hl 4 rfl) ?_
  refine x_get (j := 0) (k := 1) X hL rfl rfl cs_11 (by decide) tw_3_188 rfl dJ5_newCapacity_0f7a4_54 ?_
  refine lv_ishr hx hb dJ5_newCapacity_0f7a4_57 ?_
  rw [j_shr0]
  exact x_iret X hL hr ⟨rfl, rfl⟩ (Nat.le_refl _) (Nat.le_refl _) dJ5_newCapacity_0f7a4_58
theorem dJ7_copyOf_9075b_0 : decode cJ7_copyOf_9075b 0 = .ok (.iload_n 1, 1) := by decide +kernel
theorem dJ7_copyOf_9075b_1 : decode cJ7_copyOf_9075b 1 = .ok (.aload_n 0, 1) := by decide +kernel
theorem dJ7_copyOf_9075b_2 : decode cJ7_copyOf_9075b 2 = .ok (.arraylength, 1) := by decide +kernel
theorem dJ7_copyOf_9075b_3 : decode cJ7_copyOf_9075b 3 = .ok (.if_icmp .ne 11, 3) := by decide +kernel
theorem dJ7_copyOf_9075b_6 : decode cJ7_copyOf_9075b 6 = .ok (.aload_n 0, 1) := by decide +kernel
theorem dJ7_copyOf_9075b_7 : decode cJ7_copyOf_9075b 7 = .ok (.invokevirtual 310, 3) := by decide +kernel
theorem dJ7_copyOf_9075b_10 : decode cJ7_copyOf_9075b 10 = .ok (.checkcast 311, 3) := by decide +kernel
theorem dJ7_copyOf_9075b_13 : decode cJ7_copyOf_9075b 13 = .ok (.areturn, 1) := by decide +kernel
theorem dJ7_copyOf_9075b_14 : decode cJ7_copyOf_9075b 14 = .ok (.iload_n 1, 1) := by decide +kernel
theorem dJ7_copyOf_9075b_15 : decode cJ7_copyOf_9075b 15 = .ok (.newarray .byte, 2) := by decide +kernel
theorem dJ7_copyOf_9075b_17 : decode cJ7_copyOf_9075b 17 = .ok (.astore_n 2, 1) := by decide +kernel
theorem dJ7_copyOf_9075b_18 : decode cJ7_copyOf_9075b 18 = .ok (.aload_n 0, 1) := by decide +kernel
theorem dJ7_copyOf_9075b_19 : decode cJ7_copyOf_9075b 19 = .ok (.iconst 0, 1) := by decide +kernel
theorem dJ7_copyOf_9075b_20 : decode cJ7_copyOf_9075b 20 = .ok (.aload_n 2, 1) := by decide +kernel
theorem dJ7_copyOf_9075b_21 : decode cJ7_copyOf_9075b 21 = .ok (.iconst 0, 1) := by decide +kernel
theorem dJ7_copyOf_9075b_22 : decode cJ7_copyOf_9075b 22 = .ok (.aload_n 0, 1) := by decide +kernel
theorem dJ7_copyOf_9075b_23 : decode cJ7_copyOf_9075b 23 = .ok (.arraylength, 1) := by decide +kernel
theorem dJ7_copyOf_9075b_24 : decode cJ7_copyOf_9075b 24 = .ok (.iload_n 1, 1) := by decide +kernel
theorem dJ7_copyOf_9075b_25 : decode cJ7_copyOf_9075b 25 = .ok (.invokestatic 304, 3) := by decide +kernel
theorem dJ7_copyOf_9075b_28 : decode cJ7_copyOf_9075b 28 = .ok (.invokestatic 150, 3) := by decide +kernel
theorem dJ7_copyOf_9075b_31 : decode cJ7_copyOf_9075b 31 = .ok (.aload_n 2, 1) := by decide +kernel
theorem dJ7_copyOf_9075b_32 : decode cJ7_copyOf_9075b 32 = .ok (.areturn, 1) := by decide +kernel
theorem ms_J7_copyOf_9075b : MSt yJ7_copyOf_9075b cJ7_copyOf_9075b 3 (some (.array .byte)) 2 := ⟨tw_4_1, tw_1_12, by decide, by decide, by decide +kernel⟩
set_option maxHeartbeats 4000000 in
set_option maxRecDepth 100000 in
theorem k_copyOf {l : Launch} {g : Gh} {Lx : Nat × (Nat → Int32)} {v m0 k : Nat} {f : Nat → Int32} (hk : m0 < k) (hk2 : k ≤ 5000) (hf : BF m0 f) : LMt l Lx g yJ7_copyOf_9075b cJ7_copyOf_9075b 3 (some (.array .byte)) 1 1 5000 [(v, ba g m0 f)] [.ref v, .int (nI k)] (fun x nb => ∃ r f2, x = some (.ref r) ∧ nb = [(v, ba g m0 f), (r, ba g k f2)] ∧ (∀ j, j < m0 → f2 j = f j) ∧ BF k f2) := by
  refine lm_start (by decide) (Nat.le_of_ble_eq_true rfl) ?_
  intro p e s m args below meth c ls X hZ hnm hr hl hL
  have hx := X.1
  have hb := X.2.1
  have hown := X.2.2.2.1
  have ht := X.2.2.2.2.1
  have hl : lv_has ls 3 [(0, .ref v), (1, .int (nI k))] := hl
  refine lv_iload_n hx hb dJ7_copyOf_9075b_0 rfl (lv_at hl 1 rfl) ?_
  refine lv_aload_n hx hb dJ7_copyOf_9075b_1 rfl (lv_at hl 0 rfl) ?_
  refine x_alenB (k := 0) X hL rfl dJ7_copyOf_9075b_2 ?_
  refine lv_icmp_ne (tgt := 14) hx hb dJ7_copyOf_9075b_3 (by decide) (fun _ => ?_) (fun z => absurd z (fun z2 => by have := (nI_eq (by omega) (by omega)).mp z2; omega))
  refine lv_iload_n hx hb dJ7_copyOf_9075b_14 rfl (lv_at hl 1 rfl) ?_
  refine x_nbyte X hL (N := k) (j_neg (by omega)) (j_cl (by omega)) (by omega) (Nat.le_of_ble_eq_true rfl) (by show 0 + k ≤ 5000; omega) dJ7_copyOf_9075b_15 (fun r H hL => ?_)
  have hL : LW g (va_A [(v, ba g m0 f)] s.heap.size) [(v, ba g m0 f), (r, ba g k (fun _ => 0))] s.heap H [] := hL
  refine lv_astore_n (lv' := [(2, .ref r), (0, .ref v), (1, .int (nI k))]) hx hb dJ7_copyOf_9075b_17 rfl hl (by decide) rfl (fun ls hl => ?_)
  refine lv_aload_n hx hb dJ7_copyOf_9075b_18 rfl (lv_at hl 1 rfl) ?_
  refine lv_iconst (v := (0 : Int32)) hx hb dJ7_copyOf_9075b_19 (by decide) ?_
  refine lv_aload_n hx hb dJ7_copyOf_9075b_20 rfl (lv_at hl 0 rfl) ?_
  refine lv_iconst (v := (0 : Int32)) hx hb dJ7_copyOf_9075b_21 (by decide) ?_
  refine lv_aload_n hx hb dJ7_copyOf_9075b_22 rfl (lv_at hl 1 rfl) ?_
  refine x_alenB (k := 0) X hL rfl dJ7_copyOf_9075b_23 ?_
  refine lv_iload_n hx hb dJ7_copyOf_9075b_24 rfl (lv_at hl 2 rfl) ?_
  refine va_mmin hx hb (X.2.2.1.trans hl.1.symm) hown (ht _ tw_4_9) (ht _ tw_1_86) (ht _ tw_1_5) (ht _ tw_1_87) (Nat.le_of_ble_eq_true rfl) (Nat.le_of_ble_eq_true rfl) (Nat.le_refl _) (by show 0 + k ≤ 5000; omega) dJ7_copyOf_9075b_25 ?_
  rw [show (if nI k < nI m0 then nI k else nI m0) = nI m0 from if_neg (nI_nlt (by omega) (by omega))]
  refine x_bcopy (j := 0) (k := 1) (a := v) (b := r) (rest := []) X hL rfl rfl tw_4_10 (by decide) (by decide) (j_neg (by omega)) (by rw [j_cl (by omega)]; exact Nat.le_of_eq (Nat.zero_add _)) (by rw [j_cl (by omega)]; show 0 + m0 ≤ k; omega) (fun i hi => hf _ (by rw [j_cl (by omega)] at hi; show 0 + i < m0; omega)) hl.1 (Nat.le_of_ble_eq_true rfl) (Nat.le_of_ble_eq_true rfl) dJ7_copyOf_9075b_28 rfl (fun H locs hL => ?_)
  rw [j_cl (by omega)] at hL
  refine lv_aload_n hx hb dJ7_copyOf_9075b_31 rfl (lv_at hl 0 rfl) ?_
  refine x_aret X hL hr (Or.inr ⟨_, rfl⟩) ⟨r, _, rfl, rfl, fun j hj => ?_, fun j hj => ?_⟩ (Nat.le_refl _) (by show 0 + k ≤ 5000; omega) dJ7_copyOf_9075b_32
  · show (if 0 ≤ j ∧ j < 0 + m0 then f (0 + (j - 0)) else 0) = f j
    rw [if_pos ⟨by omega, by omega⟩, Nat.sub_zero, Nat.zero_add]
  · show fits .byte (.int (if 0 ≤ j ∧ j < 0 + m0 then f (0 + (j - 0)) else 0)) = true
    split
    · exact hf _ (by omega)
    · rfl
theorem j_le0 {k m : Nat} (hk : k < 65536) (hm : m < 65536) (h : k ≤ m) : nI k - nI m ≤ 0 := by
  have e1 : (nI k - nI m).toInt = (k : Int) - m := pk_sub_toInt (by omega) (by omega)
  rw [Int32.le_iff_toInt_le, e1, Int32.toInt_zero]; omega
theorem j_nle0 {k m : Nat} (hk : k < 65536) (hm : m < 65536) (h : m < k) : ¬ nI k - nI m ≤ 0 := by
  have e1 : (nI k - nI m).toInt = (k : Int) - m := pk_sub_toInt (by omega) (by omega)
  rw [Int32.le_iff_toInt_le, e1, Int32.toInt_zero]; omega

theorem dJ5_ensureCapacityInternal_d00df_0 : decode cJ5_ensureCapacityInternal_d00df 0 = .ok (.aload_n 0, 1) := by decide +kernel
theorem dJ5_ensureCapacityInternal_d00df_1 : decode cJ5_ensureCapacityInternal_d00df 1 = .ok (.getfield 15, 3) := by decide +kernel
theorem dJ5_ensureCapacityInternal_d00df_4 : decode cJ5_ensureCapacityInternal_d00df 4 = .ok (.arraylength, 1) := by decide +kernel
theorem dJ5_ensureCapacityInternal_d00df_5 : decode cJ5_ensureCapacityInternal_d00df 5 = .ok (.aload_n 0, 1) := by decide +kernel
theorem dJ5_ensureCapacityInternal_d00df_6 : decode cJ5_ensureCapacityInternal_d00df 6 = .ok (.getfield 22, 3) := by decide +kernel
theorem dJ5_ensureCapacityInternal_d00df_9 : decode cJ5_ensureCapacityInternal_d00df 9 = .ok (.ishr, 1) := by decide +kernel
theorem dJ5_ensureCapacityInternal_d00df_10 : decode cJ5_ensureCapacityInternal_d00df 10 = .ok (.istore_n 2, 1) := by decide +kernel
theorem dJ5_ensureCapacityInternal_d00df_11 : decode cJ5_ensureCapacityInternal_d00df 11 = .ok (.iload_n 1, 1) := by decide +kernel
theorem dJ5_ensureCapacityInternal_d00df_12 : decode cJ5_ensureCapacityInternal_d00df 12 = .ok (.iload_n 2, 1) := by decide +kernel
theorem dJ5_ensureCapacityInternal_d00df_13 : decode cJ5_ensureCapacityInternal_d00df 13 = .ok (.isub, 1) := by decide +kernel
theorem dJ5_ensureCapacityInternal_d00df_14 : decode cJ5_ensureCapacityInternal_d00df 14 = .ok (.ifCond .le 24, 3) := by decide +kernel
theorem dJ5_ensureCapacityInternal_d00df_17 : decode cJ5_ensureCapacityInternal_d00df 17 = .ok (.aload_n 0, 1) := by decide +kernel
theorem dJ5_ensureCapacityInternal_d00df_18 : decode cJ5_ensureCapacityInternal_d00df 18 = .ok (.aload_n 0, 1) := by decide +kernel
theorem dJ5_ensureCapacityInternal_d00df_19 : decode cJ5_ensureCapacityInternal_d00df 19 = .ok (.getfield 15, 3) := by decide +kernel
theorem dJ5_ensureCapacityInternal_d00df_22 : decode cJ5_ensureCapacityInternal_d00df 22 = .ok (.aload_n 0, 1) := by decide +kernel
theorem dJ5_ensureCapacityInternal_d00df_23 : decode cJ5_ensureCapacityInternal_d00df 23 = .ok (.iload_n 1, 1) := by decide +kernel
theorem dJ5_ensureCapacityInternal_d00df_24 : decode cJ5_ensureCapacityInternal_d00df 24 = .ok (.invokevirtual 104, 3) := by decide +kernel
theorem dJ5_ensureCapacityInternal_d00df_27 : decode cJ5_ensureCapacityInternal_d00df 27 = .ok (.aload_n 0, 1) := by decide +kernel
theorem dJ5_ensureCapacityInternal_d00df_28 : decode cJ5_ensureCapacityInternal_d00df 28 = .ok (.getfield 22, 3) := by decide +kernel
theorem dJ5_ensureCapacityInternal_d00df_31 : decode cJ5_ensureCapacityInternal_d00df 31 = .ok (.ishl, 1) := by decide +kernel
theorem dJ5_ensureCapacityInternal_d00df_32 : decode cJ5_ensureCapacityInternal_d00df 32 = .ok (.invokestatic 108, 3) := by decide +kernel
theorem dJ5_ensureCapacityInternal_d00df_35 : decode cJ5_ensureCapacityInternal_d00df 35 = .ok (.putfield 15, 3) := by decide +kernel
theorem dJ5_ensureCapacityInternal_d00df_38 : decode cJ5_ensureCapacityInternal_d00df 38 = .ok (.return_, 1) := by decide +kernel
theorem ms_J5_ensureCapacityInternal_d00df : MSt yJ5_ensureCapacityInternal_d00df cJ5_ensureCapacityInternal_d00df 3 none 1 := ⟨tw_3_223, tw_1_17, by decide, by decide, by decide +kernel⟩
set_option maxHeartbeats 4000000 in
set_option maxRecDepth 100000 in
theorem k_ensure {l : Launch} {g : Gh} {Lx : Nat × (Nat → Int32)} {q v m0 k : Nat} {n : Nat} {f : Nat → Int32} (hk1 : 0 < k) (hk2 : k ≤ 2000) (hm : m0 ≤ 4000) (hf : BF m0 f) : LMt l Lx g yJ5_ensureCapacityInternal_d00df cJ5_ensureCapacityInternal_d00df 3 none 3 1 5000 [(q, sbE v (nI n)), (v, ba g m0 f)] [.ref q, .int (nI k)] (fun x nb => x = none ∧ ∃ v2 m2 f2, nb = [(q, sbE v2 (nI n)), (v2, ba g m2 f2)] ∧ k ≤ m2 ∧ (m2 = m0 ∨ m2 ≤ 2 * k) ∧ (∀ j, j < m0 → f2 j = f j) ∧ BF m2 f2) := by
  refine lm_start (by decide) (Nat.le_of_ble_eq_true rfl) ?_
  intro p e s m args below meth c ls X hZ hnm hr hl hL
  have hx := X.1
  have hb := X.2.1
  have hown := X.2.2.2.1
  have ht := X.2.2.2.2.1
  have hl : lv_has ls 3 [(0, .ref q), (1, .int (nI k))] := hl
  refine lv_aload_n hx hb dJ5_ensureCapacityInternal_d00df_0 rfl (lv_at hl 0 rfl) ?_
  refine x_get (j := 0) (k := 0) X hL rfl rfl cs_11 (by decide) tw_3_187 rfl dJ5_ensureCapacityInternal_d00df_1 ?_
  refine x_alenB (k := 1) X hL rfl dJ5_ensureCapacityInternal_d00df_4 ?_
  refine lv_aload_n hx hb dJ5_ensureCapacityInternal_d00df_5 rfl (lv_at hl 0 rfl) ?_
  refine x_get (j := 0) (k := 1) X hL rfl rfl cs_11 (by decide) tw_3_188 rfl dJ5_ensureCapacityInternal_d00df_6 ?_
  refine lv_ishr hx hb dJ5_ensureCapacityInternal_d00df_9 ?_
  rw [j_shr0]
  refine lv_istore_n (lv' := [(2, .int (nI m0)), (0, .ref q), (1, .int (nI k))]) hx hb dJ5_ensureCapacityInternal_d00df_10 rfl hl (by decide) rfl (fun ls hl => ?_)
  refine lv_iload_n hx hb dJ5_ensureCapacityInternal_d00df_11 rfl (lv_at hl 2 rfl) ?_
  refine lv_iload_n hx hb dJ5_ensureCapacityInternal_d00df_12 rfl (lv_at hl 0 rfl) ?_
  refine lv_isub hx hb dJ5_ensureCapacityInternal_d00df_13 ?_
  by_cases hkm : k ≤ m0
  · refine lv_if_le (tgt := 38) hx hb dJ5_ensureCapacityInternal_d00df_14 (by decide) (fun _ => ?_) (fun q => absurd (j_le0 (by omega) (by omega) hkm) q)
    refine x_vret X hL hr ⟨rfl, v, m0, f, rfl, hkm, Or.inl rfl, fun _ _ => rfl, hf⟩ (Nat.zero_le _) (Nat.zero_le _) dJ5_ensureCapacityInternal_d00df_38
  · refine lv_if_le (tgt := 38) hx hb dJ5_ensureCapacityInternal_d00df_14 (by decide) (fun q => absurd q (j_nle0 (by omega) (by omega) (by omega))) (fun _ => ?_)
    refine lv_aload_n hx hb dJ5_ensureCapacityInternal_d00df_17 rfl (lv_at hl 1 rfl) ?_
    refine lv_aload_n hx hb dJ5_ensureCapacityInternal_d00df_18 rfl (lv_at hl 1 rfl) ?_
    refine x_get (j := 0) (k := 0) X hL rfl rfl cs_11 (by decide) tw_3_187 rfl dJ5_ensureCapacityInternal_d00df_19 ?_
    refine lv_aload_n hx hb dJ5_ensureCapacityInternal_d00df_22 rfl (lv_at hl 1 rfl) ?_
    refine lv_iload_n hx hb dJ5_ensureCapacityInternal_d00df_23 rfl (lv_at hl 2 rfl) ?_
    refine x_callLV (As := [.int (nI k)]) (rest := [.ref v, .ref q]) X hZ [] [(q, sbE v (nI n)), (v, ba g m0 f)] hL (k_newCap (n := n) (f := f) (by omega) hk2) tw_3_224 ms_J5_newCapacity_0f7a4 tw_3_226 js_newCap (x_recvL (W1 := []) (ws := [(q, sbE v (nI n)), (v, ba g m0 f)]) X hL (j := 0) (ci := 11) rfl rfl) ⟨Nat.le_of_ble_eq_true rfl, Nat.le_of_ble_eq_true rfl⟩ rfl rfl hl.1 (Nat.le_of_ble_eq_true rfl) dJ5_ensureCapacityInternal_d00df_24 ⟨by decide, by decide⟩ (fun v nb H locs hB hL => ?_)
    obtain ⟨rfl, rfl⟩ := hB
    refine lv_aload_n hx hb dJ5_ensureCapacityInternal_d00df_27 rfl (lv_at hl 1 rfl) ?_
    refine x_get (j := 0) (k := 1) X hL rfl rfl cs_11 (by decide) tw_3_188 rfl dJ5_ensureCapacityInternal_d00df_28 ?_
    refine lv_ishl hx hb dJ5_ensureCapacityInternal_d00df_31 ?_
    rw [j_shl0]
    refine x_callLS (As := [.ref v, .int (nI (m0 + max (k - m0) (m0 + 2)))]) (rest := [.ref q]) X hZ [(q, sbE v (nI n))] [(v, ba g m0 f)] hL (k_copyOf (by omega) (by omega) hf) tw_3_239 ms_J7_copyOf_9075b tw_4_0 ⟨Nat.le_of_ble_eq_true rfl, Nat.le_of_ble_eq_true rfl⟩ rfl rfl hl.1 (Nat.le_of_ble_eq_true rfl) dJ5_ensureCapacityInternal_d00df_32 ⟨Nat.le_of_ble_eq_true rfl, Nat.le_of_ble_eq_true rfl⟩ (fun v nb H locs hB hL => ?_)
    obtain ⟨r, f2, rfl, rfl, e2, hf2⟩ := hB
    have hL : LW g (va_A [(q, sbE v (nI n)), (v, ba g m0 f)] s.heap.size) [(q, sbE v (nI n)), (v, ba g m0 f), (r, ba g (m0 + max (k - m0) (m0 + 2)) f2)] s.heap H locs := hL
    refine x_putD (j := 0) (k := 0) (ty := .array .byte) X hL rfl rfl cs_11 (by decide) tw_3_187 rfl (by decide +kernel) rfl rfl (Nat.le_of_ble_eq_true rfl) rfl dJ5_ensureCapacityInternal_d00df_35 (fun H locs hL => ?_)
    have hL : LW g (va_A [(q, sbE v (nI n)), (v, ba g m0 f)] s.heap.size) [(q, sbE r (nI n)), (v, ba g m0 f), (r, ba g (m0 + max (k - m0) (m0 + 2)) f2)] s.heap H locs := hL
    refine x_vret X (hL.subl (((List.Sublist.refl _).cons _).cons_cons _)) hr ⟨rfl, r, _, f2, rfl, by omega, Or.inr (by omega), e2, hf2⟩ (Nat.le_refl _) (Nat.le_refl _) dJ5_ensureCapacityInternal_d00df_38
