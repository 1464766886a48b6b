-- deps: 21
/-! The builder: append, toString; the text that it makes. -/
theorem dJ5_isLatin1_aae02_0 : decode cJ5_isLatin1_aae02 0 = .ok (.getstatic 18, 3) := by decide +kernel
theorem dJ5_isLatin1_aae02_3 : decode cJ5_isLatin1_aae02 3 = .ok (.ifCond .eq 14, 3) := by decide +kernel
theorem dJ5_isLatin1_aae02_6 : decode cJ5_isLatin1_aae02 6 = .ok (.aload_n 0, 1) := by decide +kernel
theorem dJ5_isLatin1_aae02_7 : decode cJ5_isLatin1_aae02 7 = .ok (.getfield 22, 3) := by decide +kernel
theorem dJ5_isLatin1_aae02_10 : decode cJ5_isLatin1_aae02 10 = .ok (.ifCond .ne 7, 3) := by decide +kernel
theorem dJ5_isLatin1_aae02_13 : decode cJ5_isLatin1_aae02 13 = .ok (.iconst 1, 1) := by decide +kernel
theorem dJ5_isLatin1_aae02_14 : decode cJ5_isLatin1_aae02 14 = .ok (.goto 4, 3) := by decide +kernel
theorem dJ5_isLatin1_aae02_17 : decode cJ5_isLatin1_aae02 17 = .ok (.iconst 0, 1) := by decide +kernel
theorem dJ5_isLatin1_aae02_18 : decode cJ5_isLatin1_aae02 18 = .ok (.ireturn, 1) := by decide +kernel
theorem ms_J5_isLatin1_aae02 : MSt yJ5_isLatin1_aae02 cJ5_isLatin1_aae02 1 (some .boolean) 0 := ⟨tw_4_15, tw_1_17, by decide, by decide, by decide +kernel⟩
set_option maxHeartbeats 4000000 in
set_option maxRecDepth 100000 in
theorem k_isLat {l : Launch} {g : Gh} {Lx : Nat × (Nat → Int32)} {q v : Nat} {n : Int32}  : LMt l Lx g yJ5_isLatin1_aae02 cJ5_isLatin1_aae02 1 (some .boolean) 0 0 0 [(q, sbE v n)] [.ref q] (fun x nb => x = some (.int 1) ∧ nb = [(q, sbE v n)]) := by
  refine lm_start (by decide) (Nat.le_of_ble_eq_true rfl) ?_
  intro p e s m args below meth c ls X hZ hnm hr hl hL
  have hx := X.1
  have hb := X.2.1
  have hown := X.2.2.2.1
  have ht := X.2.2.2.2.1
  have hl : lv_has ls 1 [(0, .ref q)] := hl
  refine x_compact X hZ hL tw_3_179 dJ5_isLatin1_aae02_0 ?_
  refine lv_if_eq (tgt := 17) hx hb dJ5_isLatin1_aae02_3 (by decide) (fun z => absurd z (by decide)) (fun _ => ?_)
  refine lv_aload_n hx hb dJ5_isLatin1_aae02_6 rfl (lv_at hl 0 rfl) ?_
  refine x_get (j := 0) (k := 1) X hL rfl rfl cs_11 (by decide) tw_3_188 rfl dJ5_isLatin1_aae02_7 ?_
  refine lv_if_ne (tgt := 17) hx hb dJ5_isLatin1_aae02_10 (by decide) (fun z => absurd z (fun h => h rfl)) (fun _ => ?_)
  refine lv_iconst (v := (1 : Int32)) hx hb dJ5_isLatin1_aae02_13 (by decide) ?_
  refine lv_goto (tgt := 18) hx hb dJ5_isLatin1_aae02_14 (by decide) ?_
  exact x_tret X hL hr rfl ⟨rfl, rfl⟩ (Nat.le_refl _) (Nat.le_refl _) dJ5_isLatin1_aae02_18
theorem dJ1_canEncode_fc78d_0 : decode cJ1_canEncode_fc78d 0 = .ok (.iload_n 0, 1) := by decide +kernel
theorem dJ1_canEncode_fc78d_1 : decode cJ1_canEncode_fc78d 1 = .ok (.sipush 255, 3) := by decide +kernel
theorem dJ1_canEncode_fc78d_4 : decode cJ1_canEncode_fc78d 4 = .ok (.if_icmp .gt 7, 3) := by decide +kernel
theorem dJ1_canEncode_fc78d_7 : decode cJ1_canEncode_fc78d 7 = .ok (.iconst 1, 1) := by decide +kernel
theorem dJ1_canEncode_fc78d_8 : decode cJ1_canEncode_fc78d 8 = .ok (.goto 4, 3) := by decide +kernel
theorem dJ1_canEncode_fc78d_11 : decode cJ1_canEncode_fc78d 11 = .ok (.iconst 0, 1) := by decide +kernel
theorem dJ1_canEncode_fc78d_12 : decode cJ1_canEncode_fc78d 12 = .ok (.ireturn, 1) := by decide +kernel
theorem ms_J1_canEncode_fc78d : MSt yJ1_canEncode_fc78d cJ1_canEncode_fc78d 1 (some .boolean) 1 := ⟨tw_4_79, tw_1_23, by decide, by decide, by decide +kernel⟩
set_option maxHeartbeats 4000000 in
set_option maxRecDepth 100000 in
theorem k_canEnc {l : Launch} {g : Gh} {Lx : Nat × (Nat → Int32)} {k : Nat} (hk : k < 128) : LMt l Lx g yJ1_canEncode_fc78d cJ1_canEncode_fc78d 1 (some .boolean) 0 0 0 [] [.int (nI k)] (fun x nb => x = some (.int 1) ∧ nb = []) := by
  refine lm_start (by decide) (Nat.le_of_ble_eq_true rfl) ?_
  intro p e s m args below meth c ls X hZ hnm hr hl hL
  have hx := X.1
  have hb := X.2.1
  have hown := X.2.2.2.1
  have ht := X.2.2.2.2.1
  have hl : lv_has ls 1 [(0, .int (nI k))] := hl
  refine lv_iload_n hx hb dJ1_canEncode_fc78d_0 rfl (lv_at hl 0 rfl) ?_
  refine lv_sipush (v := (255 : Int32)) hx hb dJ1_canEncode_fc78d_1 (by decide) ?_
  refine lv_icmp_gt (tgt := 11) hx hb dJ1_canEncode_fc78d_4 (by decide) (fun z => absurd z (show ¬ nI 255 < nI k from nI_nlt (by omega) (by omega))) (fun _ => ?_)
  refine lv_iconst (v := (1 : Int32)) hx hb dJ1_canEncode_fc78d_7 (by decide) ?_
  refine lv_goto (tgt := 12) hx hb dJ1_canEncode_fc78d_8 (by decide) ?_
  exact x_tret X hL hr rfl ⟨rfl, rfl⟩ (Nat.le_refl _) (Nat.le_refl _) dJ1_canEncode_fc78d_12
theorem j_wr {f : Nat → Int32} {N n : Nat} {x y : Int32} (h : n < N) (hN : N < 65536) (e : x.toInt8.toInt32 = y) : wrA f N (nI n) (jbyte x) = some (upd f n y) := by
  unfold wrA
  rw [if_neg (by rw [nI_clamp (by omega)]; intro z; rcases z with z | z; exact absurd z (nI_pos (by omega)); omega), nI_clamp (by omega)]
  show some (upd f n (x.toInt8.toInt32)) = _
  rw [e]
theorem dJ5_append_3fe6f_0 : decode cJ5_append_3fe6f 0 = .ok (.aload_n 0, 1) := by decide +kernel
theorem dJ5_append_3fe6f_1 : decode cJ5_append_3fe6f 1 = .ok (.aload_n 0, 1) := by decide +kernel
theorem dJ5_append_3fe6f_2 : decode cJ5_append_3fe6f 2 = .ok (.getfield 79, 3) := by decide +kernel
theorem dJ5_append_3fe6f_5 : decode cJ5_append_3fe6f 5 = .ok (.iconst 1, 1) := by decide +kernel
theorem dJ5_append_3fe6f_6 : decode cJ5_append_3fe6f 6 = .ok (.iadd, 1) := by decide +kernel
theorem dJ5_append_3fe6f_7 : decode cJ5_append_3fe6f 7 = .ok (.invokevirtual 100, 3) := by decide +kernel
theorem dJ5_append_3fe6f_10 : decode cJ5_append_3fe6f 10 = .ok (.aload_n 0, 1) := by decide +kernel
theorem dJ5_append_3fe6f_11 : decode cJ5_append_3fe6f 11 = .ok (.invokevirtual 83, 3) := by decide +kernel
theorem dJ5_append_3fe6f_14 : decode cJ5_append_3fe6f 14 = .ok (.ifCond .eq 31, 3) := by decide +kernel
theorem dJ5_append_3fe6f_17 : decode cJ5_append_3fe6f 17 = .ok (.iload_n 1, 1) := by decide +kernel
theorem dJ5_append_3fe6f_18 : decode cJ5_append_3fe6f 18 = .ok (.invokestatic 191, 3) := by decide +kernel
theorem dJ5_append_3fe6f_21 : decode cJ5_append_3fe6f 21 = .ok (.ifCond .eq 24, 3) := by decide +kernel
theorem dJ5_append_3fe6f_24 : decode cJ5_append_3fe6f 24 = .ok (.aload_n 0, 1) := by decide +kernel
theorem dJ5_append_3fe6f_25 : decode cJ5_append_3fe6f 25 = .ok (.getfield 15, 3) := by decide +kernel
theorem dJ5_append_3fe6f_28 : decode cJ5_append_3fe6f 28 = .ok (.aload_n 0, 1) := by decide +kernel
theorem dJ5_append_3fe6f_29 : decode cJ5_append_3fe6f 29 = .ok (.dup, 1) := by decide +kernel
theorem dJ5_append_3fe6f_30 : decode cJ5_append_3fe6f 30 = .ok (.getfield 79, 3) := by decide +kernel
theorem dJ5_append_3fe6f_33 : decode cJ5_append_3fe6f 33 = .ok (.dup_x1, 1) := by decide +kernel
theorem dJ5_append_3fe6f_34 : decode cJ5_append_3fe6f 34 = .ok (.iconst 1, 1) := by decide +kernel
theorem dJ5_append_3fe6f_35 : decode cJ5_append_3fe6f 35 = .ok (.iadd, 1) := by decide +kernel
theorem dJ5_append_3fe6f_36 : decode cJ5_append_3fe6f 36 = .ok (.putfield 79, 3) := by decide +kernel
theorem dJ5_append_3fe6f_39 : decode cJ5_append_3fe6f 39 = .ok (.iload_n 1, 1) := by decide +kernel
theorem dJ5_append_3fe6f_40 : decode cJ5_append_3fe6f 40 = .ok (.i2b, 1) := by decide +kernel
theorem dJ5_append_3fe6f_41 : decode cJ5_append_3fe6f 41 = .ok (.bastore, 1) := by decide +kernel
theorem dJ5_append_3fe6f_42 : decode cJ5_append_3fe6f 42 = .ok (.goto 33, 3) := by decide +kernel
theorem dJ5_append_3fe6f_45 : decode cJ5_append_3fe6f 45 = .ok (.aload_n 0, 1) := by decide +kernel
theorem dJ5_append_3fe6f_46 : decode cJ5_append_3fe6f 46 = .ok (.invokevirtual 83, 3) := by decide +kernel
theorem dJ5_append_3fe6f_49 : decode cJ5_append_3fe6f 49 = .ok (.ifCond .eq 7, 3) := by decide +kernel
theorem dJ5_append_3fe6f_52 : decode cJ5_append_3fe6f 52 = .ok (.aload_n 0, 1) := by decide +kernel
theorem dJ5_append_3fe6f_53 : decode cJ5_append_3fe6f 53 = .ok (.invokevirtual 195, 3) := by decide +kernel
theorem dJ5_append_3fe6f_56 : decode cJ5_append_3fe6f 56 = .ok (.aload_n 0, 1) := by decide +kernel
theorem dJ5_append_3fe6f_57 : decode cJ5_append_3fe6f 57 = .ok (.getfield 15, 3) := by decide +kernel
theorem dJ5_append_3fe6f_60 : decode cJ5_append_3fe6f 60 = .ok (.aload_n 0, 1) := by decide +kernel
theorem dJ5_append_3fe6f_61 : decode cJ5_append_3fe6f 61 = .ok (.dup, 1) := by decide +kernel
theorem dJ5_append_3fe6f_62 : decode cJ5_append_3fe6f 62 = .ok (.getfield 79, 3) := by decide +kernel
theorem dJ5_append_3fe6f_65 : decode cJ5_append_3fe6f 65 = .ok (.dup_x1, 1) := by decide +kernel
theorem dJ5_append_3fe6f_66 : decode cJ5_append_3fe6f 66 = .ok (.iconst 1, 1) := by decide +kernel
theorem dJ5_append_3fe6f_67 : decode cJ5_append_3fe6f 67 = .ok (.iadd, 1) := by decide +kernel
theorem dJ5_append_3fe6f_68 : decode cJ5_append_3fe6f 68 = .ok (.putfield 79, 3) := by decide +kernel
theorem dJ5_append_3fe6f_71 : decode cJ5_append_3fe6f 71 = .ok (.iload_n 1, 1) := by decide +kernel
theorem dJ5_append_3fe6f_72 : decode cJ5_append_3fe6f 72 = .ok (.invokestatic 197, 3) := by decide +kernel
theorem dJ5_append_3fe6f_75 : decode cJ5_append_3fe6f 75 = .ok (.aload_n 0, 1) := by decide +kernel
theorem dJ5_append_3fe6f_76 : decode cJ5_append_3fe6f 76 = .ok (.areturn, 1) := by decide +kernel
theorem ms_J5_append_3fe6f : MSt yJ5_append_3fe6f cJ5_append_3fe6f 2 (some (.object "java/lang/AbstractStringBuilder")) 1 := ⟨tw_4_76, tw_1_17, by decide, by decide, by decide +kernel⟩
set_option maxHeartbeats 4000000 in
set_option maxRecDepth 100000 in
theorem k_appCA {l : Launch} {g : Gh} {Lx : Nat × (Nat → Int32)} {q v m0 k n : Nat} {f : Nat → Int32} (hk : k < 128) (hn : n ≤ 900) (hm : n ≤ m0 ∧ m0 ≤ 16 + 2 * n) (hf : BF m0 f) : LMt l Lx g yJ5_append_3fe6f cJ5_append_3fe6f 2 (some (.object "java/lang/AbstractStringBuilder")) 4 1 5000 [(q, sbE v (nI n)), (v, ba g m0 f)] [.ref q, .int (nI k)] (fun x nb => x = some (.ref q) ∧ ∃ v2 m2 f2, nb = [(q, sbE v2 (nI (n + 1))), (v2, ba g m2 f2)] ∧ n + 1 ≤ m2 ∧ m2 ≤ 16 + 2 * (n + 1) ∧ (∀ j, j < n → f2 j = f j) ∧ f2 n = nI k ∧ BF m2 f2) := by
  refine lm_start (by decide) (Nat.le_of_ble_eq_true rfl) ?_
  intro p e s m args below meth c ls X hZ hnm hr hl hL
  have hx := X.1
  have hb := X.2.1
  have hown := X.2.2.2.1
  have ht := X.2.2.2.2.1
  have hl : lv_has ls 2 [(0, .ref q), (1, .int (nI k))] := hl
  refine lv_aload_n hx hb dJ5_append_3fe6f_0 rfl (lv_at hl 0 rfl) ?_
  refine lv_aload_n hx hb dJ5_append_3fe6f_1 rfl (lv_at hl 0 rfl) ?_
  refine x_get (j := 0) (k := 3) X hL rfl rfl cs_11 (by decide) tw_3_190 rfl dJ5_append_3fe6f_2 ?_
  refine lv_iconst (v := (1 : Int32)) hx hb dJ5_append_3fe6f_5 (by decide) ?_
  refine lv_iadd hx hb dJ5_append_3fe6f_6 ?_
  rw [show nI n + (1 : Int32) = nI (n + 1) from nI_add n 1]
  refine x_callLV (As := [.int (nI (n + 1))]) (rest := []) X hZ [] [(q, sbE v (nI n)), (v, ba g m0 f)] hL (k_ensure (n := n) (f := f) (by omega) (by omega) (by omega) hf) tw_3_220 ms_J5_ensureCapacityInternal_d00df tw_3_222 js_ensure (x_recvL (W1 := []) (ws := [(q, sbE v (nI n)), (v, ba g m0 f)]) X hL (j := 0) (ci := 11) rfl rfl) ⟨Nat.le_of_ble_eq_true rfl, Nat.le_of_ble_eq_true rfl⟩ rfl rfl hl.1 (Nat.le_of_ble_eq_true rfl) dJ5_append_3fe6f_7 ⟨Nat.le_of_ble_eq_true rfl, Nat.le_of_ble_eq_true rfl⟩ (fun v nb H locs hB hL => ?_)
  obtain ⟨rfl, v2, m2, f2, rfl, e1, e2, e3, hf2⟩ := hB
  have hL : LW g (va_A [(q, sbE v (nI n)), (v, ba g m0 f)] s.heap.size) [(v2, ba g m2 f2), (q, sbE v2 (nI n))] s.heap H locs := hL.perm (List.Perm.swap _ _ _)
  refine lv_aload_n hx hb dJ5_append_3fe6f_10 rfl (lv_at hl 0 rfl) ?_
  refine x_callLU (As := []) (rest := []) X hZ [(v2, ba g m2 f2)] [(q, sbE v2 (nI n))] hL (k_isLat) (va_cwU (C := RJ4) (owner := "java/lang/AbstractStringBuilder") (x := yJ5_isLatin1_aae02) (ret := (some .boolean)) 0 ht (goodU tw_4_11 tw_4_13 tw_4_14 tw_4_12 tw_1_17 tw_4_15) rfl rfl rfl rfl ⟨by decide, by decide, by decide +kernel⟩ ⟨Nat.le_of_ble_eq_true rfl, Nat.le_of_ble_eq_true rfl⟩) (x_recvL (W1 := [(v2, ba g m2 f2)]) (ws := [(q, sbE v2 (nI n))]) X hL (j := 0) (ci := 11) rfl rfl) rfl rfl hl.1 (Nat.le_of_ble_eq_true rfl) dJ5_append_3fe6f_11 ⟨Nat.le_of_ble_eq_true rfl, Nat.le_of_ble_eq_true rfl⟩ (fun v nb H locs hB hL => ?_)
  obtain ⟨rfl, rfl⟩ := hB
  refine lv_if_eq (tgt := 45) hx hb dJ5_append_3fe6f_14 (by decide) (fun z => absurd z (by decide)) (fun _ => ?_)
  refine lv_iload_n hx hb dJ5_append_3fe6f_17 rfl (lv_at hl 1 rfl) ?_
  refine x_callLS (As := [.int (nI k)]) (rest := []) X hZ [(v2, ba g m2 f2), (q, sbE v2 (nI n))] [] hL (k_canEnc hk) tw_4_77 ms_J1_canEncode_fc78d tw_4_78 ⟨Nat.le_of_ble_eq_true rfl, Nat.le_of_ble_eq_true rfl⟩ rfl rfl hl.1 (Nat.le_of_ble_eq_true rfl) dJ5_append_3fe6f_18 ⟨Nat.le_of_ble_eq_true rfl, Nat.le_of_ble_eq_true rfl⟩ (fun v nb H locs hB hL => ?_)
  obtain ⟨rfl, rfl⟩ := hB
  rw [List.append_nil] at hL
  refine lv_if_eq (tgt := 45) hx hb dJ5_append_3fe6f_21 (by decide) (fun z => absurd z (by decide)) (fun _ => ?_)
  refine lv_aload_n hx hb dJ5_append_3fe6f_24 rfl (lv_at hl 0 rfl) ?_
  refine x_get (j := 1) (k := 0) X hL rfl rfl cs_11 (by decide) tw_3_187 rfl dJ5_append_3fe6f_25 ?_
  refine lv_aload_n hx hb dJ5_append_3fe6f_28 rfl (lv_at hl 0 rfl) ?_
  refine lv_dup hx hb dJ5_append_3fe6f_29 rfl ?_
  refine x_get (j := 1) (k := 3) X hL rfl rfl cs_11 (by decide) tw_3_190 rfl dJ5_append_3fe6f_30 ?_
  refine lv_dup_x1 hx hb dJ5_append_3fe6f_33 rfl rfl ?_
  refine lv_iconst (v := (1 : Int32)) hx hb dJ5_append_3fe6f_34 (by decide) ?_
  refine lv_iadd hx hb dJ5_append_3fe6f_35 ?_
  rw [show nI n + (1 : Int32) = nI (n + 1) from nI_add n 1]
  refine x_putD (j := 1) (k := 3) (ty := .int) X hL rfl rfl cs_11 (by decide) tw_3_190 rfl (by decide +kernel) rfl rfl (Nat.le_of_ble_eq_true rfl) rfl dJ5_append_3fe6f_36 (fun H locs hL => ?_)
  have hL : LW g (va_A [(q, sbE v (nI n)), (v, ba g m0 f)] s.heap.size) [(v2, ba g m2 f2), (q, sbE v2 (nI (n + 1)))] s.heap H locs := hL
  refine lv_iload_n hx hb dJ5_append_3fe6f_39 rfl (lv_at hl 1 rfl) ?_
  refine lv_i2b hx hb dJ5_append_3fe6f_40 (by_fit k hk) ?_
  refine x_bast (k := 0) (f2 := upd f2 n (nI k)) X hL rfl (j_wr (by omega) (by omega) (by_fit k hk)) dJ5_append_3fe6f_41 rfl (fun H locs hL => ?_)
  refine lv_goto (tgt := 75) hx hb dJ5_append_3fe6f_42 (by decide) ?_
  refine lv_aload_n hx hb dJ5_append_3fe6f_75 rfl (lv_at hl 0 rfl) ?_
  refine x_aret X (hL.perm (List.Perm.swap _ _ _)) hr (Or.inl ⟨_, rfl⟩) ⟨rfl, v2, m2, _, rfl, e1, by omega, fun j hj => ?_, ?_, ?_⟩ (Nat.le_refl _) (Nat.le_refl _) dJ5_append_3fe6f_76
  · rw [pk_un (by omega)]
    exact e3 j (by omega)
  · exact pk_us
  · intro j hj
    by_cases e : j = n
    · subst e
      rw [pk_us]
      exact by_fits k hk
    · rw [pk_un e]
      exact hf2 j hj
theorem dJ4_append_cf468_0 : decode cJ4_append_cf468 0 = .ok (.aload_n 0, 1) := by decide +kernel
theorem dJ4_append_cf468_1 : decode cJ4_append_cf468 1 = .ok (.iload_n 1, 1) := by decide +kernel
theorem dJ4_append_cf468_2 : decode cJ4_append_cf468 2 = .ok (.invokespecial 50, 3) := by decide +kernel
theorem dJ4_append_cf468_5 : decode cJ4_append_cf468 5 = .ok (.pop, 1) := by decide +kernel
theorem dJ4_append_cf468_6 : decode cJ4_append_cf468 6 = .ok (.aload_n 0, 1) := by decide +kernel
theorem dJ4_append_cf468_7 : decode cJ4_append_cf468 7 = .ok (.areturn, 1) := by decide +kernel
theorem ms_J4_append_cf468 : MSt yJ4_append_cf468 cJ4_append_cf468 2 (some (.object "java/lang/StringBuilder")) 1 := ⟨tw_4_73, tw_1_18, by decide, by decide, by decide +kernel⟩
set_option maxHeartbeats 4000000 in
set_option maxRecDepth 100000 in
theorem k_appC {l : Launch} {g : Gh} {Lx : Nat × (Nat → Int32)} {q v m0 k n : Nat} {f : Nat → Int32} (hk : k < 128) (hn : n ≤ 900) (hm : n ≤ m0 ∧ m0 ≤ 16 + 2 * n) (hf : BF m0 f) : LMt l Lx g yJ4_append_cf468 cJ4_append_cf468 2 (some (.object "java/lang/StringBuilder")) 5 1 5000 [(q, sbE v (nI n)), (v, ba g m0 f)] [.ref q, .int (nI k)] (fun x nb => x = some (.ref q) ∧ ∃ v2 m2 f2, nb = [(q, sbE v2 (nI (n + 1))), (v2, ba g m2 f2)] ∧ n + 1 ≤ m2 ∧ m2 ≤ 16 + 2 * (n + 1) ∧ (∀ j, j < n → f2 j = f j) ∧ f2 n = nI k ∧ BF m2 f2) := by
  refine lm_start (by decide) (Nat.le_of_ble_eq_true rfl) ?_
  intro p e s m args below meth c ls X hZ hnm hr hl hL
  have hx := X.1
  have hb := X.2.1
  have hown := X.2.2.2.1
  have ht := X.2.2.2.2.1
  have hl : lv_has ls 2 [(0, .ref q), (1, .int (nI k))] := hl
  refine lv_aload_n hx hb dJ4_append_cf468_0 rfl (lv_at hl 0 rfl) ?_
  refine lv_iload_n hx hb dJ4_append_cf468_1 rfl (lv_at hl 1 rfl) ?_
  refine x_callLSU (C := RJ4) (As := [.int (nI k)]) (rest := []) X hZ [] [(q, sbE v (nI n)), (v, ba g m0 f)] hL ((X.2.2.2.2.2.1.1 11 (RJ4, TJ4, 4) rfl).2) (k_appCA hk hn hm hf) (va_cwSU (ret := (some (.object "java/lang/AbstractStringBuilder"))) 1 ht (goodSU tw_4_74 tw_5_85 tw_3_199 tw_4_75 tw_1_17 tw_4_76) rfl rfl rfl ⟨by decide, by decide +kernel⟩ ⟨Nat.le_of_ble_eq_true rfl, Nat.le_of_ble_eq_true rfl⟩) (x_recvL (W1 := []) (ws := [(q, sbE v (nI n)), (v, ba g m0 f)]) X hL (j := 0) (ci := 11) rfl rfl) rfl rfl hl.1 (Nat.le_of_ble_eq_true rfl) dJ4_append_cf468_2 ⟨Nat.le_of_ble_eq_true rfl, Nat.le_of_ble_eq_true rfl⟩ (fun v nb H locs hB hL => ?_)
  obtain ⟨rfl, hB⟩ := hB
  refine lv_pop hx hb dJ4_append_cf468_5 rfl ?_
  refine lv_aload_n hx hb dJ4_append_cf468_6 rfl (lv_at hl 0 rfl) ?_
  exact x_aret X hL hr (Or.inl ⟨_, rfl⟩) ⟨rfl, hB⟩ (Nat.le_refl _) (Nat.le_refl _) dJ4_append_cf468_7
theorem dJ0_coder_7d493_0 : decode cJ0_coder_7d493 0 = .ok (.getstatic 38, 3) := by decide +kernel
theorem dJ0_coder_7d493_3 : decode cJ0_coder_7d493 3 = .ok (.ifCond .eq 10, 3) := by decide +kernel
theorem dJ0_coder_7d493_6 : decode cJ0_coder_7d493 6 = .ok (.aload_n 0, 1) := by decide +kernel
theorem dJ0_coder_7d493_7 : decode cJ0_coder_7d493 7 = .ok (.getfield 15, 3) := by decide +kernel
theorem dJ0_coder_7d493_10 : decode cJ0_coder_7d493 10 = .ok (.goto 4, 3) := by decide +kernel
theorem dJ0_coder_7d493_13 : decode cJ0_coder_7d493 13 = .ok (.iconst 1, 1) := by decide +kernel
theorem dJ0_coder_7d493_14 : decode cJ0_coder_7d493 14 = .ok (.ireturn, 1) := by decide +kernel
theorem ms_J0_coder_7d493 : MSt yJ0_coder_7d493 cJ0_coder_7d493 1 (some .byte) 0 := ⟨tw_3_118, tw_1_19, by decide, by decide, by decide +kernel⟩
set_option maxHeartbeats 4000000 in
set_option maxRecDepth 100000 in
theorem k_sCoder {l : Launch} {g : Gh} {Lx : Nat × (Nat → Int32)} {i : Nat} (hi : i < 9) : LMt l Lx g yJ0_coder_7d493 cJ0_coder_7d493 1 (some .byte) 0 0 0 [] [.ref (g.2.2 (2000 + i))] (fun x nb => x = some (.int 0) ∧ nb = []) := by
  refine lm_start (by decide) (Nat.le_of_ble_eq_true rfl) ?_
  intro p e s m args below meth c ls X hZ hnm hr hl hL
  have hx := X.1
  have hb := X.2.1
  have hown := X.2.2.2.1
  have ht := X.2.2.2.2.1
  have hl : lv_has ls 1 [(0, .ref (g.2.2 (2000 + i)))] := hl
  refine x_compact X hZ hL tw_3_119 dJ0_coder_7d493_0 ?_
  refine lv_if_eq (tgt := 13) hx hb dJ0_coder_7d493_3 (by decide) (fun z => absurd z (by decide)) (fun _ => ?_)
  refine lv_aload_n hx hb dJ0_coder_7d493_6 rfl (lv_at hl 0 rfl) ?_
  refine x_sCoder X hZ hL hi tw_4_140 dJ0_coder_7d493_7 ?_
  refine lv_goto (tgt := 14) hx hb dJ0_coder_7d493_10 (by decide) ?_
  exact x_tret X hL hr rfl ⟨rfl, rfl⟩ (Nat.le_refl _) (Nat.le_refl _) dJ0_coder_7d493_14
theorem ls_small : ∀ i, i < 9 → lsLen.getD i 0 < 16 ∧ (lsByt.getD i []).length = lsLen.getD i 0 := by decide +kernel
theorem ls_byte : ∀ i, i < 9 → ∀ j, j < 16 → fits .byte (.int ((lsByt.getD i []).getD j 0)) = true := by decide +kernel
theorem dJ0_length_8abf5_0 : decode cJ0_length_8abf5 0 = .ok (.aload_n 0, 1) := by decide +kernel
theorem dJ0_length_8abf5_1 : decode cJ0_length_8abf5 1 = .ok (.getfield 9, 3) := by decide +kernel
theorem dJ0_length_8abf5_4 : decode cJ0_length_8abf5 4 = .ok (.arraylength, 1) := by decide +kernel
theorem dJ0_length_8abf5_5 : decode cJ0_length_8abf5 5 = .ok (.aload_n 0, 1) := by decide +kernel
theorem dJ0_length_8abf5_6 : decode cJ0_length_8abf5 6 = .ok (.invokevirtual 335, 3) := by decide +kernel
theorem dJ0_length_8abf5_9 : decode cJ0_length_8abf5 9 = .ok (.ishr, 1) := by decide +kernel
theorem dJ0_length_8abf5_10 : decode cJ0_length_8abf5 10 = .ok (.ireturn, 1) := by decide +kernel
theorem ms_J0_length_8abf5 : MSt yJ0_length_8abf5 cJ0_length_8abf5 1 (some .int) 0 := ⟨tw_3_114, tw_1_19, by decide, by decide, by decide +kernel⟩
set_option maxHeartbeats 4000000 in
set_option maxRecDepth 100000 in
theorem k_sLen {l : Launch} {g : Gh} {Lx : Nat × (Nat → Int32)} {i : Nat} (hi : i < 9) : LMt l Lx g yJ0_length_8abf5 cJ0_length_8abf5 1 (some .int) 1 0 0 [] [.ref (g.2.2 (2000 + i))] (fun x nb => x = some (.int (nI (lsLen.getD i 0))) ∧ nb = []) := by
  refine lm_start (by decide) (Nat.le_of_ble_eq_true rfl) ?_
  intro p e s m args below meth c ls X hZ hnm hr hl hL
  have hx := X.1
  have hb := X.2.1
  have hown := X.2.2.2.1
  have ht := X.2.2.2.2.1
  have hl : lv_has ls 1 [(0, .ref (g.2.2 (2000 + i)))] := hl
  refine lv_aload_n hx hb dJ0_length_8abf5_0 rfl (lv_at hl 0 rfl) ?_
  refine x_sValue X hZ hL hi tw_4_139 dJ0_length_8abf5_1 ?_
  refine va_tlen hx hb (hZ.1.2.2.1.1 i hi).2.2.2 hL.2.2.1 (v := nI (lsLen.getD i 0)) rfl dJ0_length_8abf5_4 ?_
  refine lv_aload_n hx hb dJ0_length_8abf5_5 rfl (lv_at hl 0 rfl) ?_
  refine x_callLV (As := []) (rest := [.int (nI (lsLen.getD i 0))]) X hZ [] [] hL (k_sCoder hi) tw_3_115 ms_J0_coder_7d493 tw_3_116 tw_3_117 (x_sRecv hZ hL hi) ⟨Nat.le_of_ble_eq_true rfl, Nat.le_of_ble_eq_true rfl⟩ rfl rfl hl.1 (Nat.le_of_ble_eq_true rfl) dJ0_length_8abf5_6 ⟨Nat.le_of_ble_eq_true rfl, Nat.le_of_ble_eq_true rfl⟩ (fun v nb H locs hB hL => ?_)
  obtain ⟨rfl, rfl⟩ := hB
  refine lv_ishr hx hb dJ0_length_8abf5_9 ?_
  rw [j_shr0]
  exact x_iret X hL hr ⟨rfl, rfl⟩ (Nat.le_refl _) (Nat.le_refl _) dJ0_length_8abf5_10
theorem dJ0_getBytes_840e7_0 : decode cJ0_getBytes_840e7 0 = .ok (.aload_n 0, 1) := by decide +kernel
theorem dJ0_getBytes_840e7_1 : decode cJ0_getBytes_840e7 1 = .ok (.invokevirtual 335, 3) := by decide +kernel
theorem dJ0_getBytes_840e7_4 : decode cJ0_getBytes_840e7 4 = .ok (.iload_n 3, 1) := by decide +kernel
theorem dJ0_getBytes_840e7_5 : decode cJ0_getBytes_840e7 5 = .ok (.if_icmp .ne 23, 3) := by decide +kernel
theorem dJ0_getBytes_840e7_8 : decode cJ0_getBytes_840e7 8 = .ok (.aload_n 0, 1) := by decide +kernel
theorem dJ0_getBytes_840e7_9 : decode cJ0_getBytes_840e7 9 = .ok (.getfield 9, 3) := by decide +kernel
theorem dJ0_getBytes_840e7_12 : decode cJ0_getBytes_840e7 12 = .ok (.iconst 0, 1) := by decide +kernel
theorem dJ0_getBytes_840e7_13 : decode cJ0_getBytes_840e7 13 = .ok (.aload_n 1, 1) := by decide +kernel
theorem dJ0_getBytes_840e7_14 : decode cJ0_getBytes_840e7 14 = .ok (.iload_n 2, 1) := by decide +kernel
theorem dJ0_getBytes_840e7_15 : decode cJ0_getBytes_840e7 15 = .ok (.iload_n 3, 1) := by decide +kernel
theorem dJ0_getBytes_840e7_16 : decode cJ0_getBytes_840e7 16 = .ok (.ishl, 1) := by decide +kernel
theorem dJ0_getBytes_840e7_17 : decode cJ0_getBytes_840e7 17 = .ok (.aload_n 0, 1) := by decide +kernel
theorem dJ0_getBytes_840e7_18 : decode cJ0_getBytes_840e7 18 = .ok (.getfield 9, 3) := by decide +kernel
theorem dJ0_getBytes_840e7_21 : decode cJ0_getBytes_840e7 21 = .ok (.arraylength, 1) := by decide +kernel
theorem dJ0_getBytes_840e7_22 : decode cJ0_getBytes_840e7 22 = .ok (.invokestatic 212, 3) := by decide +kernel
theorem dJ0_getBytes_840e7_25 : decode cJ0_getBytes_840e7 25 = .ok (.goto 18, 3) := by decide +kernel
theorem dJ0_getBytes_840e7_28 : decode cJ0_getBytes_840e7 28 = .ok (.aload_n 0, 1) := by decide +kernel
theorem dJ0_getBytes_840e7_29 : decode cJ0_getBytes_840e7 29 = .ok (.getfield 9, 3) := by decide +kernel
theorem dJ0_getBytes_840e7_32 : decode cJ0_getBytes_840e7 32 = .ok (.iconst 0, 1) := by decide +kernel
theorem dJ0_getBytes_840e7_33 : decode cJ0_getBytes_840e7 33 = .ok (.aload_n 1, 1) := by decide +kernel
theorem dJ0_getBytes_840e7_34 : decode cJ0_getBytes_840e7 34 = .ok (.iload_n 2, 1) := by decide +kernel
theorem dJ0_getBytes_840e7_35 : decode cJ0_getBytes_840e7 35 = .ok (.aload_n 0, 1) := by decide +kernel
theorem dJ0_getBytes_840e7_36 : decode cJ0_getBytes_840e7 36 = .ok (.getfield 9, 3) := by decide +kernel
theorem dJ0_getBytes_840e7_39 : decode cJ0_getBytes_840e7 39 = .ok (.arraylength, 1) := by decide +kernel
theorem dJ0_getBytes_840e7_40 : decode cJ0_getBytes_840e7 40 = .ok (.invokestatic 106, 3) := by decide +kernel
theorem dJ0_getBytes_840e7_43 : decode cJ0_getBytes_840e7 43 = .ok (.return_, 1) := by decide +kernel
theorem ms_J0_getBytes_840e7 : MSt yJ0_getBytes_840e7 cJ0_getBytes_840e7 4 none 3 := ⟨tw_4_63, tw_1_19, by decide, by decide, by decide +kernel⟩
set_option maxHeartbeats 4000000 in
set_option maxRecDepth 100000 in
theorem k_getBytes {l : Launch} {g : Gh} {Lx : Nat × (Nat → Int32)} {i v n m0 : Nat} {f : Nat → Int32} (hi : i < 9) (hn : n ≤ 2000) (hm : n + lsLen.getD i 0 ≤ m0) (hf : BF m0 f) : LMt l Lx g yJ0_getBytes_840e7 cJ0_getBytes_840e7 4 none 1 0 0 [(v, ba g m0 f)] [.ref (g.2.2 (2000 + i)), .ref v, .int (nI n), .int 0] (fun x nb => x = none ∧ ∃ f2, nb = [(v, ba g m0 f2)] ∧ (∀ j, j < n → f2 j = f j) ∧ (∀ j, j < lsLen.getD i 0 → f2 (n + j) = (lsByt.getD i []).getD j 0) ∧ BF m0 f2) := by
  refine lm_start (by decide) (Nat.le_of_ble_eq_true rfl) ?_
  intro p e s m args below meth c ls X hZ hnm hr hl hL
  have hx := X.1
  have hb := X.2.1
  have hown := X.2.2.2.1
  have ht := X.2.2.2.2.1
  have hl : lv_has ls 4 [(0, .ref (g.2.2 (2000 + i))), (1, .ref v), (2, .int (nI n)), (3, .int (0 : Int32))] := hl
  refine lv_aload_n hx hb dJ0_getBytes_840e7_0 rfl (lv_at hl 0 rfl) ?_
  refine x_callLV (As := []) (rest := []) X hZ [(v, ba g m0 f)] [] hL (k_sCoder hi) tw_3_115 ms_J0_coder_7d493 tw_3_116 tw_3_117 (x_sRecv hZ hL hi) ⟨Nat.le_of_ble_eq_true rfl, Nat.le_of_ble_eq_true rfl⟩ rfl rfl hl.1 (Nat.le_of_ble_eq_true rfl) dJ0_getBytes_840e7_1 ⟨Nat.le_of_ble_eq_true rfl, Nat.le_of_ble_eq_true rfl⟩ (fun v nb H locs hB hL => ?_)
  obtain ⟨rfl, rfl⟩ := hB
  rw [List.append_nil] at hL
  refine lv_iload_n hx hb dJ0_getBytes_840e7_4 rfl (lv_at hl 3 rfl) ?_
  refine lv_icmp_ne (tgt := 28) hx hb dJ0_getBytes_840e7_5 (by decide) (fun z => absurd z (fun h => h rfl)) (fun _ => ?_)
  refine lv_aload_n hx hb dJ0_getBytes_840e7_8 rfl (lv_at hl 0 rfl) ?_
  refine x_sValue X hZ hL hi tw_4_139 dJ0_getBytes_840e7_9 ?_
  refine lv_iconst (v := (0 : Int32)) hx hb dJ0_getBytes_840e7_12 (by decide) ?_
  refine lv_aload_n hx hb dJ0_getBytes_840e7_13 rfl (lv_at hl 1 rfl) ?_
  refine lv_iload_n hx hb dJ0_getBytes_840e7_14 rfl (lv_at hl 2 rfl) ?_
  refine lv_iload_n hx hb dJ0_getBytes_840e7_15 rfl (lv_at hl 3 rfl) ?_
  refine lv_ishl hx hb dJ0_getBytes_840e7_16 ?_
  rw [j_shl0]
  refine lv_aload_n hx hb dJ0_getBytes_840e7_17 rfl (lv_at hl 0 rfl) ?_
  refine x_sValue X hZ hL hi tw_4_139 dJ0_getBytes_840e7_18 ?_
  refine va_tlen hx hb (hZ.1.2.2.1.1 i hi).2.2.2 hL.2.2.1 (v := nI (lsLen.getD i 0)) rfl dJ0_getBytes_840e7_21 ?_
  obtain ⟨z1, z2⟩ := ls_small i hi
  refine x_tcopy (k := 0) (b := v) (rest := []) X hZ hL hi rfl tw_4_64 (by decide) (j_neg (by omega)) (j_neg (by omega)) (by rw [j_cl (by omega)]; exact Nat.le_of_eq (Nat.zero_add _)) (by rw [j_cl (by omega), j_cl (by omega)]; exact hm) (fun q hq => ls_byte i hi _ (by rw [j_cl (by omega)] at hq; show 0 + q < 16; omega)) hl.1 (Nat.le_of_ble_eq_true rfl) (Nat.le_of_ble_eq_true rfl) dJ0_getBytes_840e7_22 rfl (fun H locs hL => ?_)
  rw [j_cl (n := n) (by omega), j_cl (n := lsLen.getD i 0) (by omega)] at hL
  refine lv_goto (tgt := 43) hx hb dJ0_getBytes_840e7_25 (by decide) ?_
  refine x_vret X hL hr ⟨rfl, _, rfl, fun j hj => ?_, fun j hj => ?_, fun j hj => ?_⟩ (Nat.le_refl _) (Nat.le_refl _) dJ0_getBytes_840e7_43
  · show (if n ≤ j ∧ j < n + lsLen.getD i 0 then (lsByt.getD i []).getD (0 + (j - n)) 0 else f j) = f j
    exact if_neg (by omega)
  · show (if n ≤ n + j ∧ n + j < n + lsLen.getD i 0 then (lsByt.getD i []).getD (0 + (n + j - n)) 0 else f (n + j)) = _
    rw [if_pos ⟨by omega, by omega⟩, show 0 + (n + j - n) = j by omega]
  · show fits .byte (.int (if n ≤ j ∧ j < n + lsLen.getD i 0 then (lsByt.getD i []).getD (0 + (j - n)) 0 else f j)) = true
    split
    · exact ls_byte i hi _ (by omega)
    · exact hf j hj
theorem dJ5_inflateIfNeededFor_a7421_0 : decode cJ5_inflateIfNeededFor_a7421 0 = .ok (.getstatic 18, 3) := by decide +kernel
theorem dJ5_inflateIfNeededFor_a7421_3 : decode cJ5_inflateIfNeededFor_a7421 3 = .ok (.ifCond .eq 18, 3) := by decide +kernel
theorem dJ5_inflateIfNeededFor_a7421_6 : decode cJ5_inflateIfNeededFor_a7421 6 = .ok (.aload_n 0, 1) := by decide +kernel
theorem dJ5_inflateIfNeededFor_a7421_7 : decode cJ5_inflateIfNeededFor_a7421 7 = .ok (.getfield 22, 3) := by decide +kernel
theorem dJ5_inflateIfNeededFor_a7421_10 : decode cJ5_inflateIfNeededFor_a7421 10 = .ok (.aload_n 1, 1) := by decide +kernel
theorem dJ5_inflateIfNeededFor_a7421_11 : decode cJ5_inflateIfNeededFor_a7421 11 = .ok (.invokevirtual 40, 3) := by decide +kernel
theorem dJ5_inflateIfNeededFor_a7421_14 : decode cJ5_inflateIfNeededFor_a7421 14 = .ok (.if_icmp .eq 7, 3) := by decide +kernel
theorem dJ5_inflateIfNeededFor_a7421_17 : decode cJ5_inflateIfNeededFor_a7421 17 = .ok (.aload_n 0, 1) := by decide +kernel
theorem dJ5_inflateIfNeededFor_a7421_18 : decode cJ5_inflateIfNeededFor_a7421 18 = .ok (.invokevirtual 195, 3) := by decide +kernel
theorem dJ5_inflateIfNeededFor_a7421_21 : decode cJ5_inflateIfNeededFor_a7421 21 = .ok (.return_, 1) := by decide +kernel
theorem ms_J5_inflateIfNeededFor_a7421 : MSt yJ5_inflateIfNeededFor_a7421 cJ5_inflateIfNeededFor_a7421 2 none 1 := ⟨tw_4_39, tw_1_17, by decide, by decide, by decide +kernel⟩
set_option maxHeartbeats 4000000 in
set_option maxRecDepth 100000 in
theorem k_infl {l : Launch} {g : Gh} {Lx : Nat × (Nat → Int32)} {i q v : Nat} {n : Int32} (hi : i < 9) : LMt l Lx g yJ5_inflateIfNeededFor_a7421 cJ5_inflateIfNeededFor_a7421 2 none 1 0 0 [(q, sbE v n)] [.ref q, .ref (g.2.2 (2000 + i))] (fun x nb => x = none ∧ nb = [(q, sbE v n)]) := by
  refine lm_start (by decide) (Nat.le_of_ble_eq_true rfl) ?_
  intro p e s m args below meth c ls X hZ hnm hr hl hL
  have hx := X.1
  have hb := X.2.1
  have hown := X.2.2.2.1
  have ht := X.2.2.2.2.1
  have hl : lv_has ls 2 [(0, .ref q), (1, .ref (g.2.2 (2000 + i)))] := hl
  refine x_compact X hZ hL tw_3_179 dJ5_inflateIfNeededFor_a7421_0 ?_
  refine lv_if_eq (tgt := 21) hx hb dJ5_inflateIfNeededFor_a7421_3 (by decide) (fun z => absurd z (by decide)) (fun _ => ?_)
  refine lv_aload_n hx hb dJ5_inflateIfNeededFor_a7421_6 rfl (lv_at hl 0 rfl) ?_
  refine x_get (j := 0) (k := 1) X hL rfl rfl cs_11 (by decide) tw_3_188 rfl dJ5_inflateIfNeededFor_a7421_7 ?_
  refine lv_aload_n hx hb dJ5_inflateIfNeededFor_a7421_10 rfl (lv_at hl 1 rfl) ?_
  refine x_callLV (As := []) (rest := [.int (0 : Int32)]) X hZ [(q, sbE v n)] [] hL (k_sCoder hi) tw_4_40 ms_J0_coder_7d493 tw_3_116 tw_3_117 (x_sRecv hZ hL hi) ⟨Nat.le_of_ble_eq_true rfl, Nat.le_of_ble_eq_true rfl⟩ rfl rfl hl.1 (Nat.le_of_ble_eq_true rfl) dJ5_inflateIfNeededFor_a7421_11 ⟨Nat.le_of_ble_eq_true rfl, Nat.le_of_ble_eq_true rfl⟩ (fun v nb H locs hB hL => ?_)
  obtain ⟨rfl, rfl⟩ := hB
  rw [List.append_nil] at hL
  refine lv_icmp_eq (tgt := 21) hx hb dJ5_inflateIfNeededFor_a7421_14 (by decide) (fun _ => ?_) (fun z => absurd (rfl) z)
  exact x_vret X hL hr ⟨rfl, rfl⟩ (Nat.le_refl _) (Nat.le_refl _) dJ5_inflateIfNeededFor_a7421_21
theorem dJ5_putStringAt_47b60_0 : decode cJ5_putStringAt_47b60 0 = .ok (.aload_n 0, 1) := by decide +kernel
theorem dJ5_putStringAt_47b60_1 : decode cJ5_putStringAt_47b60 1 = .ok (.aload_n 2, 1) := by decide +kernel
theorem dJ5_putStringAt_47b60_2 : decode cJ5_putStringAt_47b60 2 = .ok (.invokevirtual 397, 3) := by decide +kernel
theorem dJ5_putStringAt_47b60_5 : decode cJ5_putStringAt_47b60 5 = .ok (.aload_n 2, 1) := by decide +kernel
theorem dJ5_putStringAt_47b60_6 : decode cJ5_putStringAt_47b60 6 = .ok (.aload_n 0, 1) := by decide +kernel
theorem dJ5_putStringAt_47b60_7 : decode cJ5_putStringAt_47b60 7 = .ok (.getfield 15, 3) := by decide +kernel
theorem dJ5_putStringAt_47b60_10 : decode cJ5_putStringAt_47b60 10 = .ok (.iload_n 1, 1) := by decide +kernel
theorem dJ5_putStringAt_47b60_11 : decode cJ5_putStringAt_47b60 11 = .ok (.aload_n 0, 1) := by decide +kernel
theorem dJ5_putStringAt_47b60_12 : decode cJ5_putStringAt_47b60 12 = .ok (.getfield 22, 3) := by decide +kernel
theorem dJ5_putStringAt_47b60_15 : decode cJ5_putStringAt_47b60 15 = .ok (.invokevirtual 399, 3) := by decide +kernel
theorem dJ5_putStringAt_47b60_18 : decode cJ5_putStringAt_47b60 18 = .ok (.return_, 1) := by decide +kernel
theorem ms_J5_putStringAt_47b60 : MSt yJ5_putStringAt_47b60 cJ5_putStringAt_47b60 3 none 2 := ⟨tw_4_35, tw_1_17, by decide, by decide, by decide +kernel⟩
set_option maxHeartbeats 4000000 in
set_option maxRecDepth 100000 in
theorem k_putStr {l : Launch} {g : Gh} {Lx : Nat × (Nat → Int32)} {i q v n m0 : Nat} {f : Nat → Int32} (hi : i < 9) (hn : n ≤ 2000) (hm : n + lsLen.getD i 0 ≤ m0) (hf : BF m0 f) : LMt l Lx g yJ5_putStringAt_47b60 cJ5_putStringAt_47b60 3 none 2 0 0 [(q, sbE v (nI n)), (v, ba g m0 f)] [.ref q, .int (nI n), .ref (g.2.2 (2000 + i))] (fun x nb => x = none ∧ ∃ f2, nb = [(q, sbE v (nI n)), (v, ba g m0 f2)] ∧ (∀ j, j < n → f2 j = f j) ∧ (∀ j, j < lsLen.getD i 0 → f2 (n + j) = (lsByt.getD i []).getD j 0) ∧ BF m0 f2) := by
  refine lm_start (by decide) (Nat.le_of_ble_eq_true rfl) ?_
  intro p e s m args below meth c ls X hZ hnm hr hl hL
  have hx := X.1
  have hb := X.2.1
  have hown := X.2.2.2.1
  have ht := X.2.2.2.2.1
  have hl : lv_has ls 3 [(0, .ref q), (1, .int (nI n)), (2, .ref (g.2.2 (2000 + i)))] := hl
  have hL : LW g (va_A [(q, sbE v (nI n)), (v, ba g m0 f)] s.heap.size) [(v, ba g m0 f), (q, sbE v (nI n))] s.heap s.heap [] := hL.perm (List.Perm.swap _ _ _)
  refine lv_aload_n hx hb dJ5_putStringAt_47b60_0 rfl (lv_at hl 0 rfl) ?_
  refine lv_aload_n hx hb dJ5_putStringAt_47b60_1 rfl (lv_at hl 2 rfl) ?_
  refine x_callLV (As := [.ref (g.2.2 (2000 + i))]) (rest := []) X hZ [(v, ba g m0 f)] [(q, sbE v (nI n))] hL (k_infl hi) tw_4_36 ms_J5_inflateIfNeededFor_a7421 tw_4_38 js_infl (x_recvL (W1 := [(v, ba g m0 f)]) (ws := [(q, sbE v (nI n))]) X hL (j := 0) (ci := 11) rfl rfl) ⟨Nat.le_of_ble_eq_true rfl, Nat.le_of_ble_eq_true rfl⟩ rfl rfl hl.1 (Nat.le_of_ble_eq_true rfl) dJ5_putStringAt_47b60_2 ⟨Nat.le_of_ble_eq_true rfl, Nat.le_of_ble_eq_true rfl⟩ (fun v nb H locs hB hL => ?_)
  obtain ⟨rfl, rfl⟩ := hB
  have hL : LW g (va_A [(q, sbE v (nI n)), (v, ba g m0 f)] s.heap.size) [(q, sbE v (nI n)), (v, ba g m0 f)] s.heap H locs := hL.perm (List.Perm.swap _ _ _)
  refine lv_aload_n hx hb dJ5_putStringAt_47b60_5 rfl (lv_at hl 2 rfl) ?_
  refine lv_aload_n hx hb dJ5_putStringAt_47b60_6 rfl (lv_at hl 0 rfl) ?_
  refine x_get (j := 0) (k := 0) X hL rfl rfl cs_11 (by decide) tw_3_187 rfl dJ5_putStringAt_47b60_7 ?_
  refine lv_iload_n hx hb dJ5_putStringAt_47b60_10 rfl (lv_at hl 1 rfl) ?_
  refine lv_aload_n hx hb dJ5_putStringAt_47b60_11 rfl (lv_at hl 0 rfl) ?_
  refine x_get (j := 0) (k := 1) X hL rfl rfl cs_11 (by decide) tw_3_188 rfl dJ5_putStringAt_47b60_12 ?_
  refine x_callLV (As := [.ref v, .int (nI n), .int (0 : Int32)]) (rest := []) X hZ [(q, sbE v (nI n))] [(v, ba g m0 f)] hL (k_getBytes hi hn hm hf) tw_4_60 ms_J0_getBytes_840e7 tw_4_61 tw_4_62 (x_sRecv hZ hL hi) ⟨Nat.le_of_ble_eq_true rfl, Nat.le_of_ble_eq_true rfl⟩ rfl rfl hl.1 (Nat.le_of_ble_eq_true rfl) dJ5_putStringAt_47b60_15 ⟨Nat.le_of_ble_eq_true rfl, Nat.le_of_ble_eq_true rfl⟩ (fun v nb H locs hB hL => ?_)
  obtain ⟨rfl, f2, rfl, e1, e2, hf2⟩ := hB
  exact x_vret X hL hr ⟨rfl, f2, rfl, e1, e2, hf2⟩ (Nat.le_refl _) (Nat.le_refl _) dJ5_putStringAt_47b60_18
theorem ls_pos : ∀ i, i < 9 → 0 < lsLen.getD i 0 := by decide +kernel
theorem dJ5_append_cf1ce_0 : decode cJ5_append_cf1ce 0 = .ok (.aload_n 1, 1) := by decide +kernel
theorem dJ5_append_cf1ce_1 : decode cJ5_append_cf1ce 1 = .ok (.ifnonnull 8, 3) := by decide +kernel
theorem dJ5_append_cf1ce_4 : decode cJ5_append_cf1ce 4 = .ok (.aload_n 0, 1) := by decide +kernel
theorem dJ5_append_cf1ce_5 : decode cJ5_append_cf1ce 5 = .ok (.invokevirtual 204, 3) := by decide +kernel
theorem dJ5_append_cf1ce_8 : decode cJ5_append_cf1ce 8 = .ok (.areturn, 1) := by decide +kernel
theorem dJ5_append_cf1ce_9 : decode cJ5_append_cf1ce 9 = .ok (.aload_n 1, 1) := by decide +kernel
theorem dJ5_append_cf1ce_10 : decode cJ5_append_cf1ce 10 = .ok (.invokevirtual 32, 3) := by decide +kernel
theorem dJ5_append_cf1ce_13 : decode cJ5_append_cf1ce 13 = .ok (.istore_n 2, 1) := by decide +kernel
theorem dJ5_append_cf1ce_14 : decode cJ5_append_cf1ce 14 = .ok (.aload_n 0, 1) := by decide +kernel
theorem dJ5_append_cf1ce_15 : decode cJ5_append_cf1ce 15 = .ok (.aload_n 0, 1) := by decide +kernel
theorem dJ5_append_cf1ce_16 : decode cJ5_append_cf1ce 16 = .ok (.getfield 79, 3) := by decide +kernel
theorem dJ5_append_cf1ce_19 : decode cJ5_append_cf1ce 19 = .ok (.iload_n 2, 1) := by decide +kernel
theorem dJ5_append_cf1ce_20 : decode cJ5_append_cf1ce 20 = .ok (.iadd, 1) := by decide +kernel
theorem dJ5_append_cf1ce_21 : decode cJ5_append_cf1ce 21 = .ok (.invokevirtual 100, 3) := by decide +kernel
theorem dJ5_append_cf1ce_24 : decode cJ5_append_cf1ce 24 = .ok (.aload_n 0, 1) := by decide +kernel
theorem dJ5_append_cf1ce_25 : decode cJ5_append_cf1ce 25 = .ok (.aload_n 0, 1) := by decide +kernel
theorem dJ5_append_cf1ce_26 : decode cJ5_append_cf1ce 26 = .ok (.getfield 79, 3) := by decide +kernel
theorem dJ5_append_cf1ce_29 : decode cJ5_append_cf1ce 29 = .ok (.aload_n 1, 1) := by decide +kernel
theorem dJ5_append_cf1ce_30 : decode cJ5_append_cf1ce 30 = .ok (.invokevirtual 208, 3) := by decide +kernel
theorem dJ5_append_cf1ce_33 : decode cJ5_append_cf1ce 33 = .ok (.aload_n 0, 1) := by decide +kernel
theorem dJ5_append_cf1ce_34 : decode cJ5_append_cf1ce 34 = .ok (.dup, 1) := by decide +kernel
theorem dJ5_append_cf1ce_35 : decode cJ5_append_cf1ce 35 = .ok (.getfield 79, 3) := by decide +kernel
theorem dJ5_append_cf1ce_38 : decode cJ5_append_cf1ce 38 = .ok (.iload_n 2, 1) := by decide +kernel
theorem dJ5_append_cf1ce_39 : decode cJ5_append_cf1ce 39 = .ok (.iadd, 1) := by decide +kernel
theorem dJ5_append_cf1ce_40 : decode cJ5_append_cf1ce 40 = .ok (.putfield 79, 3) := by decide +kernel
theorem dJ5_append_cf1ce_43 : decode cJ5_append_cf1ce 43 = .ok (.aload_n 0, 1) := by decide +kernel
theorem dJ5_append_cf1ce_44 : decode cJ5_append_cf1ce 44 = .ok (.areturn, 1) := by decide +kernel
theorem ms_J5_append_cf1ce : MSt yJ5_append_cf1ce cJ5_append_cf1ce 3 (some (.object "java/lang/AbstractStringBuilder")) 1 := ⟨tw_3_215, tw_1_17, by decide, by decide, by decide +kernel⟩
set_option maxHeartbeats 4000000 in
set_option maxRecDepth 100000 in
theorem k_appSA {l : Launch} {g : Gh} {Lx : Nat × (Nat → Int32)} {q v m0 i n : Nat} {f : Nat → Int32} (hi : i < 9) (hn : n ≤ 900) (hm : n ≤ m0 ∧ m0 ≤ 16 + 2 * n) (hf : BF m0 f) : LMt l Lx g yJ5_append_cf1ce cJ5_append_cf1ce 3 (some (.object "java/lang/AbstractStringBuilder")) 4 1 5000 [(q, sbE v (nI n)), (v, ba g m0 f)] [.ref q, .ref (g.2.2 (2000 + i))] (fun x nb => x = some (.ref q) ∧ ∃ v2 m2 f2, nb = [(q, sbE v2 (nI (n + lsLen.getD i 0))), (v2, ba g m2 f2)] ∧ n + lsLen.getD i 0 ≤ m2 ∧ m2 ≤ 16 + 2 * (n + lsLen.getD i 0) ∧ (∀ j, j < n → f2 j = f j) ∧ (∀ j, j < lsLen.getD i 0 → f2 (n + j) = (lsByt.getD i []).getD j 0) ∧ BF m2 f2) := by
  refine lm_start (by decide) (Nat.le_of_ble_eq_true rfl) ?_
  intro p e s m args below meth c ls X hZ hnm hr hl hL
  have hx := X.1
  have hb := X.2.1
  have hown := X.2.2.2.1
  have ht := X.2.2.2.2.1
  have hl : lv_has ls 3 [(0, .ref q), (1, .ref (g.2.2 (2000 + i)))] := hl
  have z3 := ls_pos i hi
  obtain ⟨z1, z2⟩ := ls_small i hi
  refine lv_aload_n hx hb dJ5_append_cf1ce_0 rfl (lv_at hl 1 rfl) ?_
  refine lv_ifnonnull (tgt := 9) hx hb dJ5_append_cf1ce_1 (by decide) ?_
  refine lv_aload_n hx hb dJ5_append_cf1ce_9 rfl (lv_at hl 1 rfl) ?_
  refine x_callLV (As := []) (rest := []) X hZ [(q, sbE v (nI n)), (v, ba g m0 f)] [] hL (k_sLen hi) tw_4_31 ms_J0_length_8abf5 tw_3_112 tw_3_113 (x_sRecv hZ hL hi) ⟨Nat.le_of_ble_eq_true rfl, Nat.le_of_ble_eq_true rfl⟩ rfl rfl hl.1 (Nat.le_of_ble_eq_true rfl) dJ5_append_cf1ce_10 ⟨Nat.le_of_ble_eq_true rfl, Nat.le_of_ble_eq_true rfl⟩ (fun v nb H locs hB hL => ?_)
  obtain ⟨rfl, rfl⟩ := hB
  rw [List.append_nil] at hL
  refine lv_istore_n (lv' := [(2, .int (nI (lsLen.getD i 0))), (0, .ref q), (1, .ref (g.2.2 (2000 + i)))]) hx hb dJ5_append_cf1ce_13 rfl hl (by decide) rfl (fun ls hl => ?_)
  refine lv_aload_n hx hb dJ5_append_cf1ce_14 rfl (lv_at hl 1 rfl) ?_
  refine lv_aload_n hx hb dJ5_append_cf1ce_15 rfl (lv_at hl 1 rfl) ?_
  refine x_get (j := 0) (k := 3) X hL rfl rfl cs_11 (by decide) tw_3_190 rfl dJ5_append_cf1ce_16 ?_
  refine lv_iload_n hx hb dJ5_append_cf1ce_19 rfl (lv_at hl 0 rfl) ?_
  refine lv_iadd hx hb dJ5_append_cf1ce_20 ?_
  rw [nI_add]
  refine x_callLV (As := [.int (nI (n + lsLen.getD i 0))]) (rest := []) X hZ [] [(q, sbE v (nI n)), (v, ba g m0 f)] hL (k_ensure (n := n) (f := f) (by omega) (by omega) (by omega) hf) tw_3_220 ms_J5_ensureCapacityInternal_d00df tw_3_222 js_ensure (x_recvL (W1 := []) (ws := [(q, sbE v (nI n)), (v, ba g m0 f)]) X hL (j := 0) (ci := 11) rfl rfl) ⟨Nat.le_of_ble_eq_true rfl, Nat.le_of_ble_eq_true rfl⟩ rfl rfl hl.1 (Nat.le_of_ble_eq_true rfl) dJ5_append_cf1ce_21 ⟨Nat.le_of_ble_eq_true rfl, Nat.le_of_ble_eq_true rfl⟩ (fun v nb H locs hB hL => ?_)
  obtain ⟨rfl, v2, m2, f2, rfl, e1, e2, e3, hf2⟩ := hB
  have hL : LW g (va_A [(q, sbE v (nI n)), (v, ba g m0 f)] s.heap.size) [(q, sbE v2 (nI n)), (v2, ba g m2 f2)] s.heap H locs := hL
  refine lv_aload_n hx hb dJ5_append_cf1ce_24 rfl (lv_at hl 1 rfl) ?_
  refine lv_aload_n hx hb dJ5_append_cf1ce_25 rfl (lv_at hl 1 rfl) ?_
  refine x_get (j := 0) (k := 3) X hL rfl rfl cs_11 (by decide) tw_3_190 rfl dJ5_append_cf1ce_26 ?_
  refine lv_aload_n hx hb dJ5_append_cf1ce_29 rfl (lv_at hl 2 rfl) ?_
  refine x_callLV (As := [.int (nI n), .ref (g.2.2 (2000 + i))]) (rest := []) X hZ [] [(q, sbE v2 (nI n)), (v2, ba g m2 f2)] hL (k_putStr hi (by omega) e1 hf2) tw_4_32 ms_J5_putStringAt_47b60 tw_4_34 js_putStr (x_recvL (W1 := []) (ws := [(q, sbE v2 (nI n)), (v2, ba g m2 f2)]) X hL (j := 0) (ci := 11) rfl rfl) ⟨Nat.le_of_ble_eq_true rfl, Nat.le_of_ble_eq_true rfl⟩ rfl rfl hl.1 (Nat.le_of_ble_eq_true rfl) dJ5_append_cf1ce_30 ⟨Nat.le_of_ble_eq_true rfl, Nat.le_of_ble_eq_true rfl⟩ (fun v nb H locs hB hL => ?_)
  obtain ⟨rfl, f3, rfl, e4, e5, hf3⟩ := hB
  have hL : LW g (va_A [(q, sbE v (nI n)), (v, ba g m0 f)] s.heap.size) [(q, sbE v2 (nI n)), (v2, ba g m2 f3)] s.heap H locs := hL
  refine lv_aload_n hx hb dJ5_append_cf1ce_33 rfl (lv_at hl 1 rfl) ?_
  refine lv_dup hx hb dJ5_append_cf1ce_34 rfl ?_
  refine x_get (j := 0) (k := 3) X hL rfl rfl cs_11 (by decide) tw_3_190 rfl dJ5_append_cf1ce_35 ?_
  refine lv_iload_n hx hb dJ5_append_cf1ce_38 rfl (lv_at hl 0 rfl) ?_
  refine lv_iadd hx hb dJ5_append_cf1ce_39 ?_
  rw [nI_add]
  refine x_putD (j := 0) (k := 3) (ty := .int) X hL rfl rfl cs_11 (by decide) tw_3_190 rfl (by decide +kernel) rfl rfl (Nat.le_of_ble_eq_true rfl) rfl dJ5_append_cf1ce_40 (fun H locs hL => ?_)
  have hL : LW g (va_A [(q, sbE v (nI n)), (v, ba g m0 f)] s.heap.size) [(q, sbE v2 (nI (n + lsLen.getD i 0))), (v2, ba g m2 f3)] s.heap H locs := hL
  refine lv_aload_n hx hb dJ5_append_cf1ce_43 rfl (lv_at hl 1 rfl) ?_
  exact x_aret X hL hr (Or.inl ⟨_, rfl⟩) ⟨rfl, v2, m2, f3, rfl, e1, by omega, fun j hj => (e4 j hj).trans (e3 j (by omega)), e5, hf3⟩ (Nat.le_refl _) (Nat.le_refl _) dJ5_append_cf1ce_44
theorem dJ4_append_15ec4_0 : decode cJ4_append_15ec4 0 = .ok (.aload_n 0, 1) := by decide +kernel
theorem dJ4_append_15ec4_1 : decode cJ4_append_15ec4 1 = .ok (.aload_n 1, 1) := by decide +kernel
theorem dJ4_append_15ec4_2 : decode cJ4_append_15ec4 2 = .ok (.invokespecial 29, 3) := by decide +kernel
theorem dJ4_append_15ec4_5 : decode cJ4_append_15ec4 5 = .ok (.pop, 1) := by decide +kernel
theorem dJ4_append_15ec4_6 : decode cJ4_append_15ec4 6 = .ok (.aload_n 0, 1) := by decide +kernel
theorem dJ4_append_15ec4_7 : decode cJ4_append_15ec4 7 = .ok (.areturn, 1) := by decide +kernel
theorem ms_J4_append_15ec4 : MSt yJ4_append_15ec4 cJ4_append_15ec4 2 (some (.object "java/lang/StringBuilder")) 1 := ⟨tw_3_212, tw_1_18, by decide, by decide, by decide +kernel⟩
set_option maxHeartbeats 4000000 in
set_option maxRecDepth 100000 in
theorem k_appS {l : Launch} {g : Gh} {Lx : Nat × (Nat → Int32)} {q v m0 i n : Nat} {f : Nat → Int32} (hi : i < 9) (hn : n ≤ 900) (hm : n ≤ m0 ∧ m0 ≤ 16 + 2 * n) (hf : BF m0 f) : LMt l Lx g yJ4_append_15ec4 cJ4_append_15ec4 2 (some (.object "java/lang/StringBuilder")) 5 1 5000 [(q, sbE v (nI n)), (v, ba g m0 f)] [.ref q, .ref (g.2.2 (2000 + i))] (fun x nb => x = some (.ref q) ∧ ∃ v2 m2 f2, nb = [(q, sbE v2 (nI (n + lsLen.getD i 0))), (v2, ba g m2 f2)] ∧ n + lsLen.getD i 0 ≤ m2 ∧ m2 ≤ 16 + 2 * (n + lsLen.getD i 0) ∧ (∀ j, j < n → f2 j = f j) ∧ (∀ j, j < lsLen.getD i 0 → f2 (n + j) = (lsByt.getD i []).getD j 0) ∧ BF m2 f2) := by
  refine lm_start (by decide) (Nat.le_of_ble_eq_true rfl) ?_
  intro p e s m args below meth c ls X hZ hnm hr hl hL
  have hx := X.1
  have hb := X.2.1
  have hown := X.2.2.2.1
  have ht := X.2.2.2.2.1
  have hl : lv_has ls 2 [(0, .ref q), (1, .ref (g.2.2 (2000 + i)))] := hl
  refine lv_aload_n hx hb dJ4_append_15ec4_0 rfl (lv_at hl 0 rfl) ?_
  refine lv_aload_n hx hb dJ4_append_15ec4_1 rfl (lv_at hl 1 rfl) ?_
  refine x_callLSU (C := RJ4) (As := [.ref (g.2.2 (2000 + i))]) (rest := []) X hZ [] [(q, sbE v (nI n)), (v, ba g m0 f)] hL ((X.2.2.2.2.2.1.1 11 (RJ4, TJ4, 4) rfl).2) (k_appSA hi hn hm hf) (va_cwSU (ret := (some (.object "java/lang/AbstractStringBuilder"))) 1 ht (goodSU tw_3_213 tw_5_78 tw_3_199 tw_3_214 tw_1_17 tw_3_215) rfl rfl rfl ⟨by decide, by decide +kernel⟩ ⟨Nat.le_of_ble_eq_true rfl, Nat.le_of_ble_eq_true rfl⟩) (x_recvL (W1 := []) (ws := [(q, sbE v (nI n)), (v, ba g m0 f)]) X hL (j := 0) (ci := 11) rfl rfl) rfl rfl hl.1 (Nat.le_of_ble_eq_true rfl) dJ4_append_15ec4_2 ⟨Nat.le_of_ble_eq_true rfl, Nat.le_of_ble_eq_true rfl⟩ (fun v nb H locs hB hL => ?_)
  obtain ⟨rfl, hB⟩ := hB
  refine lv_pop hx hb dJ4_append_15ec4_5 rfl ?_
  refine lv_aload_n hx hb dJ4_append_15ec4_6 rfl (lv_at hl 0 rfl) ?_
  exact x_aret X hL hr (Or.inl ⟨_, rfl⟩) ⟨rfl, hB⟩ (Nat.le_refl _) (Nat.le_refl _) dJ4_append_15ec4_7
