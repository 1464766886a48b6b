-- deps: 22
/-! A new builder, toString, and the methods of the text that it makes. -/
def sbD : va_E := .inr (11, [.null, .int 0, .int 0, .int 0])
def stD : va_E := .inr (10, [.null, .int 0, .int 0, .int 0])
theorem dJ5_init_d00df_0 : decode cJ5_init_d00df 0 = .ok (.aload_n 0, 1) := by decide +kernel
theorem dJ5_init_d00df_1 : decode cJ5_init_d00df 1 = .ok (.invokespecial 3, 3) := by decide +kernel
theorem dJ5_init_d00df_4 : decode cJ5_init_d00df 4 = .ok (.getstatic 18, 3) := by decide +kernel
theorem dJ5_init_d00df_7 : decode cJ5_init_d00df 7 = .ok (.ifCond .eq 18, 3) := by decide +kernel
theorem dJ5_init_d00df_10 : decode cJ5_init_d00df 10 = .ok (.aload_n 0, 1) := by decide +kernel
theorem dJ5_init_d00df_11 : decode cJ5_init_d00df 11 = .ok (.iload_n 1, 1) := by decide +kernel
theorem dJ5_init_d00df_12 : decode cJ5_init_d00df 12 = .ok (.newarray .byte, 2) := by decide +kernel
theorem dJ5_init_d00df_14 : decode cJ5_init_d00df 14 = .ok (.putfield 15, 3) := by decide +kernel
theorem dJ5_init_d00df_17 : decode cJ5_init_d00df 17 = .ok (.aload_n 0, 1) := by decide +kernel
theorem dJ5_init_d00df_18 : decode cJ5_init_d00df 18 = .ok (.iconst 0, 1) := by decide +kernel
theorem dJ5_init_d00df_19 : decode cJ5_init_d00df 19 = .ok (.putfield 22, 3) := by decide +kernel
theorem dJ5_init_d00df_22 : decode cJ5_init_d00df 22 = .ok (.goto 16, 3) := by decide +kernel
theorem dJ5_init_d00df_25 : decode cJ5_init_d00df 25 = .ok (.aload_n 0, 1) := by decide +kernel
theorem dJ5_init_d00df_26 : decode cJ5_init_d00df 26 = .ok (.iload_n 1, 1) := by decide +kernel
theorem dJ5_init_d00df_27 : decode cJ5_init_d00df 27 = .ok (.invokestatic 26, 3) := by decide +kernel
theorem dJ5_init_d00df_30 : decode cJ5_init_d00df 30 = .ok (.putfield 15, 3) := by decide +kernel
theorem dJ5_init_d00df_33 : decode cJ5_init_d00df 33 = .ok (.aload_n 0, 1) := by decide +kernel
theorem dJ5_init_d00df_34 : decode cJ5_init_d00df 34 = .ok (.iconst 1, 1) := by decide +kernel
theorem dJ5_init_d00df_35 : decode cJ5_init_d00df 35 = .ok (.putfield 22, 3) := by decide +kernel
theorem dJ5_init_d00df_38 : decode cJ5_init_d00df 38 = .ok (.return_, 1) := by decide +kernel
theorem ms_J5_init_d00df : MSt yJ5_init_d00df cJ5_init_d00df 2 none 1 := ⟨tw_3_177, tw_1_17, by decide, by decide, by decide +kernel⟩
set_option maxHeartbeats 4000000 in
set_option maxRecDepth 100000 in
theorem k_initA {l : Launch} {g : Gh} {Lx : Nat × (Nat → Int32)} {q : Nat}  : LMt l Lx g yJ5_init_d00df cJ5_init_d00df 2 none 1 1 5000 [(q, sbD)] [.ref q, .int 16] (fun x nb => x = none ∧ ∃ v, nb = [(q, sbE v 0), (v, ba g 16 (fun _ => 0))]) := by
  refine lm_start (by decide) (Nat.le_of_ble_eq_true rfl) ?_
  intro p e s m args below meth c ls X hZ hnm hr hl hL
  have hx := X.1
  have hb := X.2.1
  have hown := X.2.2.2.1
  have ht := X.2.2.2.2.1
  have hl : lv_has ls 2 [(0, .ref q), (1, .int (16 : Int32))] := hl
  refine lv_aload_n hx hb dJ5_init_d00df_0 rfl (lv_at hl 0 rfl) ?_
  refine x_obj X tw_3_178 tw_1_34 tw_1_35 hl.1 (Nat.le_of_ble_eq_true rfl) (Nat.le_of_ble_eq_true rfl) dJ5_init_d00df_1 ?_
  refine x_compact X hZ hL tw_3_179 dJ5_init_d00df_4 ?_
  refine lv_if_eq (tgt := 25) hx hb dJ5_init_d00df_7 (by decide) (fun z => absurd z (by decide)) (fun _ => ?_)
  refine lv_aload_n hx hb dJ5_init_d00df_10 rfl (lv_at hl 0 rfl) ?_
  refine lv_iload_n hx hb dJ5_init_d00df_11 rfl (lv_at hl 1 rfl) ?_
  refine x_nbyte X hL (N := 16) (by decide) (by decide) (by decide) (Nat.le_of_ble_eq_true rfl) (Nat.le_of_ble_eq_true rfl) dJ5_init_d00df_12 (fun v H hL => ?_)
  have hL : LW g (va_A [(q, sbD)] s.heap.size) [(q, sbD), (v, ba g 16 (fun _ => 0))] s.heap H [] := hL
  refine x_putD (j := 0) (k := 0) (ty := .array .byte) X hL rfl rfl cs_11 (by decide) tw_3_187 rfl (by decide +kernel) rfl rfl (Nat.le_of_ble_eq_true rfl) rfl dJ5_init_d00df_14 (fun H locs hL => ?_)
  have hL : LW g (va_A [(q, sbD)] s.heap.size) [(q, sbE v 0), (v, ba g 16 (fun _ => 0))] s.heap H locs := hL
  refine lv_aload_n hx hb dJ5_init_d00df_17 rfl (lv_at hl 0 rfl) ?_
  refine lv_iconst (v := (0 : Int32)) hx hb dJ5_init_d00df_18 (by decide) ?_
  refine x_putD (j := 0) (k := 1) (ty := .byte) X hL rfl rfl cs_11 (by decide) tw_3_188 rfl (by decide +kernel) rfl rfl (Nat.le_of_ble_eq_true rfl) rfl dJ5_init_d00df_19 (fun H locs hL => ?_)
  have hL : LW g (va_A [(q, sbD)] s.heap.size) [(q, sbE v 0), (v, ba g 16 (fun _ => 0))] s.heap H locs := hL
  refine lv_goto (tgt := 38) hx hb dJ5_init_d00df_22 (by decide) ?_
  exact x_vret X hL hr ⟨rfl, v, rfl⟩ (Nat.le_of_ble_eq_true rfl) (Nat.le_of_ble_eq_true rfl) dJ5_init_d00df_38
theorem dJ4_init_da8c8_0 : decode cJ4_init_da8c8 0 = .ok (.aload_n 0, 1) := by decide +kernel
theorem dJ4_init_da8c8_1 : decode cJ4_init_da8c8 1 = .ok (.bipush 16, 2) := by decide +kernel
theorem dJ4_init_da8c8_3 : decode cJ4_init_da8c8 3 = .ok (.invokespecial 1, 3) := by decide +kernel
theorem dJ4_init_da8c8_6 : decode cJ4_init_da8c8 6 = .ok (.return_, 1) := by decide +kernel
theorem ms_J4_init_da8c8 : MSt yJ4_init_da8c8 cJ4_init_da8c8 1 none 0 := ⟨tw_3_174, tw_1_18, by decide, by decide, by decide +kernel⟩
set_option maxHeartbeats 4000000 in
set_option maxRecDepth 100000 in
theorem k_initSB {l : Launch} {g : Gh} {Lx : Nat × (Nat → Int32)} {q : Nat}  : LMt l Lx g yJ4_init_da8c8 cJ4_init_da8c8 1 none 2 1 5000 [(q, sbD)] [.ref q] (fun x nb => x = none ∧ ∃ v, nb = [(q, sbE v 0), (v, ba g 16 (fun _ => 0))]) := by
  refine lm_start (by decide) (Nat.le_of_ble_eq_true rfl) ?_
  intro p e s m args below meth c ls X hZ hnm hr hl hL
  have hx := X.1
  have hb := X.2.1
  have hown := X.2.2.2.1
  have ht := X.2.2.2.2.1
  have hl : lv_has ls 1 [(0, .ref q)] := hl
  refine lv_aload_n hx hb dJ4_init_da8c8_0 rfl (lv_at hl 0 rfl) ?_
  refine lv_bipush (v := (16 : Int32)) hx hb dJ4_init_da8c8_1 (by decide) ?_
  refine x_callLI (As := [.int (16 : Int32)]) (rest := []) X hZ [] [(q, sbD)] hL (k_initA) tw_3_175 ms_J5_init_d00df tw_3_176 rfl ⟨Nat.le_of_ble_eq_true rfl, Nat.le_of_ble_eq_true rfl⟩ rfl rfl hl.1 (Nat.le_of_ble_eq_true rfl) dJ4_init_da8c8_3 ⟨Nat.le_of_ble_eq_true rfl, Nat.le_of_ble_eq_true rfl⟩ (fun v nb H locs hB hL => ?_)
  obtain ⟨rfl, hB⟩ := hB
  exact x_vret X hL hr ⟨rfl, hB⟩ (Nat.le_of_ble_eq_true rfl) (Nat.le_of_ble_eq_true rfl) dJ4_init_da8c8_6
theorem dJ5_getValue_6d5f1_0 : decode cJ5_getValue_6d5f1 0 = .ok (.aload_n 0, 1) := by decide +kernel
theorem dJ5_getValue_6d5f1_1 : decode cJ5_getValue_6d5f1 1 = .ok (.getfield 15, 3) := by decide +kernel
theorem dJ5_getValue_6d5f1_4 : decode cJ5_getValue_6d5f1 4 = .ok (.areturn, 1) := by decide +kernel
theorem ms_J5_getValue_6d5f1 : MSt yJ5_getValue_6d5f1 cJ5_getValue_6d5f1 1 (some (.array .byte)) 0 := ⟨tw_4_110, tw_1_17, by decide, by decide, by decide +kernel⟩
set_option maxHeartbeats 4000000 in
set_option maxRecDepth 100000 in
theorem k_getVal {l : Launch} {g : Gh} {Lx : Nat × (Nat → Int32)} {q v : Nat} {n : Int32}  : LMt l Lx g yJ5_getValue_6d5f1 cJ5_getValue_6d5f1 1 (some (.array .byte)) 0 0 0 [(q, sbE v n)] [.ref q] (fun x nb => x = some (.ref v) ∧ nb = [(q, sbE v n)]) := by
  refine lm_start (by decide) (Nat.le_of_ble_eq_true rfl) ?_
  intro p e s m args below meth c ls X hZ hnm hr hl hL
  have hx := X.1
  have hb := X.2.1
  have hown := X.2.2.2.1
  have ht := X.2.2.2.2.1
  have hl : lv_has ls 1 [(0, .ref q)] := hl
  refine lv_aload_n hx hb dJ5_getValue_6d5f1_0 rfl (lv_at hl 0 rfl) ?_
  refine x_get (j := 0) (k := 0) X hL rfl rfl cs_11 (by decide) tw_3_187 rfl dJ5_getValue_6d5f1_1 ?_
  exact x_aret X hL hr (Or.inr ⟨_, rfl⟩) ⟨rfl, rfl⟩ (Nat.le_refl _) (Nat.le_refl _) dJ5_getValue_6d5f1_4
theorem dJ5_length_8abf5_0 : decode cJ5_length_8abf5 0 = .ok (.aload_n 0, 1) := by decide +kernel
theorem dJ5_length_8abf5_1 : decode cJ5_length_8abf5 1 = .ok (.getfield 79, 3) := by decide +kernel
theorem dJ5_length_8abf5_4 : decode cJ5_length_8abf5 4 = .ok (.ireturn, 1) := by decide +kernel
theorem ms_J5_length_8abf5 : MSt yJ5_length_8abf5 cJ5_length_8abf5 1 (some .int) 0 := ⟨tw_4_118, tw_1_17, by decide, by decide, by decide +kernel⟩
set_option maxHeartbeats 4000000 in
set_option maxRecDepth 100000 in
theorem k_lenA {l : Launch} {g : Gh} {Lx : Nat × (Nat → Int32)} {q v : Nat} {n : Int32}  : LMt l Lx g yJ5_length_8abf5 cJ5_length_8abf5 1 (some .int) 0 0 0 [(q, sbE v n)] [.ref q] (fun x nb => x = some (.int n) ∧ nb = [(q, sbE v n)]) := by
  refine lm_start (by decide) (Nat.le_of_ble_eq_true rfl) ?_
  intro p e s m args below meth c ls X hZ hnm hr hl hL
  have hx := X.1
  have hb := X.2.1
  have hown := X.2.2.2.1
  have ht := X.2.2.2.2.1
  have hl : lv_has ls 1 [(0, .ref q)] := hl
  refine lv_aload_n hx hb dJ5_length_8abf5_0 rfl (lv_at hl 0 rfl) ?_
  refine x_get (j := 0) (k := 3) X hL rfl rfl cs_11 (by decide) tw_3_190 rfl dJ5_length_8abf5_1 ?_
  exact x_iret X hL hr ⟨rfl, rfl⟩ (Nat.le_refl _) (Nat.le_refl _) dJ5_length_8abf5_4
theorem dJ4_length_8abf5_0 : decode cJ4_length_8abf5 0 = .ok (.aload_n 0, 1) := by decide +kernel
theorem dJ4_length_8abf5_1 : decode cJ4_length_8abf5 1 = .ok (.invokespecial 343, 3) := by decide +kernel
theorem dJ4_length_8abf5_4 : decode cJ4_length_8abf5 4 = .ok (.ireturn, 1) := by decide +kernel
theorem ms_J4_length_8abf5 : MSt yJ4_length_8abf5 cJ4_length_8abf5 1 (some .int) 0 := ⟨tw_4_116, tw_1_18, by decide, by decide, by decide +kernel⟩
set_option maxHeartbeats 4000000 in
set_option maxRecDepth 100000 in
theorem k_lenSB {l : Launch} {g : Gh} {Lx : Nat × (Nat → Int32)} {q v : Nat} {n : Int32}  : LMt l Lx g yJ4_length_8abf5 cJ4_length_8abf5 1 (some .int) 1 0 0 [(q, sbE v n)] [.ref q] (fun x nb => x = some (.int n) ∧ nb = [(q, sbE v n)]) := by
  refine lm_start (by decide) (Nat.le_of_ble_eq_true rfl) ?_
  intro p e s m args below meth c ls X hZ hnm hr hl hL
  have hx := X.1
  have hb := X.2.1
  have hown := X.2.2.2.1
  have ht := X.2.2.2.2.1
  have hl : lv_has ls 1 [(0, .ref q)] := hl
  refine lv_aload_n hx hb dJ4_length_8abf5_0 rfl (lv_at hl 0 rfl) ?_
  refine x_callLSU (C := RJ4) (As := []) (rest := []) X hZ [] [(q, sbE v n)] hL ((X.2.2.2.2.2.1.1 11 (RJ4, TJ4, 4) rfl).2) (k_lenA) (va_cwSU (ret := (some .int)) 0 ht (goodSU tw_4_117 tw_4_113 tw_3_199 tw_4_112 tw_1_17 tw_4_118) rfl rfl rfl ⟨by decide, by decide +kernel⟩ ⟨Nat.le_of_ble_eq_true rfl, Nat.le_of_ble_eq_true rfl⟩) (x_recvL (W1 := []) (ws := [(q, sbE v n)]) X hL (j := 0) (ci := 11) rfl rfl) rfl rfl hl.1 (Nat.le_of_ble_eq_true rfl) dJ4_length_8abf5_1 ⟨Nat.le_of_ble_eq_true rfl, Nat.le_of_ble_eq_true rfl⟩ (fun v nb H locs hB hL => ?_)
  obtain ⟨rfl, rfl⟩ := hB
  exact x_iret X hL hr ⟨rfl, rfl⟩ (Nat.le_refl _) (Nat.le_refl _) dJ4_length_8abf5_4
theorem dJ7_checkLength_df160_0 : decode cJ7_checkLength_df160 0 = .ok (.iload_n 1, 1) := by decide +kernel
theorem dJ7_checkLength_df160_1 : decode cJ7_checkLength_df160 1 = .ok (.iload_n 0, 1) := by decide +kernel
theorem dJ7_checkLength_df160_2 : decode cJ7_checkLength_df160 2 = .ok (.if_icmp .ge 35, 3) := by decide +kernel
theorem dJ7_checkLength_df160_5 : decode cJ7_checkLength_df160 5 = .ok (.new 43, 3) := by decide +kernel
theorem dJ7_checkLength_df160_8 : decode cJ7_checkLength_df160 8 = .ok (.dup, 1) := by decide +kernel
theorem dJ7_checkLength_df160_9 : decode cJ7_checkLength_df160 9 = .ok (.new 45, 3) := by decide +kernel
theorem dJ7_checkLength_df160_12 : decode cJ7_checkLength_df160 12 = .ok (.dup, 1) := by decide +kernel
theorem dJ7_checkLength_df160_13 : decode cJ7_checkLength_df160 13 = .ok (.invokespecial 47, 3) := by decide +kernel
theorem dJ7_checkLength_df160_16 : decode cJ7_checkLength_df160 16 = .ok (.iload_n 0, 1) := by decide +kernel
theorem dJ7_checkLength_df160_17 : decode cJ7_checkLength_df160 17 = .ok (.invokevirtual 54, 3) := by decide +kernel
theorem dJ7_checkLength_df160_20 : decode cJ7_checkLength_df160 20 = .ok (.ldc_w 337, 3) := by decide +kernel
theorem dJ7_checkLength_df160_23 : decode cJ7_checkLength_df160 23 = .ok (.invokevirtual 50, 3) := by decide +kernel
theorem dJ7_checkLength_df160_26 : decode cJ7_checkLength_df160 26 = .ok (.iload_n 1, 1) := by decide +kernel
theorem dJ7_checkLength_df160_27 : decode cJ7_checkLength_df160 27 = .ok (.invokevirtual 54, 3) := by decide +kernel
theorem dJ7_checkLength_df160_30 : decode cJ7_checkLength_df160 30 = .ok (.invokevirtual 61, 3) := by decide +kernel
theorem dJ7_checkLength_df160_33 : decode cJ7_checkLength_df160 33 = .ok (.invokespecial 65, 3) := by decide +kernel
theorem dJ7_checkLength_df160_36 : decode cJ7_checkLength_df160 36 = .ok (.athrow, 1) := by decide +kernel
theorem dJ7_checkLength_df160_37 : decode cJ7_checkLength_df160 37 = .ok (.return_, 1) := by decide +kernel
theorem ms_J7_checkLength_df160 : MSt yJ7_checkLength_df160 cJ7_checkLength_df160 2 none 2 := ⟨tw_4_128, tw_1_12, by decide, by decide, by decide +kernel⟩
set_option maxHeartbeats 4000000 in
set_option maxRecDepth 100000 in
theorem k_chkLen {l : Launch} {g : Gh} {Lx : Nat × (Nat → Int32)} {n : Nat} (hn : n ≤ 5000) : LMt l Lx g yJ7_checkLength_df160 cJ7_checkLength_df160 2 none 0 0 0 [] [.int 0, .int (nI n)] (fun x nb => x = none ∧ nb = []) := by
  refine lm_start (by decide) (Nat.le_of_ble_eq_true rfl) ?_
  intro p e s m args below meth c ls X hZ hnm hr hl hL
  have hx := X.1
  have hb := X.2.1
  have hown := X.2.2.2.1
  have ht := X.2.2.2.2.1
  have hl : lv_has ls 2 [(0, .int (0 : Int32)), (1, .int (nI n))] := hl
  refine lv_iload_n hx hb dJ7_checkLength_df160_0 rfl (lv_at hl 1 rfl) ?_
  refine lv_iload_n hx hb dJ7_checkLength_df160_1 rfl (lv_at hl 0 rfl) ?_
  refine lv_icmp_ge (tgt := 37) hx hb dJ7_checkLength_df160_2 (by decide) (fun _ => ?_) (fun z => absurd (show nI 0 ≤ nI n from nI_le (by omega) (by omega)) z)
  exact x_vret X hL hr ⟨rfl, rfl⟩ (Nat.le_refl _) (Nat.le_refl _) dJ7_checkLength_df160_37
theorem dJ7_copyOfRangeByte_39247_0 : decode cJ7_copyOfRangeByte_39247 0 = .ok (.iload_n 1, 1) := by decide +kernel
theorem dJ7_copyOfRangeByte_39247_1 : decode cJ7_copyOfRangeByte_39247 1 = .ok (.iload_n 2, 1) := by decide +kernel
theorem dJ7_copyOfRangeByte_39247_2 : decode cJ7_copyOfRangeByte_39247 2 = .ok (.invokestatic 343, 3) := by decide +kernel
theorem dJ7_copyOfRangeByte_39247_5 : decode cJ7_copyOfRangeByte_39247 5 = .ok (.iload_n 2, 1) := by decide +kernel
theorem dJ7_copyOfRangeByte_39247_6 : decode cJ7_copyOfRangeByte_39247 6 = .ok (.iload_n 1, 1) := by decide +kernel
theorem dJ7_copyOfRangeByte_39247_7 : decode cJ7_copyOfRangeByte_39247 7 = .ok (.isub, 1) := by decide +kernel
theorem dJ7_copyOfRangeByte_39247_8 : decode cJ7_copyOfRangeByte_39247 8 = .ok (.istore_n 3, 1) := by decide +kernel
theorem dJ7_copyOfRangeByte_39247_9 : decode cJ7_copyOfRangeByte_39247 9 = .ok (.iload_n 3, 1) := by decide +kernel
theorem dJ7_copyOfRangeByte_39247_10 : decode cJ7_copyOfRangeByte_39247 10 = .ok (.newarray .byte, 2) := by decide +kernel
theorem dJ7_copyOfRangeByte_39247_12 : decode cJ7_copyOfRangeByte_39247 12 = .ok (.astore 4, 2) := by decide +kernel
theorem dJ7_copyOfRangeByte_39247_14 : decode cJ7_copyOfRangeByte_39247 14 = .ok (.aload_n 0, 1) := by decide +kernel
theorem dJ7_copyOfRangeByte_39247_15 : decode cJ7_copyOfRangeByte_39247 15 = .ok (.iload_n 1, 1) := by decide +kernel
theorem dJ7_copyOfRangeByte_39247_16 : decode cJ7_copyOfRangeByte_39247 16 = .ok (.aload 4, 2) := by decide +kernel
theorem dJ7_copyOfRangeByte_39247_18 : decode cJ7_copyOfRangeByte_39247 18 = .ok (.iconst 0, 1) := by decide +kernel
theorem dJ7_copyOfRangeByte_39247_19 : decode cJ7_copyOfRangeByte_39247 19 = .ok (.aload_n 0, 1) := by decide +kernel
theorem dJ7_copyOfRangeByte_39247_20 : decode cJ7_copyOfRangeByte_39247 20 = .ok (.arraylength, 1) := by decide +kernel
theorem dJ7_copyOfRangeByte_39247_21 : decode cJ7_copyOfRangeByte_39247 21 = .ok (.iload_n 1, 1) := by decide +kernel
theorem dJ7_copyOfRangeByte_39247_22 : decode cJ7_copyOfRangeByte_39247 22 = .ok (.isub, 1) := by decide +kernel
theorem dJ7_copyOfRangeByte_39247_23 : decode cJ7_copyOfRangeByte_39247 23 = .ok (.iload_n 3, 1) := by decide +kernel
theorem dJ7_copyOfRangeByte_39247_24 : decode cJ7_copyOfRangeByte_39247 24 = .ok (.invokestatic 304, 3) := by decide +kernel
theorem dJ7_copyOfRangeByte_39247_27 : decode cJ7_copyOfRangeByte_39247 27 = .ok (.invokestatic 150, 3) := by decide +kernel
theorem dJ7_copyOfRangeByte_39247_30 : decode cJ7_copyOfRangeByte_39247 30 = .ok (.aload 4, 2) := by decide +kernel
theorem dJ7_copyOfRangeByte_39247_32 : decode cJ7_copyOfRangeByte_39247 32 = .ok (.areturn, 1) := by decide +kernel
theorem ms_J7_copyOfRangeByte_39247 : MSt yJ7_copyOfRangeByte_39247 cJ7_copyOfRangeByte_39247 5 (some (.array .byte)) 3 := ⟨tw_4_125, tw_1_12, by decide, by decide, by decide +kernel⟩
set_option maxHeartbeats 4000000 in
set_option maxRecDepth 100000 in
theorem k_corB {l : Launch} {g : Gh} {Lx : Nat × (Nat → Int32)} {v m0 n : Nat} {f : Nat → Int32} (hn : n ≤ 5000) (hm0 : m0 ≤ 5000) (hm : n ≤ m0) (hf : BF m0 f) : LMt l Lx g yJ7_copyOfRangeByte_39247 cJ7_copyOfRangeByte_39247 5 (some (.array .byte)) 1 1 5000 [(v, ba g m0 f)] [.ref v, .int 0, .int (nI n)] (fun x nb => ∃ r f2, x = some (.ref r) ∧ nb = [(v, ba g m0 f), (r, ba g n f2)] ∧ ∀ j, j < n → f2 j = f j) := by
  refine lm_start (by decide) (Nat.le_of_ble_eq_true rfl) ?_
  intro p e s m args below meth c ls X hZ hnm hr hl hL
  have hx := X.1
  have hb := X.2.1
  have hown := X.2.2.2.1
  have ht := X.2.2.2.2.1
  have hl : lv_has ls 5 [(0, .ref v), (1, .int (0 : Int32)), (2, .int (nI n))] := hl
  refine lv_iload_n hx hb dJ7_copyOfRangeByte_39247_0 rfl (lv_at hl 1 rfl) ?_
  refine lv_iload_n hx hb dJ7_copyOfRangeByte_39247_1 rfl (lv_at hl 2 rfl) ?_
  refine x_callLS (As := [.int (0 : Int32), .int (nI n)]) (rest := []) X hZ [(v, ba g m0 f)] [] hL (k_chkLen hn) tw_4_126 ms_J7_checkLength_df160 tw_4_127 ⟨Nat.le_of_ble_eq_true rfl, Nat.le_of_ble_eq_true rfl⟩ rfl rfl hl.1 (Nat.le_of_ble_eq_true rfl) dJ7_copyOfRangeByte_39247_2 ⟨Nat.le_of_ble_eq_true rfl, Nat.le_of_ble_eq_true rfl⟩ (fun v nb H locs hB hL => ?_)
  obtain ⟨rfl, rfl⟩ := hB
  rw [List.append_nil] at hL
  refine lv_iload_n hx hb dJ7_copyOfRangeByte_39247_5 rfl (lv_at hl 2 rfl) ?_
  refine lv_iload_n hx hb dJ7_copyOfRangeByte_39247_6 rfl (lv_at hl 1 rfl) ?_
  refine lv_isub hx hb dJ7_copyOfRangeByte_39247_7 ?_
  rw [show nI n - (0 : Int32) = nI n from j_sub (b := 0) (Nat.zero_le _)]
  refine lv_istore_n (lv' := [(3, .int (nI n)), (0, .ref v), (1, .int (0 : Int32)), (2, .int (nI n))]) hx hb dJ7_copyOfRangeByte_39247_8 rfl hl (by decide) rfl (fun ls hl => ?_)
  refine lv_iload_n hx hb dJ7_copyOfRangeByte_39247_9 rfl (lv_at hl 0 rfl) ?_
  refine x_nbyte X hL (N := n) (j_neg (by omega)) (j_cl (by omega)) (by omega) (Nat.le_of_ble_eq_true rfl) (by show 0 + n ≤ 5000; omega) dJ7_copyOfRangeByte_39247_10 (fun r H hL => ?_)
  have hL : LW g (va_A [(v, ba g m0 f)] s.heap.size) [(v, ba g m0 f), (r, ba g n (fun _ => 0))] s.heap H locs := hL
  refine lv_astore (lv' := [(4, .ref r), (3, .int (nI n)), (0, .ref v), (1, .int (0 : Int32)), (2, .int (nI n))]) hx hb dJ7_copyOfRangeByte_39247_12 hl (by decide) rfl (fun ls hl => ?_)
  refine lv_aload_n hx hb dJ7_copyOfRangeByte_39247_14 rfl (lv_at hl 2 rfl) ?_
  refine lv_iload_n hx hb dJ7_copyOfRangeByte_39247_15 rfl (lv_at hl 3 rfl) ?_
  refine lv_aload hx hb dJ7_copyOfRangeByte_39247_16 (lv_at hl 0 rfl) ?_
  refine lv_iconst (v := (0 : Int32)) hx hb dJ7_copyOfRangeByte_39247_18 (by decide) ?_
  refine lv_aload_n hx hb dJ7_copyOfRangeByte_39247_19 rfl (lv_at hl 2 rfl) ?_
  refine x_alenB (k := 0) X hL rfl dJ7_copyOfRangeByte_39247_20 ?_
  refine lv_iload_n hx hb dJ7_copyOfRangeByte_39247_21 rfl (lv_at hl 3 rfl) ?_
  refine lv_isub hx hb dJ7_copyOfRangeByte_39247_22 ?_
  rw [show nI m0 - (0 : Int32) = nI m0 from j_sub (b := 0) (Nat.zero_le _)]
  refine lv_iload_n hx hb dJ7_copyOfRangeByte_39247_23 rfl (lv_at hl 1 rfl) ?_
  refine va_mmin hx hb (X.2.2.1.trans hl.1.symm) hown (ht _ tw_4_9) (ht _ tw_1_86) (ht _ tw_1_5) (ht _ tw_1_87) (Nat.le_of_ble_eq_true rfl) (Nat.le_of_ble_eq_true rfl) (Nat.le_refl _) (by show 0 + n ≤ 5000; omega) dJ7_copyOfRangeByte_39247_24 ?_
  rw [show (if nI n < nI m0 then nI n else nI m0) = nI n from by rw [j_mn m0 n (by omega) (by omega), Nat.min_eq_right hm]]
  refine x_bcopy (j := 0) (k := 1) (a := v) (b := r) (rest := []) X hL rfl rfl tw_4_10 (by decide) (by decide) (j_neg (by omega)) (by rw [j_cl (by omega)]; show 0 + n ≤ m0; omega) (by rw [j_cl (by omega)]; exact Nat.le_of_eq (Nat.zero_add _)) (fun i hi => hf _ (by rw [j_cl (by omega)] at hi; show 0 + i < m0; omega)) hl.1 (Nat.le_of_ble_eq_true rfl) (Nat.le_of_ble_eq_true rfl) dJ7_copyOfRangeByte_39247_27 rfl (fun H locs hL => ?_)
  rw [j_cl (by omega)] at hL
  refine lv_aload hx hb dJ7_copyOfRangeByte_39247_30 (lv_at hl 0 rfl) ?_
  refine x_aret X hL hr (Or.inr ⟨_, rfl⟩) ⟨r, _, rfl, rfl, fun j hj => ?_⟩ (Nat.le_refl _) (by show 0 + n ≤ 5000; omega) dJ7_copyOfRangeByte_39247_32
  show (if 0 ≤ j ∧ j < 0 + n then f (0 + (j - 0)) else 0) = f j
  rw [if_pos ⟨by omega, by omega⟩, Nat.sub_zero, Nat.zero_add]
theorem cell_at {cA : ClassId} {n i : Nat} {f : Nat → Int32} {w : Value} (h : (vp_cell cA (n, .inl f)).slots[i]? = some w) : ∃ _ : i < n, w = .int (f i) := by
  have h2 : (arrV cA n (fun j => .int (f j))).slots[i]? = some w := h
  have hlt : i < n := by have := (Array.getElem?_eq_some_iff.mp h2).1; rw [arrV_size] at this; exact this
  rw [arrV_read _ _ hlt] at h2
  exact ⟨hlt, (Option.some.inj h2).symm⟩
theorem dJ7_copyOfRange_39247_0 : decode cJ7_copyOfRange_39247 0 = .ok (.iload_n 1, 1) := by decide +kernel
theorem dJ7_copyOfRange_39247_1 : decode cJ7_copyOfRange_39247 1 = .ok (.ifCond .ne 9, 3) := by decide +kernel
theorem dJ7_copyOfRange_39247_4 : decode cJ7_copyOfRange_39247 4 = .ok (.iload_n 2, 1) := by decide +kernel
theorem dJ7_copyOfRange_39247_5 : decode cJ7_copyOfRange_39247 5 = .ok (.aload_n 0, 1) := by decide +kernel
theorem dJ7_copyOfRange_39247_6 : decode cJ7_copyOfRange_39247 6 = .ok (.arraylength, 1) := by decide +kernel
theorem dJ7_copyOfRange_39247_7 : decode cJ7_copyOfRange_39247 7 = .ok (.if_icmp .eq 10, 3) := by decide +kernel
theorem dJ7_copyOfRange_39247_10 : decode cJ7_copyOfRange_39247 10 = .ok (.aload_n 0, 1) := by decide +kernel
theorem dJ7_copyOfRange_39247_11 : decode cJ7_copyOfRange_39247 11 = .ok (.iload_n 1, 1) := by decide +kernel
theorem dJ7_copyOfRange_39247_12 : decode cJ7_copyOfRange_39247 12 = .ok (.iload_n 2, 1) := by decide +kernel
theorem dJ7_copyOfRange_39247_13 : decode cJ7_copyOfRange_39247 13 = .ok (.invokestatic 339, 3) := by decide +kernel
theorem dJ7_copyOfRange_39247_16 : decode cJ7_copyOfRange_39247 16 = .ok (.areturn, 1) := by decide +kernel
theorem dJ7_copyOfRange_39247_17 : decode cJ7_copyOfRange_39247 17 = .ok (.aload_n 0, 1) := by decide +kernel
theorem dJ7_copyOfRange_39247_18 : decode cJ7_copyOfRange_39247 18 = .ok (.invokevirtual 310, 3) := by decide +kernel
theorem dJ7_copyOfRange_39247_21 : decode cJ7_copyOfRange_39247 21 = .ok (.checkcast 311, 3) := by decide +kernel
theorem dJ7_copyOfRange_39247_24 : decode cJ7_copyOfRange_39247 24 = .ok (.areturn, 1) := by decide +kernel
theorem ms_J7_copyOfRange_39247 : MSt yJ7_copyOfRange_39247 cJ7_copyOfRange_39247 3 (some (.array .byte)) 3 := ⟨tw_4_122, tw_1_12, by decide, by decide, by decide +kernel⟩
set_option maxHeartbeats 4000000 in
set_option maxRecDepth 100000 in
theorem k_cor {l : Launch} {g : Gh} {Lx : Nat × (Nat → Int32)} {v m0 n : Nat} {f : Nat → Int32} (hn : n ≤ 5000) (hm0 : m0 ≤ 5000) (hm : n ≤ m0) (hf : BF m0 f) : LMt l Lx g yJ7_copyOfRange_39247 cJ7_copyOfRange_39247 3 (some (.array .byte)) 2 1 5000 [(v, ba g m0 f)] [.ref v, .int 0, .int (nI n)] (fun x nb => ∃ r f2, x = some (.ref r) ∧ nb = [(v, ba g m0 f), (r, ba g n f2)] ∧ ∀ j, j < n → f2 j = f j) := by
  refine lm_start (by decide) (Nat.le_of_ble_eq_true rfl) ?_
  intro p e s m args below meth c ls X hZ hnm hr hl hL
  have hx := X.1
  have hb := X.2.1
  have hown := X.2.2.2.1
  have ht := X.2.2.2.2.1
  have hl : lv_has ls 3 [(0, .ref v), (1, .int (0 : Int32)), (2, .int (nI n))] := hl
  refine lv_iload_n hx hb dJ7_copyOfRange_39247_0 rfl (lv_at hl 1 rfl) ?_
  refine lv_if_ne (tgt := 10) hx hb dJ7_copyOfRange_39247_1 (by decide) (fun z => absurd z (fun h => h rfl)) (fun _ => ?_)
  refine lv_iload_n hx hb dJ7_copyOfRange_39247_4 rfl (lv_at hl 2 rfl) ?_
  refine lv_aload_n hx hb dJ7_copyOfRange_39247_5 rfl (lv_at hl 0 rfl) ?_
  refine x_alenB (k := 0) X hL rfl dJ7_copyOfRange_39247_6 ?_
  by_cases hnm : n = m0
  · subst hnm
    refine lv_icmp_eq (tgt := 17) hx hb dJ7_copyOfRange_39247_7 (by decide) (fun _ => ?_) (fun q => absurd rfl q)
    refine lv_aload_n hx hb dJ7_copyOfRange_39247_17 rfl (lv_at hl 0 rfl) ?_
    have hB0 : s.vm.findClass "[B" = some (g.2.1 2) := (X.2.2.2.2.2.1.2 2 (g.2.1 2, .byte) rfl).2
    refine va_clone hx hb (X.2.2.1.trans hl.1.symm) hown (ht _ tw_4_2) (ht _ tw_4_3) (ht _ tw_4_4) (ht _ tw_4_5) (ht _ tw_4_6) hZ.2.2.1 X.2.2.2.2.2.1 hL.1 hL.2.1 hL.2.2.1 hL.2.2.2 0 2 (cA := g.2.1 2) (x := (n, .inl f)) rfl rfl hB0 (fun i w hw => ?_) (Nat.le_of_ble_eq_true rfl) (Nat.le_of_ble_eq_true rfl) (Nat.le_of_ble_eq_true rfl) (by show 0 + n ≤ 5000; omega) dJ7_copyOfRange_39247_18 (fun r H h0 h1 h2 h3 => ?_)
    · obtain ⟨i1, rfl⟩ := cell_at hw
      exact hf i i1
    have hL : LW g (va_A [(v, ba g n f)] s.heap.size) [(v, ba g n f), (r, ba g n f)] s.heap H [] := ⟨h1, h2, h3, hL.2.2.2⟩
    refine va_castA hx hb hown (ht _ tw_4_8) hL.1 1 (cA := g.2.1 2) (x := (n, .inl f)) rfl hB0 dJ7_copyOfRange_39247_21 ?_
    exact x_aret X hL hr (Or.inr ⟨_, rfl⟩) ⟨r, f, rfl, rfl, fun _ _ => rfl⟩ (Nat.le_refl _) (by show 0 + n ≤ 5000; omega) dJ7_copyOfRange_39247_24
  · refine lv_icmp_eq (tgt := 17) hx hb dJ7_copyOfRange_39247_7 (by decide) (fun q => absurd ((nI_eq (by omega) (by omega)).mp q) hnm) (fun _ => ?_)
    refine lv_aload_n hx hb dJ7_copyOfRange_39247_10 rfl (lv_at hl 0 rfl) ?_
    refine lv_iload_n hx hb dJ7_copyOfRange_39247_11 rfl (lv_at hl 1 rfl) ?_
    refine lv_iload_n hx hb dJ7_copyOfRange_39247_12 rfl (lv_at hl 2 rfl) ?_
    refine x_callLS (As := [.ref v, .int (0 : Int32), .int (nI n)]) (rest := []) X hZ [] [(v, ba g m0 f)] hL (k_corB hn hm0 hm hf) tw_4_123 ms_J7_copyOfRangeByte_39247 tw_4_124 ⟨Nat.le_of_ble_eq_true rfl, Nat.le_of_ble_eq_true rfl⟩ rfl rfl hl.1 (Nat.le_of_ble_eq_true rfl) dJ7_copyOfRange_39247_13 ⟨Nat.le_of_ble_eq_true rfl, Nat.le_of_ble_eq_true rfl⟩ (fun v nb H locs hB hL => ?_)
    obtain ⟨r, f2, rfl, rfl, e1⟩ := hB
    exact x_aret X hL hr (Or.inr ⟨_, rfl⟩) ⟨r, f2, rfl, rfl, e1⟩ (Nat.le_refl _) (Nat.le_refl _) dJ7_copyOfRange_39247_16
theorem dJ0_init_db425_0 : decode cJ0_init_db425 0 = .ok (.aload_n 0, 1) := by decide +kernel
theorem dJ0_init_db425_1 : decode cJ0_init_db425 1 = .ok (.invokespecial 1, 3) := by decide +kernel
theorem dJ0_init_db425_4 : decode cJ0_init_db425 4 = .ok (.aload_n 1, 1) := by decide +kernel
theorem dJ0_init_db425_5 : decode cJ0_init_db425 5 = .ok (.invokevirtual 552, 3) := by decide +kernel
theorem dJ0_init_db425_8 : decode cJ0_init_db425 8 = .ok (.astore_n 3, 1) := by decide +kernel
theorem dJ0_init_db425_9 : decode cJ0_init_db425 9 = .ok (.aload_n 1, 1) := by decide +kernel
theorem dJ0_init_db425_10 : decode cJ0_init_db425 10 = .ok (.invokevirtual 549, 3) := by decide +kernel
theorem dJ0_init_db425_13 : decode cJ0_init_db425 13 = .ok (.istore 4, 2) := by decide +kernel
theorem dJ0_init_db425_15 : decode cJ0_init_db425 15 = .ok (.aload_n 1, 1) := by decide +kernel
theorem dJ0_init_db425_16 : decode cJ0_init_db425 16 = .ok (.invokevirtual 1047, 3) := by decide +kernel
theorem dJ0_init_db425_19 : decode cJ0_init_db425 19 = .ok (.ifCond .eq 22, 3) := by decide +kernel
theorem dJ0_init_db425_22 : decode cJ0_init_db425 22 = .ok (.aload_n 0, 1) := by decide +kernel
theorem dJ0_init_db425_23 : decode cJ0_init_db425 23 = .ok (.iconst 0, 1) := by decide +kernel
theorem dJ0_init_db425_24 : decode cJ0_init_db425 24 = .ok (.putfield 15, 3) := by decide +kernel
theorem dJ0_init_db425_27 : decode cJ0_init_db425 27 = .ok (.aload_n 0, 1) := by decide +kernel
theorem dJ0_init_db425_28 : decode cJ0_init_db425 28 = .ok (.aload_n 3, 1) := by decide +kernel
theorem dJ0_init_db425_29 : decode cJ0_init_db425 29 = .ok (.iconst 0, 1) := by decide +kernel
theorem dJ0_init_db425_30 : decode cJ0_init_db425 30 = .ok (.iload 4, 2) := by decide +kernel
theorem dJ0_init_db425_32 : decode cJ0_init_db425 32 = .ok (.invokestatic 54, 3) := by decide +kernel
theorem dJ0_init_db425_35 : decode cJ0_init_db425 35 = .ok (.putfield 9, 3) := by decide +kernel
theorem dJ0_init_db425_38 : decode cJ0_init_db425 38 = .ok (.goto 59, 3) := by decide +kernel
theorem dJ0_init_db425_41 : decode cJ0_init_db425 41 = .ok (.getstatic 38, 3) := by decide +kernel
theorem dJ0_init_db425_44 : decode cJ0_init_db425 44 = .ok (.ifCond .eq 35, 3) := by decide +kernel
theorem dJ0_init_db425_47 : decode cJ0_init_db425 47 = .ok (.aload_n 1, 1) := by decide +kernel
theorem dJ0_init_db425_48 : decode cJ0_init_db425 48 = .ok (.getfield 1048, 3) := by decide +kernel
theorem dJ0_init_db425_51 : decode cJ0_init_db425 51 = .ok (.ifCond .eq 28, 3) := by decide +kernel
theorem dJ0_init_db425_54 : decode cJ0_init_db425 54 = .ok (.aload_n 0, 1) := by decide +kernel
theorem dJ0_init_db425_55 : decode cJ0_init_db425 55 = .ok (.aload_n 3, 1) := by decide +kernel
theorem dJ0_init_db425_56 : decode cJ0_init_db425 56 = .ok (.iconst 0, 1) := by decide +kernel
theorem dJ0_init_db425_57 : decode cJ0_init_db425 57 = .ok (.iload 4, 2) := by decide +kernel
theorem dJ0_init_db425_59 : decode cJ0_init_db425 59 = .ok (.invokestatic 1051, 3) := by decide +kernel
theorem dJ0_init_db425_62 : decode cJ0_init_db425 62 = .ok (.putfield 9, 3) := by decide +kernel
theorem dJ0_init_db425_65 : decode cJ0_init_db425 65 = .ok (.aload_n 0, 1) := by decide +kernel
theorem dJ0_init_db425_66 : decode cJ0_init_db425 66 = .ok (.aload_n 0, 1) := by decide +kernel
theorem dJ0_init_db425_67 : decode cJ0_init_db425 67 = .ok (.getfield 9, 3) := by decide +kernel
theorem dJ0_init_db425_70 : decode cJ0_init_db425 70 = .ok (.iload 4, 2) := by decide +kernel
theorem dJ0_init_db425_72 : decode cJ0_init_db425 72 = .ok (.invokestatic 47, 3) := by decide +kernel
theorem dJ0_init_db425_75 : decode cJ0_init_db425 75 = .ok (.putfield 15, 3) := by decide +kernel
theorem dJ0_init_db425_78 : decode cJ0_init_db425 78 = .ok (.return_, 1) := by decide +kernel
theorem dJ0_init_db425_79 : decode cJ0_init_db425 79 = .ok (.aload_n 0, 1) := by decide +kernel
theorem dJ0_init_db425_80 : decode cJ0_init_db425 80 = .ok (.iconst 1, 1) := by decide +kernel
theorem dJ0_init_db425_81 : decode cJ0_init_db425 81 = .ok (.putfield 15, 3) := by decide +kernel
theorem dJ0_init_db425_84 : decode cJ0_init_db425 84 = .ok (.aload_n 0, 1) := by decide +kernel
theorem dJ0_init_db425_85 : decode cJ0_init_db425 85 = .ok (.aload_n 3, 1) := by decide +kernel
theorem dJ0_init_db425_86 : decode cJ0_init_db425 86 = .ok (.iconst 0, 1) := by decide +kernel
theorem dJ0_init_db425_87 : decode cJ0_init_db425 87 = .ok (.iload 4, 2) := by decide +kernel
theorem dJ0_init_db425_89 : decode cJ0_init_db425 89 = .ok (.iconst 1, 1) := by decide +kernel
theorem dJ0_init_db425_90 : decode cJ0_init_db425 90 = .ok (.ishl, 1) := by decide +kernel
theorem dJ0_init_db425_91 : decode cJ0_init_db425 91 = .ok (.invokestatic 54, 3) := by decide +kernel
theorem dJ0_init_db425_94 : decode cJ0_init_db425 94 = .ok (.putfield 9, 3) := by decide +kernel
theorem dJ0_init_db425_97 : decode cJ0_init_db425 97 = .ok (.return_, 1) := by decide +kernel
theorem ms_J0_init_db425 : MSt yJ0_init_db425 cJ0_init_db425 5 none 2 := ⟨tw_4_104, tw_1_19, by decide, by decide, by decide +kernel⟩
set_option maxHeartbeats 4000000 in
set_option maxRecDepth 100000 in
theorem k_stA {l : Launch} {g : Gh} {Lx : Nat × (Nat → Int32)} {r q v m0 n : Nat} {f : Nat → Int32} (hn : n ≤ 5000) (hm0 : m0 ≤ 5000) (hm : n ≤ m0) (hf : BF m0 f) : LMt l Lx g yJ0_init_db425 cJ0_init_db425 5 none 3 1 5000 [(r, stD), (q, sbE v (nI n)), (v, ba g m0 f)] [.ref r, .ref q, .null] (fun x nb => x = none ∧ ∃ y f2, nb = [(r, stE y), (y, ba g n f2)] ∧ ∀ j, j < n → f2 j = f j) := by
  refine lm_start (by decide) (Nat.le_of_ble_eq_true rfl) ?_
  intro p e s m args below meth c ls X hZ hnm hr hl hL
  have hx := X.1
  have hb := X.2.1
  have hown := X.2.2.2.1
  have ht := X.2.2.2.2.1
  have hl : lv_has ls 5 [(0, .ref r), (1, .ref q), (2, .null)] := hl
  have hinit : meth.name = "<init>" := hnm
  have hL : LW g (va_A [(r, stD), (q, sbE v (nI n)), (v, ba g m0 f)] s.heap.size) [(v, ba g m0 f), (r, stD), (q, sbE v (nI n))] s.heap s.heap [] := hL.perm (List.perm_append_comm (l₁ := [(v, ba g m0 f)]) (l₂ := [(r, stD), (q, sbE v (nI n))]))
  refine lv_aload_n hx hb dJ0_init_db425_0 rfl (lv_at hl 0 rfl) ?_
  refine x_obj X tw_4_105 tw_1_34 tw_1_35 hl.1 (Nat.le_of_ble_eq_true rfl) (Nat.le_of_ble_eq_true rfl) dJ0_init_db425_1 ?_
  refine lv_aload_n hx hb dJ0_init_db425_4 rfl (lv_at hl 1 rfl) ?_
  refine x_callLU (As := []) (rest := []) X hZ [(v, ba g m0 f), (r, stD)] [(q, sbE v (nI n))] hL (k_getVal) (va_cwU (C := RJ4) (owner := "java/lang/AbstractStringBuilder") (x := yJ5_getValue_6d5f1) (ret := (some (.array .byte))) 0 ht (goodU tw_4_106 tw_4_108 tw_4_109 tw_4_107 tw_1_17 tw_4_110) rfl rfl rfl rfl ⟨by decide, by decide, by decide +kernel⟩ ⟨Nat.le_of_ble_eq_true rfl, Nat.le_of_ble_eq_true rfl⟩) (x_recvL (W1 := [(v, ba g m0 f), (r, stD)]) (ws := [(q, sbE v (nI n))]) X hL (j := 0) (ci := 11) rfl rfl) rfl rfl hl.1 (Nat.le_of_ble_eq_true rfl) dJ0_init_db425_5 ⟨Nat.le_of_ble_eq_true rfl, Nat.le_of_ble_eq_true rfl⟩ (fun v nb H locs hB hL => ?_)
  obtain ⟨rfl, rfl⟩ := hB
  refine lv_astore_n (lv' := [(3, .ref v), (0, .ref r), (1, .ref q), (2, .null)]) hx hb dJ0_init_db425_8 rfl hl (by decide) rfl (fun ls hl => ?_)
  refine lv_aload_n hx hb dJ0_init_db425_9 rfl (lv_at hl 2 rfl) ?_
  refine x_callLU (As := []) (rest := []) X hZ [(v, ba g m0 f), (r, stD)] [(q, sbE v (nI n))] hL (k_lenSB) (va_cwO (C := RJ4) (owner := "java/lang/AbstractStringBuilder") (x := yJ5_length_8abf5) (ret := (some .int)) 0 ht (goodO tw_4_111 tw_4_113 tw_4_112 tw_4_114 tw_4_115 tw_1_18 tw_4_116) rfl rfl rfl tw_4_118 ⟨by decide, by decide, by decide +kernel⟩ ⟨Nat.le_of_ble_eq_true rfl, Nat.le_of_ble_eq_true rfl⟩) (x_recvL (W1 := [(v, ba g m0 f), (r, stD)]) (ws := [(q, sbE v (nI n))]) X hL (j := 0) (ci := 11) rfl rfl) rfl rfl hl.1 (Nat.le_of_ble_eq_true rfl) dJ0_init_db425_10 ⟨Nat.le_of_ble_eq_true rfl, Nat.le_of_ble_eq_true rfl⟩ (fun v nb H locs hB hL => ?_)
  obtain ⟨rfl, rfl⟩ := hB
  refine lv_istore (lv' := [(4, .int (nI n)), (3, .ref v), (0, .ref r), (1, .ref q), (2, .null)]) hx hb dJ0_init_db425_13 hl (by decide) rfl (fun ls hl => ?_)
  refine lv_aload_n hx hb dJ0_init_db425_15 rfl (lv_at hl 3 rfl) ?_
  refine x_callLU (As := []) (rest := []) X hZ [(v, ba g m0 f), (r, stD)] [(q, sbE v (nI n))] hL (k_isLat) (va_cwU (C := RJ4) (owner := "java/lang/AbstractStringBuilder") (x := yJ5_isLatin1_aae02) (ret := (some .boolean)) 0 ht (goodU tw_4_119 tw_4_13 tw_4_14 tw_4_12 tw_1_17 tw_4_15) rfl rfl rfl rfl ⟨by decide, by decide, by decide +kernel⟩ ⟨Nat.le_of_ble_eq_true rfl, Nat.le_of_ble_eq_true rfl⟩) (x_recvL (W1 := [(v, ba g m0 f), (r, stD)]) (ws := [(q, sbE v (nI n))]) X hL (j := 0) (ci := 11) rfl rfl) rfl rfl hl.1 (Nat.le_of_ble_eq_true rfl) dJ0_init_db425_16 ⟨Nat.le_of_ble_eq_true rfl, Nat.le_of_ble_eq_true rfl⟩ (fun v nb H locs hB hL => ?_)
  obtain ⟨rfl, rfl⟩ := hB
  refine lv_if_eq (tgt := 41) hx hb dJ0_init_db425_19 (by decide) (fun z => absurd z (by decide)) (fun _ => ?_)
  have hL : LW g (va_A [(r, stD), (q, sbE v (nI n)), (v, ba g m0 f)] s.heap.size) [(v, ba g m0 f), (r, stD), (q, sbE v (nI n))] s.heap H locs := hL
  refine lv_aload_n hx hb dJ0_init_db425_22 rfl (lv_at hl 2 rfl) ?_
  refine lv_iconst (v := (0 : Int32)) hx hb dJ0_init_db425_23 (by decide) ?_
  refine x_putF (j := 1) (k := 1) (ty := .byte) X hL hinit rfl rfl cs_10 (by decide) tw_4_140 rfl rfl rfl (by decide +kernel) rfl rfl (Nat.le_of_ble_eq_true rfl) rfl dJ0_init_db425_24 (fun H locs hL => ?_)
  have hL : LW g (va_A [(r, stD), (q, sbE v (nI n)), (v, ba g m0 f)] s.heap.size) [(v, ba g m0 f), (r, stD), (q, sbE v (nI n))] s.heap H locs := hL
  have hL : LW g (va_A [(r, stD), (q, sbE v (nI n)), (v, ba g m0 f)] s.heap.size) [(r, stD), (q, sbE v (nI n)), (v, ba g m0 f)] s.heap H locs := hL.perm (List.perm_append_comm (l₁ := [(r, stD), (q, sbE v (nI n))]) (l₂ := [(v, ba g m0 f)]))
  refine lv_aload_n hx hb dJ0_init_db425_27 rfl (lv_at hl 2 rfl) ?_
  refine lv_aload_n hx hb dJ0_init_db425_28 rfl (lv_at hl 1 rfl) ?_
  refine lv_iconst (v := (0 : Int32)) hx hb dJ0_init_db425_29 (by decide) ?_
  refine lv_iload hx hb dJ0_init_db425_30 (lv_at hl 0 rfl) ?_
  refine x_callLS (As := [.ref v, .int (0 : Int32), .int (nI n)]) (rest := [.ref r]) X hZ [(r, stD), (q, sbE v (nI n))] [(v, ba g m0 f)] hL (k_cor hn hm0 hm hf) tw_4_120 ms_J7_copyOfRange_39247 tw_4_121 ⟨Nat.le_of_ble_eq_true rfl, Nat.le_of_ble_eq_true rfl⟩ rfl rfl hl.1 (Nat.le_of_ble_eq_true rfl) dJ0_init_db425_32 ⟨Nat.le_of_ble_eq_true rfl, Nat.le_of_ble_eq_true rfl⟩ (fun v nb H locs hB hL => ?_)
  obtain ⟨x, f2, rfl, rfl, e1⟩ := hB
  have hL : LW g (va_A [(r, stD), (q, sbE v (nI n)), (v, ba g m0 f)] s.heap.size) [(r, stD), (q, sbE v (nI n)), (v, ba g m0 f), (x, ba g n f2)] s.heap H locs := hL
  refine x_putF (j := 0) (k := 0) (ty := .array .byte) X hL hinit rfl rfl cs_10 (by decide) tw_4_139 rfl rfl rfl (by decide +kernel) rfl rfl (Nat.le_of_ble_eq_true rfl) rfl dJ0_init_db425_35 (fun H locs hL => ?_)
  have hL : LW g (va_A [(r, stD), (q, sbE v (nI n)), (v, ba g m0 f)] s.heap.size) [(r, stE x), (q, sbE v (nI n)), (v, ba g m0 f), (x, ba g n f2)] s.heap H locs := hL
  refine lv_goto (tgt := 97) hx hb dJ0_init_db425_38 (by decide) ?_
  exact x_vret X (hL.subl ((((List.Sublist.refl _).cons _).cons _).cons_cons _)) hr ⟨rfl, x, f2, rfl, e1⟩ (Nat.le_refl _) (Nat.le_refl _) dJ0_init_db425_97
theorem dJ0_init_81219_0 : decode cJ0_init_81219 0 = .ok (.aload_n 0, 1) := by decide +kernel
theorem dJ0_init_81219_1 : decode cJ0_init_81219 1 = .ok (.aload_n 1, 1) := by decide +kernel
theorem dJ0_init_81219_2 : decode cJ0_init_81219 2 = .ok (.aconst_null, 1) := by decide +kernel
theorem dJ0_init_81219_3 : decode cJ0_init_81219 3 = .ok (.invokespecial 489, 3) := by decide +kernel
theorem dJ0_init_81219_6 : decode cJ0_init_81219 6 = .ok (.return_, 1) := by decide +kernel
theorem ms_J0_init_81219 : MSt yJ0_init_81219 cJ0_init_81219 2 none 1 := ⟨tw_4_101, tw_1_19, by decide, by decide, by decide +kernel⟩
set_option maxHeartbeats 4000000 in
set_option maxRecDepth 100000 in
theorem k_st {l : Launch} {g : Gh} {Lx : Nat × (Nat → Int32)} {r q v m0 n : Nat} {f : Nat → Int32} (hn : n ≤ 5000) (hm0 : m0 ≤ 5000) (hm : n ≤ m0) (hf : BF m0 f) : LMt l Lx g yJ0_init_81219 cJ0_init_81219 2 none 4 1 5000 [(r, stD), (q, sbE v (nI n)), (v, ba g m0 f)] [.ref r, .ref q] (fun x nb => x = none ∧ ∃ y f2, nb = [(r, stE y), (y, ba g n f2)] ∧ ∀ j, j < n → f2 j = f j) := by
  refine lm_start (by decide) (Nat.le_of_ble_eq_true rfl) ?_
  intro p e s m args below meth c ls X hZ hnm hr hl hL
  have hx := X.1
  have hb := X.2.1
  have hown := X.2.2.2.1
  have ht := X.2.2.2.2.1
  have hl : lv_has ls 2 [(0, .ref r), (1, .ref q)] := hl
  refine lv_aload_n hx hb dJ0_init_81219_0 rfl (lv_at hl 0 rfl) ?_
  refine lv_aload_n hx hb dJ0_init_81219_1 rfl (lv_at hl 1 rfl) ?_
  refine lv_null hx hb dJ0_init_81219_2 ?_
  refine x_callLI (As := [.ref q, .null]) (rest := []) X hZ [] [(r, stD), (q, sbE v (nI n)), (v, ba g m0 f)] hL (k_stA hn hm0 hm hf) tw_4_102 ms_J0_init_db425 tw_4_103 rfl ⟨Nat.le_of_ble_eq_true rfl, Nat.le_of_ble_eq_true rfl⟩ rfl rfl hl.1 (Nat.le_of_ble_eq_true rfl) dJ0_init_81219_3 ⟨Nat.le_of_ble_eq_true rfl, Nat.le_of_ble_eq_true rfl⟩ (fun v nb H locs hB hL => ?_)
  obtain ⟨rfl, hB⟩ := hB
  exact x_vret X hL hr ⟨rfl, hB⟩ (Nat.le_refl _) (Nat.le_refl _) dJ0_init_81219_6
theorem dJ4_toString_0e30d_0 : decode cJ4_toString_0e30d 0 = .ok (.new 18, 3) := by decide +kernel
theorem dJ4_toString_0e30d_3 : decode cJ4_toString_0e30d 3 = .ok (.dup, 1) := by decide +kernel
theorem dJ4_toString_0e30d_4 : decode cJ4_toString_0e30d 4 = .ok (.aload_n 0, 1) := by decide +kernel
theorem dJ4_toString_0e30d_5 : decode cJ4_toString_0e30d 5 = .ok (.invokespecial 137, 3) := by decide +kernel
theorem dJ4_toString_0e30d_8 : decode cJ4_toString_0e30d 8 = .ok (.areturn, 1) := by decide +kernel
theorem ms_J4_toString_0e30d : MSt yJ4_toString_0e30d cJ4_toString_0e30d 1 (some (.object "java/lang/String")) 0 := ⟨tw_4_96, tw_1_18, by decide, by decide, by decide +kernel⟩
set_option maxHeartbeats 4000000 in
set_option maxRecDepth 100000 in
theorem k_toS {l : Launch} {g : Gh} {Lx : Nat × (Nat → Int32)} {q v m0 n : Nat} {f : Nat → Int32} (hn : n ≤ 5000) (hm0 : m0 ≤ 5000) (hm : n ≤ m0) (hf : BF m0 f) : LMt l Lx g yJ4_toString_0e30d cJ4_toString_0e30d 1 (some (.object "java/lang/String")) 5 2 5004 [(q, sbE v (nI n)), (v, ba g m0 f)] [.ref q] (fun x nb => ∃ r y f2, x = some (.ref r) ∧ nb = [(r, stE y), (y, ba g n f2)] ∧ ∀ j, j < n → f2 j = f j) := by
  refine lm_start (by decide) (Nat.le_of_ble_eq_true rfl) ?_
  intro p e s m args below meth c ls X hZ hnm hr hl hL
  have hx := X.1
  have hb := X.2.1
  have hown := X.2.2.2.1
  have ht := X.2.2.2.2.1
  have hl : lv_has ls 1 [(0, .ref q)] := hl
  refine x_new (ci := 10) (N := 4) X hL rfl cs_10 tyJ0_ok tw_4_97 tw_4_98 tw_1_19 (df := [.null, .int 0, .int 0, .int 0]) (by decide) rfl (Nat.le_of_ble_eq_true rfl) (Nat.le_of_ble_eq_true rfl) dJ4_toString_0e30d_0 (fun r H hL => ?_)
  have hL : LW g (va_A [(q, sbE v (nI n)), (v, ba g m0 f)] s.heap.size) [(r, stD), (q, sbE v (nI n)), (v, ba g m0 f)] s.heap H [] := hL.front
  refine lv_dup hx hb dJ4_toString_0e30d_3 rfl ?_
  refine lv_aload_n hx hb dJ4_toString_0e30d_4 rfl (lv_at hl 0 rfl) ?_
  refine x_callLI (As := [.ref q]) (rest := [.ref r]) X hZ [] [(r, stD), (q, sbE v (nI n)), (v, ba g m0 f)] hL (k_st hn hm0 hm hf) tw_4_99 ms_J0_init_81219 tw_4_100 rfl ⟨Nat.le_of_ble_eq_true rfl, Nat.le_of_ble_eq_true rfl⟩ rfl rfl hl.1 (Nat.le_of_ble_eq_true rfl) dJ4_toString_0e30d_5 ⟨Nat.le_of_ble_eq_true rfl, Nat.le_of_ble_eq_true rfl⟩ (fun v nb H locs hB hL => ?_)
  obtain ⟨rfl, y, f2, rfl, e1⟩ := hB
  exact x_aret X hL hr (Or.inl ⟨_, rfl⟩) ⟨r, y, f2, rfl, rfl, e1⟩ (Nat.le_refl _) (Nat.le_refl _) dJ4_toString_0e30d_8
set_option maxHeartbeats 4000000 in
set_option maxRecDepth 100000 in
theorem k_fCoder {l : Launch} {g : Gh} {Lx : Nat × (Nat → Int32)} {r y : Nat}  : LMt l Lx g yJ0_coder_7d493 cJ0_coder_7d493 1 (some .byte) 0 0 0 [(r, stE y)] [.ref r] (fun x nb => x = some (.int 0) ∧ nb = [(r, stE y)]) := by
  refine lm_start (by decide) (Nat.le_of_ble_eq_true rfl) ?_
  intro p e s m args below meth c ls X hZ hnm hr hl hL
  have hx := X.1
  have hb := X.2.1
  have hown := X.2.2.2.1
  have ht := X.2.2.2.2.1
  have hl : lv_has ls 1 [(0, .ref r)] := hl
  refine x_compact X hZ hL tw_3_119 dJ0_coder_7d493_0 ?_
  refine lv_if_eq (tgt := 13) hx hb dJ0_coder_7d493_3 (by decide) (fun z => absurd z (by decide)) (fun _ => ?_)
  refine lv_aload_n hx hb dJ0_coder_7d493_6 rfl (lv_at hl 0 rfl) ?_
  refine x_get (j := 0) (k := 1) X hL rfl rfl cs_10 (by decide) tw_4_140 rfl dJ0_coder_7d493_7 ?_
  refine lv_goto (tgt := 14) hx hb dJ0_coder_7d493_10 (by decide) ?_
  exact x_tret X hL hr rfl ⟨rfl, rfl⟩ (Nat.le_refl _) (Nat.le_refl _) dJ0_coder_7d493_14
set_option maxHeartbeats 4000000 in
set_option maxRecDepth 100000 in
theorem k_fLen {l : Launch} {g : Gh} {Lx : Nat × (Nat → Int32)} {r y n : Nat} {f : Nat → Int32}  : LMt l Lx g yJ0_length_8abf5 cJ0_length_8abf5 1 (some .int) 1 0 0 [(r, stE y), (y, ba g n f)] [.ref r] (fun x nb => x = some (.int (nI n)) ∧ nb = [(r, stE y), (y, ba g n f)]) := by
  refine lm_start (by decide) (Nat.le_of_ble_eq_true rfl) ?_
  intro p e s m args below meth c ls X hZ hnm hr hl hL
  have hx := X.1
  have hb := X.2.1
  have hown := X.2.2.2.1
  have ht := X.2.2.2.2.1
  have hl : lv_has ls 1 [(0, .ref r)] := hl
  refine lv_aload_n hx hb dJ0_length_8abf5_0 rfl (lv_at hl 0 rfl) ?_
  refine x_get (j := 0) (k := 0) X hL rfl rfl cs_10 (by decide) tw_4_139 rfl dJ0_length_8abf5_1 ?_
  refine x_alenB (k := 1) X hL rfl dJ0_length_8abf5_4 ?_
  refine lv_aload_n hx hb dJ0_length_8abf5_5 rfl (lv_at hl 0 rfl) ?_
  have hL : LW g (va_A [(r, stE y), (y, ba g n f)] s.heap.size) [(y, ba g n f), (r, stE y)] s.heap s.heap [] := hL.perm (List.Perm.swap _ _ _)
  refine x_callLV (As := []) (rest := [.int (nI n)]) X hZ [(y, ba g n f)] [(r, stE y)] hL (k_fCoder) tw_3_115 ms_J0_coder_7d493 tw_3_116 tw_3_117 (x_recvL (W1 := [(y, ba g n f)]) (ws := [(r, stE y)]) X hL (j := 0) (ci := 10) rfl rfl) ⟨Nat.le_of_ble_eq_true rfl, Nat.le_of_ble_eq_true rfl⟩ rfl rfl hl.1 (Nat.le_of_ble_eq_true rfl) dJ0_length_8abf5_6 ⟨Nat.le_of_ble_eq_true rfl, Nat.le_of_ble_eq_true rfl⟩ (fun v nb H locs hB hL => ?_)
  obtain ⟨rfl, rfl⟩ := hB
  refine lv_ishr hx hb dJ0_length_8abf5_9 ?_
  rw [j_shr0]
  exact x_iret X (hL.perm (List.Perm.swap _ _ _)) hr ⟨rfl, rfl⟩ (Nat.le_refl _) (Nat.le_refl _) dJ0_length_8abf5_10
theorem dJ0_isLatin1_aae02_0 : decode cJ0_isLatin1_aae02 0 = .ok (.getstatic 38, 3) := by decide +kernel
theorem dJ0_isLatin1_aae02_3 : decode cJ0_isLatin1_aae02 3 = .ok (.ifCond .eq 14, 3) := by decide +kernel
theorem dJ0_isLatin1_aae02_6 : decode cJ0_isLatin1_aae02 6 = .ok (.aload_n 0, 1) := by decide +kernel
theorem dJ0_isLatin1_aae02_7 : decode cJ0_isLatin1_aae02 7 = .ok (.getfield 15, 3) := by decide +kernel
theorem dJ0_isLatin1_aae02_10 : decode cJ0_isLatin1_aae02 10 = .ok (.ifCond .ne 7, 3) := by decide +kernel
theorem dJ0_isLatin1_aae02_13 : decode cJ0_isLatin1_aae02 13 = .ok (.iconst 1, 1) := by decide +kernel
theorem dJ0_isLatin1_aae02_14 : decode cJ0_isLatin1_aae02 14 = .ok (.goto 4, 3) := by decide +kernel
theorem dJ0_isLatin1_aae02_17 : decode cJ0_isLatin1_aae02 17 = .ok (.iconst 0, 1) := by decide +kernel
theorem dJ0_isLatin1_aae02_18 : decode cJ0_isLatin1_aae02 18 = .ok (.ireturn, 1) := by decide +kernel
theorem ms_J0_isLatin1_aae02 : MSt yJ0_isLatin1_aae02 cJ0_isLatin1_aae02 1 (some .boolean) 0 := ⟨tw_3_128, tw_1_19, by decide, by decide, by decide +kernel⟩
set_option maxHeartbeats 4000000 in
set_option maxRecDepth 100000 in
theorem k_fLat {l : Launch} {g : Gh} {Lx : Nat × (Nat → Int32)} {r y : Nat}  : LMt l Lx g yJ0_isLatin1_aae02 cJ0_isLatin1_aae02 1 (some .boolean) 0 0 0 [(r, stE y)] [.ref r] (fun x nb => x = some (.int 1) ∧ nb = [(r, stE y)]) := by
  refine lm_start (by decide) (Nat.le_of_ble_eq_true rfl) ?_
  intro p e s m args below meth c ls X hZ hnm hr hl hL
  have hx := X.1
  have hb := X.2.1
  have hown := X.2.2.2.1
  have ht := X.2.2.2.2.1
  have hl : lv_has ls 1 [(0, .ref r)] := hl
  refine x_compact X hZ hL tw_3_119 dJ0_isLatin1_aae02_0 ?_
  refine lv_if_eq (tgt := 17) hx hb dJ0_isLatin1_aae02_3 (by decide) (fun z => absurd z (by decide)) (fun _ => ?_)
  refine lv_aload_n hx hb dJ0_isLatin1_aae02_6 rfl (lv_at hl 0 rfl) ?_
  refine x_get (j := 0) (k := 1) X hL rfl rfl cs_10 (by decide) tw_4_140 rfl dJ0_isLatin1_aae02_7 ?_
  refine lv_if_ne (tgt := 17) hx hb dJ0_isLatin1_aae02_10 (by decide) (fun z => absurd z (fun h => h rfl)) (fun _ => ?_)
  refine lv_iconst (v := (1 : Int32)) hx hb dJ0_isLatin1_aae02_13 (by decide) ?_
  refine lv_goto (tgt := 18) hx hb dJ0_isLatin1_aae02_14 (by decide) ?_
  exact x_tret X hL hr rfl ⟨rfl, rfl⟩ (Nat.le_refl _) (Nat.le_refl _) dJ0_isLatin1_aae02_18
theorem dJ3_checkIndex_8e157_0 : decode cJ3_checkIndex_8e157 0 = .ok (.iload_n 0, 1) := by decide +kernel
theorem dJ3_checkIndex_8e157_1 : decode cJ3_checkIndex_8e157 1 = .ok (.ifCond .lt 8, 3) := by decide +kernel
theorem dJ3_checkIndex_8e157_4 : decode cJ3_checkIndex_8e157 4 = .ok (.iload_n 0, 1) := by decide +kernel
theorem dJ3_checkIndex_8e157_5 : decode cJ3_checkIndex_8e157 5 = .ok (.iload_n 1, 1) := by decide +kernel
theorem dJ3_checkIndex_8e157_6 : decode cJ3_checkIndex_8e157 6 = .ok (.if_icmp .lt 10, 3) := by decide +kernel
theorem dJ3_checkIndex_8e157_9 : decode cJ3_checkIndex_8e157 9 = .ok (.aload_n 2, 1) := by decide +kernel
theorem dJ3_checkIndex_8e157_10 : decode cJ3_checkIndex_8e157 10 = .ok (.iload_n 0, 1) := by decide +kernel
theorem dJ3_checkIndex_8e157_11 : decode cJ3_checkIndex_8e157 11 = .ok (.iload_n 1, 1) := by decide +kernel
theorem dJ3_checkIndex_8e157_12 : decode cJ3_checkIndex_8e157 12 = .ok (.invokestatic 95, 3) := by decide +kernel
theorem dJ3_checkIndex_8e157_15 : decode cJ3_checkIndex_8e157 15 = .ok (.athrow, 1) := by decide +kernel
theorem dJ3_checkIndex_8e157_16 : decode cJ3_checkIndex_8e157 16 = .ok (.iload_n 0, 1) := by decide +kernel
theorem dJ3_checkIndex_8e157_17 : decode cJ3_checkIndex_8e157 17 = .ok (.ireturn, 1) := by decide +kernel
theorem ms_J3_checkIndex_8e157 : MSt yJ3_checkIndex_8e157 cJ3_checkIndex_8e157 3 (some .int) 3 := ⟨tw_3_139, tw_1_22, by decide, by decide, by decide +kernel⟩
set_option maxHeartbeats 4000000 in
theorem k_pChk {l : Launch} {g : Gh} {Lx : Nat × (Nat → Int32)} {i n : Int32} {v : Value} (hv : v.category = 1) (h0 : ¬ i < 0) (h1 : i < n) : LMt l Lx g yJ3_checkIndex_8e157 cJ3_checkIndex_8e157 3 (some .int) 0 0 0 [] [.int i, .int n, v] (fun x nb => x = some (.int i) ∧ nb = []) := by
  refine lm_start (by decide) (by simp [lg_sl, hv, show (Value.int i).category = 1 from rfl, show (Value.int n).category = 1 from rfl]) ?_
  intro p e s m args below meth c ls X hZ hnm hr hl hL
  have hx := X.1
  have hb := X.2.1
  have hl : lv_has ls 3 [(0, .int i), (1, .int n), (2, v)] := hl
  refine lv_iload_n hx hb dJ3_checkIndex_8e157_0 rfl (lv_at hl 0 rfl) ?_
  refine lv_if_lt (tgt := 9) hx hb dJ3_checkIndex_8e157_1 (by decide) (fun h => absurd h h0) (fun _ => ?_)
  refine lv_iload_n hx hb dJ3_checkIndex_8e157_4 rfl (lv_at hl 0 rfl) ?_
  refine lv_iload_n hx hb dJ3_checkIndex_8e157_5 rfl (lv_at hl 1 rfl) ?_
  refine lv_icmp_lt (tgt := 16) hx hb dJ3_checkIndex_8e157_6 (by decide) (fun _ => ?_) (fun h => absurd h1 h)
  refine lv_iload_n hx hb dJ3_checkIndex_8e157_16 rfl (lv_at hl 0 rfl) ?_
  exact x_iret X hL hr ⟨rfl, rfl⟩ (Nat.le_refl _) (Nat.le_refl _) dJ3_checkIndex_8e157_17
theorem dJ0_checkIndex_df160_0 : decode cJ0_checkIndex_df160 0 = .ok (.iload_n 0, 1) := by decide +kernel
theorem dJ0_checkIndex_df160_1 : decode cJ0_checkIndex_df160 1 = .ok (.iload_n 1, 1) := by decide +kernel
theorem dJ0_checkIndex_df160_2 : decode cJ0_checkIndex_df160 2 = .ok (.getstatic 1053, 3) := by decide +kernel
theorem dJ0_checkIndex_df160_5 : decode cJ0_checkIndex_df160 5 = .ok (.invokestatic 1059, 3) := by decide +kernel
theorem dJ0_checkIndex_df160_8 : decode cJ0_checkIndex_df160 8 = .ok (.pop, 1) := by decide +kernel
theorem dJ0_checkIndex_df160_9 : decode cJ0_checkIndex_df160 9 = .ok (.return_, 1) := by decide +kernel
theorem ms_J0_checkIndex_df160 : MSt yJ0_checkIndex_df160 cJ0_checkIndex_df160 2 none 2 := ⟨tw_3_134, tw_1_19, by decide, by decide, by decide +kernel⟩
set_option maxHeartbeats 4000000 in
theorem k_sChk {l : Launch} {g : Gh} {Lx : Nat × (Nat → Int32)} {i n : Int32} (h0 : ¬ i < 0) (h1 : i < n) : LMt l Lx g yJ0_checkIndex_df160 cJ0_checkIndex_df160 2 none 1 0 0 [] [.int i, .int n] (fun x nb => x = none ∧ nb = []) := by
  refine lm_start (by decide) (Nat.le_of_ble_eq_true rfl) ?_
  intro p e s m args below meth c ls X hZ hnm hr hl hL
  have hx := X.1
  have hb := X.2.1
  have hown := X.2.2.2.1
  have ht := X.2.2.2.2.1
  have hl : lv_has ls 2 [(0, .int i), (1, .int n)] := hl
  refine lv_iload_n hx hb dJ0_checkIndex_df160_0 rfl (lv_at hl 0 rfl) ?_
  refine lv_iload_n hx hb dJ0_checkIndex_df160_1 rfl (lv_at hl 1 rfl) ?_
  have key : ∀ v : Value, v.category = 1 → W p l e { frames := 1, cells := 0, slots := 0, locals := 40 * 1 } s m args below meth c s.heap [] 0 0 (MQ below (LQc g [] s.heap.size (fun x nb => x = none ∧ nb = [])) args s 0 0 (va_A [] s.heap.size)) (F0 m 5 ls [v, .int n, .int i]) := by
    intro v hv
    refine x_callLS (As := [.int i, .int n, v]) (rest := []) X hZ [] [] hL (k_pChk hv h0 h1) tw_3_137 ms_J3_checkIndex_8e157 tw_3_138 ⟨Nat.le_of_ble_eq_true rfl, Nat.le_of_ble_eq_true rfl⟩ rfl rfl hl.1 (Nat.le_of_ble_eq_true rfl) dJ0_checkIndex_df160_5 ⟨Nat.le_refl _, Nat.le_refl _⟩ (fun v nb H locs hB hL => ?_)
    obtain ⟨rfl, rfl⟩ := hB
    refine lv_pop hx hb dJ0_checkIndex_df160_8 rfl ?_
    exact x_vret X hL hr ⟨rfl, rfl⟩ (Nat.le_refl _) (Nat.le_refl _) dJ0_checkIndex_df160_9
  rcases hZ.1.2.2.2.2.2 with h | ⟨t, h⟩
  · exact va_gets hx hb (ref := "jdk/internal/util/Preconditions") h hL.2.2.1 hown (ht _ tw_3_135) (fun _ h => h) dJ0_checkIndex_df160_2 (key _ rfl)
  · exact va_gets hx hb (ref := "jdk/internal/util/Preconditions") h hL.2.2.1 hown (ht _ tw_3_135) (fun _ h => h) dJ0_checkIndex_df160_2 (key _ rfl)
theorem j_char : ∀ {k : Nat}, k < 128 → narrow .char (.int (nI k)) = .int (nI k) := by
  have h : ∀ k, k < 128 → narrow .char (.int (nI k)) = .int (nI k) := by decide +kernel
  exact fun {k} hk => h k hk
theorem rdS_at' {α : Type} {f : Nat → α} {n j : Nat} (hj : j < n) (hn : n < 65536) : rdS f n (nI j) = some (f j) := by
  unfold rdS
  rw [if_neg (by rw [nI_clamp (by omega)]; intro z; rcases z with z | z; exact absurd z (nI_pos (by omega)); omega), nI_clamp (by omega)]
theorem dJ1_charAt_3b067_0 : decode cJ1_charAt_3b067 0 = .ok (.iload_n 1, 1) := by decide +kernel
theorem dJ1_charAt_3b067_1 : decode cJ1_charAt_3b067 1 = .ok (.aload_n 0, 1) := by decide +kernel
theorem dJ1_charAt_3b067_2 : decode cJ1_charAt_3b067 2 = .ok (.arraylength, 1) := by decide +kernel
theorem dJ1_charAt_3b067_3 : decode cJ1_charAt_3b067 3 = .ok (.invokestatic 9, 3) := by decide +kernel
theorem dJ1_charAt_3b067_6 : decode cJ1_charAt_3b067 6 = .ok (.aload_n 0, 1) := by decide +kernel
theorem dJ1_charAt_3b067_7 : decode cJ1_charAt_3b067 7 = .ok (.iload_n 1, 1) := by decide +kernel
theorem dJ1_charAt_3b067_8 : decode cJ1_charAt_3b067 8 = .ok (.baload, 1) := by decide +kernel
theorem dJ1_charAt_3b067_9 : decode cJ1_charAt_3b067 9 = .ok (.sipush 255, 3) := by decide +kernel
theorem dJ1_charAt_3b067_12 : decode cJ1_charAt_3b067 12 = .ok (.iand, 1) := by decide +kernel
theorem dJ1_charAt_3b067_13 : decode cJ1_charAt_3b067 13 = .ok (.i2c, 1) := by decide +kernel
theorem dJ1_charAt_3b067_14 : decode cJ1_charAt_3b067 14 = .ok (.ireturn, 1) := by decide +kernel
theorem ms_J1_charAt_3b067 : MSt yJ1_charAt_3b067 cJ1_charAt_3b067 2 (some .char) 2 := ⟨tw_3_131, tw_1_23, by decide, by decide, by decide +kernel⟩
set_option maxHeartbeats 4000000 in
set_option maxRecDepth 100000 in
theorem k_lChar {l : Launch} {g : Gh} {Lx : Nat × (Nat → Int32)} {y n i k : Nat} {f : Nat → Int32} (hn : n ≤ 5000) (hi : i < n) (hk : f i = nI k) (hk2 : k < 128) : LMt l Lx g yJ1_charAt_3b067 cJ1_charAt_3b067 2 (some .char) 2 0 0 [(y, ba g n f)] [.ref y, .int (nI i)] (fun x nb => x = some (.int (nI k)) ∧ nb = [(y, ba g n f)]) := by
  refine lm_start (by decide) (Nat.le_of_ble_eq_true rfl) ?_
  intro p e s m args below meth c ls X hZ hnm hr hl hL
  have hx := X.1
  have hb := X.2.1
  have hown := X.2.2.2.1
  have ht := X.2.2.2.2.1
  have hl : lv_has ls 2 [(0, .ref y), (1, .int (nI i))] := hl
  refine lv_iload_n hx hb dJ1_charAt_3b067_0 rfl (lv_at hl 1 rfl) ?_
  refine lv_aload_n hx hb dJ1_charAt_3b067_1 rfl (lv_at hl 0 rfl) ?_
  refine x_alenB (k := 0) X hL rfl dJ1_charAt_3b067_2 ?_
  refine x_callLS (As := [.int (nI i), .int (nI n)]) (rest := []) X hZ [(y, ba g n f)] [] hL (k_sChk (j_neg (by omega)) (nI_lt hi (by omega))) tw_3_132 ms_J0_checkIndex_df160 tw_3_133 ⟨Nat.le_of_ble_eq_true rfl, Nat.le_of_ble_eq_true rfl⟩ rfl rfl hl.1 (Nat.le_of_ble_eq_true rfl) dJ1_charAt_3b067_3 ⟨Nat.le_of_ble_eq_true rfl, Nat.le_of_ble_eq_true rfl⟩ (fun v nb H locs hB hL => ?_)
  obtain ⟨rfl, rfl⟩ := hB
  rw [List.append_nil] at hL
  refine lv_aload_n hx hb dJ1_charAt_3b067_6 rfl (lv_at hl 0 rfl) ?_
  refine lv_iload_n hx hb dJ1_charAt_3b067_7 rfl (lv_at hl 1 rfl) ?_
  refine x_bald (k := 0) (x := nI k) X hL rfl (by rw [rdS_at' hi (by omega), hk]) dJ1_charAt_3b067_8 ?_
  refine lv_sipush (v := (255 : Int32)) hx hb dJ1_charAt_3b067_9 (by decide) ?_
  refine lv_iand hx hb dJ1_charAt_3b067_12 ?_
  refine lv_i2c hx hb dJ1_charAt_3b067_13 (ch_fit k hk2) ?_
  exact x_tret X hL hr (j_char hk2) ⟨rfl, rfl⟩ (Nat.le_refl _) (Nat.le_refl _) dJ1_charAt_3b067_14
theorem dJ0_charAt_5068e_0 : decode cJ0_charAt_5068e 0 = .ok (.aload_n 0, 1) := by decide +kernel
theorem dJ0_charAt_5068e_1 : decode cJ0_charAt_5068e 1 = .ok (.invokevirtual 492, 3) := by decide +kernel
theorem dJ0_charAt_5068e_4 : decode cJ0_charAt_5068e 4 = .ok (.ifCond .eq 12, 3) := by decide +kernel
theorem dJ0_charAt_5068e_7 : decode cJ0_charAt_5068e 7 = .ok (.aload_n 0, 1) := by decide +kernel
theorem dJ0_charAt_5068e_8 : decode cJ0_charAt_5068e 8 = .ok (.getfield 9, 3) := by decide +kernel
theorem dJ0_charAt_5068e_11 : decode cJ0_charAt_5068e 11 = .ok (.iload_n 1, 1) := by decide +kernel
theorem dJ0_charAt_5068e_12 : decode cJ0_charAt_5068e 12 = .ok (.invokestatic 495, 3) := by decide +kernel
theorem dJ0_charAt_5068e_15 : decode cJ0_charAt_5068e 15 = .ok (.ireturn, 1) := by decide +kernel
theorem dJ0_charAt_5068e_16 : decode cJ0_charAt_5068e 16 = .ok (.aload_n 0, 1) := by decide +kernel
theorem dJ0_charAt_5068e_17 : decode cJ0_charAt_5068e 17 = .ok (.getfield 9, 3) := by decide +kernel
theorem dJ0_charAt_5068e_20 : decode cJ0_charAt_5068e 20 = .ok (.iload_n 1, 1) := by decide +kernel
theorem dJ0_charAt_5068e_21 : decode cJ0_charAt_5068e 21 = .ok (.invokestatic 498, 3) := by decide +kernel
theorem dJ0_charAt_5068e_24 : decode cJ0_charAt_5068e 24 = .ok (.ireturn, 1) := by decide +kernel
theorem ms_J0_charAt_5068e : MSt yJ0_charAt_5068e cJ0_charAt_5068e 2 (some .char) 1 := ⟨tw_3_124, tw_1_19, by decide, by decide, by decide +kernel⟩
set_option maxHeartbeats 4000000 in
set_option maxRecDepth 100000 in
theorem k_fChar {l : Launch} {g : Gh} {Lx : Nat × (Nat → Int32)} {r y n i k : Nat} {f : Nat → Int32} (hn : n ≤ 5000) (hi : i < n) (hk : f i = nI k) (hk2 : k < 128) : LMt l Lx g yJ0_charAt_5068e cJ0_charAt_5068e 2 (some .char) 3 0 0 [(r, stE y), (y, ba g n f)] [.ref r, .int (nI i)] (fun x nb => x = some (.int (nI k)) ∧ nb = [(r, stE y), (y, ba g n f)]) := by
  refine lm_start (by decide) (Nat.le_of_ble_eq_true rfl) ?_
  intro p e s m args below meth c ls X hZ hnm hr hl hL
  have hx := X.1
  have hb := X.2.1
  have hown := X.2.2.2.1
  have ht := X.2.2.2.2.1
  have hl : lv_has ls 2 [(0, .ref r), (1, .int (nI i))] := hl
  have hL : LW g (va_A [(r, stE y), (y, ba g n f)] s.heap.size) [(y, ba g n f), (r, stE y)] s.heap s.heap [] := hL.perm (List.Perm.swap _ _ _)
  refine lv_aload_n hx hb dJ0_charAt_5068e_0 rfl (lv_at hl 0 rfl) ?_
  refine x_callLV (As := []) (rest := []) X hZ [(y, ba g n f)] [(r, stE y)] hL (k_fLat) tw_3_125 ms_J0_isLatin1_aae02 tw_3_126 tw_3_127 (x_recvL (W1 := [(y, ba g n f)]) (ws := [(r, stE y)]) X hL (j := 0) (ci := 10) rfl rfl) ⟨Nat.le_of_ble_eq_true rfl, Nat.le_of_ble_eq_true rfl⟩ rfl rfl hl.1 (Nat.le_of_ble_eq_true rfl) dJ0_charAt_5068e_1 ⟨Nat.le_of_ble_eq_true rfl, Nat.le_of_ble_eq_true rfl⟩ (fun v nb H locs hB hL => ?_)
  obtain ⟨rfl, rfl⟩ := hB
  have hL : LW g (va_A [(r, stE y), (y, ba g n f)] s.heap.size) [(r, stE y), (y, ba g n f)] s.heap H locs := hL.perm (List.Perm.swap _ _ _)
  refine lv_if_eq (tgt := 16) hx hb dJ0_charAt_5068e_4 (by decide) (fun z => absurd z (by decide)) (fun _ => ?_)
  refine lv_aload_n hx hb dJ0_charAt_5068e_7 rfl (lv_at hl 0 rfl) ?_
  refine x_get (j := 0) (k := 0) X hL rfl rfl cs_10 (by decide) tw_4_139 rfl dJ0_charAt_5068e_8 ?_
  refine lv_iload_n hx hb dJ0_charAt_5068e_11 rfl (lv_at hl 1 rfl) ?_
  refine x_callLS (As := [.ref y, .int (nI i)]) (rest := []) X hZ [(r, stE y)] [(y, ba g n f)] hL (k_lChar hn hi hk hk2) tw_3_129 ms_J1_charAt_3b067 tw_3_130 ⟨Nat.le_of_ble_eq_true rfl, Nat.le_of_ble_eq_true rfl⟩ rfl rfl hl.1 (Nat.le_of_ble_eq_true rfl) dJ0_charAt_5068e_12 ⟨Nat.le_of_ble_eq_true rfl, Nat.le_of_ble_eq_true rfl⟩ (fun v nb H locs hB hL => ?_)
  obtain ⟨rfl, rfl⟩ := hB
  exact x_tret X hL hr (j_char hk2) ⟨rfl, rfl⟩ (Nat.le_refl _) (Nat.le_refl _) dJ0_charAt_5068e_15
