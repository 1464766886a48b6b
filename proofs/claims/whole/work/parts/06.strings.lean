/-! The JDK's methods of the reference's six words (String constants). -/
section ST
variable {p : Program} {l : Launch} {e : Env} {R : Room} {s : State} {m : MethodId} {args : Array Value} {below : List Frame} {meth : Method} {c : Code} {H : Heap} {locs : List Loc} {cells slots : Nat} {Q : State → Prop}
variable {cc : ByteArray} {nL : Nat} {own : String} {Z : Shp} {g : Gh} {w : Wd} {pc : Nat} {ls : Array Slot} {rest : List Value}
def kwCh (i : Nat) : Nat → Int32 := fun k => (kwByt.getD i []).getD k 0 &&& 255
theorem w_ldcs (X : Amb p s m args meth c cc nL RX10 Z g) (i : Nat) (hi : i < 6) (hdg : decode cc pc = .ok (.ldc (kwIx i), 2)) (kk : W p l e R s m args below meth c H locs cells slots Q (F0 m (pc + 2) ls (.ref (g.2.2 (2000 + i)) :: rest))) : W p l e R s m args below meth c H locs cells slots Q (F0 m pc ls rest) := by
  obtain ⟨hx, hb, hml, hown, ht, hK, hN, hZ, -⟩ := X
  exact va_ldcS hx hb hown (hZ.2.2.2.1 i hi) hdg kk
theorem w_compact (X : Amb p s m args meth c cc nL RJ0 Z g) (hH : HW Z g w s.heap H locs) (hdg : decode cc pc = .ok (.getstatic 38, 3)) (kk : W p l e R s m args below meth c H locs cells slots Q (F0 m (pc + 3) ls (.int 1 :: rest))) : W p l e R s m args below meth c H locs cells slots Q (F0 m pc ls rest) := by
  obtain ⟨hx, hb, hml, hown, ht, hK, hN, hZ, -⟩ := X
  exact va_gets hx hb (ref := "java/lang/String") hZ.2.2.2.2.1 hH.2.2 hown (ht _ tw_6_17) (fun _ h => h) hdg kk
theorem w_scoder (X : Amb p s m args meth c cc nL RJ0 Z g) (hH : HW Z g w s.heap H locs) {i : Nat} (hi : i < 6) (hdg : decode cc pc = .ok (.getfield 15, 3)) (kk : W p l e R s m args below meth c H locs cells slots Q (F0 m (pc + 3) ls (.int 0 :: rest))) : W p l e R s m args below meth c H locs cells slots Q (F0 m pc ls (.ref (g.2.2 (2000 + i)) :: rest)) := by
  obtain ⟨hx, hb, hml, hown, ht, hK, hN, hZ, -⟩ := X
  exact vk_getf hx hb (hZ.2.2.1.1 i hi).2.1 hH.2.2 hown (ht _ tw_7_189) (fun _ h => h) hdg kk
theorem w_svalue (X : Amb p s m args meth c cc nL RJ0 Z g) (hH : HW Z g w s.heap H locs) {i : Nat} (hi : i < 6) (hdg : decode cc pc = .ok (.getfield 9, 3)) (kk : W p l e R s m args below meth c H locs cells slots Q (F0 m (pc + 3) ls (.ref (g.2.2 (3000 + i)) :: rest))) : W p l e R s m args below meth c H locs cells slots Q (F0 m pc ls (.ref (g.2.2 (2000 + i)) :: rest)) := by
  obtain ⟨hx, hb, hml, hown, ht, hK, hN, hZ, -⟩ := X
  exact vk_getf hx hb (hZ.2.2.1.1 i hi).2.2.1 hH.2.2 hown (ht _ tw_7_188) (fun _ h => h) hdg kk
end ST
theorem ms_coder : MSt yJ0_coder_7d493 cJ0_coder_7d493 1 (some .byte) 0 := ⟨tw_6_16, tw_1_15, by decide, by decide, by decide +kernel⟩
theorem im_coder : IMt yJ0_coder_7d493 := ⟨tw_6_14, tw_6_15⟩
theorem ms_slength : MSt yJ0_length_8abf5 cJ0_length_8abf5 1 (some .int) 0 := ⟨tw_6_12, tw_1_15, by decide, by decide, by decide +kernel⟩
theorem im_slength : IMt yJ0_length_8abf5 := ⟨tw_6_10, tw_6_11⟩
theorem ms_isLatin1 : MSt yJ0_isLatin1_aae02 cJ0_isLatin1_aae02 1 (some .boolean) 0 := ⟨tw_6_26, tw_1_15, by decide, by decide, by decide +kernel⟩
theorem im_isLatin1 : IMt yJ0_isLatin1_aae02 := ⟨tw_6_24, tw_6_25⟩
theorem ms_scharAt : MSt yJ0_charAt_5068e cJ0_charAt_5068e 2 (some .char) 1 := ⟨tw_6_22, tw_1_15, by decide, by decide, by decide +kernel⟩
theorem im_scharAt : IMt yJ0_charAt_5068e := ⟨tw_6_20, tw_6_21⟩
theorem ms_latChar : MSt yJ1_charAt_3b067 cJ1_charAt_3b067 2 (some .char) 2 := ⟨tw_6_29, tw_1_16, by decide, by decide, by decide +kernel⟩
theorem ms_sCheck : MSt yJ0_checkIndex_df160 cJ0_checkIndex_df160 2 none 2 := ⟨tw_6_32, tw_1_15, by decide, by decide, by decide +kernel⟩
theorem ms_pCheck : MSt yJ3_checkIndex_8e157 cJ3_checkIndex_8e157 3 (some .int) 3 := ⟨tw_6_37, tw_1_17, by decide, by decide, by decide +kernel⟩
theorem dJ0_coder_7d493_0 : decode cJ0_coder_7d493 0 = .ok (.getstatic 38, 3) := by decide +kernel
theorem dJ0_coder_7d493_3 : decode cJ0_coder_7d493 3 = .ok (.ifCond .eq 10, 3) := by decide +kernel
theorem dJ0_coder_7d493_6 : decode cJ0_coder_7d493 6 = .ok (.aload_n 0, 1) := by decide +kernel
theorem dJ0_coder_7d493_7 : decode cJ0_coder_7d493 7 = .ok (.getfield 15, 3) := by decide +kernel
theorem dJ0_coder_7d493_10 : decode cJ0_coder_7d493 10 = .ok (.goto 4, 3) := by decide +kernel
theorem dJ0_coder_7d493_13 : decode cJ0_coder_7d493 13 = .ok (.iconst 1, 1) := by decide +kernel
theorem dJ0_coder_7d493_14 : decode cJ0_coder_7d493 14 = .ok (.ireturn, 1) := by decide +kernel
theorem dJ0_length_8abf5_0 : decode cJ0_length_8abf5 0 = .ok (.aload_n 0, 1) := by decide +kernel
theorem dJ0_length_8abf5_1 : decode cJ0_length_8abf5 1 = .ok (.getfield 9, 3) := by decide +kernel
theorem dJ0_length_8abf5_4 : decode cJ0_length_8abf5 4 = .ok (.arraylength, 1) := by decide +kernel
theorem dJ0_length_8abf5_5 : decode cJ0_length_8abf5 5 = .ok (.aload_n 0, 1) := by decide +kernel
theorem dJ0_length_8abf5_6 : decode cJ0_length_8abf5 6 = .ok (.invokevirtual 335, 3) := by decide +kernel
theorem dJ0_length_8abf5_9 : decode cJ0_length_8abf5 9 = .ok (.ishr, 1) := by decide +kernel
theorem dJ0_length_8abf5_10 : decode cJ0_length_8abf5 10 = .ok (.ireturn, 1) := by decide +kernel
theorem dJ0_isLatin1_aae02_0 : decode cJ0_isLatin1_aae02 0 = .ok (.getstatic 38, 3) := by decide +kernel
theorem dJ0_isLatin1_aae02_3 : decode cJ0_isLatin1_aae02 3 = .ok (.ifCond .eq 14, 3) := by decide +kernel
theorem dJ0_isLatin1_aae02_6 : decode cJ0_isLatin1_aae02 6 = .ok (.aload_n 0, 1) := by decide +kernel
theorem dJ0_isLatin1_aae02_7 : decode cJ0_isLatin1_aae02 7 = .ok (.getfield 15, 3) := by decide +kernel
theorem dJ0_isLatin1_aae02_10 : decode cJ0_isLatin1_aae02 10 = .ok (.ifCond .ne 7, 3) := by decide +kernel
theorem dJ0_isLatin1_aae02_13 : decode cJ0_isLatin1_aae02 13 = .ok (.iconst 1, 1) := by decide +kernel
theorem dJ0_isLatin1_aae02_14 : decode cJ0_isLatin1_aae02 14 = .ok (.goto 4, 3) := by decide +kernel
theorem dJ0_isLatin1_aae02_17 : decode cJ0_isLatin1_aae02 17 = .ok (.iconst 0, 1) := by decide +kernel
theorem dJ0_isLatin1_aae02_18 : decode cJ0_isLatin1_aae02 18 = .ok (.ireturn, 1) := by decide +kernel
theorem dJ0_charAt_5068e_0 : decode cJ0_charAt_5068e 0 = .ok (.aload_n 0, 1) := by decide +kernel
theorem dJ0_charAt_5068e_1 : decode cJ0_charAt_5068e 1 = .ok (.invokevirtual 492, 3) := by decide +kernel
theorem dJ0_charAt_5068e_4 : decode cJ0_charAt_5068e 4 = .ok (.ifCond .eq 12, 3) := by decide +kernel
theorem dJ0_charAt_5068e_7 : decode cJ0_charAt_5068e 7 = .ok (.aload_n 0, 1) := by decide +kernel
theorem dJ0_charAt_5068e_8 : decode cJ0_charAt_5068e 8 = .ok (.getfield 9, 3) := by decide +kernel
theorem dJ0_charAt_5068e_11 : decode cJ0_charAt_5068e 11 = .ok (.iload_n 1, 1) := by decide +kernel
theorem dJ0_charAt_5068e_12 : decode cJ0_charAt_5068e 12 = .ok (.invokestatic 495, 3) := by decide +kernel
theorem dJ0_charAt_5068e_15 : decode cJ0_charAt_5068e 15 = .ok (.ireturn, 1) := by decide +kernel
theorem dJ0_charAt_5068e_16 : decode cJ0_charAt_5068e 16 = .ok (.aload_n 0, 1) := by decide +kernel
theorem dJ0_charAt_5068e_17 : decode cJ0_charAt_5068e 17 = .ok (.getfield 9, 3) := by decide +kernel
theorem dJ0_charAt_5068e_20 : decode cJ0_charAt_5068e 20 = .ok (.iload_n 1, 1) := by decide +kernel
theorem dJ0_charAt_5068e_21 : decode cJ0_charAt_5068e 21 = .ok (.invokestatic 498, 3) := by decide +kernel
theorem dJ0_charAt_5068e_24 : decode cJ0_charAt_5068e 24 = .ok (.ireturn, 1) := by decide +kernel
theorem dJ1_charAt_3b067_0 : decode cJ1_charAt_3b067 0 = .ok (.iload_n 1, 1) := by decide +kernel
theorem dJ1_charAt_3b067_1 : decode cJ1_charAt_3b067 1 = .ok (.aload_n 0, 1) := by decide +kernel
theorem dJ1_charAt_3b067_2 : decode cJ1_charAt_3b067 2 = .ok (.arraylength, 1) := by decide +kernel
theorem dJ1_charAt_3b067_3 : decode cJ1_charAt_3b067 3 = .ok (.invokestatic 9, 3) := by decide +kernel
theorem dJ1_charAt_3b067_6 : decode cJ1_charAt_3b067 6 = .ok (.aload_n 0, 1) := by decide +kernel
theorem dJ1_charAt_3b067_7 : decode cJ1_charAt_3b067 7 = .ok (.iload_n 1, 1) := by decide +kernel
theorem dJ1_charAt_3b067_8 : decode cJ1_charAt_3b067 8 = .ok (.baload, 1) := by decide +kernel
theorem dJ1_charAt_3b067_9 : decode cJ1_charAt_3b067 9 = .ok (.sipush 255, 3) := by decide +kernel
theorem dJ1_charAt_3b067_12 : decode cJ1_charAt_3b067 12 = .ok (.iand, 1) := by decide +kernel
theorem dJ1_charAt_3b067_13 : decode cJ1_charAt_3b067 13 = .ok (.i2c, 1) := by decide +kernel
theorem dJ1_charAt_3b067_14 : decode cJ1_charAt_3b067 14 = .ok (.ireturn, 1) := by decide +kernel
theorem dJ0_checkIndex_df160_0 : decode cJ0_checkIndex_df160 0 = .ok (.iload_n 0, 1) := by decide +kernel
theorem dJ0_checkIndex_df160_1 : decode cJ0_checkIndex_df160 1 = .ok (.iload_n 1, 1) := by decide +kernel
theorem dJ0_checkIndex_df160_2 : decode cJ0_checkIndex_df160 2 = .ok (.getstatic 1053, 3) := by decide +kernel
theorem dJ0_checkIndex_df160_5 : decode cJ0_checkIndex_df160 5 = .ok (.invokestatic 1059, 3) := by decide +kernel
theorem dJ0_checkIndex_df160_8 : decode cJ0_checkIndex_df160 8 = .ok (.pop, 1) := by decide +kernel
theorem dJ0_checkIndex_df160_9 : decode cJ0_checkIndex_df160 9 = .ok (.return_, 1) := by decide +kernel
theorem dJ3_checkIndex_8e157_0 : decode cJ3_checkIndex_8e157 0 = .ok (.iload_n 0, 1) := by decide +kernel
theorem dJ3_checkIndex_8e157_1 : decode cJ3_checkIndex_8e157 1 = .ok (.ifCond .lt 8, 3) := by decide +kernel
theorem dJ3_checkIndex_8e157_4 : decode cJ3_checkIndex_8e157 4 = .ok (.iload_n 0, 1) := by decide +kernel
theorem dJ3_checkIndex_8e157_5 : decode cJ3_checkIndex_8e157 5 = .ok (.iload_n 1, 1) := by decide +kernel
theorem dJ3_checkIndex_8e157_6 : decode cJ3_checkIndex_8e157 6 = .ok (.if_icmp .lt 10, 3) := by decide +kernel
theorem dJ3_checkIndex_8e157_9 : decode cJ3_checkIndex_8e157 9 = .ok (.aload_n 2, 1) := by decide +kernel
theorem dJ3_checkIndex_8e157_10 : decode cJ3_checkIndex_8e157 10 = .ok (.iload_n 0, 1) := by decide +kernel
theorem dJ3_checkIndex_8e157_11 : decode cJ3_checkIndex_8e157 11 = .ok (.iload_n 1, 1) := by decide +kernel
theorem dJ3_checkIndex_8e157_12 : decode cJ3_checkIndex_8e157 12 = .ok (.invokestatic 95, 3) := by decide +kernel
theorem dJ3_checkIndex_8e157_15 : decode cJ3_checkIndex_8e157 15 = .ok (.athrow, 1) := by decide +kernel
theorem dJ3_checkIndex_8e157_16 : decode cJ3_checkIndex_8e157 16 = .ok (.iload_n 0, 1) := by decide +kernel
theorem dJ3_checkIndex_8e157_17 : decode cJ3_checkIndex_8e157 17 = .ok (.ireturn, 1) := by decide +kernel
theorem c_coder {l : Launch} {Z : Shp} {g : Gh} {w : Wd} {i : Nat} (hi : i < 6) : Met l yJ0_coder_7d493 (Cond.code yJ0_coder_7d493 cJ0_coder_7d493 1 (some .byte) :: TT) (rmd 0) (Pcw Z g w [.ref (g.2.2 (2000 + i))]) (Qw Z g w (some (.int 0))) 0 0 (zA Z g) := by
  refine mt_start (by decide) (Nat.le_of_ble_eq_true rfl) ?_
  intro p e s m args below meth c H locs ls X hr hl hH
  have hx := X.1
  have hb := X.2.1
  have hl : lv_has ls 1 [(0, .ref (g.2.2 (2000 + i)))] := hl
  refine w_compact X hH dJ0_coder_7d493_0 ?_
  refine lv_if_eq (tgt := 13) hx hb dJ0_coder_7d493_3 (by decide) (fun h => absurd h (by decide)) (fun _ => ?_)
  refine lv_aload_n hx hb dJ0_coder_7d493_6 rfl (lv_at hl 0 rfl) ?_
  refine w_scoder X hH hi dJ0_coder_7d493_7 ?_
  refine lv_goto (tgt := 14) hx hb dJ0_coder_7d493_10 (by decide) ?_
  exact w_tret X hH hr rfl dJ0_coder_7d493_14
theorem c_slength {l : Launch} {Z : Shp} {g : Gh} {w : Wd} {i : Nat} (hi : i < 6) : Met l yJ0_length_8abf5 (Cond.code yJ0_length_8abf5 cJ0_length_8abf5 1 (some .int) :: TT) (rmd 1) (Pcw Z g w [.ref (g.2.2 (2000 + i))]) (Qw Z g w (some (.int (nI (kwLen.getD i 0))))) 0 0 (zA Z g) := by
  refine mt_start (by decide) (Nat.le_of_ble_eq_true rfl) ?_
  intro p e s m args below meth c H locs ls X hr hl hH
  have hx := X.1
  have hb := X.2.1
  have hl : lv_has ls 1 [(0, .ref (g.2.2 (2000 + i)))] := hl
  refine lv_aload_n hx hb dJ0_length_8abf5_0 rfl (lv_at hl 0 rfl) ?_
  refine w_svalue X hH hi dJ0_length_8abf5_1 ?_
  refine va_tlen hx hb ((X.2.2.2.2.2.2.2.1.2.2.1.1 i hi).2.2.2) hH.2.2 rfl dJ0_length_8abf5_4 ?_
  refine lv_aload_n hx hb dJ0_length_8abf5_5 rfl (lv_at hl 0 rfl) ?_
  refine w_callV0 (As := []) (rest := [.int (Int32.ofNat (kwLen.getD i 0))]) (st1 := [.int 0, .int (Int32.ofNat (kwLen.getD i 0))]) X hH (c_coder (l := l) (g := g) (w := w) hi) (Or.inl tw_6_13) ms_coder im_coder (vk_recv (adK := fun i => g.2.2 (2000 + i)) (i := i) X.2.2.2.2.2.2.2.1.2.2.1 hi hH.2.2) ⟨Nat.le_of_ble_eq_true rfl, Nat.le_of_ble_eq_true rfl⟩ rfl rfl hl.1 (Nat.le_of_ble_eq_true rfl) dJ0_length_8abf5_6 ⟨Nat.le_refl _, Nat.le_refl _⟩ rfl (fun H locs hH => ?_)
  refine lv_ishr hx hb dJ0_length_8abf5_9 ?_
  have e0 : Int32.ofNat (kwLen.getD i 0) >>> ((0 : Int32) &&& 31) = nI (kwLen.getD i 0) := sb_shr0 _
  rw [e0]
  exact w_iret X hH hr dJ0_length_8abf5_10
theorem c_isLatin1 {l : Launch} {Z : Shp} {g : Gh} {w : Wd} {i : Nat} (hi : i < 6) : Met l yJ0_isLatin1_aae02 (Cond.code yJ0_isLatin1_aae02 cJ0_isLatin1_aae02 1 (some .boolean) :: TT) (rmd 0) (Pcw Z g w [.ref (g.2.2 (2000 + i))]) (Qw Z g w (some (.int 1))) 0 0 (zA Z g) := by
  refine mt_start (by decide) (Nat.le_of_ble_eq_true rfl) ?_
  intro p e s m args below meth c H locs ls X hr hl hH
  have hx := X.1
  have hb := X.2.1
  have hl : lv_has ls 1 [(0, .ref (g.2.2 (2000 + i)))] := hl
  refine w_compact X hH dJ0_isLatin1_aae02_0 ?_
  refine lv_if_eq (tgt := 17) hx hb dJ0_isLatin1_aae02_3 (by decide) (fun h => absurd h (by decide)) (fun _ => ?_)
  refine lv_aload_n hx hb dJ0_isLatin1_aae02_6 rfl (lv_at hl 0 rfl) ?_
  refine w_scoder X hH hi dJ0_isLatin1_aae02_7 ?_
  refine lv_if_ne (tgt := 17) hx hb dJ0_isLatin1_aae02_10 (by decide) (fun h => absurd rfl h) (fun _ => ?_)
  refine lv_iconst (v := (1 : Int32)) hx hb dJ0_isLatin1_aae02_13 (by decide) ?_
  refine lv_goto (tgt := 18) hx hb dJ0_isLatin1_aae02_14 (by decide) ?_
  exact w_tret X hH hr rfl dJ0_isLatin1_aae02_18
theorem c_pCheck {l : Launch} {Z : Shp} {g : Gh} {w : Wd} {i n : Int32} {v : Value} (hv : v.category = 1) (h0 : ¬ i < 0) (h1 : i < n) : Met l yJ3_checkIndex_8e157 (Cond.code yJ3_checkIndex_8e157 cJ3_checkIndex_8e157 3 (some .int) :: TT) (rmd 0) (Pcw Z g w [.int i, .int n, v]) (Qw Z g w (some (.int i))) 0 0 (zA Z g) := by
  refine mt_start (by decide) (by simp [lg_sl, hv, show (Value.int i).category = 1 from rfl, show (Value.int n).category = 1 from rfl]) ?_
  intro p e s m args below meth c H locs ls X hr hl hH
  have hx := X.1
  have hb := X.2.1
  have hl : lv_has ls 3 [(0, .int i), (1, .int n), (2, v)] := hl
  refine lv_iload_n hx hb dJ3_checkIndex_8e157_0 rfl (lv_at hl 0 rfl) ?_
  refine lv_if_lt (tgt := 9) hx hb dJ3_checkIndex_8e157_1 (by decide) (fun h => absurd h h0) (fun _ => ?_)
  refine lv_iload_n hx hb dJ3_checkIndex_8e157_4 rfl (lv_at hl 0 rfl) ?_
  refine lv_iload_n hx hb dJ3_checkIndex_8e157_5 rfl (lv_at hl 1 rfl) ?_
  refine lv_icmp_lt (tgt := 16) hx hb dJ3_checkIndex_8e157_6 (by decide) (fun _ => ?_) (fun h => absurd h1 h)
  refine lv_iload_n hx hb dJ3_checkIndex_8e157_16 rfl (lv_at hl 0 rfl) ?_
  exact w_iret X hH hr dJ3_checkIndex_8e157_17
theorem c_sCheck {l : Launch} {Z : Shp} {g : Gh} {w : Wd} {i n : Int32} (h0 : ¬ i < 0) (h1 : i < n) : Met l yJ0_checkIndex_df160 (Cond.code yJ0_checkIndex_df160 cJ0_checkIndex_df160 2 none :: TT) (rmd 1) (Pcw Z g w [.int i, .int n]) (Qw Z g w none) 0 0 (zA Z g) := by
  refine mt_start (by decide) (Nat.le_of_ble_eq_true rfl) ?_
  intro p e s m args below meth c H locs ls X hr hl hH
  have hx := X.1
  have hb := X.2.1
  have hl : lv_has ls 2 [(0, .int i), (1, .int n)] := hl
  refine lv_iload_n hx hb dJ0_checkIndex_df160_0 rfl (lv_at hl 0 rfl) ?_
  refine lv_iload_n hx hb dJ0_checkIndex_df160_1 rfl (lv_at hl 1 rfl) ?_
  have key : ∀ v : Value, v.category = 1 → W p l e (rmd 1) s m args below meth c H locs 0 0 (MQ below (Qw Z g w none) args s 0 0 (zA Z g)) (F0 m 5 ls [v, .int n, .int i]) := by
    intro v hv
    refine w_callS (As := [.int i, .int n, v]) (rest := []) (st1 := [.int i]) X hH (c_pCheck (l := l) (g := g) (w := w) hv h0 h1) (Or.inl tw_6_35) ms_pCheck tw_6_36 ⟨Nat.le_of_ble_eq_true rfl, Nat.le_of_ble_eq_true rfl⟩ rfl rfl hl.1 (Nat.le_of_ble_eq_true rfl) dJ0_checkIndex_df160_5 ⟨Nat.le_refl _, Nat.le_refl _⟩ rfl (fun H locs hH => ?_)
    refine lv_pop hx hb dJ0_checkIndex_df160_8 rfl ?_
    exact w_vret X hH hr dJ0_checkIndex_df160_9
  obtain ⟨-, -, hml, hown, ht, hK, hN, hZ, -⟩ := id X
  rcases hZ.2.2.2.2.2 with h | ⟨t, h⟩
  · exact va_gets hx hb (ref := "jdk/internal/util/Preconditions") h hH.2.2 hown (ht _ tw_6_33) (fun _ h => h) dJ0_checkIndex_df160_2 (key _ rfl)
  · exact va_gets hx hb (ref := "jdk/internal/util/Preconditions") h hH.2.2 hown (ht _ tw_6_33) (fun _ h => h) dJ0_checkIndex_df160_2 (key _ rfl)
theorem c_latChar {l : Launch} {Z : Shp} {g : Gh} {w : Wd} {i : Nat} {k x : Int32} (hi : i < 6) (h : rdS (kwCh i) (kwLen.getD i 0) k = some x) : Met l yJ1_charAt_3b067 (Cond.code yJ1_charAt_3b067 cJ1_charAt_3b067 2 (some .char) :: TT) (rmd 2) (Pcw Z g w [.ref (g.2.2 (3000 + i)), .int k]) (Qw Z g w (some (.int x))) 0 0 (zA Z g) := by
  obtain ⟨h1, h2⟩ := rd_in (a := x) h
  cases h2
  have hn : kwLen.getD i 0 < 2 ^ 31 := by
    rcases (show i = 0 ∨ i = 1 ∨ i = 2 ∨ i = 3 ∨ i = 4 ∨ i = 5 by omega) with rfl | rfl | rfl | rfl | rfl | rfl <;> decide
  have h3 : ¬ k < 0 ∧ k < nI (kwLen.getD i 0) := by
    obtain ⟨j, hj, rfl⟩ := vp_in_of h1 hn
    exact ⟨nI_pos (by omega), nI_lt hj hn⟩
  refine mt_start (by decide) (Nat.le_of_ble_eq_true rfl) ?_
  intro p e s m args below meth c H locs ls X hr hl hH
  have hx := X.1
  have hb := X.2.1
  have hl : lv_has ls 2 [(0, .ref (g.2.2 (3000 + i))), (1, .int k)] := hl
  have hT := (X.2.2.2.2.2.2.2.1.2.2.1.1 i hi).2.2.2
  refine lv_iload_n hx hb dJ1_charAt_3b067_0 rfl (lv_at hl 1 rfl) ?_
  refine lv_aload_n hx hb dJ1_charAt_3b067_1 rfl (lv_at hl 0 rfl) ?_
  refine va_tlen hx hb hT hH.2.2 (v := nI (kwLen.getD i 0)) rfl dJ1_charAt_3b067_2 ?_
  refine w_callS (As := [.int k, .int (nI (kwLen.getD i 0))]) (rest := []) (st1 := []) X hH (c_sCheck (l := l) (g := g) (w := w) h3.1 h3.2) (Or.inl tw_6_30) ms_sCheck tw_6_31 ⟨Nat.le_of_ble_eq_true rfl, Nat.le_of_ble_eq_true rfl⟩ rfl rfl hl.1 (Nat.le_of_ble_eq_true rfl) dJ1_charAt_3b067_3 ⟨Nat.le_refl _, Nat.le_refl _⟩ rfl (fun H locs hH => ?_)
  refine lv_aload_n hx hb dJ1_charAt_3b067_6 rfl (lv_at hl 0 rfl) ?_
  refine lv_iload_n hx hb dJ1_charAt_3b067_7 rfl (lv_at hl 1 rfl) ?_
  refine va_tb hx hb hT hH.2.2 h1 rfl dJ1_charAt_3b067_8 ?_
  refine lv_sipush (v := (255 : Int32)) hx hb dJ1_charAt_3b067_9 (by decide) ?_
  refine lv_iand hx hb dJ1_charAt_3b067_12 ?_
  refine lv_i2c hx hb dJ1_charAt_3b067_13 (sc_c2 _) ?_
  exact w_tret X hH hr (sc_nar _) dJ1_charAt_3b067_14
theorem c_scharAt {l : Launch} {Z : Shp} {g : Gh} {w : Wd} {i : Nat} {k x : Int32} (hi : i < 6) (h : rdS (kwCh i) (kwLen.getD i 0) k = some x) : Met l yJ0_charAt_5068e (Cond.code yJ0_charAt_5068e cJ0_charAt_5068e 2 (some .char) :: TT) (rmd 3) (Pcw Z g w [.ref (g.2.2 (2000 + i)), .int k]) (Qw Z g w (some (.int x))) 0 0 (zA Z g) := by
  refine mt_start (by decide) (Nat.le_of_ble_eq_true rfl) ?_
  intro p e s m args below meth c H locs ls X hr hl hH
  have hx := X.1
  have hb := X.2.1
  have hl : lv_has ls 2 [(0, .ref (g.2.2 (2000 + i))), (1, .int k)] := hl
  refine lv_aload_n hx hb dJ0_charAt_5068e_0 rfl (lv_at hl 0 rfl) ?_
  refine w_callV0 (As := []) (rest := []) (st1 := [.int 1]) X hH (c_isLatin1 (l := l) (g := g) (w := w) hi) (Or.inl tw_6_23) ms_isLatin1 im_isLatin1 (vk_recv (adK := fun i => g.2.2 (2000 + i)) (i := i) X.2.2.2.2.2.2.2.1.2.2.1 hi hH.2.2) ⟨Nat.le_of_ble_eq_true rfl, Nat.le_of_ble_eq_true rfl⟩ rfl rfl hl.1 (Nat.le_of_ble_eq_true rfl) dJ0_charAt_5068e_1 ⟨Nat.le_refl _, Nat.le_refl _⟩ rfl (fun H locs hH => ?_)
  refine lv_if_eq (tgt := 16) hx hb dJ0_charAt_5068e_4 (by decide) (fun h => absurd h (by decide)) (fun _ => ?_)
  refine lv_aload_n hx hb dJ0_charAt_5068e_7 rfl (lv_at hl 0 rfl) ?_
  refine w_svalue X hH hi dJ0_charAt_5068e_8 ?_
  refine lv_iload_n hx hb dJ0_charAt_5068e_11 rfl (lv_at hl 1 rfl) ?_
  refine w_callS (As := [.ref (g.2.2 (3000 + i)), .int k]) (rest := []) (st1 := [.int x]) X hH (c_latChar (l := l) (g := g) (w := w) hi h) (Or.inl tw_6_27) ms_latChar tw_6_28 ⟨Nat.le_of_ble_eq_true rfl, Nat.le_of_ble_eq_true rfl⟩ rfl rfl hl.1 (Nat.le_of_ble_eq_true rfl) dJ0_charAt_5068e_12 ⟨Nat.le_refl _, Nat.le_refl _⟩ rfl (fun H locs hH => ?_)
  refine w_tret X hH hr ?_ dJ0_charAt_5068e_15
  obtain ⟨h1, h2⟩ := rd_in (a := x) h
  cases h2
  exact sc_nar _
section ST2
variable {p : Program} {l : Launch} {e : Env} {d : Nat} {s : State} {m : MethodId} {args : Array Value} {below : List Frame} {meth : Method} {c : Code} {H : Heap} {locs : List Loc} {Q : State → Prop}
variable {cc : ByteArray} {nL : Nat} {Z : Shp} {g : Gh} {w : Wd} {pc : Nat} {ls : Array Slot} {rest : List Value}
theorem w_slength (X : Amb p s m args meth c cc nL RX10 Z g) (hH : HW Z g w s.heap H locs) {i : Nat} (hi : i < 6) (hR : 2 ≤ d) (hsz : ls.size = nL) (hW : (rest.map fun v => v.category).sum ≤ 8) (hdg : decode cc pc = .ok (.invokevirtual 132, 3)) (kk : ∀ (H : Heap) (locs : List Loc), HW Z g w s.heap H locs → W p l e (rmd d) s m args below meth c H locs 0 0 Q (F0 m (pc + 3) ls (.int (nI (kwLen.getD i 0)) :: rest))) : W p l e (rmd d) s m args below meth c H locs 0 0 Q (F0 m pc ls (.ref (g.2.2 (2000 + i)) :: rest)) :=
  w_callV0 (As := []) (rest := rest) X hH (c_slength (l := l) (g := g) (w := w) hi) (Or.inl tw_6_9) ms_slength im_slength (vk_recv (adK := fun i => g.2.2 (2000 + i)) (i := i) X.2.2.2.2.2.2.2.1.2.2.1 hi hH.2.2) ⟨hR, by show 8 + (1 + 11) + 40 * 1 ≤ 40 * d; omega⟩ rfl rfl hsz hW hdg ⟨Nat.le_refl _, Nat.le_refl _⟩ rfl kk
theorem w_scharAt (X : Amb p s m args meth c cc nL RX10 Z g) (hH : HW Z g w s.heap H locs) {i : Nat} (hi : i < 6) {k x : Int32} (h : rdS (kwCh i) (kwLen.getD i 0) k = some x) (hR : 4 ≤ d) (hsz : ls.size = nL) (hW : (rest.map fun v => v.category).sum ≤ 8) (hdg : decode cc pc = .ok (.invokevirtual 137, 3)) (kk : ∀ (H : Heap) (locs : List Loc), HW Z g w s.heap H locs → W p l e (rmd d) s m args below meth c H locs 0 0 Q (F0 m (pc + 3) ls (.int x :: rest))) : W p l e (rmd d) s m args below meth c H locs 0 0 Q (F0 m pc ls (.int k :: .ref (g.2.2 (2000 + i)) :: rest)) :=
  w_callV0 (As := [.int k]) (rest := rest) X hH (c_scharAt (l := l) (g := g) (w := w) hi h) (Or.inl tw_6_19) ms_scharAt im_scharAt (vk_recv (adK := fun i => g.2.2 (2000 + i)) (i := i) X.2.2.2.2.2.2.2.1.2.2.1 hi hH.2.2) ⟨hR, by show 8 + (2 + 11) + 40 * 3 ≤ 40 * d; omega⟩ rfl rfl hsz hW hdg ⟨Nat.le_refl _, Nat.le_refl _⟩ rfl kk
end ST2
