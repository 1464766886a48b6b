-- deps: 24
/-! kindOf and operand where they return; the law's small methods. -/
theorem dX9_kindOf_0 : decode cX9_kindOf 0 = .ok (.aload_n 0, 1) := by decide +kernel
theorem dX9_kindOf_1 : decode cX9_kindOf 1 = .ok (.iload_n 1, 1) := by decide +kernel
theorem dX9_kindOf_2 : decode cX9_kindOf 2 = .ok (.invokevirtual 122, 3) := by decide +kernel
theorem dX9_kindOf_5 : decode cX9_kindOf 5 = .ok (.ifCond .ne 13, 3) := by decide +kernel
theorem dX9_kindOf_8 : decode cX9_kindOf 8 = .ok (.new 126, 3) := by decide +kernel
theorem dX9_kindOf_11 : decode cX9_kindOf 11 = .ok (.dup, 1) := by decide +kernel
theorem dX9_kindOf_12 : decode cX9_kindOf 12 = .ok (.ldc 128, 2) := by decide +kernel
theorem dX9_kindOf_14 : decode cX9_kindOf 14 = .ok (.invokespecial 130, 3) := by decide +kernel
theorem dX9_kindOf_17 : decode cX9_kindOf 17 = .ok (.athrow, 1) := by decide +kernel
theorem dX9_kindOf_18 : decode cX9_kindOf 18 = .ok (.aload_n 0, 1) := by decide +kernel
theorem dX9_kindOf_19 : decode cX9_kindOf 19 = .ok (.getfield 19, 3) := by decide +kernel
theorem dX9_kindOf_22 : decode cX9_kindOf 22 = .ok (.getfield 96, 3) := by decide +kernel
theorem dX9_kindOf_25 : decode cX9_kindOf 25 = .ok (.getfield 133, 3) := by decide +kernel
theorem dX9_kindOf_28 : decode cX9_kindOf 28 = .ok (.iload_n 1, 1) := by decide +kernel
theorem dX9_kindOf_29 : decode cX9_kindOf 29 = .ok (.iaload, 1) := by decide +kernel
theorem dX9_kindOf_30 : decode cX9_kindOf 30 = .ok (.ireturn, 1) := by decide +kernel
theorem ms_X9_kindOf : MSt yX9_kindOf cX9_kindOf 2 (some .int) 1 := ⟨tw_5_9, tw_1_1, by decide, by decide, by decide +kernel⟩
theorem im_X9_kindOf : IMt yX9_kindOf := ⟨tw_5_7, tw_5_8⟩
theorem dX9_operand_0 : decode cX9_operand 0 = .ok (.aload_n 0, 1) := by decide +kernel
theorem dX9_operand_1 : decode cX9_operand 1 = .ok (.iload_n 1, 1) := by decide +kernel
theorem dX9_operand_2 : decode cX9_operand 2 = .ok (.invokevirtual 122, 3) := by decide +kernel
theorem dX9_operand_5 : decode cX9_operand 5 = .ok (.ifCond .ne 13, 3) := by decide +kernel
theorem dX9_operand_8 : decode cX9_operand 8 = .ok (.new 126, 3) := by decide +kernel
theorem dX9_operand_11 : decode cX9_operand 11 = .ok (.dup, 1) := by decide +kernel
theorem dX9_operand_12 : decode cX9_operand 12 = .ok (.ldc 128, 2) := by decide +kernel
theorem dX9_operand_14 : decode cX9_operand 14 = .ok (.invokespecial 130, 3) := by decide +kernel
theorem dX9_operand_17 : decode cX9_operand 17 = .ok (.athrow, 1) := by decide +kernel
theorem dX9_operand_18 : decode cX9_operand 18 = .ok (.iload_n 2, 1) := by decide +kernel
theorem dX9_operand_19 : decode cX9_operand 19 = .ok (.ifCond .lt 8, 3) := by decide +kernel
theorem dX9_operand_22 : decode cX9_operand 22 = .ok (.iload_n 2, 1) := by decide +kernel
theorem dX9_operand_23 : decode cX9_operand 23 = .ok (.iconst 3, 1) := by decide +kernel
theorem dX9_operand_24 : decode cX9_operand 24 = .ok (.if_icmp .lt 13, 3) := by decide +kernel
theorem dX9_operand_27 : decode cX9_operand 27 = .ok (.new 126, 3) := by decide +kernel
theorem dX9_operand_30 : decode cX9_operand 30 = .ok (.dup, 1) := by decide +kernel
theorem dX9_operand_31 : decode cX9_operand 31 = .ok (.ldc 137, 2) := by decide +kernel
theorem dX9_operand_33 : decode cX9_operand 33 = .ok (.invokespecial 130, 3) := by decide +kernel
theorem dX9_operand_36 : decode cX9_operand 36 = .ok (.athrow, 1) := by decide +kernel
theorem dX9_operand_37 : decode cX9_operand 37 = .ok (.aload_n 0, 1) := by decide +kernel
theorem dX9_operand_38 : decode cX9_operand 38 = .ok (.getfield 19, 3) := by decide +kernel
theorem dX9_operand_41 : decode cX9_operand 41 = .ok (.getfield 96, 3) := by decide +kernel
theorem dX9_operand_44 : decode cX9_operand 44 = .ok (.iload_n 1, 1) := by decide +kernel
theorem dX9_operand_45 : decode cX9_operand 45 = .ok (.iload_n 2, 1) := by decide +kernel
theorem dX9_operand_46 : decode cX9_operand 46 = .ok (.invokevirtual 139, 3) := by decide +kernel
theorem dX9_operand_49 : decode cX9_operand 49 = .ok (.ireturn, 1) := by decide +kernel
theorem ms_X9_operand : MSt yX9_operand cX9_operand 3 (some .int) 2 := ⟨tw_4_171, tw_1_1, by decide, by decide, by decide +kernel⟩
theorem im_X9_operand : IMt yX9_operand := ⟨tw_4_169, tw_4_170⟩
set_option maxHeartbeats 4000000 in
theorem c_X9_kindOf {l : Launch} {g : Gh} {w : Wd} {k0 : Nat} {v_c : Int32} {rz : Int32} (hF : f_L_kindOf w k0 v_c = some rz) (hk0 : zct zC k0 = 9) : Met l yX9_kindOf (Cond.code yX9_kindOf cX9_kindOf 2 (some .int) :: TT) (rmd 1) (Pcw zC g w [.ref (g.2.2 k0), .int (v_c)]) (Qw zC g w (some (.int (rz)))) 0 0 (zA zC g) := by
  refine mt_start (by decide) (Nat.le_of_ble_eq_true rfl) ?_
  intro p e s m args below meth c H locs ls X hr hl hH
  have hx := X.1
  have hb := X.2.1
  have hl : lv_has ls 2 [(0, .ref (g.2.2 (k0))), (1, .int (v_c))] := hl
  unfold f_L_kindOf at hF
  obtain ⟨x1, h1, hF⟩ := ob hF
  refine lv_aload_n hx hb dX9_kindOf_0 rfl (lv_at hl 0 rfl) ?_
  refine lv_iload_n hx hb dX9_kindOf_1 rfl (lv_at hl 1 rfl) ?_
  refine w_callV (As := [.int (v_c)]) (k := k0) (rest := []) (st1 := [.int (bI (x1))]) X hH (c_X9_isConstraint (l := l) (g := g) (w := w) (k0 := k0) (v_constraint := v_c) h1 hk0) (Or.inl tw_4_172) ms_X9_isConstraint im_X9_isConstraint hk0 cn_9 ⟨Nat.le_of_ble_eq_true rfl, Nat.le_of_ble_eq_true rfl⟩ rfl rfl hl.1 (Nat.le_of_ble_eq_true rfl) dX9_kindOf_2 ⟨Nat.le_refl _, Nat.le_refl _⟩ rfl (fun H locs hH => ?_)
  cases x1 with
  | false => cases hF
  | true =>
  replace hF := ifp rfl hF
  refine lv_if_ne (tgt := 18) hx hb dX9_kindOf_5 (by decide) (fun _ => ?_) (fun q => absurd q (by decide))
  obtain ⟨x2, h2, hF⟩ := ob hF
  refine lv_aload_n hx hb dX9_kindOf_18 rfl (lv_at hl 0 rfl) ?_
  refine w_getd X hH h2 hk0 fs_9_1 lk_9_19 dX9_kindOf_19 (fun q2 => ?_)
  refine w_getr X hH q2 fs_6_6 lk_9_96 dX9_kindOf_22 ?_
  refine w_getr X hH (rt_C_6_6 q2) fs_0_0 lk_9_133 dX9_kindOf_25 ?_
  refine lv_iload_n hx hb dX9_kindOf_28 rfl (lv_at hl 1 rfl) ?_
  refine w_iald X hH hF (rt_C_0_0 (rt_C_6_6 q2)) dX9_kindOf_29 ?_
  exact w_iret X hH hr dX9_kindOf_30
set_option maxHeartbeats 4000000 in
theorem c_X9_operand {l : Launch} {g : Gh} {w : Wd} {k0 : Nat} {v_c v_p : Int32} {rz : Int32} (hF : f_L_operand w k0 v_c v_p = some rz) (hk0 : zct zC k0 = 9) : Met l yX9_operand (Cond.code yX9_operand cX9_operand 3 (some .int) :: TT) (rmd 1) (Pcw zC g w [.ref (g.2.2 k0), .int (v_c), .int (v_p)]) (Qw zC g w (some (.int (rz)))) 0 0 (zA zC g) := by
  refine mt_start (by decide) (Nat.le_of_ble_eq_true rfl) ?_
  intro p e s m args below meth c H locs ls X hr hl hH
  have hx := X.1
  have hb := X.2.1
  have hl : lv_has ls 3 [(0, .ref (g.2.2 (k0))), (1, .int (v_c)), (2, .int (v_p))] := hl
  unfold f_L_operand at hF
  obtain ⟨x1, h1, hF⟩ := ob hF
  refine lv_aload_n hx hb dX9_operand_0 rfl (lv_at hl 0 rfl) ?_
  refine lv_iload_n hx hb dX9_operand_1 rfl (lv_at hl 1 rfl) ?_
  refine w_callV (As := [.int (v_c)]) (k := k0) (rest := []) (st1 := [.int (bI (x1))]) X hH (c_X9_isConstraint (l := l) (g := g) (w := w) (k0 := k0) (v_constraint := v_c) h1 hk0) (Or.inl tw_4_172) ms_X9_isConstraint im_X9_isConstraint hk0 cn_9 ⟨Nat.le_of_ble_eq_true rfl, Nat.le_of_ble_eq_true rfl⟩ rfl rfl hl.1 (Nat.le_of_ble_eq_true rfl) dX9_operand_2 ⟨Nat.le_refl _, Nat.le_refl _⟩ rfl (fun H locs hH => ?_)
  cases x1 with
  | false => cases hF
  | true =>
  replace hF := ifp rfl hF
  refine lv_if_ne (tgt := 18) hx hb dX9_operand_5 (by decide) (fun _ => ?_) (fun q => absurd q (by decide))
  refine lv_iload_n hx hb dX9_operand_18 rfl (lv_at hl 2 rfl) ?_
  refine lv_if_lt (tgt := 27) hx hb dX9_operand_19 (by decide) (fun q => ?_) (fun q => ?_)
  · rw [if_pos q] at hF; cases hF
  · rw [if_neg q] at hF
    refine lv_iload_n hx hb dX9_operand_22 rfl (lv_at hl 2 rfl) ?_
    refine lv_iconst (v := (3 : Int32)) hx hb dX9_operand_23 (by decide) ?_
    refine lv_icmp_lt (tgt := 37) hx hb dX9_operand_24 (by decide) (fun q2 => ?_) (fun q2 => ?_)
    · rw [if_neg (nle32 q2)] at hF
      obtain ⟨x2, h2, hF⟩ := ob hF
      refine lv_aload_n hx hb dX9_operand_37 rfl (lv_at hl 0 rfl) ?_
      refine w_getd X hH h2 hk0 fs_9_1 lk_9_19 dX9_operand_38 (fun q2 => ?_)
      refine w_getr X hH q2 fs_6_6 lk_9_96 dX9_operand_41 ?_
      refine lv_iload_n hx hb dX9_operand_44 rfl (lv_at hl 1 rfl) ?_
      refine lv_iload_n hx hb dX9_operand_45 rfl (lv_at hl 2 rfl) ?_
      refine w_callV (As := [.int (v_c), .int (v_p)]) (k := zrf zC x2 6) (rest := []) (st1 := [.int rz]) X hH (c_X0_operandAt (l := l) (g := g) (w := w) (k0 := zrf zC x2 6) hF (rt_C_6_6 q2)) (Or.inr ⟨_, tw_5_2⟩) ms_X0_operandAt im_X0_operandAt (rt_C_6_6 q2) cn_0 ⟨Nat.le_of_ble_eq_true rfl, Nat.le_of_ble_eq_true rfl⟩ rfl rfl hl.1 (Nat.le_of_ble_eq_true rfl) dX9_operand_46 ⟨Nat.le_refl _, Nat.le_refl _⟩ rfl (fun H locs hH => ?_)
      exact w_iret X hH hr dX9_operand_49
    · rw [if_pos (len32 q2)] at hF; cases hF
theorem and16 (x : Int32) : ∃ j : Nat, j < 65536 ∧ x &&& 65535 = nI j := by
  refine ⟨(x &&& 65535).toBitVec.toNat, ?_, ?_⟩
  · rw [Int32.toBitVec_and, BitVec.toNat_and]
    exact Nat.lt_of_le_of_lt Nat.and_le_right (by decide)
  · apply Int32.toBitVec_inj.mp
    show _ = BitVec.ofNat 32 _
    rw [BitVec.ofNat_toNat]
    simp
theorem dL_cell_0 : decode cL_cell 0 = .ok (.aload_n 0, 1) := by decide +kernel
theorem dL_cell_1 : decode cL_cell 1 = .ok (.arraylength, 1) := by decide +kernel
theorem dL_cell_2 : decode cL_cell 2 = .ok (.ifCond .ne 7, 3) := by decide +kernel
theorem dL_cell_5 : decode cL_cell 5 = .ok (.iconst 0, 1) := by decide +kernel
theorem dL_cell_6 : decode cL_cell 6 = .ok (.goto 17, 3) := by decide +kernel
theorem dL_cell_9 : decode cL_cell 9 = .ok (.aload_n 0, 1) := by decide +kernel
theorem dL_cell_10 : decode cL_cell 10 = .ok (.iload_n 1, 1) := by decide +kernel
theorem dL_cell_11 : decode cL_cell 11 = .ok (.aload_n 0, 1) := by decide +kernel
theorem dL_cell_12 : decode cL_cell 12 = .ok (.arraylength, 1) := by decide +kernel
theorem dL_cell_13 : decode cL_cell 13 = .ok (.irem, 1) := by decide +kernel
theorem dL_cell_14 : decode cL_cell 14 = .ok (.iaload, 1) := by decide +kernel
theorem dL_cell_15 : decode cL_cell 15 = .ok (.ldc 7, 2) := by decide +kernel
theorem dL_cell_17 : decode cL_cell 17 = .ok (.iload_n 1, 1) := by decide +kernel
theorem dL_cell_18 : decode cL_cell 18 = .ok (.aload_n 0, 1) := by decide +kernel
theorem dL_cell_19 : decode cL_cell 19 = .ok (.arraylength, 1) := by decide +kernel
theorem dL_cell_20 : decode cL_cell 20 = .ok (.idiv, 1) := by decide +kernel
theorem dL_cell_21 : decode cL_cell 21 = .ok (.imul, 1) := by decide +kernel
theorem dL_cell_22 : decode cL_cell 22 = .ok (.ixor, 1) := by decide +kernel
theorem dL_cell_23 : decode cL_cell 23 = .ok (.ireturn, 1) := by decide +kernel
theorem ms_L_cell : MSt yL_cell cL_cell 2 (some .int) 2 := ⟨tw_3_205, tw_1_0, by decide, by decide, by decide +kernel⟩
set_option maxHeartbeats 4000000 in
set_option maxRecDepth 100000 in
theorem k_cell {l : Launch} {g : Gh} {Lx : Nat × (Nat → Int32)} {k : Nat} (hk : k < 1000) (hLx : Lx.1 ≤ 260) : LMt l Lx g yL_cell cL_cell 2 (some .int) 0 0 0 [] [.ref (g.2.2 1002), .int (nI k)] (fun v nb => ∃ x, v = some (.int x) ∧ nb = []) := by
  refine lm_start (by decide) (Nat.le_of_ble_eq_true rfl) ?_
  intro p e s m args below meth c ls X hZ hnm hr hl hL
  have hx := X.1
  have hb := X.2.1
  have hown := X.2.2.2.1
  have ht := X.2.2.2.2.1
  have hl : lv_has ls 2 [(0, .ref (g.2.2 1002)), (1, .int (nI k))] := hl
  refine lv_aload_n hx hb dL_cell_0 rfl (lv_at hl 0 rfl) ?_
  refine x_scl X hZ hL dL_cell_1 ?_
  by_cases hz : Lx.1 = 0
  · rw [hz]
    refine lv_if_ne (tgt := 9) hx hb dL_cell_2 (by decide) (fun q => absurd rfl q) (fun _ => ?_)
    refine lv_iconst (v := (0 : Int32)) hx hb dL_cell_5 (by decide) ?_
    refine lv_goto (tgt := 23) hx hb dL_cell_6 (by decide) ?_
    exact x_iret X hL hr ⟨_, rfl, rfl⟩ (Nat.le_refl _) (Nat.le_refl _) dL_cell_23
  · refine lv_if_ne (tgt := 9) hx hb dL_cell_2 (by decide) (fun _ => ?_) (fun q => absurd ((nI_eq (a := Lx.1) (b := 0) (by omega) (by omega)).mp q) hz)
    refine lv_aload_n hx hb dL_cell_9 rfl (lv_at hl 0 rfl) ?_
    refine lv_iload_n hx hb dL_cell_10 rfl (lv_at hl 1 rfl) ?_
    refine lv_aload_n hx hb dL_cell_11 rfl (lv_at hl 0 rfl) ?_
    refine x_scl X hZ hL dL_cell_12 ?_
    have h0 : ¬ nI Lx.1 = 0 := fun q => hz ((nI_eq (a := Lx.1) (b := 0) (by omega) (by omega)).mp q)
    refine lv_irem hx hb dL_cell_13 h0 ?_
    rw [pk_rem (a := k) (d := Lx.1) (by omega) (by omega) (by omega)]
    refine x_scr X hZ hL (vp_in_nI (Nat.mod_lt _ (by omega)) (by omega)) dL_cell_14 ?_
    refine lv_ldc (own := "PointsToSolverLaw") (v := (40503 : Int32)) hx hb hown (ht _ tw_3_206) dL_cell_15 ?_
    refine lv_iload_n hx hb dL_cell_17 rfl (lv_at hl 1 rfl) ?_
    refine lv_aload_n hx hb dL_cell_18 rfl (lv_at hl 0 rfl) ?_
    refine x_scl X hZ hL dL_cell_19 ?_
    refine lv_idiv hx hb dL_cell_20 h0 ?_
    refine lv_imul hx hb dL_cell_21 ?_
    refine lv_ixor hx hb dL_cell_22 ?_
    exact x_iret X hL hr ⟨_, rfl, rfl⟩ (Nat.le_refl _) (Nat.le_refl _) dL_cell_23
theorem dL_pick_0 : decode cL_pick 0 = .ok (.aload_n 0, 1) := by decide +kernel
theorem dL_pick_1 : decode cL_pick 1 = .ok (.iload_n 1, 1) := by decide +kernel
theorem dL_pick_2 : decode cL_pick 2 = .ok (.invokestatic 8, 3) := by decide +kernel
theorem dL_pick_5 : decode cL_pick 5 = .ok (.ldc 14, 2) := by decide +kernel
theorem dL_pick_7 : decode cL_pick 7 = .ok (.iand, 1) := by decide +kernel
theorem dL_pick_8 : decode cL_pick 8 = .ok (.iload_n 2, 1) := by decide +kernel
theorem dL_pick_9 : decode cL_pick 9 = .ok (.irem, 1) := by decide +kernel
theorem dL_pick_10 : decode cL_pick 10 = .ok (.ireturn, 1) := by decide +kernel
theorem ms_L_pick : MSt yL_pick cL_pick 3 (some .int) 3 := ⟨tw_3_202, tw_1_0, by decide, by decide, by decide +kernel⟩
set_option maxHeartbeats 4000000 in
set_option maxRecDepth 100000 in
theorem k_pick {l : Launch} {g : Gh} {Lx : Nat × (Nat → Int32)} {k n : Nat} (hk : k < 1000) (hLx : Lx.1 ≤ 260) (hn : 0 < n) (hn2 : n < 100) : LMt l Lx g yL_pick cL_pick 3 (some .int) 1 0 0 [] [.ref (g.2.2 1002), .int (nI k), .int (nI n)] (fun v nb => ∃ r, r < n ∧ v = some (.int (nI r)) ∧ nb = []) := by
  refine lm_start (by decide) (Nat.le_of_ble_eq_true rfl) ?_
  intro p e s m args below meth c ls X hZ hnm hr hl hL
  have hx := X.1
  have hb := X.2.1
  have hown := X.2.2.2.1
  have ht := X.2.2.2.2.1
  have hl : lv_has ls 3 [(0, .ref (g.2.2 1002)), (1, .int (nI k)), (2, .int (nI n))] := hl
  refine lv_aload_n hx hb dL_pick_0 rfl (lv_at hl 0 rfl) ?_
  refine lv_iload_n hx hb dL_pick_1 rfl (lv_at hl 1 rfl) ?_
  refine x_callLS (As := [.ref (g.2.2 1002), .int (nI k)]) (rest := []) X hZ [] [] hL (k_cell hk hLx) tw_3_203 ms_L_cell tw_3_204 ⟨Nat.le_of_ble_eq_true rfl, Nat.le_of_ble_eq_true rfl⟩ rfl rfl hl.1 (Nat.le_of_ble_eq_true rfl) dL_pick_2 ⟨Nat.le_of_ble_eq_true rfl, Nat.le_of_ble_eq_true rfl⟩ (fun v nb H locs hB hL => ?_)
  obtain ⟨x, rfl, rfl⟩ := hB
  refine lv_ldc (own := "PointsToSolverLaw") (v := (65535 : Int32)) hx hb hown (ht _ tw_3_207) dL_pick_5 ?_
  refine lv_iand hx hb dL_pick_7 ?_
  obtain ⟨j, hj, ej⟩ := and16 x
  rw [ej]
  refine lv_iload_n hx hb dL_pick_8 rfl (lv_at hl 2 rfl) ?_
  refine lv_irem hx hb dL_pick_9 (fun q => absurd ((nI_eq (a := n) (b := 0) (by omega) (by omega)).mp q) (by omega)) ?_
  rw [pk_rem (a := j) (d := n) (by omega) (by omega) (by omega)]
  exact x_iret X hL hr ⟨j % n, Nat.mod_lt _ hn, rfl, rfl⟩ (Nat.le_refl _) (Nat.le_refl _) dL_pick_10
theorem i2c_fit : ∀ c, c < 128 → ((nI c).toUInt32 % 65536).toInt32 = nI c := by decide +kernel
theorem dL_variable_0 : decode cL_variable 0 = .ok (.bipush 97, 2) := by decide +kernel
theorem dL_variable_2 : decode cL_variable 2 = .ok (.aload_n 0, 1) := by decide +kernel
theorem dL_variable_3 : decode cL_variable 3 = .ok (.iload_n 1, 1) := by decide +kernel
theorem dL_variable_4 : decode cL_variable 4 = .ok (.bipush 6, 2) := by decide +kernel
theorem dL_variable_6 : decode cL_variable 6 = .ok (.invokestatic 38, 3) := by decide +kernel
theorem dL_variable_9 : decode cL_variable 9 = .ok (.iadd, 1) := by decide +kernel
theorem dL_variable_10 : decode cL_variable 10 = .ok (.i2c, 1) := by decide +kernel
theorem dL_variable_11 : decode cL_variable 11 = .ok (.ireturn, 1) := by decide +kernel
theorem ms_L_variable : MSt yL_variable cL_variable 2 (some .char) 2 := ⟨tw_4_69, tw_1_0, by decide, by decide, by decide +kernel⟩
set_option maxHeartbeats 4000000 in
set_option maxRecDepth 100000 in
theorem k_variable {l : Launch} {g : Gh} {Lx : Nat × (Nat → Int32)} {k : Nat} (hk : k < 1000) (hLx : Lx.1 ≤ 260) : LMt l Lx g yL_variable cL_variable 2 (some .char) 2 0 0 [] [.ref (g.2.2 1002), .int (nI k)] (fun v nb => ∃ r, r < 6 ∧ v = some (.int (nI (97 + r))) ∧ nb = []) := by
  refine lm_start (by decide) (Nat.le_of_ble_eq_true rfl) ?_
  intro p e s m args below meth c ls X hZ hnm hr hl hL
  have hx := X.1
  have hb := X.2.1
  have hown := X.2.2.2.1
  have ht := X.2.2.2.2.1
  have hl : lv_has ls 2 [(0, .ref (g.2.2 1002)), (1, .int (nI k))] := hl
  refine lv_bipush (v := (97 : Int32)) hx hb dL_variable_0 (by decide) ?_
  refine lv_aload_n hx hb dL_variable_2 rfl (lv_at hl 0 rfl) ?_
  refine lv_iload_n hx hb dL_variable_3 rfl (lv_at hl 1 rfl) ?_
  refine lv_bipush (v := (6 : Int32)) hx hb dL_variable_4 (by decide) ?_
  refine x_callLS (As := [.ref (g.2.2 1002), .int (nI k), .int (6 : Int32)]) (rest := [.int (97 : Int32)]) X hZ [] [] hL (k_pick (k := k) (n := 6) hk hLx (by decide) (by decide)) tw_3_200 ms_L_pick tw_3_201 ⟨Nat.le_of_ble_eq_true rfl, Nat.le_of_ble_eq_true rfl⟩ rfl rfl hl.1 (Nat.le_of_ble_eq_true rfl) dL_variable_6 ⟨Nat.le_of_ble_eq_true rfl, Nat.le_of_ble_eq_true rfl⟩ (fun v nb H locs hB hL => ?_)
  obtain ⟨r, hr1, rfl, rfl⟩ := hB
  refine lv_iadd hx hb dL_variable_9 ?_
  rw [show (97 : Int32) + nI r = nI (97 + r) from nI_add 97 r]
  refine lv_i2c (v := nI (97 + r)) hx hb dL_variable_10 (i2c_fit _ (by omega)) ?_
  exact x_tret X hL hr (j_char (by omega)) ⟨r, hr1, rfl, rfl⟩ (Nat.le_refl _) (Nat.le_refl _) dL_variable_11
theorem dL_field_0 : decode cL_field 0 = .ok (.bipush 120, 2) := by decide +kernel
theorem dL_field_2 : decode cL_field 2 = .ok (.aload_n 0, 1) := by decide +kernel
theorem dL_field_3 : decode cL_field 3 = .ok (.iload_n 1, 1) := by decide +kernel
theorem dL_field_4 : decode cL_field 4 = .ok (.iconst 2, 1) := by decide +kernel
theorem dL_field_5 : decode cL_field 5 = .ok (.invokestatic 38, 3) := by decide +kernel
theorem dL_field_8 : decode cL_field 8 = .ok (.iadd, 1) := by decide +kernel
theorem dL_field_9 : decode cL_field 9 = .ok (.i2c, 1) := by decide +kernel
theorem dL_field_10 : decode cL_field 10 = .ok (.ireturn, 1) := by decide +kernel
theorem ms_L_field : MSt yL_field cL_field 2 (some .char) 2 := ⟨tw_4_90, tw_1_0, by decide, by decide, by decide +kernel⟩
set_option maxHeartbeats 4000000 in
set_option maxRecDepth 100000 in
theorem k_field {l : Launch} {g : Gh} {Lx : Nat × (Nat → Int32)} {k : Nat} (hk : k < 1000) (hLx : Lx.1 ≤ 260) : LMt l Lx g yL_field cL_field 2 (some .char) 2 0 0 [] [.ref (g.2.2 1002), .int (nI k)] (fun v nb => ∃ r, r < 2 ∧ v = some (.int (nI (120 + r))) ∧ nb = []) := by
  refine lm_start (by decide) (Nat.le_of_ble_eq_true rfl) ?_
  intro p e s m args below meth c ls X hZ hnm hr hl hL
  have hx := X.1
  have hb := X.2.1
  have hown := X.2.2.2.1
  have ht := X.2.2.2.2.1
  have hl : lv_has ls 2 [(0, .ref (g.2.2 1002)), (1, .int (nI k))] := hl
  refine lv_bipush (v := (120 : Int32)) hx hb dL_field_0 (by decide) ?_
  refine lv_aload_n hx hb dL_field_2 rfl (lv_at hl 0 rfl) ?_
  refine lv_iload_n hx hb dL_field_3 rfl (lv_at hl 1 rfl) ?_
  refine lv_iconst (v := (2 : Int32)) hx hb dL_field_4 (by decide) ?_
  refine x_callLS (As := [.ref (g.2.2 1002), .int (nI k), .int (2 : Int32)]) (rest := [.int (120 : Int32)]) X hZ [] [] hL (k_pick (k := k) (n := 2) hk hLx (by decide) (by decide)) tw_3_200 ms_L_pick tw_3_201 ⟨Nat.le_of_ble_eq_true rfl, Nat.le_of_ble_eq_true rfl⟩ rfl rfl hl.1 (Nat.le_of_ble_eq_true rfl) dL_field_5 ⟨Nat.le_of_ble_eq_true rfl, Nat.le_of_ble_eq_true rfl⟩ (fun v nb H locs hB hL => ?_)
  obtain ⟨r, hr1, rfl, rfl⟩ := hB
  refine lv_iadd hx hb dL_field_8 ?_
  rw [show (120 : Int32) + nI r = nI (120 + r) from nI_add 120 r]
  refine lv_i2c (v := nI (120 + r)) hx hb dL_field_9 (i2c_fit _ (by omega)) ?_
  exact x_tret X hL hr (j_char (by omega)) ⟨r, hr1, rfl, rfl⟩ (Nat.le_refl _) (Nat.le_refl _) dL_field_10
theorem dL_has_0 : decode cL_has 0 = .ok (.iload_n 0, 1) := by decide +kernel
theorem dL_has_1 : decode cL_has 1 = .ok (.iload_n 1, 1) := by decide +kernel
theorem dL_has_2 : decode cL_has 2 = .ok (.ishr, 1) := by decide +kernel
theorem dL_has_3 : decode cL_has 3 = .ok (.iconst 1, 1) := by decide +kernel
theorem dL_has_4 : decode cL_has 4 = .ok (.iand, 1) := by decide +kernel
theorem dL_has_5 : decode cL_has 5 = .ok (.iconst 1, 1) := by decide +kernel
theorem dL_has_6 : decode cL_has 6 = .ok (.if_icmp .ne 7, 3) := by decide +kernel
theorem dL_has_9 : decode cL_has 9 = .ok (.iconst 1, 1) := by decide +kernel
theorem dL_has_10 : decode cL_has 10 = .ok (.goto 4, 3) := by decide +kernel
theorem dL_has_13 : decode cL_has 13 = .ok (.iconst 0, 1) := by decide +kernel
theorem dL_has_14 : decode cL_has 14 = .ok (.ireturn, 1) := by decide +kernel
theorem ms_L_has : MSt yL_has cL_has 2 (some .boolean) 2 := ⟨tw_4_152, tw_1_0, by decide, by decide, by decide +kernel⟩
set_option maxHeartbeats 4000000 in
set_option maxRecDepth 100000 in
theorem k_has {l : Launch} {g : Gh} {Lx : Nat × (Nat → Int32)} {a b0 : Int32}  : LMt l Lx g yL_has cL_has 2 (some .boolean) 0 0 0 [] [.int a, .int b0] (fun v nb => v = some (.int (f_L_has a b0)) ∧ nb = []) := by
  refine lm_start (by decide) (Nat.le_of_ble_eq_true rfl) ?_
  intro p e s m args below meth c ls X hZ hnm hr hl hL
  have hx := X.1
  have hb := X.2.1
  have hown := X.2.2.2.1
  have ht := X.2.2.2.2.1
  have hl : lv_has ls 2 [(0, .int a), (1, .int b0)] := hl
  refine lv_iload_n hx hb dL_has_0 rfl (lv_at hl 0 rfl) ?_
  refine lv_iload_n hx hb dL_has_1 rfl (lv_at hl 1 rfl) ?_
  refine lv_ishr hx hb dL_has_2 ?_
  refine lv_iconst (v := (1 : Int32)) hx hb dL_has_3 (by decide) ?_
  refine lv_iand hx hb dL_has_4 ?_
  refine lv_iconst (v := (1 : Int32)) hx hb dL_has_5 (by decide) ?_
  show W p l e _ s m args below meth c s.heap [] 0 0 _ (F0 m 6 ls [.int 1, .int (jshr a b0 &&& 1)])
  refine lv_icmp_ne (tgt := 13) hx hb dL_has_6 (by decide) (fun q => ?_) (fun q => ?_)
  · refine lv_iconst (v := (0 : Int32)) hx hb dL_has_13 (by decide) ?_
    exact x_tret X hL hr rfl ⟨by unfold f_L_has; rw [if_pos q], rfl⟩ (Nat.le_refl _) (Nat.le_refl _) dL_has_14
  · refine lv_iconst (v := (1 : Int32)) hx hb dL_has_9 (by decide) ?_
    refine lv_goto (tgt := 14) hx hb dL_has_10 (by decide) ?_
    exact x_tret X hL hr rfl ⟨by unfold f_L_has; rw [if_neg (fun z => z q)], rfl⟩ (Nat.le_refl _) (Nat.le_refl _) dL_has_14
