theorem dX9_factCountIfToggled_0 : decode cX9_factCountIfToggled 0 = .ok (.aload_n 0, 1) := by decide +kernel
theorem dX9_factCountIfToggled_1 : decode cX9_factCountIfToggled 1 = .ok (.iload_n 1, 1) := by decide +kernel
theorem dX9_factCountIfToggled_2 : decode cX9_factCountIfToggled 2 = .ok (.invokevirtual 122, 3) := by decide +kernel
theorem dX9_factCountIfToggled_5 : decode cX9_factCountIfToggled 5 = .ok (.ifCond .ne 5, 3) := by decide +kernel
theorem dX9_factCountIfToggled_8 : decode cX9_factCountIfToggled 8 = .ok (.iconst (-1), 1) := by decide +kernel
theorem dX9_factCountIfToggled_9 : decode cX9_factCountIfToggled 9 = .ok (.ireturn, 1) := by decide +kernel
theorem dX9_factCountIfToggled_10 : decode cX9_factCountIfToggled 10 = .ok (.aload_n 0, 1) := by decide +kernel
theorem dX9_factCountIfToggled_11 : decode cX9_factCountIfToggled 11 = .ok (.getfield 75, 3) := by decide +kernel
theorem dX9_factCountIfToggled_14 : decode cX9_factCountIfToggled 14 = .ok (.aload_n 0, 1) := by decide +kernel
theorem dX9_factCountIfToggled_15 : decode cX9_factCountIfToggled 15 = .ok (.getfield 19, 3) := by decide +kernel
theorem dX9_factCountIfToggled_18 : decode cX9_factCountIfToggled 18 = .ok (.aload_n 0, 1) := by decide +kernel
theorem dX9_factCountIfToggled_19 : decode cX9_factCountIfToggled 19 = .ok (.getfield 19, 3) := by decide +kernel
theorem dX9_factCountIfToggled_22 : decode cX9_factCountIfToggled 22 = .ok (.getfield 96, 3) := by decide +kernel
theorem dX9_factCountIfToggled_25 : decode cX9_factCountIfToggled 25 = .ok (.getfield 116, 3) := by decide +kernel
theorem dX9_factCountIfToggled_28 : decode cX9_factCountIfToggled 28 = .ok (.iconst 1, 1) := by decide +kernel
theorem dX9_factCountIfToggled_29 : decode cX9_factCountIfToggled 29 = .ok (.iload_n 1, 1) := by decide +kernel
theorem dX9_factCountIfToggled_30 : decode cX9_factCountIfToggled 30 = .ok (.ishl, 1) := by decide +kernel
theorem dX9_factCountIfToggled_31 : decode cX9_factCountIfToggled 31 = .ok (.ixor, 1) := by decide +kernel
theorem dX9_factCountIfToggled_32 : decode cX9_factCountIfToggled 32 = .ok (.invokevirtual 210, 3) := by decide +kernel
theorem dX9_factCountIfToggled_35 : decode cX9_factCountIfToggled 35 = .ok (.aload_n 0, 1) := by decide +kernel
theorem dX9_factCountIfToggled_36 : decode cX9_factCountIfToggled 36 = .ok (.getfield 75, 3) := by decide +kernel
theorem dX9_factCountIfToggled_39 : decode cX9_factCountIfToggled 39 = .ok (.invokevirtual 255, 3) := by decide +kernel
theorem dX9_factCountIfToggled_42 : decode cX9_factCountIfToggled 42 = .ok (.ireturn, 1) := by decide +kernel
set_option maxHeartbeats 4000000 in
set_option maxRecDepth 100000 in
theorem c_X9_factCountIfToggled {l : Launch} {g : Gh} {w : Wd} {k0 : Nat} {v_constraint : Int32} {rz : Int32} {wz : Wd} (hF : f_X9_factCountIfToggled w k0 v_constraint = some (rz, wz)) (hk0 : zct zC k0 = 9) : Met l yX9_factCountIfToggled (Cond.code yX9_factCountIfToggled cX9_factCountIfToggled 2 (some .int) :: TT) (rmd 4) (Pcw zC g w [.ref (g.2.2 k0), .int (v_constraint)]) (Qw zC g wz (some (.int (rz)))) 0 0 (zA zC g) := by
  refine mt_start (by decide) (Nat.le_of_ble_eq_true rfl) ?_
  intro p e s m args below meth c H locs ls X hr hl hH
  have hx := X.1
  have hb := X.2.1
  have hml := X.2.2.1
  have hown := X.2.2.2.1
  have ht := X.2.2.2.2.1
  have hl : lv_has ls 2 [(0, .ref (g.2.2 (k0))), (1, .int (v_constraint))] := hl
  unfold f_X9_factCountIfToggled at hF
  refine lv_aload_n hx hb dX9_factCountIfToggled_0 rfl (lv_at hl 0 rfl) ?_
  refine lv_iload_n hx hb dX9_factCountIfToggled_1 rfl (lv_at hl 1 rfl) ?_
  obtain ⟨x1, h1, hF⟩ := ob hF
  refine w_callV (As := [.int (v_constraint)]) (k := k0) (rest := []) (st1 := [.int (bI (x1))]) X hH (c_X9_isConstraint (l := l) (g := g) (w := w) (k0 := k0) (v_constraint := v_constraint) h1 hk0) (Or.inl tw_4_49) ms_X9_isConstraint im_X9_isConstraint hk0 cn_9 ⟨Nat.le_of_ble_eq_true rfl, Nat.le_of_ble_eq_true rfl⟩ rfl rfl hl.1 (Nat.le_of_ble_eq_true rfl) dX9_factCountIfToggled_2 ⟨Nat.le_refl _, Nat.le_refl _⟩ rfl (fun H locs hH => ?_)
  refine w_b_t (tgt := 10) hx hb dX9_factCountIfToggled_5 (by decide) (fun c2 => ?_) (fun c2 => ?_)
  · replace hF := ifn (fun z => z c2) hF
    refine lv_aload_n hx hb dX9_factCountIfToggled_10 rfl (lv_at hl 0 rfl) ?_
    refine w_getr X hH hk0 fs_9_11 lk_9_75 dX9_factCountIfToggled_11 ?_
    refine lv_aload_n hx hb dX9_factCountIfToggled_14 rfl (lv_at hl 0 rfl) ?_
    obtain ⟨x3, h3, hF⟩ := ob hF
    refine w_getd X hH h3 hk0 fs_9_1 lk_9_19 dX9_factCountIfToggled_15 (fun q3 => ?_)
    refine lv_aload_n hx hb dX9_factCountIfToggled_18 rfl (lv_at hl 0 rfl) ?_
    obtain ⟨x4, h4, hF⟩ := ob hF
    refine w_getd X hH h4 hk0 fs_9_1 lk_9_19 dX9_factCountIfToggled_19 (fun q4 => ?_)
    refine w_getr X hH q4 fs_6_6 lk_9_96 dX9_factCountIfToggled_22 ?_
    refine w_geti X hH (rt_C_6_6 q4) fs_0_5 lk_9_116 dX9_factCountIfToggled_25 ?_
    refine lv_iconst (v := (1 : Int32)) hx hb dX9_factCountIfToggled_28 (by decide) ?_
    refine lv_iload_n hx hb dX9_factCountIfToggled_29 rfl (lv_at hl 1 rfl) ?_
    refine w_ishl hx hb dX9_factCountIfToggled_30 ?_
    refine lv_ixor hx hb dX9_factCountIfToggled_31 ?_
    obtain ⟨w5, h5, hF⟩ := ob hF
    refine w_callV (As := [.ref (g.2.2 (x3)), .int (((w.1 ((zrf zC (x4) 6)) 5) ^^^ (jshl ((1 : Int32)) (v_constraint))))]) (k := (zrf zC (k0) 11)) (rest := []) (st1 := []) X hH (c_X8_solve (l := l) (g := g) (w := w) (k0 := (zrf zC (k0) 11)) (v_program := x3) (v_enabled := ((w.1 ((zrf zC (x4) 6)) 5) ^^^ (jshl ((1 : Int32)) (v_constraint)))) h5 (rt_C_9_11 hk0) q3) (Or.inr ⟨_, tw_3_148⟩) ms_X8_solve im_X8_solve (rt_C_9_11 hk0) cn_8 ⟨Nat.le_of_ble_eq_true rfl, Nat.le_of_ble_eq_true rfl⟩ rfl rfl hl.1 (Nat.le_of_ble_eq_true rfl) dX9_factCountIfToggled_32 ⟨Nat.le_refl _, Nat.le_refl _⟩ rfl (fun H locs hH => ?_)
    refine lv_aload_n hx hb dX9_factCountIfToggled_35 rfl (lv_at hl 0 rfl) ?_
    refine w_getr X hH hk0 fs_9_11 lk_9_75 dX9_factCountIfToggled_36 ?_
    obtain ⟨x6, h6, hF⟩ := ob hF
    refine w_callV (As := []) (k := (zrf zC (k0) 11)) (rest := []) (st1 := [.int (x6)]) X hH (c_X8_countFacts (l := l) (g := g) (w := w5) (k0 := (zrf zC (k0) 11)) h6 (rt_C_9_11 hk0)) (Or.inr ⟨_, tw_4_70⟩) ms_X8_countFacts im_X8_countFacts (rt_C_9_11 hk0) cn_8 ⟨Nat.le_of_ble_eq_true rfl, Nat.le_of_ble_eq_true rfl⟩ rfl rfl hl.1 (Nat.le_of_ble_eq_true rfl) dX9_factCountIfToggled_39 ⟨Nat.le_refl _, Nat.le_refl _⟩ rfl (fun H locs hH => ?_)
    obtain ⟨rfl, rfl⟩ := se2 hF
    exact w_iret X hH hr dX9_factCountIfToggled_42
  · replace hF := ifp c2 hF
    refine lv_iconst (v := (-1 : Int32)) hx hb dX9_factCountIfToggled_8 (by decide) ?_
    obtain ⟨rfl, rfl⟩ := se2 hF
    exact w_iret X hH hr dX9_factCountIfToggled_9

theorem dX0_all_0 : decode cX0_all 0 = .ok (.iconst 1, 1) := by decide +kernel
theorem dX0_all_1 : decode cX0_all 1 = .ok (.aload_n 0, 1) := by decide +kernel
theorem dX0_all_2 : decode cX0_all 2 = .ok (.getfield 24, 3) := by decide +kernel
theorem dX0_all_5 : decode cX0_all 5 = .ok (.ishl, 1) := by decide +kernel
theorem dX0_all_6 : decode cX0_all 6 = .ok (.iconst 1, 1) := by decide +kernel
theorem dX0_all_7 : decode cX0_all 7 = .ok (.isub, 1) := by decide +kernel
theorem dX0_all_8 : decode cX0_all 8 = .ok (.ireturn, 1) := by decide +kernel
set_option maxHeartbeats 4000000 in
set_option maxRecDepth 100000 in
theorem c_X0_all {l : Launch} {g : Gh} {w : Wd} {k0 : Nat} {rz : Int32} (hF : f_X0_all w k0 = rz) (hk0 : zct zC k0 = 0) : Met l yX0_all (Cond.code yX0_all cX0_all 1 (some .int) :: TT) (rmd 0) (Pcw zC g w [.ref (g.2.2 k0)]) (Qw zC g w (some (.int (rz)))) 0 0 (zA zC g) := by
  refine mt_start (by decide) (Nat.le_of_ble_eq_true rfl) ?_
  intro p e s m args below meth c H locs ls X hr hl hH
  have hx := X.1
  have hb := X.2.1
  have hml := X.2.2.1
  have hown := X.2.2.2.1
  have ht := X.2.2.2.2.1
  have hl : lv_has ls 1 [(0, .ref (g.2.2 (k0)))] := hl
  unfold f_X0_all at hF
  refine lv_iconst (v := (1 : Int32)) hx hb dX0_all_0 (by decide) ?_
  refine lv_aload_n hx hb dX0_all_1 rfl (lv_at hl 0 rfl) ?_
  refine w_geti X hH hk0 fs_0_4 lk_0_24 dX0_all_2 ?_
  refine w_ishl hx hb dX0_all_5 ?_
  refine lv_iconst (v := (1 : Int32)) hx hb dX0_all_6 (by decide) ?_
  refine lv_isub hx hb dX0_all_7 ?_
  subst hF
  exact w_iret X hH hr dX0_all_8

theorem dX9_factCountWithout_0 : decode cX9_factCountWithout 0 = .ok (.iload_n 1, 1) := by decide +kernel
theorem dX9_factCountWithout_1 : decode cX9_factCountWithout 1 = .ok (.aload_n 0, 1) := by decide +kernel
theorem dX9_factCountWithout_2 : decode cX9_factCountWithout 2 = .ok (.getfield 19, 3) := by decide +kernel
theorem dX9_factCountWithout_5 : decode cX9_factCountWithout 5 = .ok (.getfield 96, 3) := by decide +kernel
theorem dX9_factCountWithout_8 : decode cX9_factCountWithout 8 = .ok (.invokevirtual 258, 3) := by decide +kernel
theorem dX9_factCountWithout_11 : decode cX9_factCountWithout 11 = .ok (.iconst (-1), 1) := by decide +kernel
theorem dX9_factCountWithout_12 : decode cX9_factCountWithout 12 = .ok (.ixor, 1) := by decide +kernel
theorem dX9_factCountWithout_13 : decode cX9_factCountWithout 13 = .ok (.iand, 1) := by decide +kernel
theorem dX9_factCountWithout_14 : decode cX9_factCountWithout 14 = .ok (.ifCond .eq 5, 3) := by decide +kernel
theorem dX9_factCountWithout_17 : decode cX9_factCountWithout 17 = .ok (.iconst (-1), 1) := by decide +kernel
theorem dX9_factCountWithout_18 : decode cX9_factCountWithout 18 = .ok (.ireturn, 1) := by decide +kernel
theorem dX9_factCountWithout_19 : decode cX9_factCountWithout 19 = .ok (.aload_n 0, 1) := by decide +kernel
theorem dX9_factCountWithout_20 : decode cX9_factCountWithout 20 = .ok (.getfield 75, 3) := by decide +kernel
theorem dX9_factCountWithout_23 : decode cX9_factCountWithout 23 = .ok (.aload_n 0, 1) := by decide +kernel
theorem dX9_factCountWithout_24 : decode cX9_factCountWithout 24 = .ok (.getfield 19, 3) := by decide +kernel
theorem dX9_factCountWithout_27 : decode cX9_factCountWithout 27 = .ok (.aload_n 0, 1) := by decide +kernel
theorem dX9_factCountWithout_28 : decode cX9_factCountWithout 28 = .ok (.getfield 19, 3) := by decide +kernel
theorem dX9_factCountWithout_31 : decode cX9_factCountWithout 31 = .ok (.getfield 96, 3) := by decide +kernel
theorem dX9_factCountWithout_34 : decode cX9_factCountWithout 34 = .ok (.getfield 116, 3) := by decide +kernel
theorem dX9_factCountWithout_37 : decode cX9_factCountWithout 37 = .ok (.iload_n 1, 1) := by decide +kernel
theorem dX9_factCountWithout_38 : decode cX9_factCountWithout 38 = .ok (.iconst (-1), 1) := by decide +kernel
theorem dX9_factCountWithout_39 : decode cX9_factCountWithout 39 = .ok (.ixor, 1) := by decide +kernel
theorem dX9_factCountWithout_40 : decode cX9_factCountWithout 40 = .ok (.iand, 1) := by decide +kernel
theorem dX9_factCountWithout_41 : decode cX9_factCountWithout 41 = .ok (.invokevirtual 210, 3) := by decide +kernel
theorem dX9_factCountWithout_44 : decode cX9_factCountWithout 44 = .ok (.aload_n 0, 1) := by decide +kernel
theorem dX9_factCountWithout_45 : decode cX9_factCountWithout 45 = .ok (.getfield 75, 3) := by decide +kernel
theorem dX9_factCountWithout_48 : decode cX9_factCountWithout 48 = .ok (.invokevirtual 255, 3) := by decide +kernel
theorem dX9_factCountWithout_51 : decode cX9_factCountWithout 51 = .ok (.ireturn, 1) := by decide +kernel
set_option maxHeartbeats 4000000 in
set_option maxRecDepth 100000 in
theorem c_X9_factCountWithout {l : Launch} {g : Gh} {w : Wd} {k0 : Nat} {v_constraints : Int32} {rz : Int32} {wz : Wd} (hF : f_X9_factCountWithout w k0 v_constraints = some (rz, wz)) (hk0 : zct zC k0 = 9) : Met l yX9_factCountWithout (Cond.code yX9_factCountWithout cX9_factCountWithout 2 (some .int) :: TT) (rmd 4) (Pcw zC g w [.ref (g.2.2 k0), .int (v_constraints)]) (Qw zC g wz (some (.int (rz)))) 0 0 (zA zC g) := by
  refine mt_start (by decide) (Nat.le_of_ble_eq_true rfl) ?_
  intro p e s m args below meth c H locs ls X hr hl hH
  have hx := X.1
  have hb := X.2.1
  have hml := X.2.2.1
  have hown := X.2.2.2.1
  have ht := X.2.2.2.2.1
  have hl : lv_has ls 2 [(0, .ref (g.2.2 (k0))), (1, .int (v_constraints))] := hl
  unfold f_X9_factCountWithout at hF
  refine lv_iload_n hx hb dX9_factCountWithout_0 rfl (lv_at hl 1 rfl) ?_
  refine lv_aload_n hx hb dX9_factCountWithout_1 rfl (lv_at hl 0 rfl) ?_
  obtain ⟨x1, h1, hF⟩ := ob hF
  refine w_getd X hH h1 hk0 fs_9_1 lk_9_19 dX9_factCountWithout_2 (fun q1 => ?_)
  refine w_getr X hH q1 fs_6_6 lk_9_96 dX9_factCountWithout_5 ?_
  refine w_callV (As := []) (k := (zrf zC (x1) 6)) (rest := [.int (v_constraints)]) (st1 := [.int ((f_X0_all w ((zrf zC (x1) 6)))), .int (v_constraints)]) X hH (c_X0_all (l := l) (g := g) (w := w) (k0 := (zrf zC (x1) 6)) rfl (rt_C_6_6 q1)) (Or.inr ⟨_, tw_4_84⟩) ms_X0_all im_X0_all (rt_C_6_6 q1) cn_0 ⟨Nat.le_of_ble_eq_true rfl, Nat.le_of_ble_eq_true rfl⟩ rfl rfl hl.1 (Nat.le_of_ble_eq_true rfl) dX9_factCountWithout_8 ⟨Nat.le_refl _, Nat.le_refl _⟩ rfl (fun H locs hH => ?_)
  refine lv_iconst (v := (-1 : Int32)) hx hb dX9_factCountWithout_11 (by decide) ?_
  refine lv_ixor hx hb dX9_factCountWithout_12 ?_
  refine lv_iand hx hb dX9_factCountWithout_13 ?_
  refine w_zne_f (tgt := 19) hx hb dX9_factCountWithout_14 (by decide) (fun c2 => ?_) (fun c2 => ?_)
  · replace hF := ifn c2 hF
    refine lv_aload_n hx hb dX9_factCountWithout_19 rfl (lv_at hl 0 rfl) ?_
    refine w_getr X hH hk0 fs_9_11 lk_9_75 dX9_factCountWithout_20 ?_
    refine lv_aload_n hx hb dX9_factCountWithout_23 rfl (lv_at hl 0 rfl) ?_
    obtain ⟨x3, h3, hF⟩ := ob hF
    refine w_getd X hH h3 hk0 fs_9_1 lk_9_19 dX9_factCountWithout_24 (fun q3 => ?_)
    refine lv_aload_n hx hb dX9_factCountWithout_27 rfl (lv_at hl 0 rfl) ?_
    obtain ⟨x4, h4, hF⟩ := ob hF
    refine w_getd X hH h4 hk0 fs_9_1 lk_9_19 dX9_factCountWithout_28 (fun q4 => ?_)
    refine w_getr X hH q4 fs_6_6 lk_9_96 dX9_factCountWithout_31 ?_
    refine w_geti X hH (rt_C_6_6 q4) fs_0_5 lk_9_116 dX9_factCountWithout_34 ?_
    refine lv_iload_n hx hb dX9_factCountWithout_37 rfl (lv_at hl 1 rfl) ?_
    refine lv_iconst (v := (-1 : Int32)) hx hb dX9_factCountWithout_38 (by decide) ?_
    refine lv_ixor hx hb dX9_factCountWithout_39 ?_
    refine lv_iand hx hb dX9_factCountWithout_40 ?_
    obtain ⟨w5, h5, hF⟩ := ob hF
    refine w_callV (As := [.ref (g.2.2 (x3)), .int (((w.1 ((zrf zC (x4) 6)) 5) &&& (v_constraints ^^^ (-1 : Int32))))]) (k := (zrf zC (k0) 11)) (rest := []) (st1 := []) X hH (c_X8_solve (l := l) (g := g) (w := w) (k0 := (zrf zC (k0) 11)) (v_program := x3) (v_enabled := ((w.1 ((zrf zC (x4) 6)) 5) &&& (v_constraints ^^^ (-1 : Int32)))) h5 (rt_C_9_11 hk0) q3) (Or.inr ⟨_, tw_3_148⟩) ms_X8_solve im_X8_solve (rt_C_9_11 hk0) cn_8 ⟨Nat.le_of_ble_eq_true rfl, Nat.le_of_ble_eq_true rfl⟩ rfl rfl hl.1 (Nat.le_of_ble_eq_true rfl) dX9_factCountWithout_41 ⟨Nat.le_refl _, Nat.le_refl _⟩ rfl (fun H locs hH => ?_)
    refine lv_aload_n hx hb dX9_factCountWithout_44 rfl (lv_at hl 0 rfl) ?_
    refine w_getr X hH hk0 fs_9_11 lk_9_75 dX9_factCountWithout_45 ?_
    obtain ⟨x6, h6, hF⟩ := ob hF
    refine w_callV (As := []) (k := (zrf zC (k0) 11)) (rest := []) (st1 := [.int (x6)]) X hH (c_X8_countFacts (l := l) (g := g) (w := w5) (k0 := (zrf zC (k0) 11)) h6 (rt_C_9_11 hk0)) (Or.inr ⟨_, tw_4_70⟩) ms_X8_countFacts im_X8_countFacts (rt_C_9_11 hk0) cn_8 ⟨Nat.le_of_ble_eq_true rfl, Nat.le_of_ble_eq_true rfl⟩ rfl rfl hl.1 (Nat.le_of_ble_eq_true rfl) dX9_factCountWithout_48 ⟨Nat.le_refl _, Nat.le_refl _⟩ rfl (fun H locs hH => ?_)
    obtain ⟨rfl, rfl⟩ := se2 hF
    exact w_iret X hH hr dX9_factCountWithout_51
  · replace hF := ifp c2 hF
    refine lv_iconst (v := (-1 : Int32)) hx hb dX9_factCountWithout_17 (by decide) ?_
    obtain ⟨rfl, rfl⟩ := se2 hF
    exact w_iret X hH hr dX9_factCountWithout_18

theorem dX9_factsLostWithout_0 : decode cX9_factsLostWithout 0 = .ok (.aload_n 0, 1) := by decide +kernel
theorem dX9_factsLostWithout_1 : decode cX9_factsLostWithout 1 = .ok (.getfield 47, 3) := by decide +kernel
theorem dX9_factsLostWithout_4 : decode cX9_factsLostWithout 4 = .ok (.getfield 323, 3) := by decide +kernel
theorem dX9_factsLostWithout_7 : decode cX9_factsLostWithout 7 = .ok (.iload_n 1, 1) := by decide +kernel
theorem dX9_factsLostWithout_8 : decode cX9_factsLostWithout 8 = .ok (.invokestatic 168, 3) := by decide +kernel
theorem dX9_factsLostWithout_11 : decode cX9_factsLostWithout 11 = .ok (.ifCond .ne 5, 3) := by decide +kernel
theorem dX9_factsLostWithout_14 : decode cX9_factsLostWithout 14 = .ok (.iconst 0, 1) := by decide +kernel
theorem dX9_factsLostWithout_15 : decode cX9_factsLostWithout 15 = .ok (.ireturn, 1) := by decide +kernel
theorem dX9_factsLostWithout_16 : decode cX9_factsLostWithout 16 = .ok (.aload_n 0, 1) := by decide +kernel
theorem dX9_factsLostWithout_17 : decode cX9_factsLostWithout 17 = .ok (.getfield 75, 3) := by decide +kernel
theorem dX9_factsLostWithout_20 : decode cX9_factsLostWithout 20 = .ok (.aload_n 0, 1) := by decide +kernel
theorem dX9_factsLostWithout_21 : decode cX9_factsLostWithout 21 = .ok (.getfield 19, 3) := by decide +kernel
theorem dX9_factsLostWithout_24 : decode cX9_factsLostWithout 24 = .ok (.aload_n 0, 1) := by decide +kernel
theorem dX9_factsLostWithout_25 : decode cX9_factsLostWithout 25 = .ok (.getfield 19, 3) := by decide +kernel
theorem dX9_factsLostWithout_28 : decode cX9_factsLostWithout 28 = .ok (.getfield 96, 3) := by decide +kernel
theorem dX9_factsLostWithout_31 : decode cX9_factsLostWithout 31 = .ok (.getfield 116, 3) := by decide +kernel
theorem dX9_factsLostWithout_34 : decode cX9_factsLostWithout 34 = .ok (.iconst 1, 1) := by decide +kernel
theorem dX9_factsLostWithout_35 : decode cX9_factsLostWithout 35 = .ok (.iload_n 1, 1) := by decide +kernel
theorem dX9_factsLostWithout_36 : decode cX9_factsLostWithout 36 = .ok (.ishl, 1) := by decide +kernel
theorem dX9_factsLostWithout_37 : decode cX9_factsLostWithout 37 = .ok (.iconst (-1), 1) := by decide +kernel
theorem dX9_factsLostWithout_38 : decode cX9_factsLostWithout 38 = .ok (.ixor, 1) := by decide +kernel
theorem dX9_factsLostWithout_39 : decode cX9_factsLostWithout 39 = .ok (.iand, 1) := by decide +kernel
theorem dX9_factsLostWithout_40 : decode cX9_factsLostWithout 40 = .ok (.invokevirtual 210, 3) := by decide +kernel
theorem dX9_factsLostWithout_43 : decode cX9_factsLostWithout 43 = .ok (.aload_n 0, 1) := by decide +kernel
theorem dX9_factsLostWithout_44 : decode cX9_factsLostWithout 44 = .ok (.getfield 47, 3) := by decide +kernel
theorem dX9_factsLostWithout_47 : decode cX9_factsLostWithout 47 = .ok (.getfield 155, 3) := by decide +kernel
theorem dX9_factsLostWithout_50 : decode cX9_factsLostWithout 50 = .ok (.aload_n 0, 1) := by decide +kernel
theorem dX9_factsLostWithout_51 : decode cX9_factsLostWithout 51 = .ok (.getfield 75, 3) := by decide +kernel
theorem dX9_factsLostWithout_54 : decode cX9_factsLostWithout 54 = .ok (.invokevirtual 255, 3) := by decide +kernel
theorem dX9_factsLostWithout_57 : decode cX9_factsLostWithout 57 = .ok (.isub, 1) := by decide +kernel
theorem dX9_factsLostWithout_58 : decode cX9_factsLostWithout 58 = .ok (.ireturn, 1) := by decide +kernel
set_option maxHeartbeats 4000000 in
set_option maxRecDepth 100000 in
theorem c_X9_factsLostWithout {l : Launch} {g : Gh} {w : Wd} {k0 : Nat} {v_constraint : Int32} {rz : Int32} {wz : Wd} (hF : f_X9_factsLostWithout w k0 v_constraint = some (rz, wz)) (hk0 : zct zC k0 = 9) : Met l yX9_factsLostWithout (Cond.code yX9_factsLostWithout cX9_factsLostWithout 2 (some .int) :: TT) (rmd 4) (Pcw zC g w [.ref (g.2.2 k0), .int (v_constraint)]) (Qw zC g wz (some (.int (rz)))) 0 0 (zA zC g) := by
  refine mt_start (by decide) (Nat.le_of_ble_eq_true rfl) ?_
  intro p e s m args below meth c H locs ls X hr hl hH
  have hx := X.1
  have hb := X.2.1
  have hml := X.2.2.1
  have hown := X.2.2.2.1
  have ht := X.2.2.2.2.1
  have hl : lv_has ls 2 [(0, .ref (g.2.2 (k0))), (1, .int (v_constraint))] := hl
  unfold f_X9_factsLostWithout at hF
  refine lv_aload_n hx hb dX9_factsLostWithout_0 rfl (lv_at hl 0 rfl) ?_
  refine w_getr X hH hk0 fs_9_6 lk_9_47 dX9_factsLostWithout_1 ?_
  refine w_geti X hH (rt_C_9_6 hk0) fs_7_4 lk_9_323 dX9_factsLostWithout_4 ?_
  refine lv_iload_n hx hb dX9_factsLostWithout_7 rfl (lv_at hl 1 rfl) ?_
  refine w_callS (As := [.int ((w.1 ((zrf zC (k0) 6)) 4)), .int (v_constraint)]) (rest := []) (st1 := [.int (bI ((f_X9_contains ((w.1 ((zrf zC (k0) 6)) 4)) (v_constraint))))]) X hH (c_X9_contains (l := l) (g := g) (w := w) (v_set := (w.1 ((zrf zC (k0) 6)) 4)) (v_number := v_constraint) rfl) (Or.inl tw_3_85) ms_X9_contains tw_2_174 ⟨Nat.le_of_ble_eq_true rfl, Nat.le_of_ble_eq_true rfl⟩ rfl rfl hl.1 (Nat.le_of_ble_eq_true rfl) dX9_factsLostWithout_8 ⟨Nat.le_refl _, Nat.le_refl _⟩ rfl (fun H locs hH => ?_)
  refine w_b_t (tgt := 16) hx hb dX9_factsLostWithout_11 (by decide) (fun c1 => ?_) (fun c1 => ?_)
  · replace hF := ifn (fun z => z c1) hF
    refine lv_aload_n hx hb dX9_factsLostWithout_16 rfl (lv_at hl 0 rfl) ?_
    refine w_getr X hH hk0 fs_9_11 lk_9_75 dX9_factsLostWithout_17 ?_
    refine lv_aload_n hx hb dX9_factsLostWithout_20 rfl (lv_at hl 0 rfl) ?_
    obtain ⟨x2, h2, hF⟩ := ob hF
    refine w_getd X hH h2 hk0 fs_9_1 lk_9_19 dX9_factsLostWithout_21 (fun q2 => ?_)
    refine lv_aload_n hx hb dX9_factsLostWithout_24 rfl (lv_at hl 0 rfl) ?_
    obtain ⟨x3, h3, hF⟩ := ob hF
    refine w_getd X hH h3 hk0 fs_9_1 lk_9_19 dX9_factsLostWithout_25 (fun q3 => ?_)
    refine w_getr X hH q3 fs_6_6 lk_9_96 dX9_factsLostWithout_28 ?_
    refine w_geti X hH (rt_C_6_6 q3) fs_0_5 lk_9_116 dX9_factsLostWithout_31 ?_
    refine lv_iconst (v := (1 : Int32)) hx hb dX9_factsLostWithout_34 (by decide) ?_
    refine lv_iload_n hx hb dX9_factsLostWithout_35 rfl (lv_at hl 1 rfl) ?_
    refine w_ishl hx hb dX9_factsLostWithout_36 ?_
    refine lv_iconst (v := (-1 : Int32)) hx hb dX9_factsLostWithout_37 (by decide) ?_
    refine lv_ixor hx hb dX9_factsLostWithout_38 ?_
    refine lv_iand hx hb dX9_factsLostWithout_39 ?_
    obtain ⟨w4, h4, hF⟩ := ob hF
    refine w_callV (As := [.ref (g.2.2 (x2)), .int (((w.1 ((zrf zC (x3) 6)) 5) &&& ((jshl ((1 : Int32)) (v_constraint)) ^^^ (-1 : Int32))))]) (k := (zrf zC (k0) 11)) (rest := []) (st1 := []) X hH (c_X8_solve (l := l) (g := g) (w := w) (k0 := (zrf zC (k0) 11)) (v_program := x2) (v_enabled := ((w.1 ((zrf zC (x3) 6)) 5) &&& ((jshl ((1 : Int32)) (v_constraint)) ^^^ (-1 : Int32)))) h4 (rt_C_9_11 hk0) q2) (Or.inr ⟨_, tw_3_148⟩) ms_X8_solve im_X8_solve (rt_C_9_11 hk0) cn_8 ⟨Nat.le_of_ble_eq_true rfl, Nat.le_of_ble_eq_true rfl⟩ rfl rfl hl.1 (Nat.le_of_ble_eq_true rfl) dX9_factsLostWithout_40 ⟨Nat.le_refl _, Nat.le_refl _⟩ rfl (fun H locs hH => ?_)
    refine lv_aload_n hx hb dX9_factsLostWithout_43 rfl (lv_at hl 0 rfl) ?_
    refine w_getr X hH hk0 fs_9_6 lk_9_47 dX9_factsLostWithout_44 ?_
    refine w_geti X hH (rt_C_9_6 hk0) fs_7_2 lk_9_155 dX9_factsLostWithout_47 ?_
    refine lv_aload_n hx hb dX9_factsLostWithout_50 rfl (lv_at hl 0 rfl) ?_
    refine w_getr X hH hk0 fs_9_11 lk_9_75 dX9_factsLostWithout_51 ?_
    obtain ⟨x5, h5, hF⟩ := ob hF
    refine w_callV (As := []) (k := (zrf zC (k0) 11)) (rest := [.int ((w4.1 ((zrf zC (k0) 6)) 2))]) (st1 := [.int (x5), .int ((w4.1 ((zrf zC (k0) 6)) 2))]) X hH (c_X8_countFacts (l := l) (g := g) (w := w4) (k0 := (zrf zC (k0) 11)) h5 (rt_C_9_11 hk0)) (Or.inr ⟨_, tw_4_70⟩) ms_X8_countFacts im_X8_countFacts (rt_C_9_11 hk0) cn_8 ⟨Nat.le_of_ble_eq_true rfl, Nat.le_of_ble_eq_true rfl⟩ rfl rfl hl.1 (Nat.le_of_ble_eq_true rfl) dX9_factsLostWithout_54 ⟨Nat.le_refl _, Nat.le_refl _⟩ rfl (fun H locs hH => ?_)
    refine lv_isub hx hb dX9_factsLostWithout_57 ?_
    obtain ⟨rfl, rfl⟩ := se2 hF
    exact w_iret X hH hr dX9_factsLostWithout_58
  · replace hF := ifp c1 hF
    refine lv_iconst (v := (0 : Int32)) hx hb dX9_factsLostWithout_14 (by decide) ?_
    obtain ⟨rfl, rfl⟩ := se2 hF
    exact w_iret X hH hr dX9_factsLostWithout_15

theorem dX9_mostInfluentialConstraint_0 : decode cX9_mostInfluentialConstraint 0 = .ok (.bipush (-2), 2) := by decide +kernel
theorem dX9_mostInfluentialConstraint_2 : decode cX9_mostInfluentialConstraint 2 = .ok (.istore_n 1, 1) := by decide +kernel
theorem dX9_mostInfluentialConstraint_3 : decode cX9_mostInfluentialConstraint 3 = .ok (.iconst 0, 1) := by decide +kernel
theorem dX9_mostInfluentialConstraint_4 : decode cX9_mostInfluentialConstraint 4 = .ok (.istore_n 2, 1) := by decide +kernel
theorem dX9_mostInfluentialConstraint_5 : decode cX9_mostInfluentialConstraint 5 = .ok (.iconst 0, 1) := by decide +kernel
theorem dX9_mostInfluentialConstraint_6 : decode cX9_mostInfluentialConstraint 6 = .ok (.istore_n 3, 1) := by decide +kernel
theorem dX9_mostInfluentialConstraint_7 : decode cX9_mostInfluentialConstraint 7 = .ok (.iload_n 3, 1) := by decide +kernel
theorem dX9_mostInfluentialConstraint_8 : decode cX9_mostInfluentialConstraint 8 = .ok (.aload_n 0, 1) := by decide +kernel
theorem dX9_mostInfluentialConstraint_9 : decode cX9_mostInfluentialConstraint 9 = .ok (.getfield 19, 3) := by decide +kernel
theorem dX9_mostInfluentialConstraint_12 : decode cX9_mostInfluentialConstraint 12 = .ok (.getfield 96, 3) := by decide +kernel
theorem dX9_mostInfluentialConstraint_15 : decode cX9_mostInfluentialConstraint 15 = .ok (.getfield 100, 3) := by decide +kernel
theorem dX9_mostInfluentialConstraint_18 : decode cX9_mostInfluentialConstraint 18 = .ok (.if_icmp .ge 41, 3) := by decide +kernel
theorem dX9_mostInfluentialConstraint_21 : decode cX9_mostInfluentialConstraint 21 = .ok (.aload_n 0, 1) := by decide +kernel
theorem dX9_mostInfluentialConstraint_22 : decode cX9_mostInfluentialConstraint 22 = .ok (.getfield 19, 3) := by decide +kernel
theorem dX9_mostInfluentialConstraint_25 : decode cX9_mostInfluentialConstraint 25 = .ok (.getfield 96, 3) := by decide +kernel
theorem dX9_mostInfluentialConstraint_28 : decode cX9_mostInfluentialConstraint 28 = .ok (.iload_n 3, 1) := by decide +kernel
theorem dX9_mostInfluentialConstraint_29 : decode cX9_mostInfluentialConstraint 29 = .ok (.invokevirtual 181, 3) := by decide +kernel
theorem dX9_mostInfluentialConstraint_32 : decode cX9_mostInfluentialConstraint 32 = .ok (.ifCond .eq 21, 3) := by decide +kernel
theorem dX9_mostInfluentialConstraint_35 : decode cX9_mostInfluentialConstraint 35 = .ok (.aload_n 0, 1) := by decide +kernel
theorem dX9_mostInfluentialConstraint_36 : decode cX9_mostInfluentialConstraint 36 = .ok (.iload_n 3, 1) := by decide +kernel
theorem dX9_mostInfluentialConstraint_37 : decode cX9_mostInfluentialConstraint 37 = .ok (.invokevirtual 261, 3) := by decide +kernel
theorem dX9_mostInfluentialConstraint_40 : decode cX9_mostInfluentialConstraint 40 = .ok (.istore 4, 2) := by decide +kernel
theorem dX9_mostInfluentialConstraint_42 : decode cX9_mostInfluentialConstraint 42 = .ok (.iload 4, 2) := by decide +kernel
theorem dX9_mostInfluentialConstraint_44 : decode cX9_mostInfluentialConstraint 44 = .ok (.iload_n 2, 1) := by decide +kernel
theorem dX9_mostInfluentialConstraint_45 : decode cX9_mostInfluentialConstraint 45 = .ok (.if_icmp .le 8, 3) := by decide +kernel
theorem dX9_mostInfluentialConstraint_48 : decode cX9_mostInfluentialConstraint 48 = .ok (.iload_n 3, 1) := by decide +kernel
theorem dX9_mostInfluentialConstraint_49 : decode cX9_mostInfluentialConstraint 49 = .ok (.istore_n 1, 1) := by decide +kernel
theorem dX9_mostInfluentialConstraint_50 : decode cX9_mostInfluentialConstraint 50 = .ok (.iload 4, 2) := by decide +kernel
theorem dX9_mostInfluentialConstraint_52 : decode cX9_mostInfluentialConstraint 52 = .ok (.istore_n 2, 1) := by decide +kernel
theorem dX9_mostInfluentialConstraint_53 : decode cX9_mostInfluentialConstraint 53 = .ok (.iinc 3 1, 3) := by decide +kernel
theorem dX9_mostInfluentialConstraint_56 : decode cX9_mostInfluentialConstraint 56 = .ok (.goto (-49), 3) := by decide +kernel
theorem dX9_mostInfluentialConstraint_59 : decode cX9_mostInfluentialConstraint 59 = .ok (.iload_n 1, 1) := by decide +kernel
theorem dX9_mostInfluentialConstraint_60 : decode cX9_mostInfluentialConstraint 60 = .ok (.ireturn, 1) := by decide +kernel
set_option maxHeartbeats 4000000 in
set_option maxRecDepth 100000 in
theorem c_X9_mostInfluentialConstraint {l : Launch} {g : Gh} {w : Wd} {k0 : Nat} {rz : Int32} {wz : Wd} (hF : f_X9_mostInfluentialConstraint w k0 = some (rz, wz)) (hk0 : zct zC k0 = 9) : Met l yX9_mostInfluentialConstraint (Cond.code yX9_mostInfluentialConstraint cX9_mostInfluentialConstraint 5 (some .int) :: TT) (rmd 5) (Pcw zC g w [.ref (g.2.2 k0)]) (Qw zC g wz (some (.int (rz)))) 0 0 (zA zC g) := by
  refine mt_start (by decide) (Nat.le_of_ble_eq_true rfl) ?_
  intro p e s m args below meth c H locs ls X hr hl hH
  have hx := X.1
  have hb := X.2.1
  have hml := X.2.2.1
  have hown := X.2.2.2.1
  have ht := X.2.2.2.2.1
  have hl : lv_has ls 5 [(0, .ref (g.2.2 (k0)))] := hl
  unfold f_X9_mostInfluentialConstraint at hF
  refine lv_bipush (v := (-2 : Int32)) hx hb dX9_mostInfluentialConstraint_0 (by decide) ?_
  refine lv_istore_n (lv' := [(1, .int ((-2 : Int32))), (0, .ref (g.2.2 (k0)))]) hx hb dX9_mostInfluentialConstraint_2 rfl hl (by decide) rfl (fun ls hl => ?_)
  refine lv_iconst (v := (0 : Int32)) hx hb dX9_mostInfluentialConstraint_3 (by decide) ?_
  refine lv_istore_n (lv' := [(2, .int ((0 : Int32))), (1, .int ((-2 : Int32))), (0, .ref (g.2.2 (k0)))]) hx hb dX9_mostInfluentialConstraint_4 rfl hl (by decide) rfl (fun ls hl => ?_)
  refine lv_iconst (v := (0 : Int32)) hx hb dX9_mostInfluentialConstraint_5 (by decide) ?_
  refine lv_istore_n (lv' := [(3, .int ((0 : Int32))), (2, .int ((0 : Int32))), (1, .int ((-2 : Int32))), (0, .ref (g.2.2 (k0)))]) hx hb dX9_mostInfluentialConstraint_6 rfl hl (by decide) rfl (fun ls hl => ?_)
  obtain ⟨r2, hLr2, hF⟩ := ob hF
  have Jr2 : ∀ (H : Heap) (locs : List Loc) (ls : Array Slot), HW zC g r2.2.2 s.heap H locs → lv_has ls 5 [(0, .ref (g.2.2 (k0))), (1, .int (r2.1)), (2, .int (r2.2.1))] → W p l e (rmd 5) s m args below meth c H locs 0 0 (MQ below (Qw zC g wz (some (.int (rz)))) args s 0 0 (zA zC g)) (F0 m 59 ls []) := by
    intro H locs ls hH hl
    refine lv_iload_n hx hb dX9_mostInfluentialConstraint_59 rfl (lv_at hl 1 rfl) ?_
    obtain ⟨rfl, rfl⟩ := se2 hF
    exact w_iret X hH hr dX9_mostInfluentialConstraint_60
  have Lr2 : ∀ (n : Nat) (s1 : Int32 × Int32 × Int32 × Wd), lp (b_X9_mostInfluentialConstraint_1 k0) n s1 = some r2 → ∀ (H : Heap) (locs : List Loc) (ls : Array Slot), HW zC g s1.2.2.2 s.heap H locs → lv_has ls 5 [(0, .ref (g.2.2 (k0))), (1, .int (s1.1)), (2, .int (s1.2.1)), (3, .int (s1.2.2.1))] → W p l e (rmd 5) s m args below meth c H locs 0 0 (MQ below (Qw zC g wz (some (.int (rz)))) args s 0 0 (zA zC g)) (F0 m 7 ls []) := by
    intro n
    induction n with
    | zero => intro s1 hL; exact lp_0 hL
    | succ n ih =>
      intro s1 hL H locs ls hH hl
      obtain ⟨bb, hF, hL⟩ := lp_s hL
      unfold b_X9_mostInfluentialConstraint_1 at hF
      refine lv_iload_n hx hb dX9_mostInfluentialConstraint_7 rfl (lv_at hl 3 rfl) ?_
      refine lv_aload_n hx hb dX9_mostInfluentialConstraint_8 rfl (lv_at hl 0 rfl) ?_
      obtain ⟨x3, h3, hF⟩ := ob hF
      refine w_getd X hH h3 hk0 fs_9_1 lk_9_19 dX9_mostInfluentialConstraint_9 (fun q3 => ?_)
      refine w_getr X hH q3 fs_6_6 lk_9_96 dX9_mostInfluentialConstraint_12 ?_
      refine w_geti X hH (rt_C_6_6 q3) fs_0_4 lk_9_100 dX9_mostInfluentialConstraint_15 ?_
      refine w_ilt_f (tgt := 59) hx hb dX9_mostInfluentialConstraint_18 (by decide) (fun c4 => ?_) (fun c4 => ?_)
      · replace hF := ifn c4 hF
        obtain rfl := se1 hF
        subst hL
        exact Jr2 _ _ _ hH (lv_sub hl [0, 1, 2] rfl)
      · replace hF := ifp c4 hF
        obtain ⟨s5, hs5, hF⟩ := ob hF
        have Js5 : ∀ (H : Heap) (locs : List Loc) (ls : Array Slot), HW zC g s5.2.2 s.heap H locs → lv_has ls 5 [(0, .ref (g.2.2 (k0))), (1, .int (s5.1)), (2, .int (s5.2.1)), (3, .int (s1.2.2.1))] → W p l e (rmd 5) s m args below meth c H locs 0 0 (MQ below (Qw zC g wz (some (.int (rz)))) args s 0 0 (zA zC g)) (F0 m 53 ls []) := by
          intro H locs ls hH hl
          refine lv_iinc (v := (s1.2.2.1 + (1 : Int32))) (lv' := [(3, .int ((s1.2.2.1 + (1 : Int32)))), (0, .ref (g.2.2 (k0))), (1, .int (s5.1)), (2, .int (s5.2.1))]) hx hb dX9_mostInfluentialConstraint_53 hl (k := 3) rfl rfl (by decide) rfl (fun ls hl => ?_)
          refine lv_goto (tgt := 7) hx hb dX9_mostInfluentialConstraint_56 (by decide) ?_
          obtain rfl := se1 hF
          exact ih _ hL _ _ _ hH (lv_sub hl [1, 2, 3, 0] rfl)
        have hF := hs5
        refine lv_aload_n hx hb dX9_mostInfluentialConstraint_21 rfl (lv_at hl 0 rfl) ?_
        obtain ⟨x6, h6, hF⟩ := ob hF
        refine w_getd X hH h6 hk0 fs_9_1 lk_9_19 dX9_mostInfluentialConstraint_22 (fun q6 => ?_)
        refine w_getr X hH q6 fs_6_6 lk_9_96 dX9_mostInfluentialConstraint_25 ?_
        refine lv_iload_n hx hb dX9_mostInfluentialConstraint_28 rfl (lv_at hl 3 rfl) ?_
        refine w_callV (As := [.int (s1.2.2.1)]) (k := (zrf zC (x6) 6)) (rest := []) (st1 := [.int (bI ((f_X0_isEnabled s1.2.2.2 ((zrf zC (x6) 6)) (s1.2.2.1))))]) X hH (c_X0_isEnabled (l := l) (g := g) (w := s1.2.2.2) (k0 := (zrf zC (x6) 6)) (v_constraint := s1.2.2.1) rfl (rt_C_6_6 q6)) (Or.inr ⟨_, tw_3_112⟩) ms_X0_isEnabled im_X0_isEnabled (rt_C_6_6 q6) cn_0 ⟨Nat.le_of_ble_eq_true rfl, Nat.le_of_ble_eq_true rfl⟩ rfl rfl hl.1 (Nat.le_of_ble_eq_true rfl) dX9_mostInfluentialConstraint_29 ⟨Nat.le_refl _, Nat.le_refl _⟩ rfl (fun H locs hH => ?_)
        refine w_b_f (tgt := 53) hx hb dX9_mostInfluentialConstraint_32 (by decide) (fun c7 => ?_) (fun c7 => ?_)
        · replace hF := ifn c7 hF
          obtain rfl := se1 hF
          exact Js5 _ _ _ hH (lv_sub hl [0, 1, 2, 3] rfl)
        · replace hF := ifp c7 hF
          refine lv_aload_n hx hb dX9_mostInfluentialConstraint_35 rfl (lv_at hl 0 rfl) ?_
          refine lv_iload_n hx hb dX9_mostInfluentialConstraint_36 rfl (lv_at hl 3 rfl) ?_
          obtain ⟨x8, h8, hF⟩ := ob hF
          refine w_callV (As := [.int (s1.2.2.1)]) (k := k0) (rest := []) (st1 := [.int (x8.1)]) X hH (c_X9_factsLostWithout (l := l) (g := g) (w := s1.2.2.2) (k0 := k0) (v_constraint := s1.2.2.1) h8 hk0) (Or.inl tw_4_92) ms_X9_factsLostWithout im_X9_factsLostWithout hk0 cn_9 ⟨Nat.le_of_ble_eq_true rfl, Nat.le_of_ble_eq_true rfl⟩ rfl rfl hl.1 (Nat.le_of_ble_eq_true rfl) dX9_mostInfluentialConstraint_37 ⟨Nat.le_refl _, Nat.le_refl _⟩ rfl (fun H locs hH => ?_)
          refine lv_istore (lv' := [(4, .int (x8.1)), (0, .ref (g.2.2 (k0))), (1, .int (s1.1)), (2, .int (s1.2.1)), (3, .int (s1.2.2.1))]) hx hb dX9_mostInfluentialConstraint_40 hl (by decide) rfl (fun ls hl => ?_)
          obtain ⟨s9, hs9, hF⟩ := ob hF
          have Js9 : ∀ (H : Heap) (locs : List Loc) (ls : Array Slot), HW zC g x8.2 s.heap H locs → lv_has ls 5 [(0, .ref (g.2.2 (k0))), (1, .int (s9.1)), (2, .int (s9.2)), (3, .int (s1.2.2.1)), (4, .int (x8.1))] → W p l e (rmd 5) s m args below meth c H locs 0 0 (MQ below (Qw zC g wz (some (.int (rz)))) args s 0 0 (zA zC g)) (F0 m 53 ls []) := by
            intro H locs ls hH hl
            obtain rfl := se1 hF
            exact Js5 _ _ _ hH (lv_sub hl [0, 1, 2, 3] rfl)
          have hF := hs9
          refine lv_iload hx hb dX9_mostInfluentialConstraint_42 (lv_at hl 0 rfl) ?_
          refine lv_iload_n hx hb dX9_mostInfluentialConstraint_44 rfl (lv_at hl 3 rfl) ?_
          refine w_igt_f (tgt := 53) hx hb dX9_mostInfluentialConstraint_45 (by decide) (fun c10 => ?_) (fun c10 => ?_)
          · replace hF := ifn c10 hF
            obtain rfl := se1 hF
            exact Js9 _ _ _ hH (lv_sub hl [1, 2, 3, 4, 0] rfl)
          · replace hF := ifp c10 hF
            refine lv_iload_n hx hb dX9_mostInfluentialConstraint_48 rfl (lv_at hl 4 rfl) ?_
            refine lv_istore_n (lv' := [(1, .int (s1.2.2.1)), (4, .int (x8.1)), (0, .ref (g.2.2 (k0))), (2, .int (s1.2.1)), (3, .int (s1.2.2.1))]) hx hb dX9_mostInfluentialConstraint_49 rfl hl (by decide) rfl (fun ls hl => ?_)
            refine lv_iload hx hb dX9_mostInfluentialConstraint_50 (lv_at hl 1 rfl) ?_
            refine lv_istore_n (lv' := [(2, .int (x8.1)), (1, .int (s1.2.2.1)), (4, .int (x8.1)), (0, .ref (g.2.2 (k0))), (3, .int (s1.2.2.1))]) hx hb dX9_mostInfluentialConstraint_52 rfl hl (by decide) rfl (fun ls hl => ?_)
            obtain rfl := se1 hF
            exact Js9 _ _ _ hH (lv_sub hl [3, 1, 0, 4, 2] rfl)
  exact Lr2 NF _ hLr2 _ _ _ hH (lv_sub hl [3, 2, 1, 0] rfl)

theorem dX9_redundantConstraintCount_0 : decode cX9_redundantConstraintCount 0 = .ok (.iconst 0, 1) := by decide +kernel
theorem dX9_redundantConstraintCount_1 : decode cX9_redundantConstraintCount 1 = .ok (.istore_n 1, 1) := by decide +kernel
theorem dX9_redundantConstraintCount_2 : decode cX9_redundantConstraintCount 2 = .ok (.iconst 0, 1) := by decide +kernel
theorem dX9_redundantConstraintCount_3 : decode cX9_redundantConstraintCount 3 = .ok (.istore_n 2, 1) := by decide +kernel
theorem dX9_redundantConstraintCount_4 : decode cX9_redundantConstraintCount 4 = .ok (.iload_n 2, 1) := by decide +kernel
theorem dX9_redundantConstraintCount_5 : decode cX9_redundantConstraintCount 5 = .ok (.aload_n 0, 1) := by decide +kernel
theorem dX9_redundantConstraintCount_6 : decode cX9_redundantConstraintCount 6 = .ok (.getfield 19, 3) := by decide +kernel
theorem dX9_redundantConstraintCount_9 : decode cX9_redundantConstraintCount 9 = .ok (.getfield 96, 3) := by decide +kernel
theorem dX9_redundantConstraintCount_12 : decode cX9_redundantConstraintCount 12 = .ok (.getfield 100, 3) := by decide +kernel
theorem dX9_redundantConstraintCount_15 : decode cX9_redundantConstraintCount 15 = .ok (.if_icmp .ge 34, 3) := by decide +kernel
theorem dX9_redundantConstraintCount_18 : decode cX9_redundantConstraintCount 18 = .ok (.aload_n 0, 1) := by decide +kernel
theorem dX9_redundantConstraintCount_19 : decode cX9_redundantConstraintCount 19 = .ok (.getfield 19, 3) := by decide +kernel
theorem dX9_redundantConstraintCount_22 : decode cX9_redundantConstraintCount 22 = .ok (.getfield 96, 3) := by decide +kernel
theorem dX9_redundantConstraintCount_25 : decode cX9_redundantConstraintCount 25 = .ok (.iload_n 2, 1) := by decide +kernel
theorem dX9_redundantConstraintCount_26 : decode cX9_redundantConstraintCount 26 = .ok (.invokevirtual 181, 3) := by decide +kernel
theorem dX9_redundantConstraintCount_29 : decode cX9_redundantConstraintCount 29 = .ok (.ifCond .eq 14, 3) := by decide +kernel
theorem dX9_redundantConstraintCount_32 : decode cX9_redundantConstraintCount 32 = .ok (.aload_n 0, 1) := by decide +kernel
theorem dX9_redundantConstraintCount_33 : decode cX9_redundantConstraintCount 33 = .ok (.iload_n 2, 1) := by decide +kernel
theorem dX9_redundantConstraintCount_34 : decode cX9_redundantConstraintCount 34 = .ok (.invokevirtual 261, 3) := by decide +kernel
theorem dX9_redundantConstraintCount_37 : decode cX9_redundantConstraintCount 37 = .ok (.ifCond .ne 6, 3) := by decide +kernel
theorem dX9_redundantConstraintCount_40 : decode cX9_redundantConstraintCount 40 = .ok (.iinc 1 1, 3) := by decide +kernel
theorem dX9_redundantConstraintCount_43 : decode cX9_redundantConstraintCount 43 = .ok (.iinc 2 1, 3) := by decide +kernel
theorem dX9_redundantConstraintCount_46 : decode cX9_redundantConstraintCount 46 = .ok (.goto (-42), 3) := by decide +kernel
theorem dX9_redundantConstraintCount_49 : decode cX9_redundantConstraintCount 49 = .ok (.iload_n 1, 1) := by decide +kernel
theorem dX9_redundantConstraintCount_50 : decode cX9_redundantConstraintCount 50 = .ok (.ireturn, 1) := by decide +kernel
set_option maxHeartbeats 4000000 in
set_option maxRecDepth 100000 in
theorem c_X9_redundantConstraintCount {l : Launch} {g : Gh} {w : Wd} {k0 : Nat} {rz : Int32} {wz : Wd} (hF : f_X9_redundantConstraintCount w k0 = some (rz, wz)) (hk0 : zct zC k0 = 9) : Met l yX9_redundantConstraintCount (Cond.code yX9_redundantConstraintCount cX9_redundantConstraintCount 3 (some .int) :: TT) (rmd 5) (Pcw zC g w [.ref (g.2.2 k0)]) (Qw zC g wz (some (.int (rz)))) 0 0 (zA zC g) := by
  refine mt_start (by decide) (Nat.le_of_ble_eq_true rfl) ?_
  intro p e s m args below meth c H locs ls X hr hl hH
  have hx := X.1
  have hb := X.2.1
  have hml := X.2.2.1
  have hown := X.2.2.2.1
  have ht := X.2.2.2.2.1
  have hl : lv_has ls 3 [(0, .ref (g.2.2 (k0)))] := hl
  unfold f_X9_redundantConstraintCount at hF
  refine lv_iconst (v := (0 : Int32)) hx hb dX9_redundantConstraintCount_0 (by decide) ?_
  refine lv_istore_n (lv' := [(1, .int ((0 : Int32))), (0, .ref (g.2.2 (k0)))]) hx hb dX9_redundantConstraintCount_1 rfl hl (by decide) rfl (fun ls hl => ?_)
  refine lv_iconst (v := (0 : Int32)) hx hb dX9_redundantConstraintCount_2 (by decide) ?_
  refine lv_istore_n (lv' := [(2, .int ((0 : Int32))), (1, .int ((0 : Int32))), (0, .ref (g.2.2 (k0)))]) hx hb dX9_redundantConstraintCount_3 rfl hl (by decide) rfl (fun ls hl => ?_)
  obtain ⟨r2, hLr2, hF⟩ := ob hF
  have Jr2 : ∀ (H : Heap) (locs : List Loc) (ls : Array Slot), HW zC g r2.2 s.heap H locs → lv_has ls 3 [(0, .ref (g.2.2 (k0))), (1, .int (r2.1))] → W p l e (rmd 5) s m args below meth c H locs 0 0 (MQ below (Qw zC g wz (some (.int (rz)))) args s 0 0 (zA zC g)) (F0 m 49 ls []) := by
    intro H locs ls hH hl
    refine lv_iload_n hx hb dX9_redundantConstraintCount_49 rfl (lv_at hl 1 rfl) ?_
    obtain ⟨rfl, rfl⟩ := se2 hF
    exact w_iret X hH hr dX9_redundantConstraintCount_50
  have Lr2 : ∀ (n : Nat) (s1 : Int32 × Int32 × Wd), lp (b_X9_redundantConstraintCount_1 k0) n s1 = some r2 → ∀ (H : Heap) (locs : List Loc) (ls : Array Slot), HW zC g s1.2.2 s.heap H locs → lv_has ls 3 [(0, .ref (g.2.2 (k0))), (1, .int (s1.1)), (2, .int (s1.2.1))] → W p l e (rmd 5) s m args below meth c H locs 0 0 (MQ below (Qw zC g wz (some (.int (rz)))) args s 0 0 (zA zC g)) (F0 m 4 ls []) := by
    intro n
    induction n with
    | zero => intro s1 hL; exact lp_0 hL
    | succ n ih =>
      intro s1 hL H locs ls hH hl
      obtain ⟨bb, hF, hL⟩ := lp_s hL
      unfold b_X9_redundantConstraintCount_1 at hF
      refine lv_iload_n hx hb dX9_redundantConstraintCount_4 rfl (lv_at hl 2 rfl) ?_
      refine lv_aload_n hx hb dX9_redundantConstraintCount_5 rfl (lv_at hl 0 rfl) ?_
      obtain ⟨x3, h3, hF⟩ := ob hF
      refine w_getd X hH h3 hk0 fs_9_1 lk_9_19 dX9_redundantConstraintCount_6 (fun q3 => ?_)
      refine w_getr X hH q3 fs_6_6 lk_9_96 dX9_redundantConstraintCount_9 ?_
      refine w_geti X hH (rt_C_6_6 q3) fs_0_4 lk_9_100 dX9_redundantConstraintCount_12 ?_
      refine w_ilt_f (tgt := 49) hx hb dX9_redundantConstraintCount_15 (by decide) (fun c4 => ?_) (fun c4 => ?_)
      · replace hF := ifn c4 hF
        obtain rfl := se1 hF
        subst hL
        exact Jr2 _ _ _ hH (lv_sub hl [0, 1] rfl)
      · replace hF := ifp c4 hF
        obtain ⟨s5, hs5, hF⟩ := ob hF
        have Js5 : ∀ (H : Heap) (locs : List Loc) (ls : Array Slot), HW zC g s5.2 s.heap H locs → lv_has ls 3 [(0, .ref (g.2.2 (k0))), (1, .int (s5.1)), (2, .int (s1.2.1))] → W p l e (rmd 5) s m args below meth c H locs 0 0 (MQ below (Qw zC g wz (some (.int (rz)))) args s 0 0 (zA zC g)) (F0 m 43 ls []) := by
          intro H locs ls hH hl
          refine lv_iinc (v := (s1.2.1 + (1 : Int32))) (lv' := [(2, .int ((s1.2.1 + (1 : Int32)))), (0, .ref (g.2.2 (k0))), (1, .int (s5.1))]) hx hb dX9_redundantConstraintCount_43 hl (k := 2) rfl rfl (by decide) rfl (fun ls hl => ?_)
          refine lv_goto (tgt := 4) hx hb dX9_redundantConstraintCount_46 (by decide) ?_
          obtain rfl := se1 hF
          exact ih _ hL _ _ _ hH (lv_sub hl [1, 2, 0] rfl)
        have hF := hs5
        obtain ⟨b6, hb6, hF⟩ := ob hF
        have Jb6T : b6.1 = true → ∀ (H : Heap) (locs : List Loc), HW zC g b6.2 s.heap H locs → W p l e (rmd 5) s m args below meth c H locs 0 0 (MQ below (Qw zC g wz (some (.int (rz)))) args s 0 0 (zA zC g)) (F0 m 40 ls []) := by
          intro hc H locs hH
          replace hF := ifp hc hF
          refine lv_iinc (v := (s1.1 + (1 : Int32))) (lv' := [(1, .int ((s1.1 + (1 : Int32)))), (0, .ref (g.2.2 (k0))), (2, .int (s1.2.1))]) hx hb dX9_redundantConstraintCount_40 hl (k := 1) rfl rfl (by decide) rfl (fun ls hl => ?_)
          obtain rfl := se1 hF
          exact Js5 _ _ _ hH (lv_sub hl [1, 0, 2] rfl)
        have Jb6F : ¬ (b6.1 = true) → ∀ (H : Heap) (locs : List Loc), HW zC g b6.2 s.heap H locs → W p l e (rmd 5) s m args below meth c H locs 0 0 (MQ below (Qw zC g wz (some (.int (rz)))) args s 0 0 (zA zC g)) (F0 m 43 ls []) := by
          intro hc H locs hH
          replace hF := ifn hc hF
          obtain rfl := se1 hF
          exact Js5 _ _ _ hH (lv_sub hl [0, 1, 2] rfl)
        have hF := hb6
        refine lv_aload_n hx hb dX9_redundantConstraintCount_18 rfl (lv_at hl 0 rfl) ?_
        obtain ⟨x8, h8, hF⟩ := ob hF
        refine w_getd X hH h8 hk0 fs_9_1 lk_9_19 dX9_redundantConstraintCount_19 (fun q8 => ?_)
        refine w_getr X hH q8 fs_6_6 lk_9_96 dX9_redundantConstraintCount_22 ?_
        refine lv_iload_n hx hb dX9_redundantConstraintCount_25 rfl (lv_at hl 2 rfl) ?_
        refine w_callV (As := [.int (s1.2.1)]) (k := (zrf zC (x8) 6)) (rest := []) (st1 := [.int (bI ((f_X0_isEnabled s1.2.2 ((zrf zC (x8) 6)) (s1.2.1))))]) X hH (c_X0_isEnabled (l := l) (g := g) (w := s1.2.2) (k0 := (zrf zC (x8) 6)) (v_constraint := s1.2.1) rfl (rt_C_6_6 q8)) (Or.inr ⟨_, tw_3_112⟩) ms_X0_isEnabled im_X0_isEnabled (rt_C_6_6 q8) cn_0 ⟨Nat.le_of_ble_eq_true rfl, Nat.le_of_ble_eq_true rfl⟩ rfl rfl hl.1 (Nat.le_of_ble_eq_true rfl) dX9_redundantConstraintCount_26 ⟨Nat.le_refl _, Nat.le_refl _⟩ rfl (fun H locs hH => ?_)
        refine w_b_f (tgt := 43) hx hb dX9_redundantConstraintCount_29 (by decide) (fun c7 => ?_) (fun c7 => ?_)
        · replace hF := ifn c7 hF
          obtain rfl := se1 hF
          exact Jb6F Bool.false_ne_true _ _ hH
        · replace hF := ifp c7 hF
          refine lv_aload_n hx hb dX9_redundantConstraintCount_32 rfl (lv_at hl 0 rfl) ?_
          refine lv_iload_n hx hb dX9_redundantConstraintCount_33 rfl (lv_at hl 2 rfl) ?_
          obtain ⟨x10, h10, hF⟩ := ob hF
          refine w_callV (As := [.int (s1.2.1)]) (k := k0) (rest := []) (st1 := [.int (x10.1)]) X hH (c_X9_factsLostWithout (l := l) (g := g) (w := s1.2.2) (k0 := k0) (v_constraint := s1.2.1) h10 hk0) (Or.inl tw_4_92) ms_X9_factsLostWithout im_X9_factsLostWithout hk0 cn_9 ⟨Nat.le_of_ble_eq_true rfl, Nat.le_of_ble_eq_true rfl⟩ rfl rfl hl.1 (Nat.le_of_ble_eq_true rfl) dX9_redundantConstraintCount_34 ⟨Nat.le_refl _, Nat.le_refl _⟩ rfl (fun H locs hH => ?_)
          refine w_zeq_f (tgt := 43) hx hb dX9_redundantConstraintCount_37 (by decide) (fun c9 => ?_) (fun c9 => ?_)
          · replace hF := ifn c9 hF
            obtain rfl := se1 hF
            exact Jb6F Bool.false_ne_true _ _ hH
          · replace hF := ifp c9 hF
            obtain rfl := se1 hF
            exact Jb6T rfl _ _ hH
  exact Lr2 NF _ hLr2 _ _ _ hH (lv_sub hl [2, 1, 0] rfl)

theorem dX2_writeByte_0 : decode cX2_writeByte 0 = .ok (.aload_n 0, 1) := by decide +kernel
theorem dX2_writeByte_1 : decode cX2_writeByte 1 = .ok (.getfield 15, 3) := by decide +kernel
theorem dX2_writeByte_4 : decode cX2_writeByte 4 = .ok (.sipush 1232, 3) := by decide +kernel
theorem dX2_writeByte_7 : decode cX2_writeByte 7 = .ok (.if_icmp .ge 24, 3) := by decide +kernel
theorem dX2_writeByte_10 : decode cX2_writeByte 10 = .ok (.aload_n 0, 1) := by decide +kernel
theorem dX2_writeByte_11 : decode cX2_writeByte 11 = .ok (.getfield 9, 3) := by decide +kernel
theorem dX2_writeByte_14 : decode cX2_writeByte 14 = .ok (.aload_n 0, 1) := by decide +kernel
theorem dX2_writeByte_15 : decode cX2_writeByte 15 = .ok (.getfield 15, 3) := by decide +kernel
theorem dX2_writeByte_18 : decode cX2_writeByte 18 = .ok (.iload_n 1, 1) := by decide +kernel
theorem dX2_writeByte_19 : decode cX2_writeByte 19 = .ok (.i2b, 1) := by decide +kernel
theorem dX2_writeByte_20 : decode cX2_writeByte 20 = .ok (.bastore, 1) := by decide +kernel
theorem dX2_writeByte_21 : decode cX2_writeByte 21 = .ok (.aload_n 0, 1) := by decide +kernel
theorem dX2_writeByte_22 : decode cX2_writeByte 22 = .ok (.dup, 1) := by decide +kernel
theorem dX2_writeByte_23 : decode cX2_writeByte 23 = .ok (.getfield 15, 3) := by decide +kernel
theorem dX2_writeByte_26 : decode cX2_writeByte 26 = .ok (.iconst 1, 1) := by decide +kernel
theorem dX2_writeByte_27 : decode cX2_writeByte 27 = .ok (.iadd, 1) := by decide +kernel
theorem dX2_writeByte_28 : decode cX2_writeByte 28 = .ok (.putfield 15, 3) := by decide +kernel
theorem dX2_writeByte_31 : decode cX2_writeByte 31 = .ok (.return_, 1) := by decide +kernel
set_option maxHeartbeats 4000000 in
set_option maxRecDepth 100000 in
theorem c_X2_writeByte {l : Launch} {g : Gh} {w : Wd} {k0 : Nat} {v_sign : Int32} {wz : Wd} (hF : f_X2_writeByte w k0 v_sign = some wz) (hk0 : zct zC k0 = 2) : Met l yX2_writeByte (Cond.code yX2_writeByte cX2_writeByte 2 none :: TT) (rmd 0) (Pcw zC g w [.ref (g.2.2 k0), .int (v_sign)]) (Qw zC g wz none) 0 0 (zA zC g) := by
  refine mt_start (by decide) (Nat.le_of_ble_eq_true rfl) ?_
  intro p e s m args below meth c H locs ls X hr hl hH
  have hx := X.1
  have hb := X.2.1
  have hml := X.2.2.1
  have hown := X.2.2.2.1
  have ht := X.2.2.2.2.1
  have hl : lv_has ls 2 [(0, .ref (g.2.2 (k0))), (1, .int (v_sign))] := hl
  unfold f_X2_writeByte at hF
  obtain ⟨s1, hs1, hF⟩ := ob hF
  have Js1 : ∀ (H : Heap) (locs : List Loc) (ls : Array Slot), HW zC g s1 s.heap H locs → lv_has ls 2 [(0, .ref (g.2.2 (k0))), (1, .int (v_sign))] → W p l e (rmd 0) s m args below meth c H locs 0 0 (MQ below (Qw zC g wz none) args s 0 0 (zA zC g)) (F0 m 31 ls []) := by
    intro H locs ls hH hl
    obtain rfl := se1 hF
    exact w_vret X hH hr dX2_writeByte_31
  have hF := hs1
  refine lv_aload_n hx hb dX2_writeByte_0 rfl (lv_at hl 0 rfl) ?_
  refine w_geti X hH hk0 fs_2_1 lk_2_15 dX2_writeByte_1 ?_
  refine lv_sipush (v := (1232 : Int32)) hx hb dX2_writeByte_4 (by decide) ?_
  refine w_ilt_f (tgt := 31) hx hb dX2_writeByte_7 (by decide) (fun c2 => ?_) (fun c2 => ?_)
  · replace hF := ifn c2 hF
    obtain rfl := se1 hF
    exact Js1 _ _ _ hH (lv_sub hl [0, 1] rfl)
  · replace hF := ifp c2 hF
    refine lv_aload_n hx hb dX2_writeByte_10 rfl (lv_at hl 0 rfl) ?_
    refine w_getr X hH hk0 fs_2_0 lk_2_9 dX2_writeByte_11 ?_
    refine lv_aload_n hx hb dX2_writeByte_14 rfl (lv_at hl 0 rfl) ?_
    refine w_geti X hH hk0 fs_2_1 lk_2_15 dX2_writeByte_15 ?_
    refine lv_iload_n hx hb dX2_writeByte_18 rfl (lv_at hl 1 rfl) ?_
    refine w_i2b hx hb dX2_writeByte_19 ?_
    obtain ⟨w3, h3, hF⟩ := ob hF
    refine w_bast X hH h3 (rt_C_2_0 hk0) dX2_writeByte_20 (fun H locs hH => ?_)
    refine lv_aload_n hx hb dX2_writeByte_21 rfl (lv_at hl 0 rfl) ?_
    refine lv_dup hx hb dX2_writeByte_22 rfl ?_
    refine w_geti X hH hk0 fs_2_1 lk_2_15 dX2_writeByte_23 ?_
    refine lv_iconst (v := (1 : Int32)) hx hb dX2_writeByte_26 (by decide) ?_
    refine lv_iadd hx hb dX2_writeByte_27 ?_
    obtain ⟨w4, h4, hF⟩ := ob hF
    refine w_puti X hH h4 hk0 fs_2_1 nf_2_1 lk_2_15 dX2_writeByte_28 (fun H locs hH => ?_)
    obtain rfl := se1 hF
    exact Js1 _ _ _ hH (lv_sub hl [0, 1] rfl)

theorem dX2_writeName_0 : decode cX2_writeName 0 = .ok (.iconst 5, 1) := by decide +kernel
theorem dX2_writeName_1 : decode cX2_writeName 1 = .ok (.istore_n 3, 1) := by decide +kernel
theorem dX2_writeName_2 : decode cX2_writeName 2 = .ok (.iload_n 3, 1) := by decide +kernel
theorem dX2_writeName_3 : decode cX2_writeName 3 = .ok (.ifCond .lt 33, 3) := by decide +kernel
theorem dX2_writeName_6 : decode cX2_writeName 6 = .ok (.lload_n 1, 1) := by decide +kernel
theorem dX2_writeName_7 : decode cX2_writeName 7 = .ok (.iload_n 3, 1) := by decide +kernel
theorem dX2_writeName_8 : decode cX2_writeName 8 = .ok (.bipush 8, 2) := by decide +kernel
theorem dX2_writeName_10 : decode cX2_writeName 10 = .ok (.imul, 1) := by decide +kernel
theorem dX2_writeName_11 : decode cX2_writeName 11 = .ok (.lushr, 1) := by decide +kernel
theorem dX2_writeName_12 : decode cX2_writeName 12 = .ok (.l2i, 1) := by decide +kernel
theorem dX2_writeName_13 : decode cX2_writeName 13 = .ok (.sipush 255, 3) := by decide +kernel
theorem dX2_writeName_16 : decode cX2_writeName 16 = .ok (.iand, 1) := by decide +kernel
theorem dX2_writeName_17 : decode cX2_writeName 17 = .ok (.istore 4, 2) := by decide +kernel
theorem dX2_writeName_19 : decode cX2_writeName 19 = .ok (.iload 4, 2) := by decide +kernel
theorem dX2_writeName_21 : decode cX2_writeName 21 = .ok (.ifCond .eq 9, 3) := by decide +kernel
theorem dX2_writeName_24 : decode cX2_writeName 24 = .ok (.aload_n 0, 1) := by decide +kernel
theorem dX2_writeName_25 : decode cX2_writeName 25 = .ok (.iload 4, 2) := by decide +kernel
theorem dX2_writeName_27 : decode cX2_writeName 27 = .ok (.invokevirtual 51, 3) := by decide +kernel
theorem dX2_writeName_30 : decode cX2_writeName 30 = .ok (.iinc 3 (-1), 3) := by decide +kernel
theorem dX2_writeName_33 : decode cX2_writeName 33 = .ok (.goto (-31), 3) := by decide +kernel
theorem dX2_writeName_36 : decode cX2_writeName 36 = .ok (.return_, 1) := by decide +kernel
set_option maxHeartbeats 4000000 in
set_option maxRecDepth 100000 in
theorem c_X2_writeName {l : Launch} {g : Gh} {w : Wd} {k0 : Nat} {v_word : Int64} {wz : Wd} (hF : f_X2_writeName w k0 v_word = some wz) (hk0 : zct zC k0 = 2) : Met l yX2_writeName (Cond.code yX2_writeName cX2_writeName 5 none :: TT) (rmd 1) (Pcw zC g w [.ref (g.2.2 k0), .long (v_word)]) (Qw zC g wz none) 0 0 (zA zC g) := by
  refine mt_start (by decide) (Nat.le_of_ble_eq_true rfl) ?_
  intro p e s m args below meth c H locs ls X hr hl hH
  have hx := X.1
  have hb := X.2.1
  have hml := X.2.2.1
  have hown := X.2.2.2.1
  have ht := X.2.2.2.2.1
  have hl : lv_has ls 5 [(0, .ref (g.2.2 (k0))), (1, .long (v_word))] := hl
  unfold f_X2_writeName at hF
  refine lv_iconst (v := (5 : Int32)) hx hb dX2_writeName_0 (by decide) ?_
  refine lv_istore_n (lv' := [(3, .int ((5 : Int32))), (0, .ref (g.2.2 (k0))), (1, .long (v_word))]) hx hb dX2_writeName_1 rfl hl (by decide) rfl (fun ls hl => ?_)
  obtain ⟨r2, hLr2, hF⟩ := ob hF
  have Jr2 : ∀ (H : Heap) (locs : List Loc) (ls : Array Slot), HW zC g r2 s.heap H locs → lv_has ls 5 [(0, .ref (g.2.2 (k0))), (1, .long (v_word))] → W p l e (rmd 1) s m args below meth c H locs 0 0 (MQ below (Qw zC g wz none) args s 0 0 (zA zC g)) (F0 m 36 ls []) := by
    intro H locs ls hH hl
    obtain rfl := se1 hF
    exact w_vret X hH hr dX2_writeName_36
  have Lr2 : ∀ (n : Nat) (s1 : Int32 × Wd), lp (b_X2_writeName_1 v_word k0) n s1 = some r2 → ∀ (H : Heap) (locs : List Loc) (ls : Array Slot), HW zC g s1.2 s.heap H locs → lv_has ls 5 [(0, .ref (g.2.2 (k0))), (1, .long (v_word)), (3, .int (s1.1))] → W p l e (rmd 1) s m args below meth c H locs 0 0 (MQ below (Qw zC g wz none) args s 0 0 (zA zC g)) (F0 m 2 ls []) := by
    intro n
    induction n with
    | zero => intro s1 hL; exact lp_0 hL
    | succ n ih =>
      intro s1 hL H locs ls hH hl
      obtain ⟨bb, hF, hL⟩ := lp_s hL
      unfold b_X2_writeName_1 at hF
      refine lv_iload_n hx hb dX2_writeName_2 rfl (lv_at hl 2 rfl) ?_
      refine w_zge_f (tgt := 36) hx hb dX2_writeName_3 (by decide) (fun c3 => ?_) (fun c3 => ?_)
      · replace hF := ifn c3 hF
        obtain rfl := se1 hF
        subst hL
        exact Jr2 _ _ _ hH (lv_sub hl [0, 1] rfl)
      · replace hF := ifp c3 hF
        refine lv_lload_n hx hb dX2_writeName_6 rfl (lv_at hl 1 rfl) ?_
        refine lv_iload_n hx hb dX2_writeName_7 rfl (lv_at hl 2 rfl) ?_
        refine lv_bipush (v := (8 : Int32)) hx hb dX2_writeName_8 (by decide) ?_
        refine lv_imul hx hb dX2_writeName_10 ?_
        refine w_lushr hx hb dX2_writeName_11 ?_
        refine w_l2i hx hb dX2_writeName_12 ?_
        refine lv_sipush (v := (255 : Int32)) hx hb dX2_writeName_13 (by decide) ?_
        refine lv_iand hx hb dX2_writeName_16 ?_
        refine lv_istore (lv' := [(4, .int ((((jlushr (v_word) ((s1.1 * (8 : Int32))))).toInt32 &&& (255 : Int32)))), (0, .ref (g.2.2 (k0))), (1, .long (v_word)), (3, .int (s1.1))]) hx hb dX2_writeName_17 hl (by decide) rfl (fun ls hl => ?_)
        obtain ⟨s4, hs4, hF⟩ := ob hF
        have Js4 : ∀ (H : Heap) (locs : List Loc) (ls : Array Slot), HW zC g s4 s.heap H locs → lv_has ls 5 [(0, .ref (g.2.2 (k0))), (1, .long (v_word)), (3, .int (s1.1)), (4, .int ((((jlushr (v_word) ((s1.1 * (8 : Int32))))).toInt32 &&& (255 : Int32))))] → W p l e (rmd 1) s m args below meth c H locs 0 0 (MQ below (Qw zC g wz none) args s 0 0 (zA zC g)) (F0 m 30 ls []) := by
          intro H locs ls hH hl
          refine lv_iinc (v := (s1.1 + (-1 : Int32))) (lv' := [(3, .int ((s1.1 + (-1 : Int32)))), (0, .ref (g.2.2 (k0))), (1, .long (v_word)), (4, .int ((((jlushr (v_word) ((s1.1 * (8 : Int32))))).toInt32 &&& (255 : Int32))))]) hx hb dX2_writeName_30 hl (k := 2) rfl rfl (by decide) rfl (fun ls hl => ?_)
          refine lv_goto (tgt := 2) hx hb dX2_writeName_33 (by decide) ?_
          obtain rfl := se1 hF
          exact ih _ hL _ _ _ hH (lv_sub hl [1, 2, 0] rfl)
        have hF := hs4
        refine lv_iload hx hb dX2_writeName_19 (lv_at hl 0 rfl) ?_
        refine w_zne_f (tgt := 30) hx hb dX2_writeName_21 (by decide) (fun c5 => ?_) (fun c5 => ?_)
        · replace hF := ifn c5 hF
          obtain rfl := se1 hF
          exact Js4 _ _ _ hH (lv_sub hl [1, 2, 3, 0] rfl)
        · replace hF := ifp c5 hF
          refine lv_aload_n hx hb dX2_writeName_24 rfl (lv_at hl 1 rfl) ?_
          refine lv_iload hx hb dX2_writeName_25 (lv_at hl 0 rfl) ?_
          obtain ⟨w6, h6, hF⟩ := ob hF
          refine w_callV (As := [.int ((((jlushr (v_word) ((s1.1 * (8 : Int32))))).toInt32 &&& (255 : Int32)))]) (k := k0) (rest := []) (st1 := []) X hH (c_X2_writeByte (l := l) (g := g) (w := s1.2) (k0 := k0) (v_sign := (((jlushr (v_word) ((s1.1 * (8 : Int32))))).toInt32 &&& (255 : Int32))) h6 hk0) (Or.inl tw_4_116) ms_X2_writeByte im_X2_writeByte hk0 cn_2 ⟨Nat.le_of_ble_eq_true rfl, Nat.le_of_ble_eq_true rfl⟩ rfl rfl hl.1 (Nat.le_of_ble_eq_true rfl) dX2_writeName_27 ⟨Nat.le_refl _, Nat.le_refl _⟩ rfl (fun H locs hH => ?_)
          obtain rfl := se1 hF
          exact Js4 _ _ _ hH (lv_sub hl [1, 2, 3, 0] rfl)
  exact Lr2 NF _ hLr2 _ _ _ hH (lv_sub hl [1, 2, 0] rfl)

theorem dX2_writeObjects_0 : decode cX2_writeObjects 0 = .ok (.iconst 0, 1) := by decide +kernel
theorem dX2_writeObjects_1 : decode cX2_writeObjects 1 = .ok (.istore_n 3, 1) := by decide +kernel
theorem dX2_writeObjects_2 : decode cX2_writeObjects 2 = .ok (.iload_n 3, 1) := by decide +kernel
theorem dX2_writeObjects_3 : decode cX2_writeObjects 3 = .ok (.aload_n 1, 1) := by decide +kernel
theorem dX2_writeObjects_4 : decode cX2_writeObjects 4 = .ok (.getfield 25, 3) := by decide +kernel
theorem dX2_writeObjects_7 : decode cX2_writeObjects 7 = .ok (.if_icmp .ge 33, 3) := by decide +kernel
theorem dX2_writeObjects_10 : decode cX2_writeObjects 10 = .ok (.iload_n 2, 1) := by decide +kernel
theorem dX2_writeObjects_11 : decode cX2_writeObjects 11 = .ok (.iload_n 3, 1) := by decide +kernel
theorem dX2_writeObjects_12 : decode cX2_writeObjects 12 = .ok (.invokestatic 55, 3) := by decide +kernel
theorem dX2_writeObjects_15 : decode cX2_writeObjects 15 = .ok (.ifCond .eq 19, 3) := by decide +kernel
theorem dX2_writeObjects_18 : decode cX2_writeObjects 18 = .ok (.aload_n 0, 1) := by decide +kernel
theorem dX2_writeObjects_19 : decode cX2_writeObjects 19 = .ok (.bipush 32, 2) := by decide +kernel
theorem dX2_writeObjects_21 : decode cX2_writeObjects 21 = .ok (.invokevirtual 51, 3) := by decide +kernel
theorem dX2_writeObjects_24 : decode cX2_writeObjects 24 = .ok (.aload_n 0, 1) := by decide +kernel
theorem dX2_writeObjects_25 : decode cX2_writeObjects 25 = .ok (.aload_n 1, 1) := by decide +kernel
theorem dX2_writeObjects_26 : decode cX2_writeObjects 26 = .ok (.getfield 36, 3) := by decide +kernel
theorem dX2_writeObjects_29 : decode cX2_writeObjects 29 = .ok (.iload_n 3, 1) := by decide +kernel
theorem dX2_writeObjects_30 : decode cX2_writeObjects 30 = .ok (.laload, 1) := by decide +kernel
theorem dX2_writeObjects_31 : decode cX2_writeObjects 31 = .ok (.invokevirtual 40, 3) := by decide +kernel
theorem dX2_writeObjects_34 : decode cX2_writeObjects 34 = .ok (.iinc 3 1, 3) := by decide +kernel
theorem dX2_writeObjects_37 : decode cX2_writeObjects 37 = .ok (.goto (-35), 3) := by decide +kernel
theorem dX2_writeObjects_40 : decode cX2_writeObjects 40 = .ok (.return_, 1) := by decide +kernel
set_option maxHeartbeats 4000000 in
set_option maxRecDepth 100000 in
theorem c_X2_writeObjects {l : Launch} {g : Gh} {w : Wd} {k0 : Nat} {v_names : Nat} {v_set : Int32} {wz : Wd} (hF : f_X2_writeObjects w k0 v_names v_set = some wz) (hk0 : zct zC k0 = 2) (hv_names : zct zC v_names = 4) : Met l yX2_writeObjects (Cond.code yX2_writeObjects cX2_writeObjects 4 none :: TT) (rmd 2) (Pcw zC g w [.ref (g.2.2 k0), .ref (g.2.2 (v_names)), .int (v_set)]) (Qw zC g wz none) 0 0 (zA zC g) := by
  refine mt_start (by decide) (Nat.le_of_ble_eq_true rfl) ?_
  intro p e s m args below meth c H locs ls X hr hl hH
  have hx := X.1
  have hb := X.2.1
  have hml := X.2.2.1
  have hown := X.2.2.2.1
  have ht := X.2.2.2.2.1
  have hl : lv_has ls 4 [(0, .ref (g.2.2 (k0))), (1, .ref (g.2.2 (v_names))), (2, .int (v_set))] := hl
  unfold f_X2_writeObjects at hF
  refine lv_iconst (v := (0 : Int32)) hx hb dX2_writeObjects_0 (by decide) ?_
  refine lv_istore_n (lv' := [(3, .int ((0 : Int32))), (0, .ref (g.2.2 (k0))), (1, .ref (g.2.2 (v_names))), (2, .int (v_set))]) hx hb dX2_writeObjects_1 rfl hl (by decide) rfl (fun ls hl => ?_)
  obtain ⟨r2, hLr2, hF⟩ := ob hF
  have Jr2 : ∀ (H : Heap) (locs : List Loc) (ls : Array Slot), HW zC g r2 s.heap H locs → lv_has ls 4 [(0, .ref (g.2.2 (k0))), (1, .ref (g.2.2 (v_names))), (2, .int (v_set))] → W p l e (rmd 2) s m args below meth c H locs 0 0 (MQ below (Qw zC g wz none) args s 0 0 (zA zC g)) (F0 m 40 ls []) := by
    intro H locs ls hH hl
    obtain rfl := se1 hF
    exact w_vret X hH hr dX2_writeObjects_40
  have Lr2 : ∀ (n : Nat) (s1 : Int32 × Wd), lp (b_X2_writeObjects_1 v_names v_set k0) n s1 = some r2 → ∀ (H : Heap) (locs : List Loc) (ls : Array Slot), HW zC g s1.2 s.heap H locs → lv_has ls 4 [(0, .ref (g.2.2 (k0))), (1, .ref (g.2.2 (v_names))), (2, .int (v_set)), (3, .int (s1.1))] → W p l e (rmd 2) s m args below meth c H locs 0 0 (MQ below (Qw zC g wz none) args s 0 0 (zA zC g)) (F0 m 2 ls []) := by
    intro n
    induction n with
    | zero => intro s1 hL; exact lp_0 hL
    | succ n ih =>
      intro s1 hL H locs ls hH hl
      obtain ⟨bb, hF, hL⟩ := lp_s hL
      unfold b_X2_writeObjects_1 at hF
      refine lv_iload_n hx hb dX2_writeObjects_2 rfl (lv_at hl 3 rfl) ?_
      refine lv_aload_n hx hb dX2_writeObjects_3 rfl (lv_at hl 1 rfl) ?_
      refine w_geti X hH hv_names fs_4_2 lk_2_25 dX2_writeObjects_4 ?_
      refine w_ilt_f (tgt := 40) hx hb dX2_writeObjects_7 (by decide) (fun c3 => ?_) (fun c3 => ?_)
      · replace hF := ifn c3 hF
        obtain rfl := se1 hF
        subst hL
        exact Jr2 _ _ _ hH (lv_sub hl [0, 1, 2] rfl)
      · replace hF := ifp c3 hF
        obtain ⟨s4, hs4, hF⟩ := ob hF
        have Js4 : ∀ (H : Heap) (locs : List Loc) (ls : Array Slot), HW zC g s4 s.heap H locs → lv_has ls 4 [(0, .ref (g.2.2 (k0))), (1, .ref (g.2.2 (v_names))), (2, .int (v_set)), (3, .int (s1.1))] → W p l e (rmd 2) s m args below meth c H locs 0 0 (MQ below (Qw zC g wz none) args s 0 0 (zA zC g)) (F0 m 34 ls []) := by
          intro H locs ls hH hl
          refine lv_iinc (v := (s1.1 + (1 : Int32))) (lv' := [(3, .int ((s1.1 + (1 : Int32)))), (0, .ref (g.2.2 (k0))), (1, .ref (g.2.2 (v_names))), (2, .int (v_set))]) hx hb dX2_writeObjects_34 hl (k := 3) rfl rfl (by decide) rfl (fun ls hl => ?_)
          refine lv_goto (tgt := 2) hx hb dX2_writeObjects_37 (by decide) ?_
          obtain rfl := se1 hF
          exact ih _ hL _ _ _ hH (lv_sub hl [1, 2, 3, 0] rfl)
        have hF := hs4
        refine lv_iload_n hx hb dX2_writeObjects_10 rfl (lv_at hl 2 rfl) ?_
        refine lv_iload_n hx hb dX2_writeObjects_11 rfl (lv_at hl 3 rfl) ?_
        refine w_callS (As := [.int (v_set), .int (s1.1)]) (rest := []) (st1 := [.int (bI ((f_X9_contains (v_set) (s1.1))))]) X hH (c_X9_contains (l := l) (g := g) (w := s1.2) (v_set := v_set) (v_number := s1.1) rfl) (Or.inr ⟨_, tw_4_124⟩) ms_X9_contains tw_2_174 ⟨Nat.le_of_ble_eq_true rfl, Nat.le_of_ble_eq_true rfl⟩ rfl rfl hl.1 (Nat.le_of_ble_eq_true rfl) dX2_writeObjects_12 ⟨Nat.le_refl _, Nat.le_refl _⟩ rfl (fun H locs hH => ?_)
        refine w_b_f (tgt := 34) hx hb dX2_writeObjects_15 (by decide) (fun c5 => ?_) (fun c5 => ?_)
        · replace hF := ifn c5 hF
          obtain rfl := se1 hF
          exact Js4 _ _ _ hH (lv_sub hl [0, 1, 2, 3] rfl)
        · replace hF := ifp c5 hF
          refine lv_aload_n hx hb dX2_writeObjects_18 rfl (lv_at hl 0 rfl) ?_
          refine lv_bipush (v := (32 : Int32)) hx hb dX2_writeObjects_19 (by decide) ?_
          obtain ⟨w6, h6, hF⟩ := ob hF
          refine w_callV (As := [.int ((32 : Int32))]) (k := k0) (rest := []) (st1 := []) X hH (c_X2_writeByte (l := l) (g := g) (w := s1.2) (k0 := k0) (v_sign := (32 : Int32)) h6 hk0) (Or.inl tw_4_116) ms_X2_writeByte im_X2_writeByte hk0 cn_2 ⟨Nat.le_of_ble_eq_true rfl, Nat.le_of_ble_eq_true rfl⟩ rfl rfl hl.1 (Nat.le_of_ble_eq_true rfl) dX2_writeObjects_21 ⟨Nat.le_refl _, Nat.le_refl _⟩ rfl (fun H locs hH => ?_)
          refine lv_aload_n hx hb dX2_writeObjects_24 rfl (lv_at hl 0 rfl) ?_
          refine lv_aload_n hx hb dX2_writeObjects_25 rfl (lv_at hl 1 rfl) ?_
          refine w_getr X hH hv_names fs_4_0 lk_2_36 dX2_writeObjects_26 ?_
          refine lv_iload_n hx hb dX2_writeObjects_29 rfl (lv_at hl 3 rfl) ?_
          obtain ⟨x7, h7, hF⟩ := ob hF
          refine w_lald X hH h7 (rt_C_4_0 hv_names) dX2_writeObjects_30 ?_
          obtain ⟨w8, h8, hF⟩ := ob hF
          refine w_callV (As := [.long (x7)]) (k := k0) (rest := []) (st1 := []) X hH (c_X2_writeName (l := l) (g := g) (w := w6) (k0 := k0) (v_word := x7) h8 hk0) (Or.inl tw_4_112) ms_X2_writeName im_X2_writeName hk0 cn_2 ⟨Nat.le_of_ble_eq_true rfl, Nat.le_of_ble_eq_true rfl⟩ rfl rfl hl.1 (Nat.le_of_ble_eq_true rfl) dX2_writeObjects_31 ⟨Nat.le_refl _, Nat.le_refl _⟩ rfl (fun H locs hH => ?_)
          obtain rfl := se1 hF
          exact Js4 _ _ _ hH (lv_sub hl [0, 1, 2, 3] rfl)
  exact Lr2 NF _ hLr2 _ _ _ hH (lv_sub hl [1, 2, 3, 0] rfl)

theorem dX2_write_0 : decode cX2_write 0 = .ok (.aload_n 0, 1) := by decide +kernel
theorem dX2_write_1 : decode cX2_write 1 = .ok (.iconst 0, 1) := by decide +kernel
theorem dX2_write_2 : decode cX2_write 2 = .ok (.putfield 15, 3) := by decide +kernel
theorem dX2_write_5 : decode cX2_write 5 = .ok (.iconst 0, 1) := by decide +kernel
theorem dX2_write_6 : decode cX2_write 6 = .ok (.istore_n 3, 1) := by decide +kernel
theorem dX2_write_7 : decode cX2_write 7 = .ok (.iload_n 3, 1) := by decide +kernel
theorem dX2_write_8 : decode cX2_write 8 = .ok (.aload_n 1, 1) := by decide +kernel
theorem dX2_write_9 : decode cX2_write 9 = .ok (.getfield 19, 3) := by decide +kernel
theorem dX2_write_12 : decode cX2_write 12 = .ok (.getfield 25, 3) := by decide +kernel
theorem dX2_write_15 : decode cX2_write 15 = .ok (.if_icmp .ge 51, 3) := by decide +kernel
theorem dX2_write_18 : decode cX2_write 18 = .ok (.aload_n 2, 1) := by decide +kernel
theorem dX2_write_19 : decode cX2_write 19 = .ok (.getfield 30, 3) := by decide +kernel
theorem dX2_write_22 : decode cX2_write 22 = .ok (.iload_n 3, 1) := by decide +kernel
theorem dX2_write_23 : decode cX2_write 23 = .ok (.iaload, 1) := by decide +kernel
theorem dX2_write_24 : decode cX2_write 24 = .ok (.ifCond .eq 36, 3) := by decide +kernel
theorem dX2_write_27 : decode cX2_write 27 = .ok (.aload_n 0, 1) := by decide +kernel
theorem dX2_write_28 : decode cX2_write 28 = .ok (.aload_n 1, 1) := by decide +kernel
theorem dX2_write_29 : decode cX2_write 29 = .ok (.getfield 19, 3) := by decide +kernel
theorem dX2_write_32 : decode cX2_write 32 = .ok (.getfield 36, 3) := by decide +kernel
theorem dX2_write_35 : decode cX2_write 35 = .ok (.iload_n 3, 1) := by decide +kernel
theorem dX2_write_36 : decode cX2_write 36 = .ok (.laload, 1) := by decide +kernel
theorem dX2_write_37 : decode cX2_write 37 = .ok (.invokevirtual 40, 3) := by decide +kernel
theorem dX2_write_40 : decode cX2_write 40 = .ok (.aload_n 0, 1) := by decide +kernel
theorem dX2_write_41 : decode cX2_write 41 = .ok (.aload_n 1, 1) := by decide +kernel
theorem dX2_write_42 : decode cX2_write 42 = .ok (.getfield 44, 3) := by decide +kernel
theorem dX2_write_45 : decode cX2_write 45 = .ok (.aload_n 2, 1) := by decide +kernel
theorem dX2_write_46 : decode cX2_write 46 = .ok (.getfield 30, 3) := by decide +kernel
theorem dX2_write_49 : decode cX2_write 49 = .ok (.iload_n 3, 1) := by decide +kernel
theorem dX2_write_50 : decode cX2_write 50 = .ok (.iaload, 1) := by decide +kernel
theorem dX2_write_51 : decode cX2_write 51 = .ok (.invokevirtual 47, 3) := by decide +kernel
theorem dX2_write_54 : decode cX2_write 54 = .ok (.aload_n 0, 1) := by decide +kernel
theorem dX2_write_55 : decode cX2_write 55 = .ok (.bipush 59, 2) := by decide +kernel
theorem dX2_write_57 : decode cX2_write 57 = .ok (.invokevirtual 51, 3) := by decide +kernel
theorem dX2_write_60 : decode cX2_write 60 = .ok (.iinc 3 1, 3) := by decide +kernel
theorem dX2_write_63 : decode cX2_write 63 = .ok (.goto (-56), 3) := by decide +kernel
theorem dX2_write_66 : decode cX2_write 66 = .ok (.return_, 1) := by decide +kernel
set_option maxHeartbeats 4000000 in
set_option maxRecDepth 100000 in
theorem c_X2_write {l : Launch} {g : Gh} {w : Wd} {k0 : Nat} {v_program : Nat} {v_solution : Nat} {wz : Wd} (hF : f_X2_write w k0 v_program v_solution = some wz) (hk0 : zct zC k0 = 2) (hv_program : zct zC v_program = 6) (hv_solution : zct zC v_solution = 7) : Met l yX2_write (Cond.code yX2_write cX2_write 4 none :: TT) (rmd 3) (Pcw zC g w [.ref (g.2.2 k0), .ref (g.2.2 (v_program)), .ref (g.2.2 (v_solution))]) (Qw zC g wz none) 0 0 (zA zC g) := by
  refine mt_start (by decide) (Nat.le_of_ble_eq_true rfl) ?_
  intro p e s m args below meth c H locs ls X hr hl hH
  have hx := X.1
  have hb := X.2.1
  have hml := X.2.2.1
  have hown := X.2.2.2.1
  have ht := X.2.2.2.2.1
  have hl : lv_has ls 4 [(0, .ref (g.2.2 (k0))), (1, .ref (g.2.2 (v_program))), (2, .ref (g.2.2 (v_solution)))] := hl
  unfold f_X2_write at hF
  refine lv_aload_n hx hb dX2_write_0 rfl (lv_at hl 0 rfl) ?_
  refine lv_iconst (v := (0 : Int32)) hx hb dX2_write_1 (by decide) ?_
  obtain ⟨w1, h1, hF⟩ := ob hF
  refine w_puti X hH h1 hk0 fs_2_1 nf_2_1 lk_2_15 dX2_write_2 (fun H locs hH => ?_)
  refine lv_iconst (v := (0 : Int32)) hx hb dX2_write_5 (by decide) ?_
  refine lv_istore_n (lv' := [(3, .int ((0 : Int32))), (0, .ref (g.2.2 (k0))), (1, .ref (g.2.2 (v_program))), (2, .ref (g.2.2 (v_solution)))]) hx hb dX2_write_6 rfl hl (by decide) rfl (fun ls hl => ?_)
  obtain ⟨r3, hLr3, hF⟩ := ob hF
  have Jr3 : ∀ (H : Heap) (locs : List Loc) (ls : Array Slot), HW zC g r3 s.heap H locs → lv_has ls 4 [(0, .ref (g.2.2 (k0))), (1, .ref (g.2.2 (v_program))), (2, .ref (g.2.2 (v_solution)))] → W p l e (rmd 3) s m args below meth c H locs 0 0 (MQ below (Qw zC g wz none) args s 0 0 (zA zC g)) (F0 m 66 ls []) := by
    intro H locs ls hH hl
    obtain rfl := se1 hF
    exact w_vret X hH hr dX2_write_66
  have Lr3 : ∀ (n : Nat) (s2 : Int32 × Wd), lp (b_X2_write_1 v_program v_solution k0) n s2 = some r3 → ∀ (H : Heap) (locs : List Loc) (ls : Array Slot), HW zC g s2.2 s.heap H locs → lv_has ls 4 [(0, .ref (g.2.2 (k0))), (1, .ref (g.2.2 (v_program))), (2, .ref (g.2.2 (v_solution))), (3, .int (s2.1))] → W p l e (rmd 3) s m args below meth c H locs 0 0 (MQ below (Qw zC g wz none) args s 0 0 (zA zC g)) (F0 m 7 ls []) := by
    intro n
    induction n with
    | zero => intro s2 hL; exact lp_0 hL
    | succ n ih =>
      intro s2 hL H locs ls hH hl
      obtain ⟨bb, hF, hL⟩ := lp_s hL
      unfold b_X2_write_1 at hF
      refine lv_iload_n hx hb dX2_write_7 rfl (lv_at hl 3 rfl) ?_
      refine lv_aload_n hx hb dX2_write_8 rfl (lv_at hl 1 rfl) ?_
      refine w_getr X hH hv_program fs_6_0 lk_2_19 dX2_write_9 ?_
      refine w_geti X hH (rt_C_6_0 hv_program) fs_4_2 lk_2_25 dX2_write_12 ?_
      refine w_ilt_f (tgt := 66) hx hb dX2_write_15 (by decide) (fun c4 => ?_) (fun c4 => ?_)
      · replace hF := ifn c4 hF
        obtain rfl := se1 hF
        subst hL
        exact Jr3 _ _ _ hH (lv_sub hl [0, 1, 2] rfl)
      · replace hF := ifp c4 hF
        obtain ⟨s5, hs5, hF⟩ := ob hF
        have Js5 : ∀ (H : Heap) (locs : List Loc) (ls : Array Slot), HW zC g s5 s.heap H locs → lv_has ls 4 [(0, .ref (g.2.2 (k0))), (1, .ref (g.2.2 (v_program))), (2, .ref (g.2.2 (v_solution))), (3, .int (s2.1))] → W p l e (rmd 3) s m args below meth c H locs 0 0 (MQ below (Qw zC g wz none) args s 0 0 (zA zC g)) (F0 m 60 ls []) := by
          intro H locs ls hH hl
          refine lv_iinc (v := (s2.1 + (1 : Int32))) (lv' := [(3, .int ((s2.1 + (1 : Int32)))), (0, .ref (g.2.2 (k0))), (1, .ref (g.2.2 (v_program))), (2, .ref (g.2.2 (v_solution)))]) hx hb dX2_write_60 hl (k := 3) rfl rfl (by decide) rfl (fun ls hl => ?_)
          refine lv_goto (tgt := 7) hx hb dX2_write_63 (by decide) ?_
          obtain rfl := se1 hF
          exact ih _ hL _ _ _ hH (lv_sub hl [1, 2, 3, 0] rfl)
        have hF := hs5
        refine lv_aload_n hx hb dX2_write_18 rfl (lv_at hl 2 rfl) ?_
        refine w_getr X hH hv_solution fs_7_0 lk_2_30 dX2_write_19 ?_
        refine lv_iload_n hx hb dX2_write_22 rfl (lv_at hl 3 rfl) ?_
        obtain ⟨x6, h6, hF⟩ := ob hF
        refine w_iald X hH h6 (rt_C_7_0 hv_solution) dX2_write_23 ?_
        refine w_zne_f (tgt := 60) hx hb dX2_write_24 (by decide) (fun c7 => ?_) (fun c7 => ?_)
        · replace hF := ifn c7 hF
          obtain rfl := se1 hF
          exact Js5 _ _ _ hH (lv_sub hl [0, 1, 2, 3] rfl)
        · replace hF := ifp c7 hF
          refine lv_aload_n hx hb dX2_write_27 rfl (lv_at hl 0 rfl) ?_
          refine lv_aload_n hx hb dX2_write_28 rfl (lv_at hl 1 rfl) ?_
          refine w_getr X hH hv_program fs_6_0 lk_2_19 dX2_write_29 ?_
          refine w_getr X hH (rt_C_6_0 hv_program) fs_4_0 lk_2_36 dX2_write_32 ?_
          refine lv_iload_n hx hb dX2_write_35 rfl (lv_at hl 3 rfl) ?_
          obtain ⟨x8, h8, hF⟩ := ob hF
          refine w_lald X hH h8 (rt_C_4_0 (rt_C_6_0 hv_program)) dX2_write_36 ?_
          obtain ⟨w9, h9, hF⟩ := ob hF
          refine w_callV (As := [.long (x8)]) (k := k0) (rest := []) (st1 := []) X hH (c_X2_writeName (l := l) (g := g) (w := s2.2) (k0 := k0) (v_word := x8) h9 hk0) (Or.inl tw_4_112) ms_X2_writeName im_X2_writeName hk0 cn_2 ⟨Nat.le_of_ble_eq_true rfl, Nat.le_of_ble_eq_true rfl⟩ rfl rfl hl.1 (Nat.le_of_ble_eq_true rfl) dX2_write_37 ⟨Nat.le_refl _, Nat.le_refl _⟩ rfl (fun H locs hH => ?_)
          refine lv_aload_n hx hb dX2_write_40 rfl (lv_at hl 0 rfl) ?_
          refine lv_aload_n hx hb dX2_write_41 rfl (lv_at hl 1 rfl) ?_
          refine w_getr X hH hv_program fs_6_1 lk_2_44 dX2_write_42 ?_
          refine lv_aload_n hx hb dX2_write_45 rfl (lv_at hl 2 rfl) ?_
          refine w_getr X hH hv_solution fs_7_0 lk_2_30 dX2_write_46 ?_
          refine lv_iload_n hx hb dX2_write_49 rfl (lv_at hl 3 rfl) ?_
          obtain ⟨x10, h10, hF⟩ := ob hF
          refine w_iald X hH h10 (rt_C_7_0 hv_solution) dX2_write_50 ?_
          obtain ⟨w11, h11, hF⟩ := ob hF
          refine w_callV (As := [.ref (g.2.2 ((zrf zC (v_program) 1))), .int (x10)]) (k := k0) (rest := []) (st1 := []) X hH (c_X2_writeObjects (l := l) (g := g) (w := w9) (k0 := k0) (v_names := (zrf zC (v_program) 1)) (v_set := x10) h11 hk0 (rt_C_6_1 hv_program)) (Or.inl tw_4_120) ms_X2_writeObjects im_X2_writeObjects hk0 cn_2 ⟨Nat.le_of_ble_eq_true rfl, Nat.le_of_ble_eq_true rfl⟩ rfl rfl hl.1 (Nat.le_of_ble_eq_true rfl) dX2_write_51 ⟨Nat.le_refl _, Nat.le_refl _⟩ rfl (fun H locs hH => ?_)
          refine lv_aload_n hx hb dX2_write_54 rfl (lv_at hl 0 rfl) ?_
          refine lv_bipush (v := (59 : Int32)) hx hb dX2_write_55 (by decide) ?_
          obtain ⟨w12, h12, hF⟩ := ob hF
          refine w_callV (As := [.int ((59 : Int32))]) (k := k0) (rest := []) (st1 := []) X hH (c_X2_writeByte (l := l) (g := g) (w := w11) (k0 := k0) (v_sign := (59 : Int32)) h12 hk0) (Or.inl tw_4_116) ms_X2_writeByte im_X2_writeByte hk0 cn_2 ⟨Nat.le_of_ble_eq_true rfl, Nat.le_of_ble_eq_true rfl⟩ rfl rfl hl.1 (Nat.le_of_ble_eq_true rfl) dX2_write_57 ⟨Nat.le_refl _, Nat.le_refl _⟩ rfl (fun H locs hH => ?_)
          obtain rfl := se1 hF
          exact Js5 _ _ _ hH (lv_sub hl [0, 1, 2, 3] rfl)
  exact Lr3 NF _ hLr3 _ _ _ hH (lv_sub hl [1, 2, 3, 0] rfl)

theorem dX9_dumped_0 : decode cX9_dumped 0 = .ok (.aload_n 0, 1) := by decide +kernel
theorem dX9_dumped_1 : decode cX9_dumped 1 = .ok (.getfield 69, 3) := by decide +kernel
theorem dX9_dumped_4 : decode cX9_dumped 4 = .ok (.ifCond .eq 23, 3) := by decide +kernel
theorem dX9_dumped_7 : decode cX9_dumped 7 = .ok (.aload_n 0, 1) := by decide +kernel
theorem dX9_dumped_8 : decode cX9_dumped 8 = .ok (.getfield 61, 3) := by decide +kernel
theorem dX9_dumped_11 : decode cX9_dumped 11 = .ok (.aload_n 0, 1) := by decide +kernel
theorem dX9_dumped_12 : decode cX9_dumped 12 = .ok (.getfield 19, 3) := by decide +kernel
theorem dX9_dumped_15 : decode cX9_dumped 15 = .ok (.aload_n 0, 1) := by decide +kernel
theorem dX9_dumped_16 : decode cX9_dumped 16 = .ok (.getfield 47, 3) := by decide +kernel
theorem dX9_dumped_19 : decode cX9_dumped 19 = .ok (.invokevirtual 313, 3) := by decide +kernel
theorem dX9_dumped_22 : decode cX9_dumped 22 = .ok (.aload_n 0, 1) := by decide +kernel
theorem dX9_dumped_23 : decode cX9_dumped 23 = .ok (.iconst 0, 1) := by decide +kernel
theorem dX9_dumped_24 : decode cX9_dumped 24 = .ok (.putfield 69, 3) := by decide +kernel
theorem dX9_dumped_27 : decode cX9_dumped 27 = .ok (.aload_n 0, 1) := by decide +kernel
theorem dX9_dumped_28 : decode cX9_dumped 28 = .ok (.getfield 61, 3) := by decide +kernel
theorem dX9_dumped_31 : decode cX9_dumped 31 = .ok (.areturn, 1) := by decide +kernel
set_option maxHeartbeats 4000000 in
set_option maxRecDepth 100000 in
theorem c_X9_dumped {l : Launch} {g : Gh} {w : Wd} {k0 : Nat} {rz : Nat} {wz : Wd} (hF : f_X9_dumped w k0 = some (rz, wz)) (hk0 : zct zC k0 = 9) : Met l yX9_dumped (Cond.code yX9_dumped cX9_dumped 1 (some (.object "PointsToSolver$Dump")) :: TT) (rmd 4) (Pcw zC g w [.ref (g.2.2 k0)]) (Qw zC g wz (some (.ref (g.2.2 (rz))))) 0 0 (zA zC g) := by
  refine mt_start (by decide) (Nat.le_of_ble_eq_true rfl) ?_
  intro p e s m args below meth c H locs ls X hr hl hH
  have hx := X.1
  have hb := X.2.1
  have hml := X.2.2.1
  have hown := X.2.2.2.1
  have ht := X.2.2.2.2.1
  have hl : lv_has ls 1 [(0, .ref (g.2.2 (k0)))] := hl
  unfold f_X9_dumped at hF
  obtain ⟨s1, hs1, hF⟩ := ob hF
  have Js1 : ∀ (H : Heap) (locs : List Loc) (ls : Array Slot), HW zC g s1 s.heap H locs → lv_has ls 1 [(0, .ref (g.2.2 (k0)))] → W p l e (rmd 4) s m args below meth c H locs 0 0 (MQ below (Qw zC g wz (some (.ref (g.2.2 (rz))))) args s 0 0 (zA zC g)) (F0 m 27 ls []) := by
    intro H locs ls hH hl
    refine lv_aload_n hx hb dX9_dumped_27 rfl (lv_at hl 0 rfl) ?_
    refine w_getr X hH hk0 fs_9_8 lk_9_61 dX9_dumped_28 ?_
    obtain ⟨rfl, rfl⟩ := se2 hF
    exact w_aret X hH hr dX9_dumped_31
  have hF := hs1
  refine lv_aload_n hx hb dX9_dumped_0 rfl (lv_at hl 0 rfl) ?_
  obtain ⟨x2, h2, hF⟩ := ob hF
  refine w_getz X hH h2 hk0 fs_9_10 lk_9_69 dX9_dumped_1 ?_
  refine w_b_f (tgt := 27) hx hb dX9_dumped_4 (by decide) (fun c3 => ?_) (fun c3 => ?_)
  · replace hF := ifn c3 hF
    obtain rfl := se1 hF
    exact Js1 _ _ _ hH (lv_sub hl [0] rfl)
  · replace hF := ifp c3 hF
    refine lv_aload_n hx hb dX9_dumped_7 rfl (lv_at hl 0 rfl) ?_
    refine w_getr X hH hk0 fs_9_8 lk_9_61 dX9_dumped_8 ?_
    refine lv_aload_n hx hb dX9_dumped_11 rfl (lv_at hl 0 rfl) ?_
    obtain ⟨x4, h4, hF⟩ := ob hF
    refine w_getd X hH h4 hk0 fs_9_1 lk_9_19 dX9_dumped_12 (fun q4 => ?_)
    refine lv_aload_n hx hb dX9_dumped_15 rfl (lv_at hl 0 rfl) ?_
    refine w_getr X hH hk0 fs_9_6 lk_9_47 dX9_dumped_16 ?_
    obtain ⟨w5, h5, hF⟩ := ob hF
    refine w_callV (As := [.ref (g.2.2 (x4)), .ref (g.2.2 ((zrf zC (k0) 6)))]) (k := (zrf zC (k0) 8)) (rest := []) (st1 := []) X hH (c_X2_write (l := l) (g := g) (w := w) (k0 := (zrf zC (k0) 8)) (v_program := x4) (v_solution := (zrf zC (k0) 6)) h5 (rt_C_9_8 hk0) q4 (rt_C_9_6 hk0)) (Or.inr ⟨_, tw_4_108⟩) ms_X2_write im_X2_write (rt_C_9_8 hk0) cn_2 ⟨Nat.le_of_ble_eq_true rfl, Nat.le_of_ble_eq_true rfl⟩ rfl rfl hl.1 (Nat.le_of_ble_eq_true rfl) dX9_dumped_19 ⟨Nat.le_refl _, Nat.le_refl _⟩ rfl (fun H locs hH => ?_)
    refine lv_aload_n hx hb dX9_dumped_22 rfl (lv_at hl 0 rfl) ?_
    refine lv_iconst (v := bI false) hx hb dX9_dumped_23 (by decide) ?_
    obtain ⟨w6, h6, hF⟩ := ob hF
    refine w_putz X hH h6 hk0 fs_9_10 nf_9_10 lk_9_69 dX9_dumped_24 (fun H locs hH => ?_)
    obtain rfl := se1 hF
    exact Js1 _ _ _ hH (lv_sub hl [0] rfl)

theorem dX9_dumpLength_0 : decode cX9_dumpLength 0 = .ok (.aload_n 0, 1) := by decide +kernel
theorem dX9_dumpLength_1 : decode cX9_dumpLength 1 = .ok (.invokevirtual 264, 3) := by decide +kernel
theorem dX9_dumpLength_4 : decode cX9_dumpLength 4 = .ok (.getfield 268, 3) := by decide +kernel
theorem dX9_dumpLength_7 : decode cX9_dumpLength 7 = .ok (.ireturn, 1) := by decide +kernel
set_option maxHeartbeats 4000000 in
set_option maxRecDepth 100000 in
theorem c_X9_dumpLength {l : Launch} {g : Gh} {w : Wd} {k0 : Nat} {rz : Int32} {wz : Wd} (hF : f_X9_dumpLength w k0 = some (rz, wz)) (hk0 : zct zC k0 = 9) : Met l yX9_dumpLength (Cond.code yX9_dumpLength cX9_dumpLength 1 (some .int) :: TT) (rmd 5) (Pcw zC g w [.ref (g.2.2 k0)]) (Qw zC g wz (some (.int (rz)))) 0 0 (zA zC g) := by
  refine mt_start (by decide) (Nat.le_of_ble_eq_true rfl) ?_
  intro p e s m args below meth c H locs ls X hr hl hH
  have hx := X.1
  have hb := X.2.1
  have hml := X.2.2.1
  have hown := X.2.2.2.1
  have ht := X.2.2.2.2.1
  have hl : lv_has ls 1 [(0, .ref (g.2.2 (k0)))] := hl
  unfold f_X9_dumpLength at hF
  refine lv_aload_n hx hb dX9_dumpLength_0 rfl (lv_at hl 0 rfl) ?_
  obtain ⟨x1, h1, hF⟩ := ob hF
  refine w_callV (As := []) (k := k0) (rest := []) (st1 := [.ref (g.2.2 (x1.1))]) X hH (c_X9_dumped (l := l) (g := g) (w := w) (k0 := k0) h1 hk0) (Or.inl tw_4_104) ms_X9_dumped im_X9_dumped hk0 cn_9 ⟨Nat.le_of_ble_eq_true rfl, Nat.le_of_ble_eq_true rfl⟩ rfl rfl hl.1 (Nat.le_of_ble_eq_true rfl) dX9_dumpLength_1 ⟨Nat.le_refl _, Nat.le_refl _⟩ rfl (fun H locs hH => ?_)
  refine w_geti X hH (rr_X9_dumped h1 hk0) fs_2_1 lk_9_268 dX9_dumpLength_4 ?_
  obtain ⟨rfl, rfl⟩ := se2 hF
  exact w_iret X hH hr dX9_dumpLength_7

theorem dX9_dumpByte_0 : decode cX9_dumpByte 0 = .ok (.aload_n 0, 1) := by decide +kernel
theorem dX9_dumpByte_1 : decode cX9_dumpByte 1 = .ok (.invokevirtual 264, 3) := by decide +kernel
theorem dX9_dumpByte_4 : decode cX9_dumpByte 4 = .ok (.astore_n 2, 1) := by decide +kernel
theorem dX9_dumpByte_5 : decode cX9_dumpByte 5 = .ok (.iload_n 1, 1) := by decide +kernel
theorem dX9_dumpByte_6 : decode cX9_dumpByte 6 = .ok (.ifCond .lt 11, 3) := by decide +kernel
theorem dX9_dumpByte_9 : decode cX9_dumpByte 9 = .ok (.iload_n 1, 1) := by decide +kernel
theorem dX9_dumpByte_10 : decode cX9_dumpByte 10 = .ok (.aload_n 2, 1) := by decide +kernel
theorem dX9_dumpByte_11 : decode cX9_dumpByte 11 = .ok (.getfield 268, 3) := by decide +kernel
theorem dX9_dumpByte_14 : decode cX9_dumpByte 14 = .ok (.if_icmp .lt 7, 3) := by decide +kernel
theorem dX9_dumpByte_17 : decode cX9_dumpByte 17 = .ok (.iconst (-1), 1) := by decide +kernel
theorem dX9_dumpByte_18 : decode cX9_dumpByte 18 = .ok (.goto 9, 3) := by decide +kernel
theorem dX9_dumpByte_21 : decode cX9_dumpByte 21 = .ok (.aload_n 2, 1) := by decide +kernel
theorem dX9_dumpByte_22 : decode cX9_dumpByte 22 = .ok (.getfield 271, 3) := by decide +kernel
theorem dX9_dumpByte_25 : decode cX9_dumpByte 25 = .ok (.iload_n 1, 1) := by decide +kernel
theorem dX9_dumpByte_26 : decode cX9_dumpByte 26 = .ok (.baload, 1) := by decide +kernel
theorem dX9_dumpByte_27 : decode cX9_dumpByte 27 = .ok (.ireturn, 1) := by decide +kernel
set_option maxHeartbeats 4000000 in
set_option maxRecDepth 100000 in
theorem c_X9_dumpByte {l : Launch} {g : Gh} {w : Wd} {k0 : Nat} {v_index : Int32} {rz : Int32} {wz : Wd} (hF : f_X9_dumpByte w k0 v_index = some (rz, wz)) (hk0 : zct zC k0 = 9) : Met l yX9_dumpByte (Cond.code yX9_dumpByte cX9_dumpByte 3 (some .int) :: TT) (rmd 5) (Pcw zC g w [.ref (g.2.2 k0), .int (v_index)]) (Qw zC g wz (some (.int (rz)))) 0 0 (zA zC g) := by
  refine mt_start (by decide) (Nat.le_of_ble_eq_true rfl) ?_
  intro p e s m args below meth c H locs ls X hr hl hH
  have hx := X.1
  have hb := X.2.1
  have hml := X.2.2.1
  have hown := X.2.2.2.1
  have ht := X.2.2.2.2.1
  have hl : lv_has ls 3 [(0, .ref (g.2.2 (k0))), (1, .int (v_index))] := hl
  unfold f_X9_dumpByte at hF
  refine lv_aload_n hx hb dX9_dumpByte_0 rfl (lv_at hl 0 rfl) ?_
  obtain ⟨x1, h1, hF⟩ := ob hF
  refine w_callV (As := []) (k := k0) (rest := []) (st1 := [.ref (g.2.2 (x1.1))]) X hH (c_X9_dumped (l := l) (g := g) (w := w) (k0 := k0) h1 hk0) (Or.inl tw_4_104) ms_X9_dumped im_X9_dumped hk0 cn_9 ⟨Nat.le_of_ble_eq_true rfl, Nat.le_of_ble_eq_true rfl⟩ rfl rfl hl.1 (Nat.le_of_ble_eq_true rfl) dX9_dumpByte_1 ⟨Nat.le_refl _, Nat.le_refl _⟩ rfl (fun H locs hH => ?_)
  refine lv_astore_n (lv' := [(2, .ref (g.2.2 (x1.1))), (0, .ref (g.2.2 (k0))), (1, .int (v_index))]) hx hb dX9_dumpByte_4 rfl hl (by decide) rfl (fun ls hl => ?_)
  obtain ⟨x3, hx3, hF⟩ := ob hF
  have J2 : ∀ (H : Heap) (locs : List Loc), HW zC g x1.2 s.heap H locs → W p l e (rmd 5) s m args below meth c H locs 0 0 (MQ below (Qw zC g wz (some (.int (rz)))) args s 0 0 (zA zC g)) (F0 m 27 ls [.int (x3)]) := by
    intro H locs hH
    obtain ⟨rfl, rfl⟩ := se2 hF
    exact w_iret X hH hr dX9_dumpByte_27
  have hF := hx3
  refine lv_iload_n hx hb dX9_dumpByte_5 rfl (lv_at hl 2 rfl) ?_
  have J4T : (v_index < (0 : Int32)) ∨ ((x1.2.1 (x1.1) 1) ≤ v_index) → ∀ (H : Heap) (locs : List Loc), HW zC g x1.2 s.heap H locs → W p l e (rmd 5) s m args below meth c H locs 0 0 (MQ below (Qw zC g wz (some (.int (rz)))) args s 0 0 (zA zC g)) (F0 m 17 ls []) := by
    intro hc H locs hH
    replace hF := ifp hc hF
    refine lv_iconst (v := (-1 : Int32)) hx hb dX9_dumpByte_17 (by decide) ?_
    refine lv_goto (tgt := 27) hx hb dX9_dumpByte_18 (by decide) ?_
    obtain rfl := se1 hF
    exact J2 _ _ hH
  have J4F : ¬ ((v_index < (0 : Int32)) ∨ ((x1.2.1 (x1.1) 1) ≤ v_index)) → ∀ (H : Heap) (locs : List Loc), HW zC g x1.2 s.heap H locs → W p l e (rmd 5) s m args below meth c H locs 0 0 (MQ below (Qw zC g wz (some (.int (rz)))) args s 0 0 (zA zC g)) (F0 m 21 ls []) := by
    intro hc H locs hH
    replace hF := ifn hc hF
    refine lv_aload_n hx hb dX9_dumpByte_21 rfl (lv_at hl 0 rfl) ?_
    refine w_getr X hH (rr_X9_dumped h1 hk0) fs_2_0 lk_9_271 dX9_dumpByte_22 ?_
    refine lv_iload_n hx hb dX9_dumpByte_25 rfl (lv_at hl 2 rfl) ?_
    obtain ⟨x7, h7, hF⟩ := ob hF
    refine w_bald X hH h7 (rt_C_2_0 (rr_X9_dumped h1 hk0)) dX9_dumpByte_26 ?_
    obtain rfl := se1 hF
    exact J2 _ _ hH
  refine w_zlt_t (tgt := 17) hx hb dX9_dumpByte_6 (by decide) (fun c5 => ?_) (fun c5 => ?_)
  · exact J4T (Or.inl c5) _ _ hH
  · refine lv_iload_n hx hb dX9_dumpByte_9 rfl (lv_at hl 2 rfl) ?_
    refine lv_aload_n hx hb dX9_dumpByte_10 rfl (lv_at hl 0 rfl) ?_
    refine w_geti X hH (rr_X9_dumped h1 hk0) fs_2_1 lk_9_268 dX9_dumpByte_11 ?_
    refine w_ige_f (tgt := 21) hx hb dX9_dumpByte_14 (by decide) (fun c6 => ?_) (fun c6 => ?_)
    · exact J4F (fun z => z.elim c5 c6) _ _ hH
    · exact J4T (Or.inr c6) _ _ hH

theorem dX6_mayStandAt_0 : decode cX6_mayStandAt 0 = .ok (.iload_n 1, 1) := by decide +kernel
theorem dX6_mayStandAt_1 : decode cX6_mayStandAt 1 = .ok (.iload_n 2, 1) := by decide +kernel
theorem dX6_mayStandAt_2 : decode cX6_mayStandAt 2 = .ok (.invokestatic 58, 3) := by decide +kernel
theorem dX6_mayStandAt_5 : decode cX6_mayStandAt 5 = .ok (.tableswitch 90 0 2 #[27, 48, 69], 27) := by decide +kernel
theorem dX6_mayStandAt_32 : decode cX6_mayStandAt 32 = .ok (.iload_n 3, 1) := by decide +kernel
theorem dX6_mayStandAt_33 : decode cX6_mayStandAt 33 = .ok (.ifCond .lt 18, 3) := by decide +kernel
theorem dX6_mayStandAt_36 : decode cX6_mayStandAt 36 = .ok (.iload_n 3, 1) := by decide +kernel
theorem dX6_mayStandAt_37 : decode cX6_mayStandAt 37 = .ok (.aload_n 0, 1) := by decide +kernel
theorem dX6_mayStandAt_38 : decode cX6_mayStandAt 38 = .ok (.getfield 14, 3) := by decide +kernel
theorem dX6_mayStandAt_41 : decode cX6_mayStandAt 41 = .ok (.getfield 44, 3) := by decide +kernel
theorem dX6_mayStandAt_44 : decode cX6_mayStandAt 44 = .ok (.if_icmp .ge 7, 3) := by decide +kernel
theorem dX6_mayStandAt_47 : decode cX6_mayStandAt 47 = .ok (.iconst 1, 1) := by decide +kernel
theorem dX6_mayStandAt_48 : decode cX6_mayStandAt 48 = .ok (.goto 4, 3) := by decide +kernel
theorem dX6_mayStandAt_51 : decode cX6_mayStandAt 51 = .ok (.iconst 0, 1) := by decide +kernel
theorem dX6_mayStandAt_52 : decode cX6_mayStandAt 52 = .ok (.ireturn, 1) := by decide +kernel
theorem dX6_mayStandAt_53 : decode cX6_mayStandAt 53 = .ok (.iload_n 3, 1) := by decide +kernel
theorem dX6_mayStandAt_54 : decode cX6_mayStandAt 54 = .ok (.ifCond .lt 18, 3) := by decide +kernel
theorem dX6_mayStandAt_57 : decode cX6_mayStandAt 57 = .ok (.iload_n 3, 1) := by decide +kernel
theorem dX6_mayStandAt_58 : decode cX6_mayStandAt 58 = .ok (.aload_n 0, 1) := by decide +kernel
theorem dX6_mayStandAt_59 : decode cX6_mayStandAt 59 = .ok (.getfield 20, 3) := by decide +kernel
theorem dX6_mayStandAt_62 : decode cX6_mayStandAt 62 = .ok (.getfield 44, 3) := by decide +kernel
theorem dX6_mayStandAt_65 : decode cX6_mayStandAt 65 = .ok (.if_icmp .ge 7, 3) := by decide +kernel
theorem dX6_mayStandAt_68 : decode cX6_mayStandAt 68 = .ok (.iconst 1, 1) := by decide +kernel
theorem dX6_mayStandAt_69 : decode cX6_mayStandAt 69 = .ok (.goto 4, 3) := by decide +kernel
theorem dX6_mayStandAt_72 : decode cX6_mayStandAt 72 = .ok (.iconst 0, 1) := by decide +kernel
theorem dX6_mayStandAt_73 : decode cX6_mayStandAt 73 = .ok (.ireturn, 1) := by decide +kernel
theorem dX6_mayStandAt_74 : decode cX6_mayStandAt 74 = .ok (.iload_n 3, 1) := by decide +kernel
theorem dX6_mayStandAt_75 : decode cX6_mayStandAt 75 = .ok (.ifCond .lt 18, 3) := by decide +kernel
theorem dX6_mayStandAt_78 : decode cX6_mayStandAt 78 = .ok (.iload_n 3, 1) := by decide +kernel
theorem dX6_mayStandAt_79 : decode cX6_mayStandAt 79 = .ok (.aload_n 0, 1) := by decide +kernel
theorem dX6_mayStandAt_80 : decode cX6_mayStandAt 80 = .ok (.getfield 23, 3) := by decide +kernel
theorem dX6_mayStandAt_83 : decode cX6_mayStandAt 83 = .ok (.getfield 44, 3) := by decide +kernel
theorem dX6_mayStandAt_86 : decode cX6_mayStandAt 86 = .ok (.if_icmp .ge 7, 3) := by decide +kernel
theorem dX6_mayStandAt_89 : decode cX6_mayStandAt 89 = .ok (.iconst 1, 1) := by decide +kernel
theorem dX6_mayStandAt_90 : decode cX6_mayStandAt 90 = .ok (.goto 4, 3) := by decide +kernel
theorem dX6_mayStandAt_93 : decode cX6_mayStandAt 93 = .ok (.iconst 0, 1) := by decide +kernel
theorem dX6_mayStandAt_94 : decode cX6_mayStandAt 94 = .ok (.ireturn, 1) := by decide +kernel
theorem dX6_mayStandAt_95 : decode cX6_mayStandAt 95 = .ok (.iload_n 3, 1) := by decide +kernel
theorem dX6_mayStandAt_96 : decode cX6_mayStandAt 96 = .ok (.bipush (-2), 2) := by decide +kernel
theorem dX6_mayStandAt_98 : decode cX6_mayStandAt 98 = .ok (.if_icmp .ne 7, 3) := by decide +kernel
theorem dX6_mayStandAt_101 : decode cX6_mayStandAt 101 = .ok (.iconst 1, 1) := by decide +kernel
theorem dX6_mayStandAt_102 : decode cX6_mayStandAt 102 = .ok (.goto 4, 3) := by decide +kernel
theorem dX6_mayStandAt_105 : decode cX6_mayStandAt 105 = .ok (.iconst 0, 1) := by decide +kernel
theorem dX6_mayStandAt_106 : decode cX6_mayStandAt 106 = .ok (.ireturn, 1) := by decide +kernel
set_option maxHeartbeats 4000000 in
set_option maxRecDepth 100000 in
theorem c_X6_mayStandAt {l : Launch} {g : Gh} {w : Wd} {k0 : Nat} {v_kind : Int32} {v_position : Int32} {v_number : Int32} {rz : Bool} (hF : f_X6_mayStandAt w k0 v_kind v_position v_number = some rz) (hk0 : zct zC k0 = 6) : Met l yX6_mayStandAt (Cond.code yX6_mayStandAt cX6_mayStandAt 4 (some .boolean) :: TT) (rmd 1) (Pcw zC g w [.ref (g.2.2 k0), .int (v_kind), .int (v_position), .int (v_number)]) (Qw zC g w (some (.int (bI (rz))))) 0 0 (zA zC g) := by
  refine mt_start (by decide) (Nat.le_of_ble_eq_true rfl) ?_
  intro p e s m args below meth c H locs ls X hr hl hH
  have hx := X.1
  have hb := X.2.1
  have hml := X.2.2.1
  have hown := X.2.2.2.1
  have ht := X.2.2.2.2.1
  have hl : lv_has ls 4 [(0, .ref (g.2.2 (k0))), (1, .int (v_kind)), (2, .int (v_position)), (3, .int (v_number))] := hl
  unfold f_X6_mayStandAt at hF
  refine lv_iload_n hx hb dX6_mayStandAt_0 rfl (lv_at hl 1 rfl) ?_
  refine lv_iload_n hx hb dX6_mayStandAt_1 rfl (lv_at hl 2 rfl) ?_
  obtain ⟨x1, h1, hF⟩ := ob hF
  refine w_callS (As := [.int (v_kind), .int (v_position)]) (rest := []) (st1 := [.int (x1)]) X hH (c_X9_typeAt (l := l) (g := g) (w := w) (v_statement := v_kind) (v_position := v_position) h1) (Or.inr ⟨_, tw_4_137⟩) ms_X9_typeAt tw_2_154 ⟨Nat.le_of_ble_eq_true rfl, Nat.le_of_ble_eq_true rfl⟩ rfl rfl hl.1 (Nat.le_of_ble_eq_true rfl) dX6_mayStandAt_2 ⟨Nat.le_refl _, Nat.le_refl _⟩ rfl (fun H locs hH => ?_)
  by_cases c2 : x1 = (0 : Int32)
  · replace hF := ifp c2 hF
    refine w_tin (tgt := 32) hx hb c2 dX6_mayStandAt_5 (by decide) (by decide) rfl (by decide) ?_
    refine lv_iload_n hx hb dX6_mayStandAt_32 rfl (lv_at hl 3 rfl) ?_
    have J3 : ∀ (H : Heap) (locs : List Loc), HW zC g w s.heap H locs → W p l e (rmd 1) s m args below meth c H locs 0 0 (MQ below (Qw zC g w (some (.int (bI (rz))))) args s 0 0 (zA zC g)) (F0 m 52 ls [.int (bI ((decide (((0 : Int32) ≤ v_number) ∧ (v_number < (w.1 ((zrf zC (k0) 0)) 2))))))]) := by
      intro H locs hH
      obtain rfl := se1 hF
      exact w_zret X hH hr dX6_mayStandAt_52
    refine w_zge_f (tgt := 51) hx hb dX6_mayStandAt_33 (by decide) (fun c4 => ?_) (fun c4 => ?_)
    · refine lv_iconst (v := (0 : Int32)) hx hb dX6_mayStandAt_51 (by decide) ?_
      exact w_b0 (fun z => c4 z.1) (J3 _ _ hH)
    · refine lv_iload_n hx hb dX6_mayStandAt_36 rfl (lv_at hl 3 rfl) ?_
      refine lv_aload_n hx hb dX6_mayStandAt_37 rfl (lv_at hl 0 rfl) ?_
      refine w_getr X hH hk0 fs_6_0 lk_6_14 dX6_mayStandAt_38 ?_
      refine w_geti X hH (rt_C_6_0 hk0) fs_4_2 lk_6_44 dX6_mayStandAt_41 ?_
      refine w_ilt_f (tgt := 51) hx hb dX6_mayStandAt_44 (by decide) (fun c5 => ?_) (fun c5 => ?_)
      · refine lv_iconst (v := (0 : Int32)) hx hb dX6_mayStandAt_51 (by decide) ?_
        exact w_b0 (fun z => c5 z.2) (J3 _ _ hH)
      · refine lv_iconst (v := (1 : Int32)) hx hb dX6_mayStandAt_47 (by decide) ?_
        refine lv_goto (tgt := 52) hx hb dX6_mayStandAt_48 (by decide) ?_
        exact w_b1 ⟨c4, c5⟩ (J3 _ _ hH)
  · replace hF := ifn c2 hF
    by_cases c6 : x1 = (1 : Int32)
    · replace hF := ifp c6 hF
      refine w_tin (tgt := 53) hx hb c6 dX6_mayStandAt_5 (by decide) (by decide) rfl (by decide) ?_
      refine lv_iload_n hx hb dX6_mayStandAt_53 rfl (lv_at hl 3 rfl) ?_
      have J7 : ∀ (H : Heap) (locs : List Loc), HW zC g w s.heap H locs → W p l e (rmd 1) s m args below meth c H locs 0 0 (MQ below (Qw zC g w (some (.int (bI (rz))))) args s 0 0 (zA zC g)) (F0 m 73 ls [.int (bI ((decide (((0 : Int32) ≤ v_number) ∧ (v_number < (w.1 ((zrf zC (k0) 1)) 2))))))]) := by
        intro H locs hH
        obtain rfl := se1 hF
        exact w_zret X hH hr dX6_mayStandAt_73
      refine w_zge_f (tgt := 72) hx hb dX6_mayStandAt_54 (by decide) (fun c8 => ?_) (fun c8 => ?_)
      · refine lv_iconst (v := (0 : Int32)) hx hb dX6_mayStandAt_72 (by decide) ?_
        exact w_b0 (fun z => c8 z.1) (J7 _ _ hH)
      · refine lv_iload_n hx hb dX6_mayStandAt_57 rfl (lv_at hl 3 rfl) ?_
        refine lv_aload_n hx hb dX6_mayStandAt_58 rfl (lv_at hl 0 rfl) ?_
        refine w_getr X hH hk0 fs_6_1 lk_6_20 dX6_mayStandAt_59 ?_
        refine w_geti X hH (rt_C_6_1 hk0) fs_4_2 lk_6_44 dX6_mayStandAt_62 ?_
        refine w_ilt_f (tgt := 72) hx hb dX6_mayStandAt_65 (by decide) (fun c9 => ?_) (fun c9 => ?_)
        · refine lv_iconst (v := (0 : Int32)) hx hb dX6_mayStandAt_72 (by decide) ?_
          exact w_b0 (fun z => c9 z.2) (J7 _ _ hH)
        · refine lv_iconst (v := (1 : Int32)) hx hb dX6_mayStandAt_68 (by decide) ?_
          refine lv_goto (tgt := 73) hx hb dX6_mayStandAt_69 (by decide) ?_
          exact w_b1 ⟨c8, c9⟩ (J7 _ _ hH)
    · replace hF := ifn c6 hF
      by_cases c10 : x1 = (2 : Int32)
      · replace hF := ifp c10 hF
        refine w_tin (tgt := 74) hx hb c10 dX6_mayStandAt_5 (by decide) (by decide) rfl (by decide) ?_
        refine lv_iload_n hx hb dX6_mayStandAt_74 rfl (lv_at hl 3 rfl) ?_
        have J11 : ∀ (H : Heap) (locs : List Loc), HW zC g w s.heap H locs → W p l e (rmd 1) s m args below meth c H locs 0 0 (MQ below (Qw zC g w (some (.int (bI (rz))))) args s 0 0 (zA zC g)) (F0 m 94 ls [.int (bI ((decide (((0 : Int32) ≤ v_number) ∧ (v_number < (w.1 ((zrf zC (k0) 2)) 2))))))]) := by
          intro H locs hH
          obtain rfl := se1 hF
          exact w_zret X hH hr dX6_mayStandAt_94
        refine w_zge_f (tgt := 93) hx hb dX6_mayStandAt_75 (by decide) (fun c12 => ?_) (fun c12 => ?_)
        · refine lv_iconst (v := (0 : Int32)) hx hb dX6_mayStandAt_93 (by decide) ?_
          exact w_b0 (fun z => c12 z.1) (J11 _ _ hH)
        · refine lv_iload_n hx hb dX6_mayStandAt_78 rfl (lv_at hl 3 rfl) ?_
          refine lv_aload_n hx hb dX6_mayStandAt_79 rfl (lv_at hl 0 rfl) ?_
          refine w_getr X hH hk0 fs_6_2 lk_6_23 dX6_mayStandAt_80 ?_
          refine w_geti X hH (rt_C_6_2 hk0) fs_4_2 lk_6_44 dX6_mayStandAt_83 ?_
          refine w_ilt_f (tgt := 93) hx hb dX6_mayStandAt_86 (by decide) (fun c13 => ?_) (fun c13 => ?_)
          · refine lv_iconst (v := (0 : Int32)) hx hb dX6_mayStandAt_93 (by decide) ?_
            exact w_b0 (fun z => c13 z.2) (J11 _ _ hH)
          · refine lv_iconst (v := (1 : Int32)) hx hb dX6_mayStandAt_89 (by decide) ?_
            refine lv_goto (tgt := 94) hx hb dX6_mayStandAt_90 (by decide) ?_
            exact w_b1 ⟨c12, c13⟩ (J11 _ _ hH)
      · replace hF := ifn c10 hF
        refine lv_tableOut (tgt := 95) hx hb dX6_mayStandAt_5 (by have := lv_neT c2 (show (0 : Int32).toInt = 0 by decide); have := lv_neT c6 (show (1 : Int32).toInt = 1 by decide); have := lv_neT c10 (show (2 : Int32).toInt = 2 by decide); omega) (by decide) ?_
        refine lv_iload_n hx hb dX6_mayStandAt_95 rfl (lv_at hl 3 rfl) ?_
        refine lv_bipush (v := (-2 : Int32)) hx hb dX6_mayStandAt_96 (by decide) ?_
        have J14 : ∀ (H : Heap) (locs : List Loc), HW zC g w s.heap H locs → W p l e (rmd 1) s m args below meth c H locs 0 0 (MQ below (Qw zC g w (some (.int (bI (rz))))) args s 0 0 (zA zC g)) (F0 m 106 ls [.int (bI ((decide (v_number = (-2 : Int32)))))]) := by
          intro H locs hH
          obtain rfl := se1 hF
          exact w_zret X hH hr dX6_mayStandAt_106
        refine w_ieq_f (tgt := 105) hx hb dX6_mayStandAt_98 (by decide) (fun c15 => ?_) (fun c15 => ?_)
        · refine lv_iconst (v := (0 : Int32)) hx hb dX6_mayStandAt_105 (by decide) ?_
          exact w_b0 c15 (J14 _ _ hH)
        · refine lv_iconst (v := (1 : Int32)) hx hb dX6_mayStandAt_101 (by decide) ?_
          refine lv_goto (tgt := 106) hx hb dX6_mayStandAt_102 (by decide) ?_
          exact w_b1 c15 (J14 _ _ hH)

theorem dX3_push_0 : decode cX3_push 0 = .ok (.aload_n 0, 1) := by decide +kernel
theorem dX3_push_1 : decode cX3_push 1 = .ok (.getfield 9, 3) := by decide +kernel
theorem dX3_push_4 : decode cX3_push 4 = .ok (.aload_n 0, 1) := by decide +kernel
theorem dX3_push_5 : decode cX3_push 5 = .ok (.getfield 15, 3) := by decide +kernel
theorem dX3_push_8 : decode cX3_push 8 = .ok (.iload_n 1, 1) := by decide +kernel
theorem dX3_push_9 : decode cX3_push 9 = .ok (.iastore, 1) := by decide +kernel
theorem dX3_push_10 : decode cX3_push 10 = .ok (.aload_n 0, 1) := by decide +kernel
theorem dX3_push_11 : decode cX3_push 11 = .ok (.aload_n 0, 1) := by decide +kernel
theorem dX3_push_12 : decode cX3_push 12 = .ok (.getfield 15, 3) := by decide +kernel
theorem dX3_push_15 : decode cX3_push 15 = .ok (.iconst 1, 1) := by decide +kernel
theorem dX3_push_16 : decode cX3_push 16 = .ok (.iadd, 1) := by decide +kernel
theorem dX3_push_17 : decode cX3_push 17 = .ok (.bipush 12, 2) := by decide +kernel
theorem dX3_push_19 : decode cX3_push 19 = .ok (.irem, 1) := by decide +kernel
theorem dX3_push_20 : decode cX3_push 20 = .ok (.putfield 15, 3) := by decide +kernel
theorem dX3_push_23 : decode cX3_push 23 = .ok (.aload_n 0, 1) := by decide +kernel
theorem dX3_push_24 : decode cX3_push 24 = .ok (.aload_n 0, 1) := by decide +kernel
theorem dX3_push_25 : decode cX3_push 25 = .ok (.getfield 19, 3) := by decide +kernel
theorem dX3_push_28 : decode cX3_push 28 = .ok (.iconst 1, 1) := by decide +kernel
theorem dX3_push_29 : decode cX3_push 29 = .ok (.iadd, 1) := by decide +kernel
theorem dX3_push_30 : decode cX3_push 30 = .ok (.bipush 12, 2) := by decide +kernel
theorem dX3_push_32 : decode cX3_push 32 = .ok (.invokestatic 22, 3) := by decide +kernel
theorem dX3_push_35 : decode cX3_push 35 = .ok (.putfield 19, 3) := by decide +kernel
theorem dX3_push_38 : decode cX3_push 38 = .ok (.return_, 1) := by decide +kernel
set_option maxHeartbeats 4000000 in
set_option maxRecDepth 100000 in
theorem c_X3_push {l : Launch} {g : Gh} {w : Wd} {k0 : Nat} {v_change : Int32} {wz : Wd} (hF : f_X3_push w k0 v_change = some wz) (hk0 : zct zC k0 = 3) : Met l yX3_push (Cond.code yX3_push cX3_push 2 none :: TT) (rmd 1) (Pcw zC g w [.ref (g.2.2 k0), .int (v_change)]) (Qw zC g wz none) 0 0 (zA zC g) := by
  refine mt_start (by decide) (Nat.le_of_ble_eq_true rfl) ?_
  intro p e s m args below meth c H locs ls X hr hl hH
  have hx := X.1
  have hb := X.2.1
  have hml := X.2.2.1
  have hown := X.2.2.2.1
  have ht := X.2.2.2.2.1
  have hl : lv_has ls 2 [(0, .ref (g.2.2 (k0))), (1, .int (v_change))] := hl
  unfold f_X3_push at hF
  refine lv_aload_n hx hb dX3_push_0 rfl (lv_at hl 0 rfl) ?_
  refine w_getr X hH hk0 fs_3_0 lk_3_9 dX3_push_1 ?_
  refine lv_aload_n hx hb dX3_push_4 rfl (lv_at hl 0 rfl) ?_
  refine w_geti X hH hk0 fs_3_1 lk_3_15 dX3_push_5 ?_
  refine lv_iload_n hx hb dX3_push_8 rfl (lv_at hl 1 rfl) ?_
  obtain ⟨w1, h1, hF⟩ := ob hF
  refine w_iast X hH h1 (rt_C_3_0 hk0) dX3_push_9 (fun H locs hH => ?_)
  refine lv_aload_n hx hb dX3_push_10 rfl (lv_at hl 0 rfl) ?_
  refine lv_aload_n hx hb dX3_push_11 rfl (lv_at hl 0 rfl) ?_
  refine w_geti X hH hk0 fs_3_1 lk_3_15 dX3_push_12 ?_
  refine lv_iconst (v := (1 : Int32)) hx hb dX3_push_15 (by decide) ?_
  refine lv_iadd hx hb dX3_push_16 ?_
  refine lv_bipush (v := (12 : Int32)) hx hb dX3_push_17 (by decide) ?_
  refine w_irem hx hb dX3_push_19 (by decide) ?_
  obtain ⟨w2, h2, hF⟩ := ob hF
  refine w_puti X hH h2 hk0 fs_3_1 nf_3_1 lk_3_15 dX3_push_20 (fun H locs hH => ?_)
  refine lv_aload_n hx hb dX3_push_23 rfl (lv_at hl 0 rfl) ?_
  refine lv_aload_n hx hb dX3_push_24 rfl (lv_at hl 0 rfl) ?_
  refine w_geti X hH hk0 fs_3_2 lk_3_19 dX3_push_25 ?_
  refine lv_iconst (v := (1 : Int32)) hx hb dX3_push_28 (by decide) ?_
  refine lv_iadd hx hb dX3_push_29 ?_
  refine lv_bipush (v := (12 : Int32)) hx hb dX3_push_30 (by decide) ?_
  refine va_mmin hx hb (hml.trans hl.1.symm) hown (ht _ tw_4_144) (ht _ tw_1_84) (ht _ tw_1_5) (ht _ tw_1_85) (Nat.le_of_ble_eq_true rfl) (Nat.le_of_ble_eq_true rfl) (Nat.le_refl _) (Nat.le_refl _) dX3_push_32 ?_
  obtain ⟨w3, h3, hF⟩ := ob hF
  refine w_puti X hH h3 hk0 fs_3_2 nf_3_2 lk_3_19 dX3_push_35 (fun H locs hH => ?_)
  obtain rfl := se1 hF
  exact w_vret X hH hr dX3_push_38

theorem dX9_addConstraint_0 : decode cX9_addConstraint 0 = .ok (.iload_n 1, 1) := by decide +kernel
theorem dX9_addConstraint_1 : decode cX9_addConstraint 1 = .ok (.ifCond .lt 48, 3) := by decide +kernel
theorem dX9_addConstraint_4 : decode cX9_addConstraint 4 = .ok (.iload_n 1, 1) := by decide +kernel
theorem dX9_addConstraint_5 : decode cX9_addConstraint 5 = .ok (.iconst 4, 1) := by decide +kernel
theorem dX9_addConstraint_6 : decode cX9_addConstraint 6 = .ok (.if_icmp .gt 43, 3) := by decide +kernel
theorem dX9_addConstraint_9 : decode cX9_addConstraint 9 = .ok (.aload_n 0, 1) := by decide +kernel
theorem dX9_addConstraint_10 : decode cX9_addConstraint 10 = .ok (.getfield 19, 3) := by decide +kernel
theorem dX9_addConstraint_13 : decode cX9_addConstraint 13 = .ok (.iload_n 1, 1) := by decide +kernel
theorem dX9_addConstraint_14 : decode cX9_addConstraint 14 = .ok (.iconst 0, 1) := by decide +kernel
theorem dX9_addConstraint_15 : decode cX9_addConstraint 15 = .ok (.iload_n 2, 1) := by decide +kernel
theorem dX9_addConstraint_16 : decode cX9_addConstraint 16 = .ok (.invokevirtual 275, 3) := by decide +kernel
theorem dX9_addConstraint_19 : decode cX9_addConstraint 19 = .ok (.ifCond .eq 30, 3) := by decide +kernel
theorem dX9_addConstraint_22 : decode cX9_addConstraint 22 = .ok (.aload_n 0, 1) := by decide +kernel
theorem dX9_addConstraint_23 : decode cX9_addConstraint 23 = .ok (.getfield 19, 3) := by decide +kernel
theorem dX9_addConstraint_26 : decode cX9_addConstraint 26 = .ok (.iload_n 1, 1) := by decide +kernel
theorem dX9_addConstraint_27 : decode cX9_addConstraint 27 = .ok (.iconst 1, 1) := by decide +kernel
theorem dX9_addConstraint_28 : decode cX9_addConstraint 28 = .ok (.iload_n 3, 1) := by decide +kernel
theorem dX9_addConstraint_29 : decode cX9_addConstraint 29 = .ok (.invokevirtual 275, 3) := by decide +kernel
theorem dX9_addConstraint_32 : decode cX9_addConstraint 32 = .ok (.ifCond .eq 17, 3) := by decide +kernel
theorem dX9_addConstraint_35 : decode cX9_addConstraint 35 = .ok (.aload_n 0, 1) := by decide +kernel
theorem dX9_addConstraint_36 : decode cX9_addConstraint 36 = .ok (.getfield 19, 3) := by decide +kernel
theorem dX9_addConstraint_39 : decode cX9_addConstraint 39 = .ok (.iload_n 1, 1) := by decide +kernel
theorem dX9_addConstraint_40 : decode cX9_addConstraint 40 = .ok (.iconst 2, 1) := by decide +kernel
theorem dX9_addConstraint_41 : decode cX9_addConstraint 41 = .ok (.iload 4, 2) := by decide +kernel
theorem dX9_addConstraint_43 : decode cX9_addConstraint 43 = .ok (.invokevirtual 275, 3) := by decide +kernel
theorem dX9_addConstraint_46 : decode cX9_addConstraint 46 = .ok (.ifCond .ne 5, 3) := by decide +kernel
theorem dX9_addConstraint_49 : decode cX9_addConstraint 49 = .ok (.iconst (-1), 1) := by decide +kernel
theorem dX9_addConstraint_50 : decode cX9_addConstraint 50 = .ok (.ireturn, 1) := by decide +kernel
theorem dX9_addConstraint_51 : decode cX9_addConstraint 51 = .ok (.aload_n 0, 1) := by decide +kernel
theorem dX9_addConstraint_52 : decode cX9_addConstraint 52 = .ok (.getfield 19, 3) := by decide +kernel
theorem dX9_addConstraint_55 : decode cX9_addConstraint 55 = .ok (.getfield 96, 3) := by decide +kernel
theorem dX9_addConstraint_58 : decode cX9_addConstraint 58 = .ok (.invokevirtual 279, 3) := by decide +kernel
theorem dX9_addConstraint_61 : decode cX9_addConstraint 61 = .ok (.ifCond .eq 6, 3) := by decide +kernel
theorem dX9_addConstraint_64 : decode cX9_addConstraint 64 = .ok (.bipush (-2), 2) := by decide +kernel
theorem dX9_addConstraint_66 : decode cX9_addConstraint 66 = .ok (.ireturn, 1) := by decide +kernel
theorem dX9_addConstraint_67 : decode cX9_addConstraint 67 = .ok (.aload_n 0, 1) := by decide +kernel
theorem dX9_addConstraint_68 : decode cX9_addConstraint 68 = .ok (.getfield 19, 3) := by decide +kernel
theorem dX9_addConstraint_71 : decode cX9_addConstraint 71 = .ok (.getfield 96, 3) := by decide +kernel
theorem dX9_addConstraint_74 : decode cX9_addConstraint 74 = .ok (.iload_n 1, 1) := by decide +kernel
theorem dX9_addConstraint_75 : decode cX9_addConstraint 75 = .ok (.iload_n 2, 1) := by decide +kernel
theorem dX9_addConstraint_76 : decode cX9_addConstraint 76 = .ok (.iload_n 3, 1) := by decide +kernel
theorem dX9_addConstraint_77 : decode cX9_addConstraint 77 = .ok (.iload 4, 2) := by decide +kernel
theorem dX9_addConstraint_79 : decode cX9_addConstraint 79 = .ok (.invokevirtual 283, 3) := by decide +kernel
theorem dX9_addConstraint_82 : decode cX9_addConstraint 82 = .ok (.aload_n 0, 1) := by decide +kernel
theorem dX9_addConstraint_83 : decode cX9_addConstraint 83 = .ok (.getfield 29, 3) := by decide +kernel
theorem dX9_addConstraint_86 : decode cX9_addConstraint 86 = .ok (.iconst (-1), 1) := by decide +kernel
theorem dX9_addConstraint_87 : decode cX9_addConstraint 87 = .ok (.invokevirtual 287, 3) := by decide +kernel
theorem dX9_addConstraint_90 : decode cX9_addConstraint 90 = .ok (.aload_n 0, 1) := by decide +kernel
theorem dX9_addConstraint_91 : decode cX9_addConstraint 91 = .ok (.invokevirtual 93, 3) := by decide +kernel
theorem dX9_addConstraint_94 : decode cX9_addConstraint 94 = .ok (.aload_n 0, 1) := by decide +kernel
theorem dX9_addConstraint_95 : decode cX9_addConstraint 95 = .ok (.getfield 19, 3) := by decide +kernel
theorem dX9_addConstraint_98 : decode cX9_addConstraint 98 = .ok (.getfield 96, 3) := by decide +kernel
theorem dX9_addConstraint_101 : decode cX9_addConstraint 101 = .ok (.getfield 100, 3) := by decide +kernel
theorem dX9_addConstraint_104 : decode cX9_addConstraint 104 = .ok (.iconst 1, 1) := by decide +kernel
theorem dX9_addConstraint_105 : decode cX9_addConstraint 105 = .ok (.isub, 1) := by decide +kernel
theorem dX9_addConstraint_106 : decode cX9_addConstraint 106 = .ok (.ireturn, 1) := by decide +kernel
set_option maxHeartbeats 4000000 in
set_option maxRecDepth 100000 in
theorem c_X9_addConstraint {l : Launch} {g : Gh} {w : Wd} {k0 : Nat} {v_kind : Int32} {v_first : Int32} {v_second : Int32} {v_third : Int32} {rz : Int32} {wz : Wd} (hF : f_X9_addConstraint w k0 v_kind v_first v_second v_third = some (rz, wz)) (hk0 : zct zC k0 = 9) : Met l yX9_addConstraint (Cond.code yX9_addConstraint cX9_addConstraint 5 (some .int) :: TT) (rmd 6) (Pcw zC g w [.ref (g.2.2 k0), .int (v_kind), .int (v_first), .int (v_second), .int (v_third)]) (Qw zC g wz (some (.int (rz)))) 0 0 (zA zC g) := by
  refine mt_start (by decide) (Nat.le_of_ble_eq_true rfl) ?_
  intro p e s m args below meth c H locs ls X hr hl hH
  have hx := X.1
  have hb := X.2.1
  have hml := X.2.2.1
  have hown := X.2.2.2.1
  have ht := X.2.2.2.2.1
  have hl : lv_has ls 5 [(0, .ref (g.2.2 (k0))), (1, .int (v_kind)), (2, .int (v_first)), (3, .int (v_second)), (4, .int (v_third))] := hl
  unfold f_X9_addConstraint at hF
  obtain ⟨b1, hb1, hF⟩ := ob hF
  have Jb1T : b1 = true → ∀ (H : Heap) (locs : List Loc), HW zC g w s.heap H locs → W p l e (rmd 6) s m args below meth c H locs 0 0 (MQ below (Qw zC g wz (some (.int (rz)))) args s 0 0 (zA zC g)) (F0 m 49 ls []) := by
    intro hc H locs hH
    replace hF := ifp hc hF
    refine lv_iconst (v := (-1 : Int32)) hx hb dX9_addConstraint_49 (by decide) ?_
    obtain ⟨rfl, rfl⟩ := se2 hF
    exact w_iret X hH hr dX9_addConstraint_50
  have Jb1F : ¬ (b1 = true) → ∀ (H : Heap) (locs : List Loc), HW zC g w s.heap H locs → W p l e (rmd 6) s m args below meth c H locs 0 0 (MQ below (Qw zC g wz (some (.int (rz)))) args s 0 0 (zA zC g)) (F0 m 51 ls []) := by
    intro hc H locs hH
    replace hF := ifn hc hF
    refine lv_aload_n hx hb dX9_addConstraint_51 rfl (lv_at hl 0 rfl) ?_
    obtain ⟨x13, h13, hF⟩ := ob hF
    refine w_getd X hH h13 hk0 fs_9_1 lk_9_19 dX9_addConstraint_52 (fun q13 => ?_)
    refine w_getr X hH q13 fs_6_6 lk_9_96 dX9_addConstraint_55 ?_
    refine w_callV (As := []) (k := (zrf zC (x13) 6)) (rest := []) (st1 := [.int (bI ((f_X0_isFull w ((zrf zC (x13) 6)))))]) X hH (c_X0_isFull (l := l) (g := g) (w := w) (k0 := (zrf zC (x13) 6)) rfl (rt_C_6_6 q13)) (Or.inr ⟨_, tw_4_138⟩) ms_X0_isFull im_X0_isFull (rt_C_6_6 q13) cn_0 ⟨Nat.le_of_ble_eq_true rfl, Nat.le_of_ble_eq_true rfl⟩ rfl rfl hl.1 (Nat.le_of_ble_eq_true rfl) dX9_addConstraint_58 ⟨Nat.le_refl _, Nat.le_refl _⟩ rfl (fun H locs hH => ?_)
    refine w_b_f (tgt := 67) hx hb dX9_addConstraint_61 (by decide) (fun c14 => ?_) (fun c14 => ?_)
    · replace hF := ifn c14 hF
      refine lv_aload_n hx hb dX9_addConstraint_67 rfl (lv_at hl 0 rfl) ?_
      obtain ⟨x15, h15, hF⟩ := ob hF
      refine w_getd X hH h15 hk0 fs_9_1 lk_9_19 dX9_addConstraint_68 (fun q15 => ?_)
      refine w_getr X hH q15 fs_6_6 lk_9_96 dX9_addConstraint_71 ?_
      refine lv_iload_n hx hb dX9_addConstraint_74 rfl (lv_at hl 1 rfl) ?_
      refine lv_iload_n hx hb dX9_addConstraint_75 rfl (lv_at hl 2 rfl) ?_
      refine lv_iload_n hx hb dX9_addConstraint_76 rfl (lv_at hl 3 rfl) ?_
      refine lv_iload hx hb dX9_addConstraint_77 (lv_at hl 4 rfl) ?_
      obtain ⟨w16, h16, hF⟩ := ob hF
      refine w_callV (As := [.int (v_kind), .int (v_first), .int (v_second), .int (v_third)]) (k := (zrf zC (x15) 6)) (rest := []) (st1 := []) X hH (c_X0_add (l := l) (g := g) (w := w) (k0 := (zrf zC (x15) 6)) (v_kind := v_kind) (v_first := v_first) (v_second := v_second) (v_third := v_third) h16 (rt_C_6_6 q15)) (Or.inr ⟨_, tw_4_139⟩) ms_X0_add im_X0_add (rt_C_6_6 q15) cn_0 ⟨Nat.le_of_ble_eq_true rfl, Nat.le_of_ble_eq_true rfl⟩ rfl rfl hl.1 (Nat.le_of_ble_eq_true rfl) dX9_addConstraint_79 ⟨Nat.le_refl _, Nat.le_refl _⟩ rfl (fun H locs hH => ?_)
      refine lv_aload_n hx hb dX9_addConstraint_82 rfl (lv_at hl 0 rfl) ?_
      refine w_getr X hH hk0 fs_9_3 lk_9_29 dX9_addConstraint_83 ?_
      refine lv_iconst (v := (-1 : Int32)) hx hb dX9_addConstraint_86 (by decide) ?_
      obtain ⟨w17, h17, hF⟩ := ob hF
      refine w_callV (As := [.int ((-1 : Int32))]) (k := (zrf zC (k0) 3)) (rest := []) (st1 := []) X hH (c_X3_push (l := l) (g := g) (w := w16) (k0 := (zrf zC (k0) 3)) (v_change := (-1 : Int32)) h17 (rt_C_9_3 hk0)) (Or.inr ⟨_, tw_4_140⟩) ms_X3_push im_X3_push (rt_C_9_3 hk0) cn_3 ⟨Nat.le_of_ble_eq_true rfl, Nat.le_of_ble_eq_true rfl⟩ rfl rfl hl.1 (Nat.le_of_ble_eq_true rfl) dX9_addConstraint_87 ⟨Nat.le_refl _, Nat.le_refl _⟩ rfl (fun H locs hH => ?_)
      refine lv_aload_n hx hb dX9_addConstraint_90 rfl (lv_at hl 0 rfl) ?_
      obtain ⟨w18, h18, hF⟩ := ob hF
      refine w_callV (As := []) (k := k0) (rest := []) (st1 := []) X hH (c_X9_settle (l := l) (g := g) (w := w17) (k0 := k0) h18 hk0) (Or.inl tw_2_193) ms_X9_settle im_X9_settle hk0 cn_9 ⟨Nat.le_of_ble_eq_true rfl, Nat.le_of_ble_eq_true rfl⟩ rfl rfl hl.1 (Nat.le_of_ble_eq_true rfl) dX9_addConstraint_91 ⟨Nat.le_refl _, Nat.le_refl _⟩ rfl (fun H locs hH => ?_)
      refine lv_aload_n hx hb dX9_addConstraint_94 rfl (lv_at hl 0 rfl) ?_
      obtain ⟨x19, h19, hF⟩ := ob hF
      refine w_getd X hH h19 hk0 fs_9_1 lk_9_19 dX9_addConstraint_95 (fun q19 => ?_)
      refine w_getr X hH q19 fs_6_6 lk_9_96 dX9_addConstraint_98 ?_
      refine w_geti X hH (rt_C_6_6 q19) fs_0_4 lk_9_100 dX9_addConstraint_101 ?_
      refine lv_iconst (v := (1 : Int32)) hx hb dX9_addConstraint_104 (by decide) ?_
      refine lv_isub hx hb dX9_addConstraint_105 ?_
      obtain ⟨rfl, rfl⟩ := se2 hF
      exact w_iret X hH hr dX9_addConstraint_106
    · replace hF := ifp c14 hF
      refine lv_bipush (v := (-2 : Int32)) hx hb dX9_addConstraint_64 (by decide) ?_
      obtain ⟨rfl, rfl⟩ := se2 hF
      exact w_iret X hH hr dX9_addConstraint_66
  have hF := hb1
  refine lv_iload_n hx hb dX9_addConstraint_0 rfl (lv_at hl 1 rfl) ?_
  refine w_zlt_t (tgt := 49) hx hb dX9_addConstraint_1 (by decide) (fun c2 => ?_) (fun c2 => ?_)
  · replace hF := ifp c2 hF
    obtain rfl := se1 hF
    exact Jb1T rfl _ _ hH
  · replace hF := ifn c2 hF
    refine lv_iload_n hx hb dX9_addConstraint_4 rfl (lv_at hl 1 rfl) ?_
    refine lv_iconst (v := (4 : Int32)) hx hb dX9_addConstraint_5 (by decide) ?_
    refine w_igt_t (tgt := 49) hx hb dX9_addConstraint_6 (by decide) (fun c3 => ?_) (fun c3 => ?_)
    · replace hF := ifp c3 hF
      obtain rfl := se1 hF
      exact Jb1T rfl _ _ hH
    · replace hF := ifn c3 hF
      refine lv_aload_n hx hb dX9_addConstraint_9 rfl (lv_at hl 0 rfl) ?_
      obtain ⟨x5, h5, hF⟩ := ob hF
      refine w_getd X hH h5 hk0 fs_9_1 lk_9_19 dX9_addConstraint_10 (fun q5 => ?_)
      refine lv_iload_n hx hb dX9_addConstraint_13 rfl (lv_at hl 1 rfl) ?_
      refine lv_iconst (v := (0 : Int32)) hx hb dX9_addConstraint_14 (by decide) ?_
      refine lv_iload_n hx hb dX9_addConstraint_15 rfl (lv_at hl 2 rfl) ?_
      obtain ⟨x6, h6, hF⟩ := ob hF
      refine w_callV (As := [.int (v_kind), .int ((0 : Int32)), .int (v_first)]) (k := x5) (rest := []) (st1 := [.int (bI (x6))]) X hH (c_X6_mayStandAt (l := l) (g := g) (w := w) (k0 := x5) (v_kind := v_kind) (v_position := (0 : Int32)) (v_number := v_first) h6 q5) (Or.inr ⟨_, tw_4_133⟩) ms_X6_mayStandAt im_X6_mayStandAt q5 cn_6 ⟨Nat.le_of_ble_eq_true rfl, Nat.le_of_ble_eq_true rfl⟩ rfl rfl hl.1 (Nat.le_of_ble_eq_true rfl) dX9_addConstraint_16 ⟨Nat.le_refl _, Nat.le_refl _⟩ rfl (fun H locs hH => ?_)
      refine w_b_f (tgt := 49) hx hb dX9_addConstraint_19 (by decide) (fun c4 => ?_) (fun c4 => ?_)
      · replace hF := ifn c4 hF
        obtain rfl := se1 hF
        exact Jb1T rfl _ _ hH
      · replace hF := ifp c4 hF
        refine lv_aload_n hx hb dX9_addConstraint_22 rfl (lv_at hl 0 rfl) ?_
        obtain ⟨x8, h8, hF⟩ := ob hF
        refine w_getd X hH h8 hk0 fs_9_1 lk_9_19 dX9_addConstraint_23 (fun q8 => ?_)
        refine lv_iload_n hx hb dX9_addConstraint_26 rfl (lv_at hl 1 rfl) ?_
        refine lv_iconst (v := (1 : Int32)) hx hb dX9_addConstraint_27 (by decide) ?_
        refine lv_iload_n hx hb dX9_addConstraint_28 rfl (lv_at hl 3 rfl) ?_
        obtain ⟨x9, h9, hF⟩ := ob hF
        refine w_callV (As := [.int (v_kind), .int ((1 : Int32)), .int (v_second)]) (k := x8) (rest := []) (st1 := [.int (bI (x9))]) X hH (c_X6_mayStandAt (l := l) (g := g) (w := w) (k0 := x8) (v_kind := v_kind) (v_position := (1 : Int32)) (v_number := v_second) h9 q8) (Or.inr ⟨_, tw_4_133⟩) ms_X6_mayStandAt im_X6_mayStandAt q8 cn_6 ⟨Nat.le_of_ble_eq_true rfl, Nat.le_of_ble_eq_true rfl⟩ rfl rfl hl.1 (Nat.le_of_ble_eq_true rfl) dX9_addConstraint_29 ⟨Nat.le_refl _, Nat.le_refl _⟩ rfl (fun H locs hH => ?_)
        refine w_b_f (tgt := 49) hx hb dX9_addConstraint_32 (by decide) (fun c7 => ?_) (fun c7 => ?_)
        · replace hF := ifn c7 hF
          obtain rfl := se1 hF
          exact Jb1T rfl _ _ hH
        · replace hF := ifp c7 hF
          refine lv_aload_n hx hb dX9_addConstraint_35 rfl (lv_at hl 0 rfl) ?_
          obtain ⟨x11, h11, hF⟩ := ob hF
          refine w_getd X hH h11 hk0 fs_9_1 lk_9_19 dX9_addConstraint_36 (fun q11 => ?_)
          refine lv_iload_n hx hb dX9_addConstraint_39 rfl (lv_at hl 1 rfl) ?_
          refine lv_iconst (v := (2 : Int32)) hx hb dX9_addConstraint_40 (by decide) ?_
          refine lv_iload hx hb dX9_addConstraint_41 (lv_at hl 4 rfl) ?_
          obtain ⟨x12, h12, hF⟩ := ob hF
          refine w_callV (As := [.int (v_kind), .int ((2 : Int32)), .int (v_third)]) (k := x11) (rest := []) (st1 := [.int (bI (x12))]) X hH (c_X6_mayStandAt (l := l) (g := g) (w := w) (k0 := x11) (v_kind := v_kind) (v_position := (2 : Int32)) (v_number := v_third) h12 q11) (Or.inr ⟨_, tw_4_133⟩) ms_X6_mayStandAt im_X6_mayStandAt q11 cn_6 ⟨Nat.le_of_ble_eq_true rfl, Nat.le_of_ble_eq_true rfl⟩ rfl rfl hl.1 (Nat.le_of_ble_eq_true rfl) dX9_addConstraint_43 ⟨Nat.le_refl _, Nat.le_refl _⟩ rfl (fun H locs hH => ?_)
          refine w_b_t (tgt := 51) hx hb dX9_addConstraint_46 (by decide) (fun c10 => ?_) (fun c10 => ?_)
          · replace hF := ifp c10 hF
            obtain rfl := se1 hF
            exact Jb1F Bool.false_ne_true _ _ hH
          · replace hF := ifn c10 hF
            obtain rfl := se1 hF
            exact Jb1T rfl _ _ hH

theorem dX0_toggle_0 : decode cX0_toggle 0 = .ok (.aload_n 0, 1) := by decide +kernel
theorem dX0_toggle_1 : decode cX0_toggle 1 = .ok (.dup, 1) := by decide +kernel
theorem dX0_toggle_2 : decode cX0_toggle 2 = .ok (.getfield 28, 3) := by decide +kernel
theorem dX0_toggle_5 : decode cX0_toggle 5 = .ok (.iconst 1, 1) := by decide +kernel
theorem dX0_toggle_6 : decode cX0_toggle 6 = .ok (.iload_n 1, 1) := by decide +kernel
theorem dX0_toggle_7 : decode cX0_toggle 7 = .ok (.ishl, 1) := by decide +kernel
theorem dX0_toggle_8 : decode cX0_toggle 8 = .ok (.ixor, 1) := by decide +kernel
theorem dX0_toggle_9 : decode cX0_toggle 9 = .ok (.putfield 28, 3) := by decide +kernel
theorem dX0_toggle_12 : decode cX0_toggle 12 = .ok (.return_, 1) := by decide +kernel
set_option maxHeartbeats 4000000 in
set_option maxRecDepth 100000 in
theorem c_X0_toggle {l : Launch} {g : Gh} {w : Wd} {k0 : Nat} {v_constraint : Int32} {wz : Wd} (hF : f_X0_toggle w k0 v_constraint = some wz) (hk0 : zct zC k0 = 0) : Met l yX0_toggle (Cond.code yX0_toggle cX0_toggle 2 none :: TT) (rmd 0) (Pcw zC g w [.ref (g.2.2 k0), .int (v_constraint)]) (Qw zC g wz none) 0 0 (zA zC g) := by
  refine mt_start (by decide) (Nat.le_of_ble_eq_true rfl) ?_
  intro p e s m args below meth c H locs ls X hr hl hH
  have hx := X.1
  have hb := X.2.1
  have hml := X.2.2.1
  have hown := X.2.2.2.1
  have ht := X.2.2.2.2.1
  have hl : lv_has ls 2 [(0, .ref (g.2.2 (k0))), (1, .int (v_constraint))] := hl
  unfold f_X0_toggle at hF
  refine lv_aload_n hx hb dX0_toggle_0 rfl (lv_at hl 0 rfl) ?_
  refine lv_dup hx hb dX0_toggle_1 rfl ?_
  refine w_geti X hH hk0 fs_0_5 lk_0_28 dX0_toggle_2 ?_
  refine lv_iconst (v := (1 : Int32)) hx hb dX0_toggle_5 (by decide) ?_
  refine lv_iload_n hx hb dX0_toggle_6 rfl (lv_at hl 1 rfl) ?_
  refine w_ishl hx hb dX0_toggle_7 ?_
  refine lv_ixor hx hb dX0_toggle_8 ?_
  obtain ⟨w1, h1, hF⟩ := ob hF
  refine w_puti X hH h1 hk0 fs_0_5 nf_0_5 lk_0_28 dX0_toggle_9 (fun H locs hH => ?_)
  obtain rfl := se1 hF
  exact w_vret X hH hr dX0_toggle_12

theorem dX9_setEnabled_0 : decode cX9_setEnabled 0 = .ok (.aload_n 0, 1) := by decide +kernel
theorem dX9_setEnabled_1 : decode cX9_setEnabled 1 = .ok (.iload_n 1, 1) := by decide +kernel
theorem dX9_setEnabled_2 : decode cX9_setEnabled 2 = .ok (.invokevirtual 122, 3) := by decide +kernel
theorem dX9_setEnabled_5 : decode cX9_setEnabled 5 = .ok (.ifCond .eq 18, 3) := by decide +kernel
theorem dX9_setEnabled_8 : decode cX9_setEnabled 8 = .ok (.aload_n 0, 1) := by decide +kernel
theorem dX9_setEnabled_9 : decode cX9_setEnabled 9 = .ok (.getfield 19, 3) := by decide +kernel
theorem dX9_setEnabled_12 : decode cX9_setEnabled 12 = .ok (.getfield 96, 3) := by decide +kernel
theorem dX9_setEnabled_15 : decode cX9_setEnabled 15 = .ok (.iload_n 1, 1) := by decide +kernel
theorem dX9_setEnabled_16 : decode cX9_setEnabled 16 = .ok (.invokevirtual 181, 3) := by decide +kernel
theorem dX9_setEnabled_19 : decode cX9_setEnabled 19 = .ok (.iload_n 2, 1) := by decide +kernel
theorem dX9_setEnabled_20 : decode cX9_setEnabled 20 = .ok (.if_icmp .ne 5, 3) := by decide +kernel
theorem dX9_setEnabled_23 : decode cX9_setEnabled 23 = .ok (.iconst 0, 1) := by decide +kernel
theorem dX9_setEnabled_24 : decode cX9_setEnabled 24 = .ok (.ireturn, 1) := by decide +kernel
theorem dX9_setEnabled_25 : decode cX9_setEnabled 25 = .ok (.aload_n 0, 1) := by decide +kernel
theorem dX9_setEnabled_26 : decode cX9_setEnabled 26 = .ok (.getfield 19, 3) := by decide +kernel
theorem dX9_setEnabled_29 : decode cX9_setEnabled 29 = .ok (.getfield 96, 3) := by decide +kernel
theorem dX9_setEnabled_32 : decode cX9_setEnabled 32 = .ok (.iload_n 1, 1) := by decide +kernel
theorem dX9_setEnabled_33 : decode cX9_setEnabled 33 = .ok (.invokevirtual 290, 3) := by decide +kernel
theorem dX9_setEnabled_36 : decode cX9_setEnabled 36 = .ok (.aload_n 0, 1) := by decide +kernel
theorem dX9_setEnabled_37 : decode cX9_setEnabled 37 = .ok (.getfield 29, 3) := by decide +kernel
theorem dX9_setEnabled_40 : decode cX9_setEnabled 40 = .ok (.iload_n 1, 1) := by decide +kernel
theorem dX9_setEnabled_41 : decode cX9_setEnabled 41 = .ok (.invokevirtual 287, 3) := by decide +kernel
theorem dX9_setEnabled_44 : decode cX9_setEnabled 44 = .ok (.aload_n 0, 1) := by decide +kernel
theorem dX9_setEnabled_45 : decode cX9_setEnabled 45 = .ok (.invokevirtual 93, 3) := by decide +kernel
theorem dX9_setEnabled_48 : decode cX9_setEnabled 48 = .ok (.iconst 1, 1) := by decide +kernel
theorem dX9_setEnabled_49 : decode cX9_setEnabled 49 = .ok (.ireturn, 1) := by decide +kernel
set_option maxHeartbeats 4000000 in
set_option maxRecDepth 100000 in
theorem c_X9_setEnabled {l : Launch} {g : Gh} {w : Wd} {k0 : Nat} {v_constraint : Int32} {v_enabled : Bool} {rz : Bool} {wz : Wd} (hF : f_X9_setEnabled w k0 v_constraint v_enabled = some (rz, wz)) (hk0 : zct zC k0 = 9) : Met l yX9_setEnabled (Cond.code yX9_setEnabled cX9_setEnabled 3 (some .boolean) :: TT) (rmd 6) (Pcw zC g w [.ref (g.2.2 k0), .int (v_constraint), .int (bI (v_enabled))]) (Qw zC g wz (some (.int (bI (rz))))) 0 0 (zA zC g) := by
  refine mt_start (by decide) (Nat.le_of_ble_eq_true rfl) ?_
  intro p e s m args below meth c H locs ls X hr hl hH
  have hx := X.1
  have hb := X.2.1
  have hml := X.2.2.1
  have hown := X.2.2.2.1
  have ht := X.2.2.2.2.1
  have hl : lv_has ls 3 [(0, .ref (g.2.2 (k0))), (1, .int (v_constraint)), (2, .int (bI (v_enabled)))] := hl
  unfold f_X9_setEnabled at hF
  obtain ⟨b1, hb1, hF⟩ := ob hF
  have Jb1T : b1 = true → ∀ (H : Heap) (locs : List Loc), HW zC g w s.heap H locs → W p l e (rmd 6) s m args below meth c H locs 0 0 (MQ below (Qw zC g wz (some (.int (bI (rz))))) args s 0 0 (zA zC g)) (F0 m 23 ls []) := by
    intro hc H locs hH
    replace hF := ifp hc hF
    refine lv_iconst (v := bI false) hx hb dX9_setEnabled_23 (by decide) ?_
    obtain ⟨rfl, rfl⟩ := se2 hF
    exact w_zret X hH hr dX9_setEnabled_24
  have Jb1F : ¬ (b1 = true) → ∀ (H : Heap) (locs : List Loc), HW zC g w s.heap H locs → W p l e (rmd 6) s m args below meth c H locs 0 0 (MQ below (Qw zC g wz (some (.int (bI (rz))))) args s 0 0 (zA zC g)) (F0 m 25 ls []) := by
    intro hc H locs hH
    replace hF := ifn hc hF
    refine lv_aload_n hx hb dX9_setEnabled_25 rfl (lv_at hl 0 rfl) ?_
    obtain ⟨x6, h6, hF⟩ := ob hF
    refine w_getd X hH h6 hk0 fs_9_1 lk_9_19 dX9_setEnabled_26 (fun q6 => ?_)
    refine w_getr X hH q6 fs_6_6 lk_9_96 dX9_setEnabled_29 ?_
    refine lv_iload_n hx hb dX9_setEnabled_32 rfl (lv_at hl 1 rfl) ?_
    obtain ⟨w7, h7, hF⟩ := ob hF
    refine w_callV (As := [.int (v_constraint)]) (k := (zrf zC (x6) 6)) (rest := []) (st1 := []) X hH (c_X0_toggle (l := l) (g := g) (w := w) (k0 := (zrf zC (x6) 6)) (v_constraint := v_constraint) h7 (rt_C_6_6 q6)) (Or.inr ⟨_, tw_4_149⟩) ms_X0_toggle im_X0_toggle (rt_C_6_6 q6) cn_0 ⟨Nat.le_of_ble_eq_true rfl, Nat.le_of_ble_eq_true rfl⟩ rfl rfl hl.1 (Nat.le_of_ble_eq_true rfl) dX9_setEnabled_33 ⟨Nat.le_refl _, Nat.le_refl _⟩ rfl (fun H locs hH => ?_)
    refine lv_aload_n hx hb dX9_setEnabled_36 rfl (lv_at hl 0 rfl) ?_
    refine w_getr X hH hk0 fs_9_3 lk_9_29 dX9_setEnabled_37 ?_
    refine lv_iload_n hx hb dX9_setEnabled_40 rfl (lv_at hl 1 rfl) ?_
    obtain ⟨w8, h8, hF⟩ := ob hF
    refine w_callV (As := [.int (v_constraint)]) (k := (zrf zC (k0) 3)) (rest := []) (st1 := []) X hH (c_X3_push (l := l) (g := g) (w := w7) (k0 := (zrf zC (k0) 3)) (v_change := v_constraint) h8 (rt_C_9_3 hk0)) (Or.inr ⟨_, tw_4_140⟩) ms_X3_push im_X3_push (rt_C_9_3 hk0) cn_3 ⟨Nat.le_of_ble_eq_true rfl, Nat.le_of_ble_eq_true rfl⟩ rfl rfl hl.1 (Nat.le_of_ble_eq_true rfl) dX9_setEnabled_41 ⟨Nat.le_refl _, Nat.le_refl _⟩ rfl (fun H locs hH => ?_)
    refine lv_aload_n hx hb dX9_setEnabled_44 rfl (lv_at hl 0 rfl) ?_
    obtain ⟨w9, h9, hF⟩ := ob hF
    refine w_callV (As := []) (k := k0) (rest := []) (st1 := []) X hH (c_X9_settle (l := l) (g := g) (w := w8) (k0 := k0) h9 hk0) (Or.inl tw_2_193) ms_X9_settle im_X9_settle hk0 cn_9 ⟨Nat.le_of_ble_eq_true rfl, Nat.le_of_ble_eq_true rfl⟩ rfl rfl hl.1 (Nat.le_of_ble_eq_true rfl) dX9_setEnabled_45 ⟨Nat.le_refl _, Nat.le_refl _⟩ rfl (fun H locs hH => ?_)
    refine lv_iconst (v := bI true) hx hb dX9_setEnabled_48 (by decide) ?_
    obtain ⟨rfl, rfl⟩ := se2 hF
    exact w_zret X hH hr dX9_setEnabled_49
  have hF := hb1
  refine lv_aload_n hx hb dX9_setEnabled_0 rfl (lv_at hl 0 rfl) ?_
  refine lv_iload_n hx hb dX9_setEnabled_1 rfl (lv_at hl 1 rfl) ?_
  obtain ⟨x3, h3, hF⟩ := ob hF
  refine w_callV (As := [.int (v_constraint)]) (k := k0) (rest := []) (st1 := [.int (bI (x3))]) X hH (c_X9_isConstraint (l := l) (g := g) (w := w) (k0 := k0) (v_constraint := v_constraint) h3 hk0) (Or.inl tw_4_49) ms_X9_isConstraint im_X9_isConstraint hk0 cn_9 ⟨Nat.le_of_ble_eq_true rfl, Nat.le_of_ble_eq_true rfl⟩ rfl rfl hl.1 (Nat.le_of_ble_eq_true rfl) dX9_setEnabled_2 ⟨Nat.le_refl _, Nat.le_refl _⟩ rfl (fun H locs hH => ?_)
  refine w_b_f (tgt := 23) hx hb dX9_setEnabled_5 (by decide) (fun c2 => ?_) (fun c2 => ?_)
  · replace hF := ifn c2 hF
    obtain rfl := se1 hF
    exact Jb1T rfl _ _ hH
  · replace hF := ifp c2 hF
    refine lv_aload_n hx hb dX9_setEnabled_8 rfl (lv_at hl 0 rfl) ?_
    obtain ⟨x5, h5, hF⟩ := ob hF
    refine w_getd X hH h5 hk0 fs_9_1 lk_9_19 dX9_setEnabled_9 (fun q5 => ?_)
    refine w_getr X hH q5 fs_6_6 lk_9_96 dX9_setEnabled_12 ?_
    refine lv_iload_n hx hb dX9_setEnabled_15 rfl (lv_at hl 1 rfl) ?_
    refine w_callV (As := [.int (v_constraint)]) (k := (zrf zC (x5) 6)) (rest := []) (st1 := [.int (bI ((f_X0_isEnabled w ((zrf zC (x5) 6)) (v_constraint))))]) X hH (c_X0_isEnabled (l := l) (g := g) (w := w) (k0 := (zrf zC (x5) 6)) (v_constraint := v_constraint) rfl (rt_C_6_6 q5)) (Or.inr ⟨_, tw_3_112⟩) ms_X0_isEnabled im_X0_isEnabled (rt_C_6_6 q5) cn_0 ⟨Nat.le_of_ble_eq_true rfl, Nat.le_of_ble_eq_true rfl⟩ rfl rfl hl.1 (Nat.le_of_ble_eq_true rfl) dX9_setEnabled_16 ⟨Nat.le_refl _, Nat.le_refl _⟩ rfl (fun H locs hH => ?_)
    refine lv_iload_n hx hb dX9_setEnabled_19 rfl (lv_at hl 2 rfl) ?_
    refine w_bb_f (tgt := 25) hx hb dX9_setEnabled_20 (by decide) (fun c4 => ?_) (fun c4 => ?_)
    · replace hF := ifn c4 hF
      obtain rfl := se1 hF
      exact Jb1F Bool.false_ne_true _ _ hH
    · replace hF := ifp c4 hF
      obtain rfl := se1 hF
      exact Jb1T rfl _ _ hH

theorem dX3_pop_0 : decode cX3_pop 0 = .ok (.aload_n 0, 1) := by decide +kernel
theorem dX3_pop_1 : decode cX3_pop 1 = .ok (.aload_n 0, 1) := by decide +kernel
theorem dX3_pop_2 : decode cX3_pop 2 = .ok (.getfield 15, 3) := by decide +kernel
theorem dX3_pop_5 : decode cX3_pop 5 = .ok (.bipush 12, 2) := by decide +kernel
theorem dX3_pop_7 : decode cX3_pop 7 = .ok (.iadd, 1) := by decide +kernel
theorem dX3_pop_8 : decode cX3_pop 8 = .ok (.iconst 1, 1) := by decide +kernel
theorem dX3_pop_9 : decode cX3_pop 9 = .ok (.isub, 1) := by decide +kernel
theorem dX3_pop_10 : decode cX3_pop 10 = .ok (.bipush 12, 2) := by decide +kernel
theorem dX3_pop_12 : decode cX3_pop 12 = .ok (.irem, 1) := by decide +kernel
theorem dX3_pop_13 : decode cX3_pop 13 = .ok (.putfield 15, 3) := by decide +kernel
theorem dX3_pop_16 : decode cX3_pop 16 = .ok (.aload_n 0, 1) := by decide +kernel
theorem dX3_pop_17 : decode cX3_pop 17 = .ok (.dup, 1) := by decide +kernel
theorem dX3_pop_18 : decode cX3_pop 18 = .ok (.getfield 19, 3) := by decide +kernel
theorem dX3_pop_21 : decode cX3_pop 21 = .ok (.iconst 1, 1) := by decide +kernel
theorem dX3_pop_22 : decode cX3_pop 22 = .ok (.isub, 1) := by decide +kernel
theorem dX3_pop_23 : decode cX3_pop 23 = .ok (.putfield 19, 3) := by decide +kernel
theorem dX3_pop_26 : decode cX3_pop 26 = .ok (.aload_n 0, 1) := by decide +kernel
theorem dX3_pop_27 : decode cX3_pop 27 = .ok (.getfield 9, 3) := by decide +kernel
theorem dX3_pop_30 : decode cX3_pop 30 = .ok (.aload_n 0, 1) := by decide +kernel
theorem dX3_pop_31 : decode cX3_pop 31 = .ok (.getfield 15, 3) := by decide +kernel
theorem dX3_pop_34 : decode cX3_pop 34 = .ok (.iaload, 1) := by decide +kernel
theorem dX3_pop_35 : decode cX3_pop 35 = .ok (.ireturn, 1) := by decide +kernel
set_option maxHeartbeats 4000000 in
set_option maxRecDepth 100000 in
theorem c_X3_pop {l : Launch} {g : Gh} {w : Wd} {k0 : Nat} {rz : Int32} {wz : Wd} (hF : f_X3_pop w k0 = some (rz, wz)) (hk0 : zct zC k0 = 3) : Met l yX3_pop (Cond.code yX3_pop cX3_pop 1 (some .int) :: TT) (rmd 0) (Pcw zC g w [.ref (g.2.2 k0)]) (Qw zC g wz (some (.int (rz)))) 0 0 (zA zC g) := by
  refine mt_start (by decide) (Nat.le_of_ble_eq_true rfl) ?_
  intro p e s m args below meth c H locs ls X hr hl hH
  have hx := X.1
  have hb := X.2.1
  have hml := X.2.2.1
  have hown := X.2.2.2.1
  have ht := X.2.2.2.2.1
  have hl : lv_has ls 1 [(0, .ref (g.2.2 (k0)))] := hl
  unfold f_X3_pop at hF
  refine lv_aload_n hx hb dX3_pop_0 rfl (lv_at hl 0 rfl) ?_
  refine lv_aload_n hx hb dX3_pop_1 rfl (lv_at hl 0 rfl) ?_
  refine w_geti X hH hk0 fs_3_1 lk_3_15 dX3_pop_2 ?_
  refine lv_bipush (v := (12 : Int32)) hx hb dX3_pop_5 (by decide) ?_
  refine lv_iadd hx hb dX3_pop_7 ?_
  refine lv_iconst (v := (1 : Int32)) hx hb dX3_pop_8 (by decide) ?_
  refine lv_isub hx hb dX3_pop_9 ?_
  refine lv_bipush (v := (12 : Int32)) hx hb dX3_pop_10 (by decide) ?_
  refine w_irem hx hb dX3_pop_12 (by decide) ?_
  obtain ⟨w1, h1, hF⟩ := ob hF
  refine w_puti X hH h1 hk0 fs_3_1 nf_3_1 lk_3_15 dX3_pop_13 (fun H locs hH => ?_)
  refine lv_aload_n hx hb dX3_pop_16 rfl (lv_at hl 0 rfl) ?_
  refine lv_dup hx hb dX3_pop_17 rfl ?_
  refine w_geti X hH hk0 fs_3_2 lk_3_19 dX3_pop_18 ?_
  refine lv_iconst (v := (1 : Int32)) hx hb dX3_pop_21 (by decide) ?_
  refine lv_isub hx hb dX3_pop_22 ?_
  obtain ⟨w2, h2, hF⟩ := ob hF
  refine w_puti X hH h2 hk0 fs_3_2 nf_3_2 lk_3_19 dX3_pop_23 (fun H locs hH => ?_)
  refine lv_aload_n hx hb dX3_pop_26 rfl (lv_at hl 0 rfl) ?_
  refine w_getr X hH hk0 fs_3_0 lk_3_9 dX3_pop_27 ?_
  refine lv_aload_n hx hb dX3_pop_30 rfl (lv_at hl 0 rfl) ?_
  refine w_geti X hH hk0 fs_3_1 lk_3_15 dX3_pop_31 ?_
  obtain ⟨x3, h3, hF⟩ := ob hF
  refine w_iald X hH h3 (rt_C_3_0 hk0) dX3_pop_34 ?_
  obtain ⟨rfl, rfl⟩ := se2 hF
  exact w_iret X hH hr dX3_pop_35

theorem dX0_removeLast_0 : decode cX0_removeLast 0 = .ok (.aload_n 0, 1) := by decide +kernel
theorem dX0_removeLast_1 : decode cX0_removeLast 1 = .ok (.getfield 24, 3) := by decide +kernel
theorem dX0_removeLast_4 : decode cX0_removeLast 4 = .ok (.ifCond .le 30, 3) := by decide +kernel
theorem dX0_removeLast_7 : decode cX0_removeLast 7 = .ok (.aload_n 0, 1) := by decide +kernel
theorem dX0_removeLast_8 : decode cX0_removeLast 8 = .ok (.dup, 1) := by decide +kernel
theorem dX0_removeLast_9 : decode cX0_removeLast 9 = .ok (.getfield 24, 3) := by decide +kernel
theorem dX0_removeLast_12 : decode cX0_removeLast 12 = .ok (.iconst 1, 1) := by decide +kernel
theorem dX0_removeLast_13 : decode cX0_removeLast 13 = .ok (.isub, 1) := by decide +kernel
theorem dX0_removeLast_14 : decode cX0_removeLast 14 = .ok (.putfield 24, 3) := by decide +kernel
theorem dX0_removeLast_17 : decode cX0_removeLast 17 = .ok (.aload_n 0, 1) := by decide +kernel
theorem dX0_removeLast_18 : decode cX0_removeLast 18 = .ok (.dup, 1) := by decide +kernel
theorem dX0_removeLast_19 : decode cX0_removeLast 19 = .ok (.getfield 28, 3) := by decide +kernel
theorem dX0_removeLast_22 : decode cX0_removeLast 22 = .ok (.iconst 1, 1) := by decide +kernel
theorem dX0_removeLast_23 : decode cX0_removeLast 23 = .ok (.aload_n 0, 1) := by decide +kernel
theorem dX0_removeLast_24 : decode cX0_removeLast 24 = .ok (.getfield 24, 3) := by decide +kernel
theorem dX0_removeLast_27 : decode cX0_removeLast 27 = .ok (.ishl, 1) := by decide +kernel
theorem dX0_removeLast_28 : decode cX0_removeLast 28 = .ok (.iconst (-1), 1) := by decide +kernel
theorem dX0_removeLast_29 : decode cX0_removeLast 29 = .ok (.ixor, 1) := by decide +kernel
theorem dX0_removeLast_30 : decode cX0_removeLast 30 = .ok (.iand, 1) := by decide +kernel
theorem dX0_removeLast_31 : decode cX0_removeLast 31 = .ok (.putfield 28, 3) := by decide +kernel
theorem dX0_removeLast_34 : decode cX0_removeLast 34 = .ok (.return_, 1) := by decide +kernel
set_option maxHeartbeats 4000000 in
set_option maxRecDepth 100000 in
theorem c_X0_removeLast {l : Launch} {g : Gh} {w : Wd} {k0 : Nat} {wz : Wd} (hF : f_X0_removeLast w k0 = some wz) (hk0 : zct zC k0 = 0) : Met l yX0_removeLast (Cond.code yX0_removeLast cX0_removeLast 1 none :: TT) (rmd 0) (Pcw zC g w [.ref (g.2.2 k0)]) (Qw zC g wz none) 0 0 (zA zC g) := by
  refine mt_start (by decide) (Nat.le_of_ble_eq_true rfl) ?_
  intro p e s m args below meth c H locs ls X hr hl hH
  have hx := X.1
  have hb := X.2.1
  have hml := X.2.2.1
  have hown := X.2.2.2.1
  have ht := X.2.2.2.2.1
  have hl : lv_has ls 1 [(0, .ref (g.2.2 (k0)))] := hl
  unfold f_X0_removeLast at hF
  obtain ⟨s1, hs1, hF⟩ := ob hF
  have Js1 : ∀ (H : Heap) (locs : List Loc) (ls : Array Slot), HW zC g s1 s.heap H locs → lv_has ls 1 [(0, .ref (g.2.2 (k0)))] → W p l e (rmd 0) s m args below meth c H locs 0 0 (MQ below (Qw zC g wz none) args s 0 0 (zA zC g)) (F0 m 34 ls []) := by
    intro H locs ls hH hl
    obtain rfl := se1 hF
    exact w_vret X hH hr dX0_removeLast_34
  have hF := hs1
  refine lv_aload_n hx hb dX0_removeLast_0 rfl (lv_at hl 0 rfl) ?_
  refine w_geti X hH hk0 fs_0_4 lk_0_24 dX0_removeLast_1 ?_
  refine w_zgt_f (tgt := 34) hx hb dX0_removeLast_4 (by decide) (fun c2 => ?_) (fun c2 => ?_)
  · replace hF := ifn c2 hF
    obtain rfl := se1 hF
    exact Js1 _ _ _ hH (lv_sub hl [0] rfl)
  · replace hF := ifp c2 hF
    refine lv_aload_n hx hb dX0_removeLast_7 rfl (lv_at hl 0 rfl) ?_
    refine lv_dup hx hb dX0_removeLast_8 rfl ?_
    refine w_geti X hH hk0 fs_0_4 lk_0_24 dX0_removeLast_9 ?_
    refine lv_iconst (v := (1 : Int32)) hx hb dX0_removeLast_12 (by decide) ?_
    refine lv_isub hx hb dX0_removeLast_13 ?_
    obtain ⟨w3, h3, hF⟩ := ob hF
    refine w_puti X hH h3 hk0 fs_0_4 nf_0_4 lk_0_24 dX0_removeLast_14 (fun H locs hH => ?_)
    refine lv_aload_n hx hb dX0_removeLast_17 rfl (lv_at hl 0 rfl) ?_
    refine lv_dup hx hb dX0_removeLast_18 rfl ?_
    refine w_geti X hH hk0 fs_0_5 lk_0_28 dX0_removeLast_19 ?_
    refine lv_iconst (v := (1 : Int32)) hx hb dX0_removeLast_22 (by decide) ?_
    refine lv_aload_n hx hb dX0_removeLast_23 rfl (lv_at hl 0 rfl) ?_
    refine w_geti X hH hk0 fs_0_4 lk_0_24 dX0_removeLast_24 ?_
    refine w_ishl hx hb dX0_removeLast_27 ?_
    refine lv_iconst (v := (-1 : Int32)) hx hb dX0_removeLast_28 (by decide) ?_
    refine lv_ixor hx hb dX0_removeLast_29 ?_
    refine lv_iand hx hb dX0_removeLast_30 ?_
    obtain ⟨w4, h4, hF⟩ := ob hF
    refine w_puti X hH h4 hk0 fs_0_5 nf_0_5 lk_0_28 dX0_removeLast_31 (fun H locs hH => ?_)
    obtain rfl := se1 hF
    exact Js1 _ _ _ hH (lv_sub hl [0] rfl)

theorem dX9_undo_0 : decode cX9_undo 0 = .ok (.aload_n 0, 1) := by decide +kernel
theorem dX9_undo_1 : decode cX9_undo 1 = .ok (.getfield 29, 3) := by decide +kernel
theorem dX9_undo_4 : decode cX9_undo 4 = .ok (.getfield 293, 3) := by decide +kernel
theorem dX9_undo_7 : decode cX9_undo 7 = .ok (.ifCond .ne 6, 3) := by decide +kernel
theorem dX9_undo_10 : decode cX9_undo 10 = .ok (.bipush (-2), 2) := by decide +kernel
theorem dX9_undo_12 : decode cX9_undo 12 = .ok (.ireturn, 1) := by decide +kernel
theorem dX9_undo_13 : decode cX9_undo 13 = .ok (.aload_n 0, 1) := by decide +kernel
theorem dX9_undo_14 : decode cX9_undo 14 = .ok (.getfield 29, 3) := by decide +kernel
theorem dX9_undo_17 : decode cX9_undo 17 = .ok (.invokevirtual 296, 3) := by decide +kernel
theorem dX9_undo_20 : decode cX9_undo 20 = .ok (.istore_n 1, 1) := by decide +kernel
theorem dX9_undo_21 : decode cX9_undo 21 = .ok (.iload_n 1, 1) := by decide +kernel
theorem dX9_undo_22 : decode cX9_undo 22 = .ok (.iconst (-1), 1) := by decide +kernel
theorem dX9_undo_23 : decode cX9_undo 23 = .ok (.if_icmp .ne 16, 3) := by decide +kernel
theorem dX9_undo_26 : decode cX9_undo 26 = .ok (.aload_n 0, 1) := by decide +kernel
theorem dX9_undo_27 : decode cX9_undo 27 = .ok (.getfield 19, 3) := by decide +kernel
theorem dX9_undo_30 : decode cX9_undo 30 = .ok (.getfield 96, 3) := by decide +kernel
theorem dX9_undo_33 : decode cX9_undo 33 = .ok (.invokevirtual 299, 3) := by decide +kernel
theorem dX9_undo_36 : decode cX9_undo 36 = .ok (.goto 14, 3) := by decide +kernel
theorem dX9_undo_39 : decode cX9_undo 39 = .ok (.aload_n 0, 1) := by decide +kernel
theorem dX9_undo_40 : decode cX9_undo 40 = .ok (.getfield 19, 3) := by decide +kernel
theorem dX9_undo_43 : decode cX9_undo 43 = .ok (.getfield 96, 3) := by decide +kernel
theorem dX9_undo_46 : decode cX9_undo 46 = .ok (.iload_n 1, 1) := by decide +kernel
theorem dX9_undo_47 : decode cX9_undo 47 = .ok (.invokevirtual 290, 3) := by decide +kernel
theorem dX9_undo_50 : decode cX9_undo 50 = .ok (.aload_n 0, 1) := by decide +kernel
theorem dX9_undo_51 : decode cX9_undo 51 = .ok (.invokevirtual 93, 3) := by decide +kernel
theorem dX9_undo_54 : decode cX9_undo 54 = .ok (.aload_n 0, 1) := by decide +kernel
theorem dX9_undo_55 : decode cX9_undo 55 = .ok (.getfield 29, 3) := by decide +kernel
theorem dX9_undo_58 : decode cX9_undo 58 = .ok (.getfield 293, 3) := by decide +kernel
theorem dX9_undo_61 : decode cX9_undo 61 = .ok (.ireturn, 1) := by decide +kernel
set_option maxHeartbeats 4000000 in
set_option maxRecDepth 100000 in
theorem c_X9_undo {l : Launch} {g : Gh} {w : Wd} {k0 : Nat} {rz : Int32} {wz : Wd} (hF : f_X9_undo w k0 = some (rz, wz)) (hk0 : zct zC k0 = 9) : Met l yX9_undo (Cond.code yX9_undo cX9_undo 2 (some .int) :: TT) (rmd 6) (Pcw zC g w [.ref (g.2.2 k0)]) (Qw zC g wz (some (.int (rz)))) 0 0 (zA zC g) := by
  refine mt_start (by decide) (Nat.le_of_ble_eq_true rfl) ?_
  intro p e s m args below meth c H locs ls X hr hl hH
  have hx := X.1
  have hb := X.2.1
  have hml := X.2.2.1
  have hown := X.2.2.2.1
  have ht := X.2.2.2.2.1
  have hl : lv_has ls 2 [(0, .ref (g.2.2 (k0)))] := hl
  unfold f_X9_undo at hF
  refine lv_aload_n hx hb dX9_undo_0 rfl (lv_at hl 0 rfl) ?_
  refine w_getr X hH hk0 fs_9_3 lk_9_29 dX9_undo_1 ?_
  refine w_geti X hH (rt_C_9_3 hk0) fs_3_2 lk_9_293 dX9_undo_4 ?_
  refine w_zeq_f (tgt := 13) hx hb dX9_undo_7 (by decide) (fun c1 => ?_) (fun c1 => ?_)
  · replace hF := ifn c1 hF
    refine lv_aload_n hx hb dX9_undo_13 rfl (lv_at hl 0 rfl) ?_
    refine w_getr X hH hk0 fs_9_3 lk_9_29 dX9_undo_14 ?_
    obtain ⟨x2, h2, hF⟩ := ob hF
    refine w_callV (As := []) (k := (zrf zC (k0) 3)) (rest := []) (st1 := [.int (x2.1)]) X hH (c_X3_pop (l := l) (g := g) (w := w) (k0 := (zrf zC (k0) 3)) h2 (rt_C_9_3 hk0)) (Or.inr ⟨_, tw_4_157⟩) ms_X3_pop im_X3_pop (rt_C_9_3 hk0) cn_3 ⟨Nat.le_of_ble_eq_true rfl, Nat.le_of_ble_eq_true rfl⟩ rfl rfl hl.1 (Nat.le_of_ble_eq_true rfl) dX9_undo_17 ⟨Nat.le_refl _, Nat.le_refl _⟩ rfl (fun H locs hH => ?_)
    refine lv_istore_n (lv' := [(1, .int (x2.1)), (0, .ref (g.2.2 (k0)))]) hx hb dX9_undo_20 rfl hl (by decide) rfl (fun ls hl => ?_)
    obtain ⟨s3, hs3, hF⟩ := ob hF
    have Js3 : ∀ (H : Heap) (locs : List Loc) (ls : Array Slot), HW zC g s3 s.heap H locs → lv_has ls 2 [(0, .ref (g.2.2 (k0))), (1, .int (x2.1))] → W p l e (rmd 6) s m args below meth c H locs 0 0 (MQ below (Qw zC g wz (some (.int (rz)))) args s 0 0 (zA zC g)) (F0 m 50 ls []) := by
      intro H locs ls hH hl
      refine lv_aload_n hx hb dX9_undo_50 rfl (lv_at hl 0 rfl) ?_
      obtain ⟨w9, h9, hF⟩ := ob hF
      refine w_callV (As := []) (k := k0) (rest := []) (st1 := []) X hH (c_X9_settle (l := l) (g := g) (w := s3) (k0 := k0) h9 hk0) (Or.inl tw_2_193) ms_X9_settle im_X9_settle hk0 cn_9 ⟨Nat.le_of_ble_eq_true rfl, Nat.le_of_ble_eq_true rfl⟩ rfl rfl hl.1 (Nat.le_of_ble_eq_true rfl) dX9_undo_51 ⟨Nat.le_refl _, Nat.le_refl _⟩ rfl (fun H locs hH => ?_)
      refine lv_aload_n hx hb dX9_undo_54 rfl (lv_at hl 0 rfl) ?_
      refine w_getr X hH hk0 fs_9_3 lk_9_29 dX9_undo_55 ?_
      refine w_geti X hH (rt_C_9_3 hk0) fs_3_2 lk_9_293 dX9_undo_58 ?_
      obtain ⟨rfl, rfl⟩ := se2 hF
      exact w_iret X hH hr dX9_undo_61
    have hF := hs3
    refine lv_iload_n hx hb dX9_undo_21 rfl (lv_at hl 0 rfl) ?_
    refine lv_iconst (v := (-1 : Int32)) hx hb dX9_undo_22 (by decide) ?_
    refine w_ieq_f (tgt := 39) hx hb dX9_undo_23 (by decide) (fun c4 => ?_) (fun c4 => ?_)
    · replace hF := ifn c4 hF
      refine lv_aload_n hx hb dX9_undo_39 rfl (lv_at hl 1 rfl) ?_
      obtain ⟨x5, h5, hF⟩ := ob hF
      refine w_getd X hH h5 hk0 fs_9_1 lk_9_19 dX9_undo_40 (fun q5 => ?_)
      refine w_getr X hH q5 fs_6_6 lk_9_96 dX9_undo_43 ?_
      refine lv_iload_n hx hb dX9_undo_46 rfl (lv_at hl 0 rfl) ?_
      obtain ⟨w6, h6, hF⟩ := ob hF
      refine w_callV (As := [.int (x2.1)]) (k := (zrf zC (x5) 6)) (rest := []) (st1 := []) X hH (c_X0_toggle (l := l) (g := g) (w := x2.2) (k0 := (zrf zC (x5) 6)) (v_constraint := x2.1) h6 (rt_C_6_6 q5)) (Or.inr ⟨_, tw_4_149⟩) ms_X0_toggle im_X0_toggle (rt_C_6_6 q5) cn_0 ⟨Nat.le_of_ble_eq_true rfl, Nat.le_of_ble_eq_true rfl⟩ rfl rfl hl.1 (Nat.le_of_ble_eq_true rfl) dX9_undo_47 ⟨Nat.le_refl _, Nat.le_refl _⟩ rfl (fun H locs hH => ?_)
      obtain rfl := se1 hF
      exact Js3 _ _ _ hH (lv_sub hl [1, 0] rfl)
    · replace hF := ifp c4 hF
      refine lv_aload_n hx hb dX9_undo_26 rfl (lv_at hl 1 rfl) ?_
      obtain ⟨x7, h7, hF⟩ := ob hF
      refine w_getd X hH h7 hk0 fs_9_1 lk_9_19 dX9_undo_27 (fun q7 => ?_)
      refine w_getr X hH q7 fs_6_6 lk_9_96 dX9_undo_30 ?_
      obtain ⟨w8, h8, hF⟩ := ob hF
      refine w_callV (As := []) (k := (zrf zC (x7) 6)) (rest := []) (st1 := []) X hH (c_X0_removeLast (l := l) (g := g) (w := x2.2) (k0 := (zrf zC (x7) 6)) h8 (rt_C_6_6 q7)) (Or.inr ⟨_, tw_4_161⟩) ms_X0_removeLast im_X0_removeLast (rt_C_6_6 q7) cn_0 ⟨Nat.le_of_ble_eq_true rfl, Nat.le_of_ble_eq_true rfl⟩ rfl rfl hl.1 (Nat.le_of_ble_eq_true rfl) dX9_undo_33 ⟨Nat.le_refl _, Nat.le_refl _⟩ rfl (fun H locs hH => ?_)
      refine lv_goto (tgt := 50) hx hb dX9_undo_36 (by decide) ?_
      obtain rfl := se1 hF
      exact Js3 _ _ _ hH (lv_sub hl [1, 0] rfl)
  · replace hF := ifp c1 hF
    refine lv_bipush (v := (-2 : Int32)) hx hb dX9_undo_10 (by decide) ?_
    obtain ⟨rfl, rfl⟩ := se2 hF
    exact w_iret X hH hr dX9_undo_12

theorem dX9_undoDepth_0 : decode cX9_undoDepth 0 = .ok (.aload_n 0, 1) := by decide +kernel
theorem dX9_undoDepth_1 : decode cX9_undoDepth 1 = .ok (.getfield 29, 3) := by decide +kernel
theorem dX9_undoDepth_4 : decode cX9_undoDepth 4 = .ok (.getfield 293, 3) := by decide +kernel
theorem dX9_undoDepth_7 : decode cX9_undoDepth 7 = .ok (.ireturn, 1) := by decide +kernel
set_option maxHeartbeats 4000000 in
set_option maxRecDepth 100000 in
theorem c_X9_undoDepth {l : Launch} {g : Gh} {w : Wd} {k0 : Nat} {rz : Int32} (hF : f_X9_undoDepth w k0 = rz) (hk0 : zct zC k0 = 9) : Met l yX9_undoDepth (Cond.code yX9_undoDepth cX9_undoDepth 1 (some .int) :: TT) (rmd 0) (Pcw zC g w [.ref (g.2.2 k0)]) (Qw zC g w (some (.int (rz)))) 0 0 (zA zC g) := by
  refine mt_start (by decide) (Nat.le_of_ble_eq_true rfl) ?_
  intro p e s m args below meth c H locs ls X hr hl hH
  have hx := X.1
  have hb := X.2.1
  have hml := X.2.2.1
  have hown := X.2.2.2.1
  have ht := X.2.2.2.2.1
  have hl : lv_has ls 1 [(0, .ref (g.2.2 (k0)))] := hl
  unfold f_X9_undoDepth at hF
  refine lv_aload_n hx hb dX9_undoDepth_0 rfl (lv_at hl 0 rfl) ?_
  refine w_getr X hH hk0 fs_9_3 lk_9_29 dX9_undoDepth_1 ?_
  refine w_geti X hH (rt_C_9_3 hk0) fs_3_2 lk_9_293 dX9_undoDepth_4 ?_
  subst hF
  exact w_iret X hH hr dX9_undoDepth_7

theorem dX0_copyFrom_0 : decode cX0_copyFrom 0 = .ok (.aload_n 1, 1) := by decide +kernel
theorem dX0_copyFrom_1 : decode cX0_copyFrom 1 = .ok (.getfield 9, 3) := by decide +kernel
theorem dX0_copyFrom_4 : decode cX0_copyFrom 4 = .ok (.iconst 0, 1) := by decide +kernel
theorem dX0_copyFrom_5 : decode cX0_copyFrom 5 = .ok (.aload_n 0, 1) := by decide +kernel
theorem dX0_copyFrom_6 : decode cX0_copyFrom 6 = .ok (.getfield 9, 3) := by decide +kernel
theorem dX0_copyFrom_9 : decode cX0_copyFrom 9 = .ok (.iconst 0, 1) := by decide +kernel
theorem dX0_copyFrom_10 : decode cX0_copyFrom 10 = .ok (.bipush 30, 2) := by decide +kernel
theorem dX0_copyFrom_12 : decode cX0_copyFrom 12 = .ok (.invokestatic 39, 3) := by decide +kernel
theorem dX0_copyFrom_15 : decode cX0_copyFrom 15 = .ok (.aload_n 1, 1) := by decide +kernel
theorem dX0_copyFrom_16 : decode cX0_copyFrom 16 = .ok (.getfield 15, 3) := by decide +kernel
theorem dX0_copyFrom_19 : decode cX0_copyFrom 19 = .ok (.iconst 0, 1) := by decide +kernel
theorem dX0_copyFrom_20 : decode cX0_copyFrom 20 = .ok (.aload_n 0, 1) := by decide +kernel
theorem dX0_copyFrom_21 : decode cX0_copyFrom 21 = .ok (.getfield 15, 3) := by decide +kernel
theorem dX0_copyFrom_24 : decode cX0_copyFrom 24 = .ok (.iconst 0, 1) := by decide +kernel
theorem dX0_copyFrom_25 : decode cX0_copyFrom 25 = .ok (.bipush 30, 2) := by decide +kernel
theorem dX0_copyFrom_27 : decode cX0_copyFrom 27 = .ok (.invokestatic 39, 3) := by decide +kernel
theorem dX0_copyFrom_30 : decode cX0_copyFrom 30 = .ok (.aload_n 1, 1) := by decide +kernel
theorem dX0_copyFrom_31 : decode cX0_copyFrom 31 = .ok (.getfield 18, 3) := by decide +kernel
theorem dX0_copyFrom_34 : decode cX0_copyFrom 34 = .ok (.iconst 0, 1) := by decide +kernel
theorem dX0_copyFrom_35 : decode cX0_copyFrom 35 = .ok (.aload_n 0, 1) := by decide +kernel
theorem dX0_copyFrom_36 : decode cX0_copyFrom 36 = .ok (.getfield 18, 3) := by decide +kernel
theorem dX0_copyFrom_39 : decode cX0_copyFrom 39 = .ok (.iconst 0, 1) := by decide +kernel
theorem dX0_copyFrom_40 : decode cX0_copyFrom 40 = .ok (.bipush 30, 2) := by decide +kernel
theorem dX0_copyFrom_42 : decode cX0_copyFrom 42 = .ok (.invokestatic 39, 3) := by decide +kernel
theorem dX0_copyFrom_45 : decode cX0_copyFrom 45 = .ok (.aload_n 1, 1) := by decide +kernel
theorem dX0_copyFrom_46 : decode cX0_copyFrom 46 = .ok (.getfield 21, 3) := by decide +kernel
theorem dX0_copyFrom_49 : decode cX0_copyFrom 49 = .ok (.iconst 0, 1) := by decide +kernel
theorem dX0_copyFrom_50 : decode cX0_copyFrom 50 = .ok (.aload_n 0, 1) := by decide +kernel
theorem dX0_copyFrom_51 : decode cX0_copyFrom 51 = .ok (.getfield 21, 3) := by decide +kernel
theorem dX0_copyFrom_54 : decode cX0_copyFrom 54 = .ok (.iconst 0, 1) := by decide +kernel
theorem dX0_copyFrom_55 : decode cX0_copyFrom 55 = .ok (.bipush 30, 2) := by decide +kernel
theorem dX0_copyFrom_57 : decode cX0_copyFrom 57 = .ok (.invokestatic 39, 3) := by decide +kernel
theorem dX0_copyFrom_60 : decode cX0_copyFrom 60 = .ok (.aload_n 0, 1) := by decide +kernel
theorem dX0_copyFrom_61 : decode cX0_copyFrom 61 = .ok (.aload_n 1, 1) := by decide +kernel
theorem dX0_copyFrom_62 : decode cX0_copyFrom 62 = .ok (.getfield 24, 3) := by decide +kernel
theorem dX0_copyFrom_65 : decode cX0_copyFrom 65 = .ok (.putfield 24, 3) := by decide +kernel
theorem dX0_copyFrom_68 : decode cX0_copyFrom 68 = .ok (.aload_n 0, 1) := by decide +kernel
theorem dX0_copyFrom_69 : decode cX0_copyFrom 69 = .ok (.aload_n 1, 1) := by decide +kernel
theorem dX0_copyFrom_70 : decode cX0_copyFrom 70 = .ok (.getfield 28, 3) := by decide +kernel
theorem dX0_copyFrom_73 : decode cX0_copyFrom 73 = .ok (.putfield 28, 3) := by decide +kernel
theorem dX0_copyFrom_76 : decode cX0_copyFrom 76 = .ok (.return_, 1) := by decide +kernel
set_option maxHeartbeats 4000000 in
set_option maxRecDepth 100000 in
theorem c_X0_copyFrom {l : Launch} {g : Gh} {w : Wd} {k0 : Nat} {v_other : Nat} {wz : Wd} (hF : f_X0_copyFrom w k0 v_other = some wz) (hk0 : zct zC k0 = 0) (hv_other : zct zC v_other = 0) : Met l yX0_copyFrom (Cond.code yX0_copyFrom cX0_copyFrom 2 none :: TT) (rmd 1) (Pcw zC g w [.ref (g.2.2 k0), .ref (g.2.2 (v_other))]) (Qw zC g wz none) 0 0 (zA zC g) := by
  refine mt_start (by decide) (Nat.le_of_ble_eq_true rfl) ?_
  intro p e s m args below meth c H locs ls X hr hl hH
  have hx := X.1
  have hb := X.2.1
  have hml := X.2.2.1
  have hown := X.2.2.2.1
  have ht := X.2.2.2.2.1
  have hl : lv_has ls 2 [(0, .ref (g.2.2 (k0))), (1, .ref (g.2.2 (v_other)))] := hl
  unfold f_X0_copyFrom at hF
  refine lv_aload_n hx hb dX0_copyFrom_0 rfl (lv_at hl 1 rfl) ?_
  refine w_getr X hH hv_other fs_0_0 lk_0_9 dX0_copyFrom_1 ?_
  refine lv_iconst (v := (0 : Int32)) hx hb dX0_copyFrom_4 (by decide) ?_
  refine lv_aload_n hx hb dX0_copyFrom_5 rfl (lv_at hl 0 rfl) ?_
  refine w_getr X hH hk0 fs_0_0 lk_0_9 dX0_copyFrom_6 ?_
  refine lv_iconst (v := (0 : Int32)) hx hb dX0_copyFrom_9 (by decide) ?_
  refine lv_bipush (v := (30 : Int32)) hx hb dX0_copyFrom_10 (by decide) ?_
  obtain ⟨w1, h1, hF⟩ := ob hF
  refine w_copy X hH h1 (rt_C_0_0 hv_other) (rt_C_0_0 hk0) tw_4_177 tw_2_206 tw_2_205 tw_1_14 hl.1 (Nat.le_of_ble_eq_true rfl) (Nat.le_of_ble_eq_true rfl) dX0_copyFrom_12 (fun H locs hH => ?_)
  refine lv_aload_n hx hb dX0_copyFrom_15 rfl (lv_at hl 1 rfl) ?_
  refine w_getr X hH hv_other fs_0_1 lk_0_15 dX0_copyFrom_16 ?_
  refine lv_iconst (v := (0 : Int32)) hx hb dX0_copyFrom_19 (by decide) ?_
  refine lv_aload_n hx hb dX0_copyFrom_20 rfl (lv_at hl 0 rfl) ?_
  refine w_getr X hH hk0 fs_0_1 lk_0_15 dX0_copyFrom_21 ?_
  refine lv_iconst (v := (0 : Int32)) hx hb dX0_copyFrom_24 (by decide) ?_
  refine lv_bipush (v := (30 : Int32)) hx hb dX0_copyFrom_25 (by decide) ?_
  obtain ⟨w2, h2, hF⟩ := ob hF
  refine w_copy X hH h2 (rt_C_0_1 hv_other) (rt_C_0_1 hk0) tw_4_177 tw_2_206 tw_2_205 tw_1_14 hl.1 (Nat.le_of_ble_eq_true rfl) (Nat.le_of_ble_eq_true rfl) dX0_copyFrom_27 (fun H locs hH => ?_)
  refine lv_aload_n hx hb dX0_copyFrom_30 rfl (lv_at hl 1 rfl) ?_
  refine w_getr X hH hv_other fs_0_2 lk_0_18 dX0_copyFrom_31 ?_
  refine lv_iconst (v := (0 : Int32)) hx hb dX0_copyFrom_34 (by decide) ?_
  refine lv_aload_n hx hb dX0_copyFrom_35 rfl (lv_at hl 0 rfl) ?_
  refine w_getr X hH hk0 fs_0_2 lk_0_18 dX0_copyFrom_36 ?_
  refine lv_iconst (v := (0 : Int32)) hx hb dX0_copyFrom_39 (by decide) ?_
  refine lv_bipush (v := (30 : Int32)) hx hb dX0_copyFrom_40 (by decide) ?_
  obtain ⟨w3, h3, hF⟩ := ob hF
  refine w_copy X hH h3 (rt_C_0_2 hv_other) (rt_C_0_2 hk0) tw_4_177 tw_2_206 tw_2_205 tw_1_14 hl.1 (Nat.le_of_ble_eq_true rfl) (Nat.le_of_ble_eq_true rfl) dX0_copyFrom_42 (fun H locs hH => ?_)
  refine lv_aload_n hx hb dX0_copyFrom_45 rfl (lv_at hl 1 rfl) ?_
  refine w_getr X hH hv_other fs_0_3 lk_0_21 dX0_copyFrom_46 ?_
  refine lv_iconst (v := (0 : Int32)) hx hb dX0_copyFrom_49 (by decide) ?_
  refine lv_aload_n hx hb dX0_copyFrom_50 rfl (lv_at hl 0 rfl) ?_
  refine w_getr X hH hk0 fs_0_3 lk_0_21 dX0_copyFrom_51 ?_
  refine lv_iconst (v := (0 : Int32)) hx hb dX0_copyFrom_54 (by decide) ?_
  refine lv_bipush (v := (30 : Int32)) hx hb dX0_copyFrom_55 (by decide) ?_
  obtain ⟨w4, h4, hF⟩ := ob hF
  refine w_copy X hH h4 (rt_C_0_3 hv_other) (rt_C_0_3 hk0) tw_4_177 tw_2_206 tw_2_205 tw_1_14 hl.1 (Nat.le_of_ble_eq_true rfl) (Nat.le_of_ble_eq_true rfl) dX0_copyFrom_57 (fun H locs hH => ?_)
  refine lv_aload_n hx hb dX0_copyFrom_60 rfl (lv_at hl 0 rfl) ?_
  refine lv_aload_n hx hb dX0_copyFrom_61 rfl (lv_at hl 1 rfl) ?_
  refine w_geti X hH hv_other fs_0_4 lk_0_24 dX0_copyFrom_62 ?_
  obtain ⟨w5, h5, hF⟩ := ob hF
  refine w_puti X hH h5 hk0 fs_0_4 nf_0_4 lk_0_24 dX0_copyFrom_65 (fun H locs hH => ?_)
  refine lv_aload_n hx hb dX0_copyFrom_68 rfl (lv_at hl 0 rfl) ?_
  refine lv_aload_n hx hb dX0_copyFrom_69 rfl (lv_at hl 1 rfl) ?_
  refine w_geti X hH hv_other fs_0_5 lk_0_28 dX0_copyFrom_70 ?_
  obtain ⟨w6, h6, hF⟩ := ob hF
  refine w_puti X hH h6 hk0 fs_0_5 nf_0_5 lk_0_28 dX0_copyFrom_73 (fun H locs hH => ?_)
  obtain rfl := se1 hF
  exact w_vret X hH hr dX0_copyFrom_76

theorem dX9_saveSnapshot_0 : decode cX9_saveSnapshot 0 = .ok (.iload_n 1, 1) := by decide +kernel
theorem dX9_saveSnapshot_1 : decode cX9_saveSnapshot 1 = .ok (.ifCond .lt 8, 3) := by decide +kernel
theorem dX9_saveSnapshot_4 : decode cX9_saveSnapshot 4 = .ok (.iload_n 1, 1) := by decide +kernel
theorem dX9_saveSnapshot_5 : decode cX9_saveSnapshot 5 = .ok (.iconst 2, 1) := by decide +kernel
theorem dX9_saveSnapshot_6 : decode cX9_saveSnapshot 6 = .ok (.if_icmp .lt 5, 3) := by decide +kernel
theorem dX9_saveSnapshot_9 : decode cX9_saveSnapshot 9 = .ok (.iconst 0, 1) := by decide +kernel
theorem dX9_saveSnapshot_10 : decode cX9_saveSnapshot 10 = .ok (.ireturn, 1) := by decide +kernel
theorem dX9_saveSnapshot_11 : decode cX9_saveSnapshot 11 = .ok (.aload_n 0, 1) := by decide +kernel
theorem dX9_saveSnapshot_12 : decode cX9_saveSnapshot 12 = .ok (.getfield 36, 3) := by decide +kernel
theorem dX9_saveSnapshot_15 : decode cX9_saveSnapshot 15 = .ok (.iload_n 1, 1) := by decide +kernel
theorem dX9_saveSnapshot_16 : decode cX9_saveSnapshot 16 = .ok (.aaload, 1) := by decide +kernel
theorem dX9_saveSnapshot_17 : decode cX9_saveSnapshot 17 = .ok (.aload_n 0, 1) := by decide +kernel
theorem dX9_saveSnapshot_18 : decode cX9_saveSnapshot 18 = .ok (.getfield 19, 3) := by decide +kernel
theorem dX9_saveSnapshot_21 : decode cX9_saveSnapshot 21 = .ok (.getfield 96, 3) := by decide +kernel
theorem dX9_saveSnapshot_24 : decode cX9_saveSnapshot 24 = .ok (.invokevirtual 302, 3) := by decide +kernel
theorem dX9_saveSnapshot_27 : decode cX9_saveSnapshot 27 = .ok (.aload_n 0, 1) := by decide +kernel
theorem dX9_saveSnapshot_28 : decode cX9_saveSnapshot 28 = .ok (.dup, 1) := by decide +kernel
theorem dX9_saveSnapshot_29 : decode cX9_saveSnapshot 29 = .ok (.getfield 40, 3) := by decide +kernel
theorem dX9_saveSnapshot_32 : decode cX9_saveSnapshot 32 = .ok (.iconst 1, 1) := by decide +kernel
theorem dX9_saveSnapshot_33 : decode cX9_saveSnapshot 33 = .ok (.iload_n 1, 1) := by decide +kernel
theorem dX9_saveSnapshot_34 : decode cX9_saveSnapshot 34 = .ok (.ishl, 1) := by decide +kernel
theorem dX9_saveSnapshot_35 : decode cX9_saveSnapshot 35 = .ok (.ior, 1) := by decide +kernel
theorem dX9_saveSnapshot_36 : decode cX9_saveSnapshot 36 = .ok (.putfield 40, 3) := by decide +kernel
theorem dX9_saveSnapshot_39 : decode cX9_saveSnapshot 39 = .ok (.iconst 1, 1) := by decide +kernel
theorem dX9_saveSnapshot_40 : decode cX9_saveSnapshot 40 = .ok (.ireturn, 1) := by decide +kernel
set_option maxHeartbeats 4000000 in
set_option maxRecDepth 100000 in
theorem c_X9_saveSnapshot {l : Launch} {g : Gh} {w : Wd} {k0 : Nat} {v_slot : Int32} {rz : Bool} {wz : Wd} (hF : f_X9_saveSnapshot w k0 v_slot = some (rz, wz)) (hk0 : zct zC k0 = 9) : Met l yX9_saveSnapshot (Cond.code yX9_saveSnapshot cX9_saveSnapshot 2 (some .boolean) :: TT) (rmd 2) (Pcw zC g w [.ref (g.2.2 k0), .int (v_slot)]) (Qw zC g wz (some (.int (bI (rz))))) 0 0 (zA zC g) := by
  refine mt_start (by decide) (Nat.le_of_ble_eq_true rfl) ?_
  intro p e s m args below meth c H locs ls X hr hl hH
  have hx := X.1
  have hb := X.2.1
  have hml := X.2.2.1
  have hown := X.2.2.2.1
  have ht := X.2.2.2.2.1
  have hl : lv_has ls 2 [(0, .ref (g.2.2 (k0))), (1, .int (v_slot))] := hl
  unfold f_X9_saveSnapshot at hF
  refine lv_iload_n hx hb dX9_saveSnapshot_0 rfl (lv_at hl 1 rfl) ?_
  have J1T : (v_slot < (0 : Int32)) ∨ ((2 : Int32) ≤ v_slot) → ∀ (H : Heap) (locs : List Loc), HW zC g w s.heap H locs → W p l e (rmd 2) s m args below meth c H locs 0 0 (MQ below (Qw zC g wz (some (.int (bI (rz))))) args s 0 0 (zA zC g)) (F0 m 9 ls []) := by
    intro hc H locs hH
    replace hF := ifp hc hF
    refine lv_iconst (v := bI false) hx hb dX9_saveSnapshot_9 (by decide) ?_
    obtain ⟨rfl, rfl⟩ := se2 hF
    exact w_zret X hH hr dX9_saveSnapshot_10
  have J1F : ¬ ((v_slot < (0 : Int32)) ∨ ((2 : Int32) ≤ v_slot)) → ∀ (H : Heap) (locs : List Loc), HW zC g w s.heap H locs → W p l e (rmd 2) s m args below meth c H locs 0 0 (MQ below (Qw zC g wz (some (.int (bI (rz))))) args s 0 0 (zA zC g)) (F0 m 11 ls []) := by
    intro hc H locs hH
    replace hF := ifn hc hF
    refine lv_aload_n hx hb dX9_saveSnapshot_11 rfl (lv_at hl 0 rfl) ?_
    refine w_getr X hH hk0 fs_9_4 lk_9_36 dX9_saveSnapshot_12 ?_
    refine lv_iload_n hx hb dX9_saveSnapshot_15 rfl (lv_at hl 1 rfl) ?_
    obtain ⟨x4, h4, hF⟩ := ob hF
    refine w_aald X hH h4 (rt_C_9_4 hk0) dX9_saveSnapshot_16 (fun q4 => ?_)
    refine lv_aload_n hx hb dX9_saveSnapshot_17 rfl (lv_at hl 0 rfl) ?_
    obtain ⟨x5, h5, hF⟩ := ob hF
    refine w_getd X hH h5 hk0 fs_9_1 lk_9_19 dX9_saveSnapshot_18 (fun q5 => ?_)
    refine w_getr X hH q5 fs_6_6 lk_9_96 dX9_saveSnapshot_21 ?_
    obtain ⟨w6, h6, hF⟩ := ob hF
    refine w_callV (As := [.ref (g.2.2 ((zrf zC (x5) 6)))]) (k := x4) (rest := []) (st1 := []) X hH (c_X0_copyFrom (l := l) (g := g) (w := w) (k0 := x4) (v_other := (zrf zC (x5) 6)) h6 q4 (rt_C_6_6 q5)) (Or.inr ⟨_, tw_4_173⟩) ms_X0_copyFrom im_X0_copyFrom q4 cn_0 ⟨Nat.le_of_ble_eq_true rfl, Nat.le_of_ble_eq_true rfl⟩ rfl rfl hl.1 (Nat.le_of_ble_eq_true rfl) dX9_saveSnapshot_24 ⟨Nat.le_refl _, Nat.le_refl _⟩ rfl (fun H locs hH => ?_)
    refine lv_aload_n hx hb dX9_saveSnapshot_27 rfl (lv_at hl 0 rfl) ?_
    refine lv_dup hx hb dX9_saveSnapshot_28 rfl ?_
    refine w_geti X hH hk0 fs_9_5 lk_9_40 dX9_saveSnapshot_29 ?_
    refine lv_iconst (v := (1 : Int32)) hx hb dX9_saveSnapshot_32 (by decide) ?_
    refine lv_iload_n hx hb dX9_saveSnapshot_33 rfl (lv_at hl 1 rfl) ?_
    refine w_ishl hx hb dX9_saveSnapshot_34 ?_
    refine lv_ior hx hb dX9_saveSnapshot_35 ?_
    obtain ⟨w7, h7, hF⟩ := ob hF
    refine w_puti X hH h7 hk0 fs_9_5 nf_9_5 lk_9_40 dX9_saveSnapshot_36 (fun H locs hH => ?_)
    refine lv_iconst (v := bI true) hx hb dX9_saveSnapshot_39 (by decide) ?_
    obtain ⟨rfl, rfl⟩ := se2 hF
    exact w_zret X hH hr dX9_saveSnapshot_40
  refine w_zlt_t (tgt := 9) hx hb dX9_saveSnapshot_1 (by decide) (fun c2 => ?_) (fun c2 => ?_)
  · exact J1T (Or.inl c2) _ _ hH
  · refine lv_iload_n hx hb dX9_saveSnapshot_4 rfl (lv_at hl 1 rfl) ?_
    refine lv_iconst (v := (2 : Int32)) hx hb dX9_saveSnapshot_5 (by decide) ?_
    refine w_ige_f (tgt := 11) hx hb dX9_saveSnapshot_6 (by decide) (fun c3 => ?_) (fun c3 => ?_)
    · exact J1F (fun z => z.elim c2 c3) _ _ hH
    · exact J1T (Or.inr c3) _ _ hH

theorem dX9_restoreSnapshot_0 : decode cX9_restoreSnapshot 0 = .ok (.iload_n 1, 1) := by decide +kernel
theorem dX9_restoreSnapshot_1 : decode cX9_restoreSnapshot 1 = .ok (.ifCond .lt 19, 3) := by decide +kernel
theorem dX9_restoreSnapshot_4 : decode cX9_restoreSnapshot 4 = .ok (.iload_n 1, 1) := by decide +kernel
theorem dX9_restoreSnapshot_5 : decode cX9_restoreSnapshot 5 = .ok (.iconst 2, 1) := by decide +kernel
theorem dX9_restoreSnapshot_6 : decode cX9_restoreSnapshot 6 = .ok (.if_icmp .ge 14, 3) := by decide +kernel
theorem dX9_restoreSnapshot_9 : decode cX9_restoreSnapshot 9 = .ok (.aload_n 0, 1) := by decide +kernel
theorem dX9_restoreSnapshot_10 : decode cX9_restoreSnapshot 10 = .ok (.getfield 40, 3) := by decide +kernel
theorem dX9_restoreSnapshot_13 : decode cX9_restoreSnapshot 13 = .ok (.iload_n 1, 1) := by decide +kernel
theorem dX9_restoreSnapshot_14 : decode cX9_restoreSnapshot 14 = .ok (.invokestatic 168, 3) := by decide +kernel
theorem dX9_restoreSnapshot_17 : decode cX9_restoreSnapshot 17 = .ok (.ifCond .ne 5, 3) := by decide +kernel
theorem dX9_restoreSnapshot_20 : decode cX9_restoreSnapshot 20 = .ok (.iconst 0, 1) := by decide +kernel
theorem dX9_restoreSnapshot_21 : decode cX9_restoreSnapshot 21 = .ok (.ireturn, 1) := by decide +kernel
theorem dX9_restoreSnapshot_22 : decode cX9_restoreSnapshot 22 = .ok (.aload_n 0, 1) := by decide +kernel
theorem dX9_restoreSnapshot_23 : decode cX9_restoreSnapshot 23 = .ok (.getfield 19, 3) := by decide +kernel
theorem dX9_restoreSnapshot_26 : decode cX9_restoreSnapshot 26 = .ok (.getfield 96, 3) := by decide +kernel
theorem dX9_restoreSnapshot_29 : decode cX9_restoreSnapshot 29 = .ok (.aload_n 0, 1) := by decide +kernel
theorem dX9_restoreSnapshot_30 : decode cX9_restoreSnapshot 30 = .ok (.getfield 36, 3) := by decide +kernel
theorem dX9_restoreSnapshot_33 : decode cX9_restoreSnapshot 33 = .ok (.iload_n 1, 1) := by decide +kernel
theorem dX9_restoreSnapshot_34 : decode cX9_restoreSnapshot 34 = .ok (.aaload, 1) := by decide +kernel
theorem dX9_restoreSnapshot_35 : decode cX9_restoreSnapshot 35 = .ok (.invokevirtual 302, 3) := by decide +kernel
theorem dX9_restoreSnapshot_38 : decode cX9_restoreSnapshot 38 = .ok (.aload_n 0, 1) := by decide +kernel
theorem dX9_restoreSnapshot_39 : decode cX9_restoreSnapshot 39 = .ok (.getfield 29, 3) := by decide +kernel
theorem dX9_restoreSnapshot_42 : decode cX9_restoreSnapshot 42 = .ok (.invokevirtual 90, 3) := by decide +kernel
theorem dX9_restoreSnapshot_45 : decode cX9_restoreSnapshot 45 = .ok (.aload_n 0, 1) := by decide +kernel
theorem dX9_restoreSnapshot_46 : decode cX9_restoreSnapshot 46 = .ok (.invokevirtual 93, 3) := by decide +kernel
theorem dX9_restoreSnapshot_49 : decode cX9_restoreSnapshot 49 = .ok (.iconst 1, 1) := by decide +kernel
theorem dX9_restoreSnapshot_50 : decode cX9_restoreSnapshot 50 = .ok (.ireturn, 1) := by decide +kernel
set_option maxHeartbeats 4000000 in
set_option maxRecDepth 100000 in
theorem c_X9_restoreSnapshot {l : Launch} {g : Gh} {w : Wd} {k0 : Nat} {v_slot : Int32} {rz : Bool} {wz : Wd} (hF : f_X9_restoreSnapshot w k0 v_slot = some (rz, wz)) (hk0 : zct zC k0 = 9) : Met l yX9_restoreSnapshot (Cond.code yX9_restoreSnapshot cX9_restoreSnapshot 2 (some .boolean) :: TT) (rmd 6) (Pcw zC g w [.ref (g.2.2 k0), .int (v_slot)]) (Qw zC g wz (some (.int (bI (rz))))) 0 0 (zA zC g) := by
  refine mt_start (by decide) (Nat.le_of_ble_eq_true rfl) ?_
  intro p e s m args below meth c H locs ls X hr hl hH
  have hx := X.1
  have hb := X.2.1
  have hml := X.2.2.1
  have hown := X.2.2.2.1
  have ht := X.2.2.2.2.1
  have hl : lv_has ls 2 [(0, .ref (g.2.2 (k0))), (1, .int (v_slot))] := hl
  unfold f_X9_restoreSnapshot at hF
  refine lv_iload_n hx hb dX9_restoreSnapshot_0 rfl (lv_at hl 1 rfl) ?_
  have J1T : ((v_slot < (0 : Int32)) ∨ ((2 : Int32) ≤ v_slot)) ∨ (¬ ((f_X9_contains ((w.1 (k0) 5)) (v_slot)) = true)) → ∀ (H : Heap) (locs : List Loc), HW zC g w s.heap H locs → W p l e (rmd 6) s m args below meth c H locs 0 0 (MQ below (Qw zC g wz (some (.int (bI (rz))))) args s 0 0 (zA zC g)) (F0 m 20 ls []) := by
    intro hc H locs hH
    replace hF := ifp hc hF
    refine lv_iconst (v := bI false) hx hb dX9_restoreSnapshot_20 (by decide) ?_
    obtain ⟨rfl, rfl⟩ := se2 hF
    exact w_zret X hH hr dX9_restoreSnapshot_21
  have J1F : ¬ (((v_slot < (0 : Int32)) ∨ ((2 : Int32) ≤ v_slot)) ∨ (¬ ((f_X9_contains ((w.1 (k0) 5)) (v_slot)) = true))) → ∀ (H : Heap) (locs : List Loc), HW zC g w s.heap H locs → W p l e (rmd 6) s m args below meth c H locs 0 0 (MQ below (Qw zC g wz (some (.int (bI (rz))))) args s 0 0 (zA zC g)) (F0 m 22 ls []) := by
    intro hc H locs hH
    replace hF := ifn hc hF
    refine lv_aload_n hx hb dX9_restoreSnapshot_22 rfl (lv_at hl 0 rfl) ?_
    obtain ⟨x5, h5, hF⟩ := ob hF
    refine w_getd X hH h5 hk0 fs_9_1 lk_9_19 dX9_restoreSnapshot_23 (fun q5 => ?_)
    refine w_getr X hH q5 fs_6_6 lk_9_96 dX9_restoreSnapshot_26 ?_
    refine lv_aload_n hx hb dX9_restoreSnapshot_29 rfl (lv_at hl 0 rfl) ?_
    refine w_getr X hH hk0 fs_9_4 lk_9_36 dX9_restoreSnapshot_30 ?_
    refine lv_iload_n hx hb dX9_restoreSnapshot_33 rfl (lv_at hl 1 rfl) ?_
    obtain ⟨x6, h6, hF⟩ := ob hF
    refine w_aald X hH h6 (rt_C_9_4 hk0) dX9_restoreSnapshot_34 (fun q6 => ?_)
    obtain ⟨w7, h7, hF⟩ := ob hF
    refine w_callV (As := [.ref (g.2.2 (x6))]) (k := (zrf zC (x5) 6)) (rest := []) (st1 := []) X hH (c_X0_copyFrom (l := l) (g := g) (w := w) (k0 := (zrf zC (x5) 6)) (v_other := x6) h7 (rt_C_6_6 q5) q6) (Or.inr ⟨_, tw_4_173⟩) ms_X0_copyFrom im_X0_copyFrom (rt_C_6_6 q5) cn_0 ⟨Nat.le_of_ble_eq_true rfl, Nat.le_of_ble_eq_true rfl⟩ rfl rfl hl.1 (Nat.le_of_ble_eq_true rfl) dX9_restoreSnapshot_35 ⟨Nat.le_refl _, Nat.le_refl _⟩ rfl (fun H locs hH => ?_)
    refine lv_aload_n hx hb dX9_restoreSnapshot_38 rfl (lv_at hl 0 rfl) ?_
    refine w_getr X hH hk0 fs_9_3 lk_9_29 dX9_restoreSnapshot_39 ?_
    obtain ⟨w8, h8, hF⟩ := ob hF
    refine w_callV (As := []) (k := (zrf zC (k0) 3)) (rest := []) (st1 := []) X hH (c_X3_clear (l := l) (g := g) (w := w7) (k0 := (zrf zC (k0) 3)) h8 (rt_C_9_3 hk0)) (Or.inr ⟨_, tw_2_189⟩) ms_X3_clear im_X3_clear (rt_C_9_3 hk0) cn_3 ⟨Nat.le_of_ble_eq_true rfl, Nat.le_of_ble_eq_true rfl⟩ rfl rfl hl.1 (Nat.le_of_ble_eq_true rfl) dX9_restoreSnapshot_42 ⟨Nat.le_refl _, Nat.le_refl _⟩ rfl (fun H locs hH => ?_)
    refine lv_aload_n hx hb dX9_restoreSnapshot_45 rfl (lv_at hl 0 rfl) ?_
    obtain ⟨w9, h9, hF⟩ := ob hF
    refine w_callV (As := []) (k := k0) (rest := []) (st1 := []) X hH (c_X9_settle (l := l) (g := g) (w := w8) (k0 := k0) h9 hk0) (Or.inl tw_2_193) ms_X9_settle im_X9_settle hk0 cn_9 ⟨Nat.le_of_ble_eq_true rfl, Nat.le_of_ble_eq_true rfl⟩ rfl rfl hl.1 (Nat.le_of_ble_eq_true rfl) dX9_restoreSnapshot_46 ⟨Nat.le_refl _, Nat.le_refl _⟩ rfl (fun H locs hH => ?_)
    refine lv_iconst (v := bI true) hx hb dX9_restoreSnapshot_49 (by decide) ?_
    obtain ⟨rfl, rfl⟩ := se2 hF
    exact w_zret X hH hr dX9_restoreSnapshot_50
  refine w_zlt_t (tgt := 20) hx hb dX9_restoreSnapshot_1 (by decide) (fun c2 => ?_) (fun c2 => ?_)
  · exact J1T (Or.inl (Or.inl c2)) _ _ hH
  · refine lv_iload_n hx hb dX9_restoreSnapshot_4 rfl (lv_at hl 1 rfl) ?_
    refine lv_iconst (v := (2 : Int32)) hx hb dX9_restoreSnapshot_5 (by decide) ?_
    refine w_ige_t (tgt := 20) hx hb dX9_restoreSnapshot_6 (by decide) (fun c3 => ?_) (fun c3 => ?_)
    · exact J1T (Or.inl (Or.inr c3)) _ _ hH
    · refine lv_aload_n hx hb dX9_restoreSnapshot_9 rfl (lv_at hl 0 rfl) ?_
      refine w_geti X hH hk0 fs_9_5 lk_9_40 dX9_restoreSnapshot_10 ?_
      refine lv_iload_n hx hb dX9_restoreSnapshot_13 rfl (lv_at hl 1 rfl) ?_
      refine w_callS (As := [.int ((w.1 (k0) 5)), .int (v_slot)]) (rest := []) (st1 := [.int (bI ((f_X9_contains ((w.1 (k0) 5)) (v_slot))))]) X hH (c_X9_contains (l := l) (g := g) (w := w) (v_set := (w.1 (k0) 5)) (v_number := v_slot) rfl) (Or.inl tw_3_85) ms_X9_contains tw_2_174 ⟨Nat.le_of_ble_eq_true rfl, Nat.le_of_ble_eq_true rfl⟩ rfl rfl hl.1 (Nat.le_of_ble_eq_true rfl) dX9_restoreSnapshot_14 ⟨Nat.le_refl _, Nat.le_refl _⟩ rfl (fun H locs hH => ?_)
      refine w_b_t (tgt := 22) hx hb dX9_restoreSnapshot_17 (by decide) (fun c4 => ?_) (fun c4 => ?_)
      · exact J1F (fun z => z.elim (fun z => z.elim c2 c3) (fun z => z c4)) _ _ hH
      · exact J1T (Or.inr c4) _ _ hH

theorem dX0_operandAt_0 : decode cX0_operandAt 0 = .ok (.iload_n 2, 1) := by decide +kernel
theorem dX0_operandAt_1 : decode cX0_operandAt 1 = .ok (.lookupswitch 41 #[(0, 27), (1, 34)], 27) := by decide +kernel
theorem dX0_operandAt_28 : decode cX0_operandAt 28 = .ok (.aload_n 0, 1) := by decide +kernel
theorem dX0_operandAt_29 : decode cX0_operandAt 29 = .ok (.getfield 15, 3) := by decide +kernel
theorem dX0_operandAt_32 : decode cX0_operandAt 32 = .ok (.iload_n 1, 1) := by decide +kernel
theorem dX0_operandAt_33 : decode cX0_operandAt 33 = .ok (.iaload, 1) := by decide +kernel
theorem dX0_operandAt_34 : decode cX0_operandAt 34 = .ok (.ireturn, 1) := by decide +kernel
theorem dX0_operandAt_35 : decode cX0_operandAt 35 = .ok (.aload_n 0, 1) := by decide +kernel
theorem dX0_operandAt_36 : decode cX0_operandAt 36 = .ok (.getfield 18, 3) := by decide +kernel
theorem dX0_operandAt_39 : decode cX0_operandAt 39 = .ok (.iload_n 1, 1) := by decide +kernel
theorem dX0_operandAt_40 : decode cX0_operandAt 40 = .ok (.iaload, 1) := by decide +kernel
theorem dX0_operandAt_41 : decode cX0_operandAt 41 = .ok (.ireturn, 1) := by decide +kernel
theorem dX0_operandAt_42 : decode cX0_operandAt 42 = .ok (.aload_n 0, 1) := by decide +kernel
theorem dX0_operandAt_43 : decode cX0_operandAt 43 = .ok (.getfield 21, 3) := by decide +kernel
theorem dX0_operandAt_46 : decode cX0_operandAt 46 = .ok (.iload_n 1, 1) := by decide +kernel
theorem dX0_operandAt_47 : decode cX0_operandAt 47 = .ok (.iaload, 1) := by decide +kernel
theorem dX0_operandAt_48 : decode cX0_operandAt 48 = .ok (.ireturn, 1) := by decide +kernel
set_option maxHeartbeats 4000000 in
set_option maxRecDepth 100000 in
theorem c_X0_operandAt {l : Launch} {g : Gh} {w : Wd} {k0 : Nat} {v_constraint : Int32} {v_position : Int32} {rz : Int32} (hF : f_X0_operandAt w k0 v_constraint v_position = some rz) (hk0 : zct zC k0 = 0) : Met l yX0_operandAt (Cond.code yX0_operandAt cX0_operandAt 3 (some .int) :: TT) (rmd 0) (Pcw zC g w [.ref (g.2.2 k0), .int (v_constraint), .int (v_position)]) (Qw zC g w (some (.int (rz)))) 0 0 (zA zC g) := by
  refine mt_start (by decide) (Nat.le_of_ble_eq_true rfl) ?_
  intro p e s m args below meth c H locs ls X hr hl hH
  have hx := X.1
  have hb := X.2.1
  have hml := X.2.2.1
  have hown := X.2.2.2.1
  have ht := X.2.2.2.2.1
  have hl : lv_has ls 3 [(0, .ref (g.2.2 (k0))), (1, .int (v_constraint)), (2, .int (v_position))] := hl
  unfold f_X0_operandAt at hF
  refine lv_iload_n hx hb dX0_operandAt_0 rfl (lv_at hl 2 rfl) ?_
  by_cases c1 : v_position = (0 : Int32)
  · replace hF := ifp c1 hF
    refine lv_lookup (off := (27 : Int)) (tgt := 28) hx hb dX0_operandAt_1 (by decide) (by rw [c1] <;> rfl) (by decide) ?_
    refine lv_aload_n hx hb dX0_operandAt_28 rfl (lv_at hl 0 rfl) ?_
    refine w_getr X hH hk0 fs_0_1 lk_0_15 dX0_operandAt_29 ?_
    refine lv_iload_n hx hb dX0_operandAt_32 rfl (lv_at hl 1 rfl) ?_
    obtain ⟨x2, h2, hF⟩ := ob hF
    refine w_iald X hH h2 (rt_C_0_1 hk0) dX0_operandAt_33 ?_
    obtain rfl := se1 hF
    exact w_iret X hH hr dX0_operandAt_34
  · replace hF := ifn c1 hF
    by_cases c3 : v_position = (1 : Int32)
    · replace hF := ifp c3 hF
      refine lv_lookup (off := (34 : Int)) (tgt := 35) hx hb dX0_operandAt_1 (by decide) (by rw [c3] <;> rfl) (by decide) ?_
      refine lv_aload_n hx hb dX0_operandAt_35 rfl (lv_at hl 0 rfl) ?_
      refine w_getr X hH hk0 fs_0_2 lk_0_18 dX0_operandAt_36 ?_
      refine lv_iload_n hx hb dX0_operandAt_39 rfl (lv_at hl 1 rfl) ?_
      obtain ⟨x4, h4, hF⟩ := ob hF
      refine w_iald X hH h4 (rt_C_0_2 hk0) dX0_operandAt_40 ?_
      obtain rfl := se1 hF
      exact w_iret X hH hr dX0_operandAt_41
    · replace hF := ifn c3 hF
      refine lv_lookup (off := (41 : Int)) (tgt := 42) hx hb dX0_operandAt_1 (by decide) ((lv_osw c1 (by decide)).trans ((lv_osw c3 (by decide)).trans rfl)) (by decide) ?_
      refine lv_aload_n hx hb dX0_operandAt_42 rfl (lv_at hl 0 rfl) ?_
      refine w_getr X hH hk0 fs_0_3 lk_0_21 dX0_operandAt_43 ?_
      refine lv_iload_n hx hb dX0_operandAt_46 rfl (lv_at hl 1 rfl) ?_
      obtain ⟨x5, h5, hF⟩ := ob hF
      refine w_iald X hH h5 (rt_C_0_3 hk0) dX0_operandAt_47 ?_
      obtain rfl := se1 hF
      exact w_iret X hH hr dX0_operandAt_48

theorem dX10_thrown_0 : decode cX10_thrown 0 = .ok (.aload_n 0, 1) := by decide +kernel
theorem dX10_thrown_1 : decode cX10_thrown 1 = .ok (.getfield 85, 3) := by decide +kernel
theorem dX10_thrown_4 : decode cX10_thrown 4 = .ok (.ireturn, 1) := by decide +kernel
set_option maxHeartbeats 4000000 in
set_option maxRecDepth 100000 in
theorem c_X10_thrown {l : Launch} {g : Gh} {w : Wd} {k0 : Nat} {rz : Int32} (hF : f_X10_thrown w k0 = rz) (hk0 : zct zM k0 = 10) : Met l yX10_thrown (Cond.code yX10_thrown cX10_thrown 1 (some .int) :: TT) (rmd 0) (Pcw zM g w [.ref (g.2.2 k0)]) (Qw zM g w (some (.int (rz)))) 0 0 (zA zM g) := by
  refine mt_start (by decide) (Nat.le_of_ble_eq_true rfl) ?_
  intro p e s m args below meth c H locs ls X hr hl hH
  have hx := X.1
  have hb := X.2.1
  have hml := X.2.2.1
  have hown := X.2.2.2.1
  have ht := X.2.2.2.2.1
  have hl : lv_has ls 1 [(0, .ref (g.2.2 (k0)))] := hl
  unfold f_X10_thrown at hF
  refine lv_aload_n hx hb dX10_thrown_0 rfl (lv_at hl 0 rfl) ?_
  refine w_geti X hH hk0 fs_10_0 lk_10_85 dX10_thrown_1 ?_
  subst hF
  exact w_iret X hH hr dX10_thrown_4

theorem dX10_within_0 : decode cX10_within 0 = .ok (.lload_n 0, 1) := by decide +kernel
theorem dX10_within_1 : decode cX10_within 1 = .ok (.lload_n 2, 1) := by decide +kernel
theorem dX10_within_2 : decode cX10_within 2 = .ok (.lcmp, 1) := by decide +kernel
theorem dX10_within_3 : decode cX10_within 3 = .ok (.ifCond .lt 14, 3) := by decide +kernel
theorem dX10_within_6 : decode cX10_within 6 = .ok (.lload_n 0, 1) := by decide +kernel
theorem dX10_within_7 : decode cX10_within 7 = .ok (.lload 4, 2) := by decide +kernel
theorem dX10_within_9 : decode cX10_within 9 = .ok (.lcmp, 1) := by decide +kernel
theorem dX10_within_10 : decode cX10_within 10 = .ok (.ifCond .gt 7, 3) := by decide +kernel
theorem dX10_within_13 : decode cX10_within 13 = .ok (.iconst 1, 1) := by decide +kernel
theorem dX10_within_14 : decode cX10_within 14 = .ok (.goto 4, 3) := by decide +kernel
theorem dX10_within_17 : decode cX10_within 17 = .ok (.iconst 0, 1) := by decide +kernel
theorem dX10_within_18 : decode cX10_within 18 = .ok (.ireturn, 1) := by decide +kernel
set_option maxHeartbeats 4000000 in
set_option maxRecDepth 100000 in
theorem c_X10_within {l : Launch} {g : Gh} {w : Wd} {v_v : Int64} {v_low : Int64} {v_high : Int64} {rz : Bool} (hF : f_X10_within v_v v_low v_high = rz)  : Met l yX10_within (Cond.code yX10_within cX10_within 6 (some .boolean) :: TT) (rmd 0) (Pcw zM g w [.long (v_v), .long (v_low), .long (v_high)]) (Qw zM g w (some (.int (bI (rz))))) 0 0 (zA zM g) := by
  refine mt_start (by decide) (Nat.le_of_ble_eq_true rfl) ?_
  intro p e s m args below meth c H locs ls X hr hl hH
  have hx := X.1
  have hb := X.2.1
  have hml := X.2.2.1
  have hown := X.2.2.2.1
  have ht := X.2.2.2.2.1
  have hl : lv_has ls 6 [(0, .long (v_v)), (2, .long (v_low)), (4, .long (v_high))] := hl
  unfold f_X10_within at hF
  refine lv_lload_n hx hb dX10_within_0 rfl (lv_at hl 0 rfl) ?_
  refine lv_lload_n hx hb dX10_within_1 rfl (lv_at hl 1 rfl) ?_
  have J1 : ∀ (H : Heap) (locs : List Loc), HW zM g w s.heap H locs → W p l e (rmd 0) s m args below meth c H locs 0 0 (MQ below (Qw zM g w (some (.int (bI (rz))))) args s 0 0 (zA zM g)) (F0 m 18 ls [.int (bI ((decide ((v_low ≤ v_v) ∧ (v_v ≤ v_high)))))]) := by
    intro H locs hH
    subst hF
    exact w_zret X hH hr dX10_within_18
  refine w_lge_f (tgt := 17) hx hb dX10_within_2 dX10_within_3 (by decide) (fun c2 => ?_) (fun c2 => ?_)
  · refine lv_iconst (v := (0 : Int32)) hx hb dX10_within_17 (by decide) ?_
    exact w_b0 (fun z => c2 z.1) (J1 _ _ hH)
  · refine lv_lload_n hx hb dX10_within_6 rfl (lv_at hl 0 rfl) ?_
    refine lv_lload hx hb dX10_within_7 (lv_at hl 2 rfl) ?_
    refine w_lle_f (tgt := 17) hx hb dX10_within_9 dX10_within_10 (by decide) (fun c3 => ?_) (fun c3 => ?_)
    · refine lv_iconst (v := (0 : Int32)) hx hb dX10_within_17 (by decide) ?_
      exact w_b0 (fun z => c3 z.2) (J1 _ _ hH)
    · refine lv_iconst (v := (1 : Int32)) hx hb dX10_within_13 (by decide) ?_
      refine lv_goto (tgt := 18) hx hb dX10_within_14 (by decide) ?_
      exact w_b1 ⟨c2, c3⟩ (J1 _ _ hH)

theorem dX10_has_0 : decode cX10_has 0 = .ok (.iload_n 0, 1) := by decide +kernel
theorem dX10_has_1 : decode cX10_has 1 = .ok (.iload_n 1, 1) := by decide +kernel
theorem dX10_has_2 : decode cX10_has 2 = .ok (.ishr, 1) := by decide +kernel
theorem dX10_has_3 : decode cX10_has 3 = .ok (.iconst 1, 1) := by decide +kernel
theorem dX10_has_4 : decode cX10_has 4 = .ok (.iand, 1) := by decide +kernel
theorem dX10_has_5 : decode cX10_has 5 = .ok (.iconst 1, 1) := by decide +kernel
theorem dX10_has_6 : decode cX10_has 6 = .ok (.if_icmp .ne 7, 3) := by decide +kernel
theorem dX10_has_9 : decode cX10_has 9 = .ok (.iconst 1, 1) := by decide +kernel
theorem dX10_has_10 : decode cX10_has 10 = .ok (.goto 4, 3) := by decide +kernel
theorem dX10_has_13 : decode cX10_has 13 = .ok (.iconst 0, 1) := by decide +kernel
theorem dX10_has_14 : decode cX10_has 14 = .ok (.ireturn, 1) := by decide +kernel
set_option maxHeartbeats 4000000 in
set_option maxRecDepth 100000 in
theorem c_X10_has {l : Launch} {g : Gh} {w : Wd} {v_set : Int32} {v_k : Int32} {rz : Bool} (hF : f_X10_has v_set v_k = rz)  : Met l yX10_has (Cond.code yX10_has cX10_has 2 (some .boolean) :: TT) (rmd 0) (Pcw zM g w [.int (v_set), .int (v_k)]) (Qw zM g w (some (.int (bI (rz))))) 0 0 (zA zM g) := by
  refine mt_start (by decide) (Nat.le_of_ble_eq_true rfl) ?_
  intro p e s m args below meth c H locs ls X hr hl hH
  have hx := X.1
  have hb := X.2.1
  have hml := X.2.2.1
  have hown := X.2.2.2.1
  have ht := X.2.2.2.2.1
  have hl : lv_has ls 2 [(0, .int (v_set)), (1, .int (v_k))] := hl
  unfold f_X10_has at hF
  refine lv_iload_n hx hb dX10_has_0 rfl (lv_at hl 0 rfl) ?_
  refine lv_iload_n hx hb dX10_has_1 rfl (lv_at hl 1 rfl) ?_
  refine w_ishr hx hb dX10_has_2 ?_
  refine lv_iconst (v := (1 : Int32)) hx hb dX10_has_3 (by decide) ?_
  refine lv_iand hx hb dX10_has_4 ?_
  refine lv_iconst (v := (1 : Int32)) hx hb dX10_has_5 (by decide) ?_
  have J1 : ∀ (H : Heap) (locs : List Loc), HW zM g w s.heap H locs → W p l e (rmd 0) s m args below meth c H locs 0 0 (MQ below (Qw zM g w (some (.int (bI (rz))))) args s 0 0 (zA zM g)) (F0 m 14 ls [.int (bI ((decide (((jshr (v_set) (v_k)) &&& (1 : Int32)) = (1 : Int32)))))]) := by
    intro H locs hH
    subst hF
    exact w_zret X hH hr dX10_has_14
  refine w_ieq_f (tgt := 13) hx hb dX10_has_6 (by decide) (fun c2 => ?_) (fun c2 => ?_)
  · refine lv_iconst (v := (0 : Int32)) hx hb dX10_has_13 (by decide) ?_
    exact w_b0 c2 (J1 _ _ hH)
  · refine lv_iconst (v := (1 : Int32)) hx hb dX10_has_9 (by decide) ?_
    refine lv_goto (tgt := 14) hx hb dX10_has_10 (by decide) ?_
    exact w_b1 c2 (J1 _ _ hH)

theorem dX10_hasBit_0 : decode cX10_hasBit 0 = .ok (.lload_n 0, 1) := by decide +kernel
theorem dX10_hasBit_1 : decode cX10_hasBit 1 = .ok (.iload_n 2, 1) := by decide +kernel
theorem dX10_hasBit_2 : decode cX10_hasBit 2 = .ok (.lshr, 1) := by decide +kernel
theorem dX10_hasBit_3 : decode cX10_hasBit 3 = .ok (.lconst 1, 1) := by decide +kernel
theorem dX10_hasBit_4 : decode cX10_hasBit 4 = .ok (.land, 1) := by decide +kernel
theorem dX10_hasBit_5 : decode cX10_hasBit 5 = .ok (.lconst 1, 1) := by decide +kernel
theorem dX10_hasBit_6 : decode cX10_hasBit 6 = .ok (.lcmp, 1) := by decide +kernel
theorem dX10_hasBit_7 : decode cX10_hasBit 7 = .ok (.ifCond .ne 7, 3) := by decide +kernel
theorem dX10_hasBit_10 : decode cX10_hasBit 10 = .ok (.iconst 1, 1) := by decide +kernel
theorem dX10_hasBit_11 : decode cX10_hasBit 11 = .ok (.goto 4, 3) := by decide +kernel
theorem dX10_hasBit_14 : decode cX10_hasBit 14 = .ok (.iconst 0, 1) := by decide +kernel
theorem dX10_hasBit_15 : decode cX10_hasBit 15 = .ok (.ireturn, 1) := by decide +kernel
set_option maxHeartbeats 4000000 in
set_option maxRecDepth 100000 in
theorem c_X10_hasBit {l : Launch} {g : Gh} {w : Wd} {v_set : Int64} {v_k : Int32} {rz : Bool} (hF : f_X10_hasBit v_set v_k = rz)  : Met l yX10_hasBit (Cond.code yX10_hasBit cX10_hasBit 3 (some .boolean) :: TT) (rmd 0) (Pcw zM g w [.long (v_set), .int (v_k)]) (Qw zM g w (some (.int (bI (rz))))) 0 0 (zA zM g) := by
  refine mt_start (by decide) (Nat.le_of_ble_eq_true rfl) ?_
  intro p e s m args below meth c H locs ls X hr hl hH
  have hx := X.1
  have hb := X.2.1
  have hml := X.2.2.1
  have hown := X.2.2.2.1
  have ht := X.2.2.2.2.1
  have hl : lv_has ls 3 [(0, .long (v_set)), (2, .int (v_k))] := hl
  unfold f_X10_hasBit at hF
  refine lv_lload_n hx hb dX10_hasBit_0 rfl (lv_at hl 0 rfl) ?_
  refine lv_iload_n hx hb dX10_hasBit_1 rfl (lv_at hl 1 rfl) ?_
  refine w_lshr hx hb dX10_hasBit_2 ?_
  refine lv_lconst (v := 1) hx hb dX10_hasBit_3 (by decide) ?_
  refine lv_land hx hb dX10_hasBit_4 ?_
  refine lv_lconst (v := 1) hx hb dX10_hasBit_5 (by decide) ?_
  have J1 : ∀ (H : Heap) (locs : List Loc), HW zM g w s.heap H locs → W p l e (rmd 0) s m args below meth c H locs 0 0 (MQ below (Qw zM g w (some (.int (bI (rz))))) args s 0 0 (zA zM g)) (F0 m 15 ls [.int (bI ((decide (((jlshr (v_set) (v_k)) &&& (1 : Int64)) = (1 : Int64)))))]) := by
    intro H locs hH
    subst hF
    exact w_zret X hH hr dX10_hasBit_15
  refine w_leq_f (tgt := 14) hx hb dX10_hasBit_6 dX10_hasBit_7 (by decide) (fun c2 => ?_) (fun c2 => ?_)
  · refine lv_iconst (v := (0 : Int32)) hx hb dX10_hasBit_14 (by decide) ?_
    exact w_b0 c2 (J1 _ _ hH)
  · refine lv_iconst (v := (1 : Int32)) hx hb dX10_hasBit_10 (by decide) ?_
    refine lv_goto (tgt := 15) hx hb dX10_hasBit_11 (by decide) ?_
    exact w_b1 c2 (J1 _ _ hH)

theorem dX10_size_0 : decode cX10_size 0 = .ok (.iconst 0, 1) := by decide +kernel
theorem dX10_size_1 : decode cX10_size 1 = .ok (.istore_n 1, 1) := by decide +kernel
theorem dX10_size_2 : decode cX10_size 2 = .ok (.iload_n 0, 1) := by decide +kernel
theorem dX10_size_3 : decode cX10_size 3 = .ok (.istore_n 2, 1) := by decide +kernel
theorem dX10_size_4 : decode cX10_size 4 = .ok (.iload_n 2, 1) := by decide +kernel
theorem dX10_size_5 : decode cX10_size 5 = .ok (.ifCond .eq 15, 3) := by decide +kernel
theorem dX10_size_8 : decode cX10_size 8 = .ok (.iinc 1 1, 3) := by decide +kernel
theorem dX10_size_11 : decode cX10_size 11 = .ok (.iload_n 2, 1) := by decide +kernel
theorem dX10_size_12 : decode cX10_size 12 = .ok (.iload_n 2, 1) := by decide +kernel
theorem dX10_size_13 : decode cX10_size 13 = .ok (.iconst 1, 1) := by decide +kernel
theorem dX10_size_14 : decode cX10_size 14 = .ok (.isub, 1) := by decide +kernel
theorem dX10_size_15 : decode cX10_size 15 = .ok (.iand, 1) := by decide +kernel
theorem dX10_size_16 : decode cX10_size 16 = .ok (.istore_n 2, 1) := by decide +kernel
theorem dX10_size_17 : decode cX10_size 17 = .ok (.goto (-13), 3) := by decide +kernel
theorem dX10_size_20 : decode cX10_size 20 = .ok (.iload_n 1, 1) := by decide +kernel
theorem dX10_size_21 : decode cX10_size 21 = .ok (.ireturn, 1) := by decide +kernel
set_option maxHeartbeats 4000000 in
set_option maxRecDepth 100000 in
theorem c_X10_size {l : Launch} {g : Gh} {w : Wd} {v_set : Int32} {rz : Int32} (hF : f_X10_size v_set = some rz)  : Met l yX10_size (Cond.code yX10_size cX10_size 3 (some .int) :: TT) (rmd 0) (Pcw zM g w [.int (v_set)]) (Qw zM g w (some (.int (rz)))) 0 0 (zA zM g) := by
  refine mt_start (by decide) (Nat.le_of_ble_eq_true rfl) ?_
  intro p e s m args below meth c H locs ls X hr hl hH
  have hx := X.1
  have hb := X.2.1
  have hml := X.2.2.1
  have hown := X.2.2.2.1
  have ht := X.2.2.2.2.1
  have hl : lv_has ls 3 [(0, .int (v_set))] := hl
  unfold f_X10_size at hF
  refine lv_iconst (v := (0 : Int32)) hx hb dX10_size_0 (by decide) ?_
  refine lv_istore_n (lv' := [(1, .int ((0 : Int32))), (0, .int (v_set))]) hx hb dX10_size_1 rfl hl (by decide) rfl (fun ls hl => ?_)
  refine lv_iload_n hx hb dX10_size_2 rfl (lv_at hl 1 rfl) ?_
  refine lv_istore_n (lv' := [(2, .int (v_set)), (1, .int ((0 : Int32))), (0, .int (v_set))]) hx hb dX10_size_3 rfl hl (by decide) rfl (fun ls hl => ?_)
  obtain ⟨r2, hLr2, hF⟩ := ob hF
  have Jr2 : ∀ (H : Heap) (locs : List Loc) (ls : Array Slot), HW zM g w s.heap H locs → lv_has ls 3 [(0, .int (v_set)), (1, .int (r2))] → W p l e (rmd 0) s m args below meth c H locs 0 0 (MQ below (Qw zM g w (some (.int (rz)))) args s 0 0 (zA zM g)) (F0 m 20 ls []) := by
    intro H locs ls hH hl
    refine lv_iload_n hx hb dX10_size_20 rfl (lv_at hl 1 rfl) ?_
    obtain rfl := se1 hF
    exact w_iret X hH hr dX10_size_21
  have Lr2 : ∀ (n : Nat) (s1 : Int32 × Int32), lp b_X10_size_1 n s1 = some r2 → ∀ (H : Heap) (locs : List Loc) (ls : Array Slot), HW zM g w s.heap H locs → lv_has ls 3 [(0, .int (v_set)), (1, .int (s1.1)), (2, .int (s1.2))] → W p l e (rmd 0) s m args below meth c H locs 0 0 (MQ below (Qw zM g w (some (.int (rz)))) args s 0 0 (zA zM g)) (F0 m 4 ls []) := by
    intro n
    induction n with
    | zero => intro s1 hL; exact lp_0 hL
    | succ n ih =>
      intro s1 hL H locs ls hH hl
      obtain ⟨bb, hF, hL⟩ := lp_s hL
      unfold b_X10_size_1 at hF
      refine lv_iload_n hx hb dX10_size_4 rfl (lv_at hl 2 rfl) ?_
      refine w_zne_f (tgt := 20) hx hb dX10_size_5 (by decide) (fun c3 => ?_) (fun c3 => ?_)
      · replace hF := ifn c3 hF
        obtain rfl := se1 hF
        subst hL
        exact Jr2 _ _ _ hH (lv_sub hl [0, 1] rfl)
      · replace hF := ifp c3 hF
        refine lv_iinc (v := (s1.1 + (1 : Int32))) (lv' := [(1, .int ((s1.1 + (1 : Int32)))), (0, .int (v_set)), (2, .int (s1.2))]) hx hb dX10_size_8 hl (k := 1) rfl rfl (by decide) rfl (fun ls hl => ?_)
        refine lv_iload_n hx hb dX10_size_11 rfl (lv_at hl 2 rfl) ?_
        refine lv_iload_n hx hb dX10_size_12 rfl (lv_at hl 2 rfl) ?_
        refine lv_iconst (v := (1 : Int32)) hx hb dX10_size_13 (by decide) ?_
        refine lv_isub hx hb dX10_size_14 ?_
        refine lv_iand hx hb dX10_size_15 ?_
        refine lv_istore_n (lv' := [(2, .int ((s1.2 &&& (s1.2 - (1 : Int32))))), (1, .int ((s1.1 + (1 : Int32)))), (0, .int (v_set))]) hx hb dX10_size_16 rfl hl (by decide) rfl (fun ls hl => ?_)
        refine lv_goto (tgt := 4) hx hb dX10_size_17 (by decide) ?_
        obtain rfl := se1 hF
        exact ih _ hL _ _ _ hH (lv_sub hl [2, 1, 0] rfl)
  exact Lr2 NF _ hLr2 _ _ _ hH (lv_sub hl [2, 1, 0] rfl)

theorem dX10_appendInt_0 : decode cX10_appendInt 0 = .ok (.bipush 24, 2) := by decide +kernel
theorem dX10_appendInt_2 : decode cX10_appendInt 2 = .ok (.istore_n 2, 1) := by decide +kernel
theorem dX10_appendInt_3 : decode cX10_appendInt 3 = .ok (.iload_n 2, 1) := by decide +kernel
theorem dX10_appendInt_4 : decode cX10_appendInt 4 = .ok (.ifCond .lt 32, 3) := by decide +kernel
theorem dX10_appendInt_7 : decode cX10_appendInt 7 = .ok (.aload_n 0, 1) := by decide +kernel
theorem dX10_appendInt_8 : decode cX10_appendInt 8 = .ok (.getfield 7, 3) := by decide +kernel
theorem dX10_appendInt_11 : decode cX10_appendInt 11 = .ok (.aload_n 0, 1) := by decide +kernel
theorem dX10_appendInt_12 : decode cX10_appendInt 12 = .ok (.getfield 89, 3) := by decide +kernel
theorem dX10_appendInt_15 : decode cX10_appendInt 15 = .ok (.iload_n 1, 1) := by decide +kernel
theorem dX10_appendInt_16 : decode cX10_appendInt 16 = .ok (.iload_n 2, 1) := by decide +kernel
theorem dX10_appendInt_17 : decode cX10_appendInt 17 = .ok (.ishr, 1) := by decide +kernel
theorem dX10_appendInt_18 : decode cX10_appendInt 18 = .ok (.i2b, 1) := by decide +kernel
theorem dX10_appendInt_19 : decode cX10_appendInt 19 = .ok (.bastore, 1) := by decide +kernel
theorem dX10_appendInt_20 : decode cX10_appendInt 20 = .ok (.aload_n 0, 1) := by decide +kernel
theorem dX10_appendInt_21 : decode cX10_appendInt 21 = .ok (.dup, 1) := by decide +kernel
theorem dX10_appendInt_22 : decode cX10_appendInt 22 = .ok (.getfield 89, 3) := by decide +kernel
theorem dX10_appendInt_25 : decode cX10_appendInt 25 = .ok (.iconst 1, 1) := by decide +kernel
theorem dX10_appendInt_26 : decode cX10_appendInt 26 = .ok (.iadd, 1) := by decide +kernel
theorem dX10_appendInt_27 : decode cX10_appendInt 27 = .ok (.putfield 89, 3) := by decide +kernel
theorem dX10_appendInt_30 : decode cX10_appendInt 30 = .ok (.iinc 2 (-8), 3) := by decide +kernel
theorem dX10_appendInt_33 : decode cX10_appendInt 33 = .ok (.goto (-30), 3) := by decide +kernel
theorem dX10_appendInt_36 : decode cX10_appendInt 36 = .ok (.return_, 1) := by decide +kernel
set_option maxHeartbeats 4000000 in
set_option maxRecDepth 100000 in
theorem c_X10_appendInt {l : Launch} {g : Gh} {w : Wd} {k0 : Nat} {v_v : Int32} {wz : Wd} (hF : f_X10_appendInt w k0 v_v = some wz) (hk0 : zct zM k0 = 10) : Met l yX10_appendInt (Cond.code yX10_appendInt cX10_appendInt 3 none :: TT) (rmd 0) (Pcw zM g w [.ref (g.2.2 k0), .int (v_v)]) (Qw zM g wz none) 0 0 (zA zM g) := by
  refine mt_start (by decide) (Nat.le_of_ble_eq_true rfl) ?_
  intro p e s m args below meth c H locs ls X hr hl hH
  have hx := X.1
  have hb := X.2.1
  have hml := X.2.2.1
  have hown := X.2.2.2.1
  have ht := X.2.2.2.2.1
  have hl : lv_has ls 3 [(0, .ref (g.2.2 (k0))), (1, .int (v_v))] := hl
  unfold f_X10_appendInt at hF
  refine lv_bipush (v := (24 : Int32)) hx hb dX10_appendInt_0 (by decide) ?_
  refine lv_istore_n (lv' := [(2, .int ((24 : Int32))), (0, .ref (g.2.2 (k0))), (1, .int (v_v))]) hx hb dX10_appendInt_2 rfl hl (by decide) rfl (fun ls hl => ?_)
  obtain ⟨r2, hLr2, hF⟩ := ob hF
  have Jr2 : ∀ (H : Heap) (locs : List Loc) (ls : Array Slot), HW zM g r2 s.heap H locs → lv_has ls 3 [(0, .ref (g.2.2 (k0))), (1, .int (v_v))] → W p l e (rmd 0) s m args below meth c H locs 0 0 (MQ below (Qw zM g wz none) args s 0 0 (zA zM g)) (F0 m 36 ls []) := by
    intro H locs ls hH hl
    obtain rfl := se1 hF
    exact w_vret X hH hr dX10_appendInt_36
  have Lr2 : ∀ (n : Nat) (s1 : Int32 × Wd), lp (b_X10_appendInt_1 k0 v_v) n s1 = some r2 → ∀ (H : Heap) (locs : List Loc) (ls : Array Slot), HW zM g s1.2 s.heap H locs → lv_has ls 3 [(0, .ref (g.2.2 (k0))), (1, .int (v_v)), (2, .int (s1.1))] → W p l e (rmd 0) s m args below meth c H locs 0 0 (MQ below (Qw zM g wz none) args s 0 0 (zA zM g)) (F0 m 3 ls []) := by
    intro n
    induction n with
    | zero => intro s1 hL; exact lp_0 hL
    | succ n ih =>
      intro s1 hL H locs ls hH hl
      obtain ⟨bb, hF, hL⟩ := lp_s hL
      unfold b_X10_appendInt_1 at hF
      refine lv_iload_n hx hb dX10_appendInt_3 rfl (lv_at hl 2 rfl) ?_
      refine w_zge_f (tgt := 36) hx hb dX10_appendInt_4 (by decide) (fun c3 => ?_) (fun c3 => ?_)
      · replace hF := ifn c3 hF
        obtain rfl := se1 hF
        subst hL
        exact Jr2 _ _ _ hH (lv_sub hl [0, 1] rfl)
      · replace hF := ifp c3 hF
        refine lv_aload_n hx hb dX10_appendInt_7 rfl (lv_at hl 0 rfl) ?_
        refine w_getr X hH hk0 fs_10_1 lk_10_7 dX10_appendInt_8 ?_
        refine lv_aload_n hx hb dX10_appendInt_11 rfl (lv_at hl 0 rfl) ?_
        refine w_geti X hH hk0 fs_10_2 lk_10_89 dX10_appendInt_12 ?_
        refine lv_iload_n hx hb dX10_appendInt_15 rfl (lv_at hl 1 rfl) ?_
        refine lv_iload_n hx hb dX10_appendInt_16 rfl (lv_at hl 2 rfl) ?_
        refine w_ishr hx hb dX10_appendInt_17 ?_
        refine w_i2b hx hb dX10_appendInt_18 ?_
        obtain ⟨w4, h4, hF⟩ := ob hF
        refine w_bast X hH h4 (rt_M_10_1 hk0) dX10_appendInt_19 (fun H locs hH => ?_)
        refine lv_aload_n hx hb dX10_appendInt_20 rfl (lv_at hl 0 rfl) ?_
        refine lv_dup hx hb dX10_appendInt_21 rfl ?_
        refine w_geti X hH hk0 fs_10_2 lk_10_89 dX10_appendInt_22 ?_
        refine lv_iconst (v := (1 : Int32)) hx hb dX10_appendInt_25 (by decide) ?_
        refine lv_iadd hx hb dX10_appendInt_26 ?_
        obtain ⟨w5, h5, hF⟩ := ob hF
        refine w_puti X hH h5 hk0 fs_10_2 nf_10_2 lk_10_89 dX10_appendInt_27 (fun H locs hH => ?_)
        refine lv_iinc (v := (s1.1 + (-8 : Int32))) (lv' := [(2, .int ((s1.1 + (-8 : Int32)))), (0, .ref (g.2.2 (k0))), (1, .int (v_v))]) hx hb dX10_appendInt_30 hl (k := 2) rfl rfl (by decide) rfl (fun ls hl => ?_)
        refine lv_goto (tgt := 3) hx hb dX10_appendInt_33 (by decide) ?_
        obtain rfl := se1 hF
        exact ih _ hL _ _ _ hH (lv_sub hl [1, 2, 0] rfl)
  exact Lr2 NF _ hLr2 _ _ _ hH (lv_sub hl [1, 2, 0] rfl)
