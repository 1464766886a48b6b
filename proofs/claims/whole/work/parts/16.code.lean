theorem dX10_kind_0 : decode cX10_kind 0 = .ok (.aload_n 0, 1) := by decide +kernel
theorem dX10_kind_1 : decode cX10_kind 1 = .ok (.getfield 39, 3) := by decide +kernel
theorem dX10_kind_4 : decode cX10_kind 4 = .ok (.iconst 2, 1) := by decide +kernel
theorem dX10_kind_5 : decode cX10_kind 5 = .ok (.iconst 4, 1) := by decide +kernel
theorem dX10_kind_6 : decode cX10_kind 6 = .ok (.iload_n 1, 1) := by decide +kernel
theorem dX10_kind_7 : decode cX10_kind 7 = .ok (.imul, 1) := by decide +kernel
theorem dX10_kind_8 : decode cX10_kind 8 = .ok (.iadd, 1) := by decide +kernel
theorem dX10_kind_9 : decode cX10_kind 9 = .ok (.iaload, 1) := by decide +kernel
theorem dX10_kind_10 : decode cX10_kind 10 = .ok (.ireturn, 1) := by decide +kernel
set_option maxHeartbeats 4000000 in
set_option maxRecDepth 100000 in
theorem c_X10_kind {l : Launch} {g : Gh} {w : Wd} {k0 : Nat} {v_c : Int32} {rz : Int32} (hF : f_X10_kind w k0 v_c = some rz) (hk0 : zct zM k0 = 10) : Met l yX10_kind (Cond.code yX10_kind cX10_kind 2 (some .int) :: TT) (rmd 0) (Pcw zM g w [.ref (g.2.2 k0), .int (v_c)]) (Qw zM g w (some (.int (rz)))) 0 0 (zA zM g) := by
  refine mt_start (by decide) (Nat.le_of_ble_eq_true rfl) ?_
  intro p e s m args below meth c H locs ls X hr hl hH
  have hx := X.1
  have hb := X.2.1
  have hml := X.2.2.1
  have hown := X.2.2.2.1
  have ht := X.2.2.2.2.1
  have hl : lv_has ls 2 [(0, .ref (g.2.2 (k0))), (1, .int (v_c))] := hl
  unfold f_X10_kind at hF
  refine lv_aload_n hx hb dX10_kind_0 rfl (lv_at hl 0 rfl) ?_
  refine w_getr X hH hk0 fs_10_18 lk_10_39 dX10_kind_1 ?_
  refine lv_iconst (v := (2 : Int32)) hx hb dX10_kind_4 (by decide) ?_
  refine lv_iconst (v := (4 : Int32)) hx hb dX10_kind_5 (by decide) ?_
  refine lv_iload_n hx hb dX10_kind_6 rfl (lv_at hl 1 rfl) ?_
  refine lv_imul hx hb dX10_kind_7 ?_
  refine lv_iadd hx hb dX10_kind_8 ?_
  obtain ⟨x1, h1, hF⟩ := ob hF
  refine w_iald X hH h1 (rt_M_10_18 hk0) dX10_kind_9 ?_
  obtain rfl := se1 hF
  exact w_iret X hH hr dX10_kind_10

theorem dX10_add_0 : decode cX10_add 0 = .ok (.aload_n 0, 1) := by decide +kernel
theorem dX10_add_1 : decode cX10_add 1 = .ok (.getfield 55, 3) := by decide +kernel
theorem dX10_add_4 : decode cX10_add 4 = .ok (.iload_n 1, 1) := by decide +kernel
theorem dX10_add_5 : decode cX10_add 5 = .ok (.dup2, 1) := by decide +kernel
theorem dX10_add_6 : decode cX10_add 6 = .ok (.iaload, 1) := by decide +kernel
theorem dX10_add_7 : decode cX10_add 7 = .ok (.iload_n 2, 1) := by decide +kernel
theorem dX10_add_8 : decode cX10_add 8 = .ok (.ior, 1) := by decide +kernel
theorem dX10_add_9 : decode cX10_add 9 = .ok (.iastore, 1) := by decide +kernel
theorem dX10_add_10 : decode cX10_add 10 = .ok (.return_, 1) := by decide +kernel
set_option maxHeartbeats 4000000 in
set_option maxRecDepth 100000 in
theorem c_X10_add {l : Launch} {g : Gh} {w : Wd} {k0 : Nat} {v_index : Int32} {v_objectsToAdd : Int32} {wz : Wd} (hF : f_X10_add w k0 v_index v_objectsToAdd = some wz) (hk0 : zct zM k0 = 10) : Met l yX10_add (Cond.code yX10_add cX10_add 3 none :: TT) (rmd 0) (Pcw zM g w [.ref (g.2.2 k0), .int (v_index), .int (v_objectsToAdd)]) (Qw zM g wz none) 0 0 (zA zM g) := by
  refine mt_start (by decide) (Nat.le_of_ble_eq_true rfl) ?_
  intro p e s m args below meth c H locs ls X hr hl hH
  have hx := X.1
  have hb := X.2.1
  have hml := X.2.2.1
  have hown := X.2.2.2.1
  have ht := X.2.2.2.2.1
  have hl : lv_has ls 3 [(0, .ref (g.2.2 (k0))), (1, .int (v_index)), (2, .int (v_objectsToAdd))] := hl
  unfold f_X10_add at hF
  refine lv_aload_n hx hb dX10_add_0 rfl (lv_at hl 0 rfl) ?_
  refine w_getr X hH hk0 fs_10_24 lk_10_55 dX10_add_1 ?_
  refine lv_iload_n hx hb dX10_add_4 rfl (lv_at hl 1 rfl) ?_
  refine lv_dup2_11 hx hb dX10_add_5 rfl rfl ?_
  obtain ⟨x1, h1, hF⟩ := ob hF
  refine w_iald X hH h1 (rt_M_10_24 hk0) dX10_add_6 ?_
  refine lv_iload_n hx hb dX10_add_7 rfl (lv_at hl 2 rfl) ?_
  refine lv_ior hx hb dX10_add_8 ?_
  obtain ⟨w2, h2, hF⟩ := ob hF
  refine w_iast X hH h2 (rt_M_10_24 hk0) dX10_add_9 (fun H locs hH => ?_)
  obtain rfl := se1 hF
  exact w_vret X hH hr dX10_add_10

theorem dX10_first_0 : decode cX10_first 0 = .ok (.aload_n 0, 1) := by decide +kernel
theorem dX10_first_1 : decode cX10_first 1 = .ok (.getfield 39, 3) := by decide +kernel
theorem dX10_first_4 : decode cX10_first 4 = .ok (.iconst 3, 1) := by decide +kernel
theorem dX10_first_5 : decode cX10_first 5 = .ok (.iconst 4, 1) := by decide +kernel
theorem dX10_first_6 : decode cX10_first 6 = .ok (.iload_n 1, 1) := by decide +kernel
theorem dX10_first_7 : decode cX10_first 7 = .ok (.imul, 1) := by decide +kernel
theorem dX10_first_8 : decode cX10_first 8 = .ok (.iadd, 1) := by decide +kernel
theorem dX10_first_9 : decode cX10_first 9 = .ok (.iaload, 1) := by decide +kernel
theorem dX10_first_10 : decode cX10_first 10 = .ok (.ireturn, 1) := by decide +kernel
set_option maxHeartbeats 4000000 in
set_option maxRecDepth 100000 in
theorem c_X10_first {l : Launch} {g : Gh} {w : Wd} {k0 : Nat} {v_c : Int32} {rz : Int32} (hF : f_X10_first w k0 v_c = some rz) (hk0 : zct zM k0 = 10) : Met l yX10_first (Cond.code yX10_first cX10_first 2 (some .int) :: TT) (rmd 0) (Pcw zM g w [.ref (g.2.2 k0), .int (v_c)]) (Qw zM g w (some (.int (rz)))) 0 0 (zA zM g) := by
  refine mt_start (by decide) (Nat.le_of_ble_eq_true rfl) ?_
  intro p e s m args below meth c H locs ls X hr hl hH
  have hx := X.1
  have hb := X.2.1
  have hml := X.2.2.1
  have hown := X.2.2.2.1
  have ht := X.2.2.2.2.1
  have hl : lv_has ls 2 [(0, .ref (g.2.2 (k0))), (1, .int (v_c))] := hl
  unfold f_X10_first at hF
  refine lv_aload_n hx hb dX10_first_0 rfl (lv_at hl 0 rfl) ?_
  refine w_getr X hH hk0 fs_10_18 lk_10_39 dX10_first_1 ?_
  refine lv_iconst (v := (3 : Int32)) hx hb dX10_first_4 (by decide) ?_
  refine lv_iconst (v := (4 : Int32)) hx hb dX10_first_5 (by decide) ?_
  refine lv_iload_n hx hb dX10_first_6 rfl (lv_at hl 1 rfl) ?_
  refine lv_imul hx hb dX10_first_7 ?_
  refine lv_iadd hx hb dX10_first_8 ?_
  obtain ⟨x1, h1, hF⟩ := ob hF
  refine w_iald X hH h1 (rt_M_10_18 hk0) dX10_first_9 ?_
  obtain rfl := se1 hF
  exact w_iret X hH hr dX10_first_10

theorem dX10_second_0 : decode cX10_second 0 = .ok (.aload_n 0, 1) := by decide +kernel
theorem dX10_second_1 : decode cX10_second 1 = .ok (.getfield 39, 3) := by decide +kernel
theorem dX10_second_4 : decode cX10_second 4 = .ok (.iconst 4, 1) := by decide +kernel
theorem dX10_second_5 : decode cX10_second 5 = .ok (.iconst 4, 1) := by decide +kernel
theorem dX10_second_6 : decode cX10_second 6 = .ok (.iload_n 1, 1) := by decide +kernel
theorem dX10_second_7 : decode cX10_second 7 = .ok (.imul, 1) := by decide +kernel
theorem dX10_second_8 : decode cX10_second 8 = .ok (.iadd, 1) := by decide +kernel
theorem dX10_second_9 : decode cX10_second 9 = .ok (.iaload, 1) := by decide +kernel
theorem dX10_second_10 : decode cX10_second 10 = .ok (.ireturn, 1) := by decide +kernel
set_option maxHeartbeats 4000000 in
set_option maxRecDepth 100000 in
theorem c_X10_second {l : Launch} {g : Gh} {w : Wd} {k0 : Nat} {v_c : Int32} {rz : Int32} (hF : f_X10_second w k0 v_c = some rz) (hk0 : zct zM k0 = 10) : Met l yX10_second (Cond.code yX10_second cX10_second 2 (some .int) :: TT) (rmd 0) (Pcw zM g w [.ref (g.2.2 k0), .int (v_c)]) (Qw zM g w (some (.int (rz)))) 0 0 (zA zM g) := by
  refine mt_start (by decide) (Nat.le_of_ble_eq_true rfl) ?_
  intro p e s m args below meth c H locs ls X hr hl hH
  have hx := X.1
  have hb := X.2.1
  have hml := X.2.2.1
  have hown := X.2.2.2.1
  have ht := X.2.2.2.2.1
  have hl : lv_has ls 2 [(0, .ref (g.2.2 (k0))), (1, .int (v_c))] := hl
  unfold f_X10_second at hF
  refine lv_aload_n hx hb dX10_second_0 rfl (lv_at hl 0 rfl) ?_
  refine w_getr X hH hk0 fs_10_18 lk_10_39 dX10_second_1 ?_
  refine lv_iconst (v := (4 : Int32)) hx hb dX10_second_4 (by decide) ?_
  refine lv_iconst (v := (4 : Int32)) hx hb dX10_second_5 (by decide) ?_
  refine lv_iload_n hx hb dX10_second_6 rfl (lv_at hl 1 rfl) ?_
  refine lv_imul hx hb dX10_second_7 ?_
  refine lv_iadd hx hb dX10_second_8 ?_
  obtain ⟨x1, h1, hF⟩ := ob hF
  refine w_iald X hH h1 (rt_M_10_18 hk0) dX10_second_9 ?_
  obtain rfl := se1 hF
  exact w_iret X hH hr dX10_second_10

theorem dX10_fieldIndex_0 : decode cX10_fieldIndex 0 = .ok (.bipush 16, 2) := by decide +kernel
theorem dX10_fieldIndex_2 : decode cX10_fieldIndex 2 = .ok (.iconst 4, 1) := by decide +kernel
theorem dX10_fieldIndex_3 : decode cX10_fieldIndex 3 = .ok (.iload_n 0, 1) := by decide +kernel
theorem dX10_fieldIndex_4 : decode cX10_fieldIndex 4 = .ok (.imul, 1) := by decide +kernel
theorem dX10_fieldIndex_5 : decode cX10_fieldIndex 5 = .ok (.iadd, 1) := by decide +kernel
theorem dX10_fieldIndex_6 : decode cX10_fieldIndex 6 = .ok (.iload_n 1, 1) := by decide +kernel
theorem dX10_fieldIndex_7 : decode cX10_fieldIndex 7 = .ok (.iadd, 1) := by decide +kernel
theorem dX10_fieldIndex_8 : decode cX10_fieldIndex 8 = .ok (.ireturn, 1) := by decide +kernel
set_option maxHeartbeats 4000000 in
set_option maxRecDepth 100000 in
theorem c_X10_fieldIndex {l : Launch} {g : Gh} {w : Wd} {v_o : Int32} {v_f : Int32} {rz : Int32} (hF : f_X10_fieldIndex v_o v_f = rz)  : Met l yX10_fieldIndex (Cond.code yX10_fieldIndex cX10_fieldIndex 2 (some .int) :: TT) (rmd 0) (Pcw zM g w [.int (v_o), .int (v_f)]) (Qw zM g w (some (.int (rz)))) 0 0 (zA zM g) := by
  refine mt_start (by decide) (Nat.le_of_ble_eq_true rfl) ?_
  intro p e s m args below meth c H locs ls X hr hl hH
  have hx := X.1
  have hb := X.2.1
  have hml := X.2.2.1
  have hown := X.2.2.2.1
  have ht := X.2.2.2.2.1
  have hl : lv_has ls 2 [(0, .int (v_o)), (1, .int (v_f))] := hl
  unfold f_X10_fieldIndex at hF
  refine lv_bipush (v := (16 : Int32)) hx hb dX10_fieldIndex_0 (by decide) ?_
  refine lv_iconst (v := (4 : Int32)) hx hb dX10_fieldIndex_2 (by decide) ?_
  refine lv_iload_n hx hb dX10_fieldIndex_3 rfl (lv_at hl 0 rfl) ?_
  refine lv_imul hx hb dX10_fieldIndex_4 ?_
  refine lv_iadd hx hb dX10_fieldIndex_5 ?_
  refine lv_iload_n hx hb dX10_fieldIndex_6 rfl (lv_at hl 1 rfl) ?_
  refine lv_iadd hx hb dX10_fieldIndex_7 ?_
  subst hF
  exact w_iret X hH hr dX10_fieldIndex_8

theorem dX10_third_0 : decode cX10_third 0 = .ok (.aload_n 0, 1) := by decide +kernel
theorem dX10_third_1 : decode cX10_third 1 = .ok (.getfield 39, 3) := by decide +kernel
theorem dX10_third_4 : decode cX10_third 4 = .ok (.iconst 5, 1) := by decide +kernel
theorem dX10_third_5 : decode cX10_third 5 = .ok (.iconst 4, 1) := by decide +kernel
theorem dX10_third_6 : decode cX10_third 6 = .ok (.iload_n 1, 1) := by decide +kernel
theorem dX10_third_7 : decode cX10_third 7 = .ok (.imul, 1) := by decide +kernel
theorem dX10_third_8 : decode cX10_third 8 = .ok (.iadd, 1) := by decide +kernel
theorem dX10_third_9 : decode cX10_third 9 = .ok (.iaload, 1) := by decide +kernel
theorem dX10_third_10 : decode cX10_third 10 = .ok (.ireturn, 1) := by decide +kernel
set_option maxHeartbeats 4000000 in
set_option maxRecDepth 100000 in
theorem c_X10_third {l : Launch} {g : Gh} {w : Wd} {k0 : Nat} {v_c : Int32} {rz : Int32} (hF : f_X10_third w k0 v_c = some rz) (hk0 : zct zM k0 = 10) : Met l yX10_third (Cond.code yX10_third cX10_third 2 (some .int) :: TT) (rmd 0) (Pcw zM g w [.ref (g.2.2 k0), .int (v_c)]) (Qw zM g w (some (.int (rz)))) 0 0 (zA zM g) := by
  refine mt_start (by decide) (Nat.le_of_ble_eq_true rfl) ?_
  intro p e s m args below meth c H locs ls X hr hl hH
  have hx := X.1
  have hb := X.2.1
  have hml := X.2.2.1
  have hown := X.2.2.2.1
  have ht := X.2.2.2.2.1
  have hl : lv_has ls 2 [(0, .ref (g.2.2 (k0))), (1, .int (v_c))] := hl
  unfold f_X10_third at hF
  refine lv_aload_n hx hb dX10_third_0 rfl (lv_at hl 0 rfl) ?_
  refine w_getr X hH hk0 fs_10_18 lk_10_39 dX10_third_1 ?_
  refine lv_iconst (v := (5 : Int32)) hx hb dX10_third_4 (by decide) ?_
  refine lv_iconst (v := (4 : Int32)) hx hb dX10_third_5 (by decide) ?_
  refine lv_iload_n hx hb dX10_third_6 rfl (lv_at hl 1 rfl) ?_
  refine lv_imul hx hb dX10_third_7 ?_
  refine lv_iadd hx hb dX10_third_8 ?_
  obtain ⟨x1, h1, hF⟩ := ob hF
  refine w_iald X hH h1 (rt_M_10_18 hk0) dX10_third_9 ?_
  obtain rfl := se1 hF
  exact w_iret X hH hr dX10_third_10

theorem dX10_isFunction_0 : decode cX10_isFunction 0 = .ok (.aload_n 0, 1) := by decide +kernel
theorem dX10_isFunction_1 : decode cX10_isFunction 1 = .ok (.getfield 33, 3) := by decide +kernel
theorem dX10_isFunction_4 : decode cX10_isFunction 4 = .ok (.iload_n 1, 1) := by decide +kernel
theorem dX10_isFunction_5 : decode cX10_isFunction 5 = .ok (.iaload, 1) := by decide +kernel
theorem dX10_isFunction_6 : decode cX10_isFunction 6 = .ok (.bipush (-2), 2) := by decide +kernel
theorem dX10_isFunction_8 : decode cX10_isFunction 8 = .ok (.if_icmp .eq 7, 3) := by decide +kernel
theorem dX10_isFunction_11 : decode cX10_isFunction 11 = .ok (.iconst 1, 1) := by decide +kernel
theorem dX10_isFunction_12 : decode cX10_isFunction 12 = .ok (.goto 4, 3) := by decide +kernel
theorem dX10_isFunction_15 : decode cX10_isFunction 15 = .ok (.iconst 0, 1) := by decide +kernel
theorem dX10_isFunction_16 : decode cX10_isFunction 16 = .ok (.ireturn, 1) := by decide +kernel
set_option maxHeartbeats 4000000 in
set_option maxRecDepth 100000 in
theorem c_X10_isFunction {l : Launch} {g : Gh} {w : Wd} {k0 : Nat} {v_o : Int32} {rz : Bool} (hF : f_X10_isFunction w k0 v_o = some rz) (hk0 : zct zM k0 = 10) : Met l yX10_isFunction (Cond.code yX10_isFunction cX10_isFunction 2 (some .boolean) :: TT) (rmd 0) (Pcw zM g w [.ref (g.2.2 k0), .int (v_o)]) (Qw zM g w (some (.int (bI (rz))))) 0 0 (zA zM g) := by
  refine mt_start (by decide) (Nat.le_of_ble_eq_true rfl) ?_
  intro p e s m args below meth c H locs ls X hr hl hH
  have hx := X.1
  have hb := X.2.1
  have hml := X.2.2.1
  have hown := X.2.2.2.1
  have ht := X.2.2.2.2.1
  have hl : lv_has ls 2 [(0, .ref (g.2.2 (k0))), (1, .int (v_o))] := hl
  unfold f_X10_isFunction at hF
  refine lv_aload_n hx hb dX10_isFunction_0 rfl (lv_at hl 0 rfl) ?_
  refine w_getr X hH hk0 fs_10_16 lk_10_33 dX10_isFunction_1 ?_
  refine lv_iload_n hx hb dX10_isFunction_4 rfl (lv_at hl 1 rfl) ?_
  obtain ⟨x2, h2, hF⟩ := ob hF
  refine w_iald X hH h2 (rt_M_10_16 hk0) dX10_isFunction_5 ?_
  refine lv_bipush (v := (-2 : Int32)) hx hb dX10_isFunction_6 (by decide) ?_
  have J1 : ∀ (H : Heap) (locs : List Loc), HW zM g w s.heap H locs → W p l e (rmd 0) s m args below meth c H locs 0 0 (MQ below (Qw zM g w (some (.int (bI (rz))))) args s 0 0 (zA zM g)) (F0 m 16 ls [.int (bI ((decide (¬ (x2 = (-2 : Int32))))))]) := by
    intro H locs hH
    obtain rfl := se1 hF
    exact w_zret X hH hr dX10_isFunction_16
  refine w_ine_f (tgt := 15) hx hb dX10_isFunction_8 (by decide) (fun c3 => ?_) (fun c3 => ?_)
  · refine lv_iconst (v := (0 : Int32)) hx hb dX10_isFunction_15 (by decide) ?_
    exact w_b0 c3 (J1 _ _ hH)
  · refine lv_iconst (v := (1 : Int32)) hx hb dX10_isFunction_11 (by decide) ?_
    refine lv_goto (tgt := 16) hx hb dX10_isFunction_12 (by decide) ?_
    exact w_b1 c3 (J1 _ _ hH)

theorem dX10_apply_0 : decode cX10_apply 0 = .ok (.aload_n 0, 1) := by decide +kernel
theorem dX10_apply_1 : decode cX10_apply 1 = .ok (.iload_n 1, 1) := by decide +kernel
theorem dX10_apply_2 : decode cX10_apply 2 = .ok (.invokevirtual 217, 3) := by decide +kernel
theorem dX10_apply_5 : decode cX10_apply 5 = .ok (.tableswitch 194 0 3 #[31, 50, 72, 133], 31) := by decide +kernel
theorem dX10_apply_36 : decode cX10_apply 36 = .ok (.aload_n 0, 1) := by decide +kernel
theorem dX10_apply_37 : decode cX10_apply 37 = .ok (.aload_n 0, 1) := by decide +kernel
theorem dX10_apply_38 : decode cX10_apply 38 = .ok (.iload_n 1, 1) := by decide +kernel
theorem dX10_apply_39 : decode cX10_apply 39 = .ok (.invokevirtual 231, 3) := by decide +kernel
theorem dX10_apply_42 : decode cX10_apply 42 = .ok (.iconst 1, 1) := by decide +kernel
theorem dX10_apply_43 : decode cX10_apply 43 = .ok (.aload_n 0, 1) := by decide +kernel
theorem dX10_apply_44 : decode cX10_apply 44 = .ok (.iload_n 1, 1) := by decide +kernel
theorem dX10_apply_45 : decode cX10_apply 45 = .ok (.invokevirtual 234, 3) := by decide +kernel
theorem dX10_apply_48 : decode cX10_apply 48 = .ok (.ishl, 1) := by decide +kernel
theorem dX10_apply_49 : decode cX10_apply 49 = .ok (.invokevirtual 237, 3) := by decide +kernel
theorem dX10_apply_52 : decode cX10_apply 52 = .ok (.goto 233, 3) := by decide +kernel
theorem dX10_apply_55 : decode cX10_apply 55 = .ok (.aload_n 0, 1) := by decide +kernel
theorem dX10_apply_56 : decode cX10_apply 56 = .ok (.aload_n 0, 1) := by decide +kernel
theorem dX10_apply_57 : decode cX10_apply 57 = .ok (.iload_n 1, 1) := by decide +kernel
theorem dX10_apply_58 : decode cX10_apply 58 = .ok (.invokevirtual 231, 3) := by decide +kernel
theorem dX10_apply_61 : decode cX10_apply 61 = .ok (.aload_n 0, 1) := by decide +kernel
theorem dX10_apply_62 : decode cX10_apply 62 = .ok (.getfield 58, 3) := by decide +kernel
theorem dX10_apply_65 : decode cX10_apply 65 = .ok (.aload_n 0, 1) := by decide +kernel
theorem dX10_apply_66 : decode cX10_apply 66 = .ok (.iload_n 1, 1) := by decide +kernel
theorem dX10_apply_67 : decode cX10_apply 67 = .ok (.invokevirtual 234, 3) := by decide +kernel
theorem dX10_apply_70 : decode cX10_apply 70 = .ok (.iaload, 1) := by decide +kernel
theorem dX10_apply_71 : decode cX10_apply 71 = .ok (.invokevirtual 237, 3) := by decide +kernel
theorem dX10_apply_74 : decode cX10_apply 74 = .ok (.goto 211, 3) := by decide +kernel
theorem dX10_apply_77 : decode cX10_apply 77 = .ok (.iconst 0, 1) := by decide +kernel
theorem dX10_apply_78 : decode cX10_apply 78 = .ok (.istore_n 2, 1) := by decide +kernel
theorem dX10_apply_79 : decode cX10_apply 79 = .ok (.iload_n 2, 1) := by decide +kernel
theorem dX10_apply_80 : decode cX10_apply 80 = .ok (.aload_n 0, 1) := by decide +kernel
theorem dX10_apply_81 : decode cX10_apply 81 = .ok (.getfield 17, 3) := by decide +kernel
theorem dX10_apply_84 : decode cX10_apply 84 = .ok (.iconst 0, 1) := by decide +kernel
theorem dX10_apply_85 : decode cX10_apply 85 = .ok (.iaload, 1) := by decide +kernel
theorem dX10_apply_86 : decode cX10_apply 86 = .ok (.if_icmp .ge 49, 3) := by decide +kernel
theorem dX10_apply_89 : decode cX10_apply 89 = .ok (.aload_n 0, 1) := by decide +kernel
theorem dX10_apply_90 : decode cX10_apply 90 = .ok (.getfield 58, 3) := by decide +kernel
theorem dX10_apply_93 : decode cX10_apply 93 = .ok (.aload_n 0, 1) := by decide +kernel
theorem dX10_apply_94 : decode cX10_apply 94 = .ok (.iload_n 1, 1) := by decide +kernel
theorem dX10_apply_95 : decode cX10_apply 95 = .ok (.invokevirtual 234, 3) := by decide +kernel
theorem dX10_apply_98 : decode cX10_apply 98 = .ok (.iaload, 1) := by decide +kernel
theorem dX10_apply_99 : decode cX10_apply 99 = .ok (.iload_n 2, 1) := by decide +kernel
theorem dX10_apply_100 : decode cX10_apply 100 = .ok (.invokestatic 210, 3) := by decide +kernel
theorem dX10_apply_103 : decode cX10_apply 103 = .ok (.ifCond .eq 26, 3) := by decide +kernel
theorem dX10_apply_106 : decode cX10_apply 106 = .ok (.aload_n 0, 1) := by decide +kernel
theorem dX10_apply_107 : decode cX10_apply 107 = .ok (.aload_n 0, 1) := by decide +kernel
theorem dX10_apply_108 : decode cX10_apply 108 = .ok (.iload_n 1, 1) := by decide +kernel
theorem dX10_apply_109 : decode cX10_apply 109 = .ok (.invokevirtual 231, 3) := by decide +kernel
theorem dX10_apply_112 : decode cX10_apply 112 = .ok (.aload_n 0, 1) := by decide +kernel
theorem dX10_apply_113 : decode cX10_apply 113 = .ok (.getfield 58, 3) := by decide +kernel
theorem dX10_apply_116 : decode cX10_apply 116 = .ok (.iload_n 2, 1) := by decide +kernel
theorem dX10_apply_117 : decode cX10_apply 117 = .ok (.aload_n 0, 1) := by decide +kernel
theorem dX10_apply_118 : decode cX10_apply 118 = .ok (.iload_n 1, 1) := by decide +kernel
theorem dX10_apply_119 : decode cX10_apply 119 = .ok (.invokevirtual 241, 3) := by decide +kernel
theorem dX10_apply_122 : decode cX10_apply 122 = .ok (.invokestatic 244, 3) := by decide +kernel
theorem dX10_apply_125 : decode cX10_apply 125 = .ok (.iaload, 1) := by decide +kernel
theorem dX10_apply_126 : decode cX10_apply 126 = .ok (.invokevirtual 237, 3) := by decide +kernel
theorem dX10_apply_129 : decode cX10_apply 129 = .ok (.iinc 2 1, 3) := by decide +kernel
theorem dX10_apply_132 : decode cX10_apply 132 = .ok (.goto (-53), 3) := by decide +kernel
theorem dX10_apply_135 : decode cX10_apply 135 = .ok (.goto 150, 3) := by decide +kernel
theorem dX10_apply_138 : decode cX10_apply 138 = .ok (.iconst 0, 1) := by decide +kernel
theorem dX10_apply_139 : decode cX10_apply 139 = .ok (.istore_n 2, 1) := by decide +kernel
theorem dX10_apply_140 : decode cX10_apply 140 = .ok (.iload_n 2, 1) := by decide +kernel
theorem dX10_apply_141 : decode cX10_apply 141 = .ok (.aload_n 0, 1) := by decide +kernel
theorem dX10_apply_142 : decode cX10_apply 142 = .ok (.getfield 17, 3) := by decide +kernel
theorem dX10_apply_145 : decode cX10_apply 145 = .ok (.iconst 0, 1) := by decide +kernel
theorem dX10_apply_146 : decode cX10_apply 146 = .ok (.iaload, 1) := by decide +kernel
theorem dX10_apply_147 : decode cX10_apply 147 = .ok (.if_icmp .ge 49, 3) := by decide +kernel
theorem dX10_apply_150 : decode cX10_apply 150 = .ok (.aload_n 0, 1) := by decide +kernel
theorem dX10_apply_151 : decode cX10_apply 151 = .ok (.getfield 58, 3) := by decide +kernel
theorem dX10_apply_154 : decode cX10_apply 154 = .ok (.aload_n 0, 1) := by decide +kernel
theorem dX10_apply_155 : decode cX10_apply 155 = .ok (.iload_n 1, 1) := by decide +kernel
theorem dX10_apply_156 : decode cX10_apply 156 = .ok (.invokevirtual 231, 3) := by decide +kernel
theorem dX10_apply_159 : decode cX10_apply 159 = .ok (.iaload, 1) := by decide +kernel
theorem dX10_apply_160 : decode cX10_apply 160 = .ok (.iload_n 2, 1) := by decide +kernel
theorem dX10_apply_161 : decode cX10_apply 161 = .ok (.invokestatic 210, 3) := by decide +kernel
theorem dX10_apply_164 : decode cX10_apply 164 = .ok (.ifCond .eq 26, 3) := by decide +kernel
theorem dX10_apply_167 : decode cX10_apply 167 = .ok (.aload_n 0, 1) := by decide +kernel
theorem dX10_apply_168 : decode cX10_apply 168 = .ok (.iload_n 2, 1) := by decide +kernel
theorem dX10_apply_169 : decode cX10_apply 169 = .ok (.aload_n 0, 1) := by decide +kernel
theorem dX10_apply_170 : decode cX10_apply 170 = .ok (.iload_n 1, 1) := by decide +kernel
theorem dX10_apply_171 : decode cX10_apply 171 = .ok (.invokevirtual 234, 3) := by decide +kernel
theorem dX10_apply_174 : decode cX10_apply 174 = .ok (.invokestatic 244, 3) := by decide +kernel
theorem dX10_apply_177 : decode cX10_apply 177 = .ok (.aload_n 0, 1) := by decide +kernel
theorem dX10_apply_178 : decode cX10_apply 178 = .ok (.getfield 58, 3) := by decide +kernel
theorem dX10_apply_181 : decode cX10_apply 181 = .ok (.aload_n 0, 1) := by decide +kernel
theorem dX10_apply_182 : decode cX10_apply 182 = .ok (.iload_n 1, 1) := by decide +kernel
theorem dX10_apply_183 : decode cX10_apply 183 = .ok (.invokevirtual 241, 3) := by decide +kernel
theorem dX10_apply_186 : decode cX10_apply 186 = .ok (.iaload, 1) := by decide +kernel
theorem dX10_apply_187 : decode cX10_apply 187 = .ok (.invokevirtual 237, 3) := by decide +kernel
theorem dX10_apply_190 : decode cX10_apply 190 = .ok (.iinc 2 1, 3) := by decide +kernel
theorem dX10_apply_193 : decode cX10_apply 193 = .ok (.goto (-53), 3) := by decide +kernel
theorem dX10_apply_196 : decode cX10_apply 196 = .ok (.goto 89, 3) := by decide +kernel
theorem dX10_apply_199 : decode cX10_apply 199 = .ok (.iconst 0, 1) := by decide +kernel
theorem dX10_apply_200 : decode cX10_apply 200 = .ok (.istore_n 2, 1) := by decide +kernel
theorem dX10_apply_201 : decode cX10_apply 201 = .ok (.iload_n 2, 1) := by decide +kernel
theorem dX10_apply_202 : decode cX10_apply 202 = .ok (.aload_n 0, 1) := by decide +kernel
theorem dX10_apply_203 : decode cX10_apply 203 = .ok (.getfield 17, 3) := by decide +kernel
theorem dX10_apply_206 : decode cX10_apply 206 = .ok (.iconst 0, 1) := by decide +kernel
theorem dX10_apply_207 : decode cX10_apply 207 = .ok (.iaload, 1) := by decide +kernel
theorem dX10_apply_208 : decode cX10_apply 208 = .ok (.if_icmp .ge 77, 3) := by decide +kernel
theorem dX10_apply_211 : decode cX10_apply 211 = .ok (.aload_n 0, 1) := by decide +kernel
theorem dX10_apply_212 : decode cX10_apply 212 = .ok (.getfield 58, 3) := by decide +kernel
theorem dX10_apply_215 : decode cX10_apply 215 = .ok (.aload_n 0, 1) := by decide +kernel
theorem dX10_apply_216 : decode cX10_apply 216 = .ok (.iload_n 1, 1) := by decide +kernel
theorem dX10_apply_217 : decode cX10_apply 217 = .ok (.invokevirtual 234, 3) := by decide +kernel
theorem dX10_apply_220 : decode cX10_apply 220 = .ok (.iaload, 1) := by decide +kernel
theorem dX10_apply_221 : decode cX10_apply 221 = .ok (.iload_n 2, 1) := by decide +kernel
theorem dX10_apply_222 : decode cX10_apply 222 = .ok (.invokestatic 210, 3) := by decide +kernel
theorem dX10_apply_225 : decode cX10_apply 225 = .ok (.ifCond .eq 54, 3) := by decide +kernel
theorem dX10_apply_228 : decode cX10_apply 228 = .ok (.aload_n 0, 1) := by decide +kernel
theorem dX10_apply_229 : decode cX10_apply 229 = .ok (.iload_n 2, 1) := by decide +kernel
theorem dX10_apply_230 : decode cX10_apply 230 = .ok (.invokevirtual 203, 3) := by decide +kernel
theorem dX10_apply_233 : decode cX10_apply 233 = .ok (.ifCond .ne 6, 3) := by decide +kernel
theorem dX10_apply_236 : decode cX10_apply 236 = .ok (.goto 43, 3) := by decide +kernel
theorem dX10_apply_239 : decode cX10_apply 239 = .ok (.aload_n 0, 1) := by decide +kernel
theorem dX10_apply_240 : decode cX10_apply 240 = .ok (.aload_n 0, 1) := by decide +kernel
theorem dX10_apply_241 : decode cX10_apply 241 = .ok (.getfield 33, 3) := by decide +kernel
theorem dX10_apply_244 : decode cX10_apply 244 = .ok (.iload_n 2, 1) := by decide +kernel
theorem dX10_apply_245 : decode cX10_apply 245 = .ok (.iaload, 1) := by decide +kernel
theorem dX10_apply_246 : decode cX10_apply 246 = .ok (.aload_n 0, 1) := by decide +kernel
theorem dX10_apply_247 : decode cX10_apply 247 = .ok (.getfield 58, 3) := by decide +kernel
theorem dX10_apply_250 : decode cX10_apply 250 = .ok (.aload_n 0, 1) := by decide +kernel
theorem dX10_apply_251 : decode cX10_apply 251 = .ok (.iload_n 1, 1) := by decide +kernel
theorem dX10_apply_252 : decode cX10_apply 252 = .ok (.invokevirtual 241, 3) := by decide +kernel
theorem dX10_apply_255 : decode cX10_apply 255 = .ok (.iaload, 1) := by decide +kernel
theorem dX10_apply_256 : decode cX10_apply 256 = .ok (.invokevirtual 237, 3) := by decide +kernel
theorem dX10_apply_259 : decode cX10_apply 259 = .ok (.aload_n 0, 1) := by decide +kernel
theorem dX10_apply_260 : decode cX10_apply 260 = .ok (.aload_n 0, 1) := by decide +kernel
theorem dX10_apply_261 : decode cX10_apply 261 = .ok (.iload_n 1, 1) := by decide +kernel
theorem dX10_apply_262 : decode cX10_apply 262 = .ok (.invokevirtual 231, 3) := by decide +kernel
theorem dX10_apply_265 : decode cX10_apply 265 = .ok (.aload_n 0, 1) := by decide +kernel
theorem dX10_apply_266 : decode cX10_apply 266 = .ok (.getfield 58, 3) := by decide +kernel
theorem dX10_apply_269 : decode cX10_apply 269 = .ok (.aload_n 0, 1) := by decide +kernel
theorem dX10_apply_270 : decode cX10_apply 270 = .ok (.getfield 36, 3) := by decide +kernel
theorem dX10_apply_273 : decode cX10_apply 273 = .ok (.iload_n 2, 1) := by decide +kernel
theorem dX10_apply_274 : decode cX10_apply 274 = .ok (.iaload, 1) := by decide +kernel
theorem dX10_apply_275 : decode cX10_apply 275 = .ok (.iaload, 1) := by decide +kernel
theorem dX10_apply_276 : decode cX10_apply 276 = .ok (.invokevirtual 237, 3) := by decide +kernel
theorem dX10_apply_279 : decode cX10_apply 279 = .ok (.iinc 2 1, 3) := by decide +kernel
theorem dX10_apply_282 : decode cX10_apply 282 = .ok (.goto (-81), 3) := by decide +kernel
theorem dX10_apply_285 : decode cX10_apply 285 = .ok (.return_, 1) := by decide +kernel
set_option maxHeartbeats 4000000 in
set_option maxRecDepth 100000 in
theorem c_X10_apply {l : Launch} {g : Gh} {w : Wd} {k0 : Nat} {v_c : Int32} {wz : Wd} (hF : f_X10_apply w k0 v_c = some wz) (hk0 : zct zM k0 = 10) : Met l yX10_apply (Cond.code yX10_apply cX10_apply 3 none :: TT) (rmd 1) (Pcw zM g w [.ref (g.2.2 k0), .int (v_c)]) (Qw zM g wz none) 0 0 (zA zM g) := by
  refine mt_start (by decide) (Nat.le_of_ble_eq_true rfl) ?_
  intro p e s m args below meth c H locs ls X hr hl hH
  have hx := X.1
  have hb := X.2.1
  have hml := X.2.2.1
  have hown := X.2.2.2.1
  have ht := X.2.2.2.2.1
  have hl : lv_has ls 3 [(0, .ref (g.2.2 (k0))), (1, .int (v_c))] := hl
  unfold f_X10_apply at hF
  refine lv_aload_n hx hb dX10_apply_0 rfl (lv_at hl 0 rfl) ?_
  refine lv_iload_n hx hb dX10_apply_1 rfl (lv_at hl 1 rfl) ?_
  obtain ⟨x2, h2, hF⟩ := ob hF
  refine w_callV (As := [.int (v_c)]) (k := k0) (rest := []) (st1 := [.int (x2)]) X hH (c_X10_kind (l := l) (g := g) (w := w) (k0 := k0) (v_c := v_c) h2 hk0) (Or.inl tw_5_48) ms_X10_kind im_X10_kind hk0 cn_10 ⟨Nat.le_of_ble_eq_true rfl, Nat.le_of_ble_eq_true rfl⟩ rfl rfl hl.1 (Nat.le_of_ble_eq_true rfl) dX10_apply_2 ⟨Nat.le_refl _, Nat.le_refl _⟩ rfl (fun H locs hH => ?_)
  obtain ⟨s1, hs1, hF⟩ := ob hF
  have Js1 : ∀ (H : Heap) (locs : List Loc) (ls : Array Slot), HW zM g s1 s.heap H locs → lv_has ls 3 [(0, .ref (g.2.2 (k0))), (1, .int (v_c))] → W p l e (rmd 1) s m args below meth c H locs 0 0 (MQ below (Qw zM g wz none) args s 0 0 (zA zM g)) (F0 m 285 ls []) := by
    intro H locs ls hH hl
    obtain rfl := se1 hF
    exact w_vret X hH hr dX10_apply_285
  have hF := hs1
  by_cases c3 : x2 = (0 : Int32)
  · replace hF := ifp c3 hF
    refine w_tin (tgt := 36) hx hb c3 dX10_apply_5 (by decide) (by decide) rfl (by decide) ?_
    refine lv_aload_n hx hb dX10_apply_36 rfl (lv_at hl 0 rfl) ?_
    refine lv_aload_n hx hb dX10_apply_37 rfl (lv_at hl 0 rfl) ?_
    refine lv_iload_n hx hb dX10_apply_38 rfl (lv_at hl 1 rfl) ?_
    obtain ⟨x4, h4, hF⟩ := ob hF
    refine w_callV (As := [.int (v_c)]) (k := k0) (rest := [.ref (g.2.2 (k0))]) (st1 := [.int (x4), .ref (g.2.2 (k0))]) X hH (c_X10_first (l := l) (g := g) (w := w) (k0 := k0) (v_c := v_c) h4 hk0) (Or.inl tw_5_52) ms_X10_first im_X10_first hk0 cn_10 ⟨Nat.le_of_ble_eq_true rfl, Nat.le_of_ble_eq_true rfl⟩ rfl rfl hl.1 (Nat.le_of_ble_eq_true rfl) dX10_apply_39 ⟨Nat.le_refl _, Nat.le_refl _⟩ rfl (fun H locs hH => ?_)
    refine lv_iconst (v := (1 : Int32)) hx hb dX10_apply_42 (by decide) ?_
    refine lv_aload_n hx hb dX10_apply_43 rfl (lv_at hl 0 rfl) ?_
    refine lv_iload_n hx hb dX10_apply_44 rfl (lv_at hl 1 rfl) ?_
    obtain ⟨x5, h5, hF⟩ := ob hF
    refine w_callV (As := [.int (v_c)]) (k := k0) (rest := [.int ((1 : Int32)), .int (x4), .ref (g.2.2 (k0))]) (st1 := [.int (x5), .int ((1 : Int32)), .int (x4), .ref (g.2.2 (k0))]) X hH (c_X10_second (l := l) (g := g) (w := w) (k0 := k0) (v_c := v_c) h5 hk0) (Or.inl tw_5_56) ms_X10_second im_X10_second hk0 cn_10 ⟨Nat.le_of_ble_eq_true rfl, Nat.le_of_ble_eq_true rfl⟩ rfl rfl hl.1 (Nat.le_of_ble_eq_true rfl) dX10_apply_45 ⟨Nat.le_refl _, Nat.le_refl _⟩ rfl (fun H locs hH => ?_)
    refine w_ishl hx hb dX10_apply_48 ?_
    obtain ⟨w6, h6, hF⟩ := ob hF
    refine w_callV (As := [.int (x4), .int ((jshl ((1 : Int32)) (x5)))]) (k := k0) (rest := []) (st1 := []) X hH (c_X10_add (l := l) (g := g) (w := w) (k0 := k0) (v_index := x4) (v_objectsToAdd := (jshl ((1 : Int32)) (x5))) h6 hk0) (Or.inl tw_5_60) ms_X10_add im_X10_add hk0 cn_10 ⟨Nat.le_of_ble_eq_true rfl, Nat.le_of_ble_eq_true rfl⟩ rfl rfl hl.1 (Nat.le_of_ble_eq_true rfl) dX10_apply_49 ⟨Nat.le_refl _, Nat.le_refl _⟩ rfl (fun H locs hH => ?_)
    refine lv_goto (tgt := 285) hx hb dX10_apply_52 (by decide) ?_
    obtain rfl := se1 hF
    exact Js1 _ _ _ hH (lv_sub hl [0, 1] rfl)
  · replace hF := ifn c3 hF
    by_cases c7 : x2 = (1 : Int32)
    · replace hF := ifp c7 hF
      refine w_tin (tgt := 55) hx hb c7 dX10_apply_5 (by decide) (by decide) rfl (by decide) ?_
      refine lv_aload_n hx hb dX10_apply_55 rfl (lv_at hl 0 rfl) ?_
      refine lv_aload_n hx hb dX10_apply_56 rfl (lv_at hl 0 rfl) ?_
      refine lv_iload_n hx hb dX10_apply_57 rfl (lv_at hl 1 rfl) ?_
      obtain ⟨x8, h8, hF⟩ := ob hF
      refine w_callV (As := [.int (v_c)]) (k := k0) (rest := [.ref (g.2.2 (k0))]) (st1 := [.int (x8), .ref (g.2.2 (k0))]) X hH (c_X10_first (l := l) (g := g) (w := w) (k0 := k0) (v_c := v_c) h8 hk0) (Or.inl tw_5_52) ms_X10_first im_X10_first hk0 cn_10 ⟨Nat.le_of_ble_eq_true rfl, Nat.le_of_ble_eq_true rfl⟩ rfl rfl hl.1 (Nat.le_of_ble_eq_true rfl) dX10_apply_58 ⟨Nat.le_refl _, Nat.le_refl _⟩ rfl (fun H locs hH => ?_)
      refine lv_aload_n hx hb dX10_apply_61 rfl (lv_at hl 0 rfl) ?_
      refine w_getr X hH hk0 fs_10_25 lk_10_58 dX10_apply_62 ?_
      refine lv_aload_n hx hb dX10_apply_65 rfl (lv_at hl 0 rfl) ?_
      refine lv_iload_n hx hb dX10_apply_66 rfl (lv_at hl 1 rfl) ?_
      obtain ⟨x9, h9, hF⟩ := ob hF
      refine w_callV (As := [.int (v_c)]) (k := k0) (rest := [.ref (g.2.2 ((zrf zM (k0) 25))), .int (x8), .ref (g.2.2 (k0))]) (st1 := [.int (x9), .ref (g.2.2 ((zrf zM (k0) 25))), .int (x8), .ref (g.2.2 (k0))]) X hH (c_X10_second (l := l) (g := g) (w := w) (k0 := k0) (v_c := v_c) h9 hk0) (Or.inl tw_5_56) ms_X10_second im_X10_second hk0 cn_10 ⟨Nat.le_of_ble_eq_true rfl, Nat.le_of_ble_eq_true rfl⟩ rfl rfl hl.1 (Nat.le_of_ble_eq_true rfl) dX10_apply_67 ⟨Nat.le_refl _, Nat.le_refl _⟩ rfl (fun H locs hH => ?_)
      obtain ⟨x10, h10, hF⟩ := ob hF
      refine w_iald X hH h10 (rt_M_10_25 hk0) dX10_apply_70 ?_
      obtain ⟨w11, h11, hF⟩ := ob hF
      refine w_callV (As := [.int (x8), .int (x10)]) (k := k0) (rest := []) (st1 := []) X hH (c_X10_add (l := l) (g := g) (w := w) (k0 := k0) (v_index := x8) (v_objectsToAdd := x10) h11 hk0) (Or.inl tw_5_60) ms_X10_add im_X10_add hk0 cn_10 ⟨Nat.le_of_ble_eq_true rfl, Nat.le_of_ble_eq_true rfl⟩ rfl rfl hl.1 (Nat.le_of_ble_eq_true rfl) dX10_apply_71 ⟨Nat.le_refl _, Nat.le_refl _⟩ rfl (fun H locs hH => ?_)
      refine lv_goto (tgt := 285) hx hb dX10_apply_74 (by decide) ?_
      obtain rfl := se1 hF
      exact Js1 _ _ _ hH (lv_sub hl [0, 1] rfl)
    · replace hF := ifn c7 hF
      by_cases c12 : x2 = (2 : Int32)
      · replace hF := ifp c12 hF
        refine w_tin (tgt := 77) hx hb c12 dX10_apply_5 (by decide) (by decide) rfl (by decide) ?_
        refine lv_iconst (v := (0 : Int32)) hx hb dX10_apply_77 (by decide) ?_
        refine lv_istore_n (lv' := [(2, .int ((0 : Int32))), (0, .ref (g.2.2 (k0))), (1, .int (v_c))]) hx hb dX10_apply_78 rfl hl (by decide) rfl (fun ls hl => ?_)
        obtain ⟨r14, hLr14, hF⟩ := ob hF
        have Jr14 : ∀ (H : Heap) (locs : List Loc) (ls : Array Slot), HW zM g r14 s.heap H locs → lv_has ls 3 [(0, .ref (g.2.2 (k0))), (1, .int (v_c))] → W p l e (rmd 1) s m args below meth c H locs 0 0 (MQ below (Qw zM g wz none) args s 0 0 (zA zM g)) (F0 m 135 ls []) := by
          intro H locs ls hH hl
          refine lv_goto (tgt := 285) hx hb dX10_apply_135 (by decide) ?_
          obtain rfl := se1 hF
          exact Js1 _ _ _ hH (lv_sub hl [0, 1] rfl)
        have Lr14 : ∀ (n : Nat) (s13 : Int32 × Wd), lp (b_X10_apply_1 k0 v_c) n s13 = some r14 → ∀ (H : Heap) (locs : List Loc) (ls : Array Slot), HW zM g s13.2 s.heap H locs → lv_has ls 3 [(0, .ref (g.2.2 (k0))), (1, .int (v_c)), (2, .int (s13.1))] → W p l e (rmd 1) s m args below meth c H locs 0 0 (MQ below (Qw zM g wz none) args s 0 0 (zA zM g)) (F0 m 79 ls []) := by
          intro n
          induction n with
          | zero => intro s13 hL; exact lp_0 hL
          | succ n ih =>
            intro s13 hL H locs ls hH hl
            obtain ⟨bb, hF, hL⟩ := lp_s hL
            unfold b_X10_apply_1 at hF
            refine lv_iload_n hx hb dX10_apply_79 rfl (lv_at hl 2 rfl) ?_
            refine lv_aload_n hx hb dX10_apply_80 rfl (lv_at hl 0 rfl) ?_
            refine w_getr X hH hk0 fs_10_11 lk_10_17 dX10_apply_81 ?_
            refine lv_iconst (v := (0 : Int32)) hx hb dX10_apply_84 (by decide) ?_
            obtain ⟨x15, h15, hF⟩ := ob hF
            refine w_iald X hH h15 (rt_M_10_11 hk0) dX10_apply_85 ?_
            refine w_ilt_f (tgt := 135) hx hb dX10_apply_86 (by decide) (fun c16 => ?_) (fun c16 => ?_)
            · replace hF := ifn c16 hF
              obtain rfl := se1 hF
              subst hL
              exact Jr14 _ _ _ hH (lv_sub hl [0, 1] rfl)
            · replace hF := ifp c16 hF
              obtain ⟨s17, hs17, hF⟩ := ob hF
              have Js17 : ∀ (H : Heap) (locs : List Loc) (ls : Array Slot), HW zM g s17 s.heap H locs → lv_has ls 3 [(0, .ref (g.2.2 (k0))), (1, .int (v_c)), (2, .int (s13.1))] → W p l e (rmd 1) s m args below meth c H locs 0 0 (MQ below (Qw zM g wz none) args s 0 0 (zA zM g)) (F0 m 129 ls []) := by
                intro H locs ls hH hl
                refine lv_iinc (v := (s13.1 + (1 : Int32))) (lv' := [(2, .int ((s13.1 + (1 : Int32)))), (0, .ref (g.2.2 (k0))), (1, .int (v_c))]) hx hb dX10_apply_129 hl (k := 2) rfl rfl (by decide) rfl (fun ls hl => ?_)
                refine lv_goto (tgt := 79) hx hb dX10_apply_132 (by decide) ?_
                obtain rfl := se1 hF
                exact ih _ hL _ _ _ hH (lv_sub hl [1, 2, 0] rfl)
              have hF := hs17
              refine lv_aload_n hx hb dX10_apply_89 rfl (lv_at hl 0 rfl) ?_
              refine w_getr X hH hk0 fs_10_25 lk_10_58 dX10_apply_90 ?_
              refine lv_aload_n hx hb dX10_apply_93 rfl (lv_at hl 0 rfl) ?_
              refine lv_iload_n hx hb dX10_apply_94 rfl (lv_at hl 1 rfl) ?_
              obtain ⟨x18, h18, hF⟩ := ob hF
              refine w_callV (As := [.int (v_c)]) (k := k0) (rest := [.ref (g.2.2 ((zrf zM (k0) 25)))]) (st1 := [.int (x18), .ref (g.2.2 ((zrf zM (k0) 25)))]) X hH (c_X10_second (l := l) (g := g) (w := s13.2) (k0 := k0) (v_c := v_c) h18 hk0) (Or.inl tw_5_56) ms_X10_second im_X10_second hk0 cn_10 ⟨Nat.le_of_ble_eq_true rfl, Nat.le_of_ble_eq_true rfl⟩ rfl rfl hl.1 (Nat.le_of_ble_eq_true rfl) dX10_apply_95 ⟨Nat.le_refl _, Nat.le_refl _⟩ rfl (fun H locs hH => ?_)
              obtain ⟨x19, h19, hF⟩ := ob hF
              refine w_iald X hH h19 (rt_M_10_25 hk0) dX10_apply_98 ?_
              refine lv_iload_n hx hb dX10_apply_99 rfl (lv_at hl 2 rfl) ?_
              refine w_callS (As := [.int (x19), .int (s13.1)]) (rest := []) (st1 := [.int (bI ((f_X10_has (x19) (s13.1))))]) X hH (c_X10_has (l := l) (g := g) (w := s13.2) (v_set := x19) (v_k := s13.1) rfl) (Or.inl tw_5_41) ms_X10_has tw_5_42 ⟨Nat.le_of_ble_eq_true rfl, Nat.le_of_ble_eq_true rfl⟩ rfl rfl hl.1 (Nat.le_of_ble_eq_true rfl) dX10_apply_100 ⟨Nat.le_refl _, Nat.le_refl _⟩ rfl (fun H locs hH => ?_)
              refine w_b_f (tgt := 129) hx hb dX10_apply_103 (by decide) (fun c20 => ?_) (fun c20 => ?_)
              · replace hF := ifn c20 hF
                obtain rfl := se1 hF
                exact Js17 _ _ _ hH (lv_sub hl [0, 1, 2] rfl)
              · replace hF := ifp c20 hF
                refine lv_aload_n hx hb dX10_apply_106 rfl (lv_at hl 0 rfl) ?_
                refine lv_aload_n hx hb dX10_apply_107 rfl (lv_at hl 0 rfl) ?_
                refine lv_iload_n hx hb dX10_apply_108 rfl (lv_at hl 1 rfl) ?_
                obtain ⟨x21, h21, hF⟩ := ob hF
                refine w_callV (As := [.int (v_c)]) (k := k0) (rest := [.ref (g.2.2 (k0))]) (st1 := [.int (x21), .ref (g.2.2 (k0))]) X hH (c_X10_first (l := l) (g := g) (w := s13.2) (k0 := k0) (v_c := v_c) h21 hk0) (Or.inl tw_5_52) ms_X10_first im_X10_first hk0 cn_10 ⟨Nat.le_of_ble_eq_true rfl, Nat.le_of_ble_eq_true rfl⟩ rfl rfl hl.1 (Nat.le_of_ble_eq_true rfl) dX10_apply_109 ⟨Nat.le_refl _, Nat.le_refl _⟩ rfl (fun H locs hH => ?_)
                refine lv_aload_n hx hb dX10_apply_112 rfl (lv_at hl 0 rfl) ?_
                refine w_getr X hH hk0 fs_10_25 lk_10_58 dX10_apply_113 ?_
                refine lv_iload_n hx hb dX10_apply_116 rfl (lv_at hl 2 rfl) ?_
                refine lv_aload_n hx hb dX10_apply_117 rfl (lv_at hl 0 rfl) ?_
                refine lv_iload_n hx hb dX10_apply_118 rfl (lv_at hl 1 rfl) ?_
                obtain ⟨x22, h22, hF⟩ := ob hF
                refine w_callV (As := [.int (v_c)]) (k := k0) (rest := [.int (s13.1), .ref (g.2.2 ((zrf zM (k0) 25))), .int (x21), .ref (g.2.2 (k0))]) (st1 := [.int (x22), .int (s13.1), .ref (g.2.2 ((zrf zM (k0) 25))), .int (x21), .ref (g.2.2 (k0))]) X hH (c_X10_third (l := l) (g := g) (w := s13.2) (k0 := k0) (v_c := v_c) h22 hk0) (Or.inl tw_5_64) ms_X10_third im_X10_third hk0 cn_10 ⟨Nat.le_of_ble_eq_true rfl, Nat.le_of_ble_eq_true rfl⟩ rfl rfl hl.1 (Nat.le_of_ble_eq_true rfl) dX10_apply_119 ⟨Nat.le_refl _, Nat.le_refl _⟩ rfl (fun H locs hH => ?_)
                refine w_callS (As := [.int (s13.1), .int (x22)]) (rest := [.ref (g.2.2 ((zrf zM (k0) 25))), .int (x21), .ref (g.2.2 (k0))]) (st1 := [.int ((f_X10_fieldIndex (s13.1) (x22))), .ref (g.2.2 ((zrf zM (k0) 25))), .int (x21), .ref (g.2.2 (k0))]) X hH (c_X10_fieldIndex (l := l) (g := g) (w := s13.2) (v_o := s13.1) (v_f := x22) rfl) (Or.inl tw_5_68) ms_X10_fieldIndex tw_5_69 ⟨Nat.le_of_ble_eq_true rfl, Nat.le_of_ble_eq_true rfl⟩ rfl rfl hl.1 (Nat.le_of_ble_eq_true rfl) dX10_apply_122 ⟨Nat.le_refl _, Nat.le_refl _⟩ rfl (fun H locs hH => ?_)
                obtain ⟨x23, h23, hF⟩ := ob hF
                refine w_iald X hH h23 (rt_M_10_25 hk0) dX10_apply_125 ?_
                obtain ⟨w24, h24, hF⟩ := ob hF
                refine w_callV (As := [.int (x21), .int (x23)]) (k := k0) (rest := []) (st1 := []) X hH (c_X10_add (l := l) (g := g) (w := s13.2) (k0 := k0) (v_index := x21) (v_objectsToAdd := x23) h24 hk0) (Or.inl tw_5_60) ms_X10_add im_X10_add hk0 cn_10 ⟨Nat.le_of_ble_eq_true rfl, Nat.le_of_ble_eq_true rfl⟩ rfl rfl hl.1 (Nat.le_of_ble_eq_true rfl) dX10_apply_126 ⟨Nat.le_refl _, Nat.le_refl _⟩ rfl (fun H locs hH => ?_)
                obtain rfl := se1 hF
                exact Js17 _ _ _ hH (lv_sub hl [0, 1, 2] rfl)
        exact Lr14 NF _ hLr14 _ _ _ hH (lv_sub hl [1, 2, 0] rfl)
      · replace hF := ifn c12 hF
        by_cases c25 : x2 = (3 : Int32)
        · replace hF := ifp c25 hF
          refine w_tin (tgt := 138) hx hb c25 dX10_apply_5 (by decide) (by decide) rfl (by decide) ?_
          refine lv_iconst (v := (0 : Int32)) hx hb dX10_apply_138 (by decide) ?_
          refine lv_istore_n (lv' := [(2, .int ((0 : Int32))), (0, .ref (g.2.2 (k0))), (1, .int (v_c))]) hx hb dX10_apply_139 rfl hl (by decide) rfl (fun ls hl => ?_)
          obtain ⟨r27, hLr27, hF⟩ := ob hF
          have Jr27 : ∀ (H : Heap) (locs : List Loc) (ls : Array Slot), HW zM g r27 s.heap H locs → lv_has ls 3 [(0, .ref (g.2.2 (k0))), (1, .int (v_c))] → W p l e (rmd 1) s m args below meth c H locs 0 0 (MQ below (Qw zM g wz none) args s 0 0 (zA zM g)) (F0 m 196 ls []) := by
            intro H locs ls hH hl
            refine lv_goto (tgt := 285) hx hb dX10_apply_196 (by decide) ?_
            obtain rfl := se1 hF
            exact Js1 _ _ _ hH (lv_sub hl [0, 1] rfl)
          have Lr27 : ∀ (n : Nat) (s26 : Int32 × Wd), lp (b_X10_apply_2 k0 v_c) n s26 = some r27 → ∀ (H : Heap) (locs : List Loc) (ls : Array Slot), HW zM g s26.2 s.heap H locs → lv_has ls 3 [(0, .ref (g.2.2 (k0))), (1, .int (v_c)), (2, .int (s26.1))] → W p l e (rmd 1) s m args below meth c H locs 0 0 (MQ below (Qw zM g wz none) args s 0 0 (zA zM g)) (F0 m 140 ls []) := by
            intro n
            induction n with
            | zero => intro s26 hL; exact lp_0 hL
            | succ n ih =>
              intro s26 hL H locs ls hH hl
              obtain ⟨bb, hF, hL⟩ := lp_s hL
              unfold b_X10_apply_2 at hF
              refine lv_iload_n hx hb dX10_apply_140 rfl (lv_at hl 2 rfl) ?_
              refine lv_aload_n hx hb dX10_apply_141 rfl (lv_at hl 0 rfl) ?_
              refine w_getr X hH hk0 fs_10_11 lk_10_17 dX10_apply_142 ?_
              refine lv_iconst (v := (0 : Int32)) hx hb dX10_apply_145 (by decide) ?_
              obtain ⟨x28, h28, hF⟩ := ob hF
              refine w_iald X hH h28 (rt_M_10_11 hk0) dX10_apply_146 ?_
              refine w_ilt_f (tgt := 196) hx hb dX10_apply_147 (by decide) (fun c29 => ?_) (fun c29 => ?_)
              · replace hF := ifn c29 hF
                obtain rfl := se1 hF
                subst hL
                exact Jr27 _ _ _ hH (lv_sub hl [0, 1] rfl)
              · replace hF := ifp c29 hF
                obtain ⟨s30, hs30, hF⟩ := ob hF
                have Js30 : ∀ (H : Heap) (locs : List Loc) (ls : Array Slot), HW zM g s30 s.heap H locs → lv_has ls 3 [(0, .ref (g.2.2 (k0))), (1, .int (v_c)), (2, .int (s26.1))] → W p l e (rmd 1) s m args below meth c H locs 0 0 (MQ below (Qw zM g wz none) args s 0 0 (zA zM g)) (F0 m 190 ls []) := by
                  intro H locs ls hH hl
                  refine lv_iinc (v := (s26.1 + (1 : Int32))) (lv' := [(2, .int ((s26.1 + (1 : Int32)))), (0, .ref (g.2.2 (k0))), (1, .int (v_c))]) hx hb dX10_apply_190 hl (k := 2) rfl rfl (by decide) rfl (fun ls hl => ?_)
                  refine lv_goto (tgt := 140) hx hb dX10_apply_193 (by decide) ?_
                  obtain rfl := se1 hF
                  exact ih _ hL _ _ _ hH (lv_sub hl [1, 2, 0] rfl)
                have hF := hs30
                refine lv_aload_n hx hb dX10_apply_150 rfl (lv_at hl 0 rfl) ?_
                refine w_getr X hH hk0 fs_10_25 lk_10_58 dX10_apply_151 ?_
                refine lv_aload_n hx hb dX10_apply_154 rfl (lv_at hl 0 rfl) ?_
                refine lv_iload_n hx hb dX10_apply_155 rfl (lv_at hl 1 rfl) ?_
                obtain ⟨x31, h31, hF⟩ := ob hF
                refine w_callV (As := [.int (v_c)]) (k := k0) (rest := [.ref (g.2.2 ((zrf zM (k0) 25)))]) (st1 := [.int (x31), .ref (g.2.2 ((zrf zM (k0) 25)))]) X hH (c_X10_first (l := l) (g := g) (w := s26.2) (k0 := k0) (v_c := v_c) h31 hk0) (Or.inl tw_5_52) ms_X10_first im_X10_first hk0 cn_10 ⟨Nat.le_of_ble_eq_true rfl, Nat.le_of_ble_eq_true rfl⟩ rfl rfl hl.1 (Nat.le_of_ble_eq_true rfl) dX10_apply_156 ⟨Nat.le_refl _, Nat.le_refl _⟩ rfl (fun H locs hH => ?_)
                obtain ⟨x32, h32, hF⟩ := ob hF
                refine w_iald X hH h32 (rt_M_10_25 hk0) dX10_apply_159 ?_
                refine lv_iload_n hx hb dX10_apply_160 rfl (lv_at hl 2 rfl) ?_
                refine w_callS (As := [.int (x32), .int (s26.1)]) (rest := []) (st1 := [.int (bI ((f_X10_has (x32) (s26.1))))]) X hH (c_X10_has (l := l) (g := g) (w := s26.2) (v_set := x32) (v_k := s26.1) rfl) (Or.inl tw_5_41) ms_X10_has tw_5_42 ⟨Nat.le_of_ble_eq_true rfl, Nat.le_of_ble_eq_true rfl⟩ rfl rfl hl.1 (Nat.le_of_ble_eq_true rfl) dX10_apply_161 ⟨Nat.le_refl _, Nat.le_refl _⟩ rfl (fun H locs hH => ?_)
                refine w_b_f (tgt := 190) hx hb dX10_apply_164 (by decide) (fun c33 => ?_) (fun c33 => ?_)
                · replace hF := ifn c33 hF
                  obtain rfl := se1 hF
                  exact Js30 _ _ _ hH (lv_sub hl [0, 1, 2] rfl)
                · replace hF := ifp c33 hF
                  refine lv_aload_n hx hb dX10_apply_167 rfl (lv_at hl 0 rfl) ?_
                  refine lv_iload_n hx hb dX10_apply_168 rfl (lv_at hl 2 rfl) ?_
                  refine lv_aload_n hx hb dX10_apply_169 rfl (lv_at hl 0 rfl) ?_
                  refine lv_iload_n hx hb dX10_apply_170 rfl (lv_at hl 1 rfl) ?_
                  obtain ⟨x34, h34, hF⟩ := ob hF
                  refine w_callV (As := [.int (v_c)]) (k := k0) (rest := [.int (s26.1), .ref (g.2.2 (k0))]) (st1 := [.int (x34), .int (s26.1), .ref (g.2.2 (k0))]) X hH (c_X10_second (l := l) (g := g) (w := s26.2) (k0 := k0) (v_c := v_c) h34 hk0) (Or.inl tw_5_56) ms_X10_second im_X10_second hk0 cn_10 ⟨Nat.le_of_ble_eq_true rfl, Nat.le_of_ble_eq_true rfl⟩ rfl rfl hl.1 (Nat.le_of_ble_eq_true rfl) dX10_apply_171 ⟨Nat.le_refl _, Nat.le_refl _⟩ rfl (fun H locs hH => ?_)
                  refine w_callS (As := [.int (s26.1), .int (x34)]) (rest := [.ref (g.2.2 (k0))]) (st1 := [.int ((f_X10_fieldIndex (s26.1) (x34))), .ref (g.2.2 (k0))]) X hH (c_X10_fieldIndex (l := l) (g := g) (w := s26.2) (v_o := s26.1) (v_f := x34) rfl) (Or.inl tw_5_68) ms_X10_fieldIndex tw_5_69 ⟨Nat.le_of_ble_eq_true rfl, Nat.le_of_ble_eq_true rfl⟩ rfl rfl hl.1 (Nat.le_of_ble_eq_true rfl) dX10_apply_174 ⟨Nat.le_refl _, Nat.le_refl _⟩ rfl (fun H locs hH => ?_)
                  refine lv_aload_n hx hb dX10_apply_177 rfl (lv_at hl 0 rfl) ?_
                  refine w_getr X hH hk0 fs_10_25 lk_10_58 dX10_apply_178 ?_
                  refine lv_aload_n hx hb dX10_apply_181 rfl (lv_at hl 0 rfl) ?_
                  refine lv_iload_n hx hb dX10_apply_182 rfl (lv_at hl 1 rfl) ?_
                  obtain ⟨x35, h35, hF⟩ := ob hF
                  refine w_callV (As := [.int (v_c)]) (k := k0) (rest := [.ref (g.2.2 ((zrf zM (k0) 25))), .int ((f_X10_fieldIndex (s26.1) (x34))), .ref (g.2.2 (k0))]) (st1 := [.int (x35), .ref (g.2.2 ((zrf zM (k0) 25))), .int ((f_X10_fieldIndex (s26.1) (x34))), .ref (g.2.2 (k0))]) X hH (c_X10_third (l := l) (g := g) (w := s26.2) (k0 := k0) (v_c := v_c) h35 hk0) (Or.inl tw_5_64) ms_X10_third im_X10_third hk0 cn_10 ⟨Nat.le_of_ble_eq_true rfl, Nat.le_of_ble_eq_true rfl⟩ rfl rfl hl.1 (Nat.le_of_ble_eq_true rfl) dX10_apply_183 ⟨Nat.le_refl _, Nat.le_refl _⟩ rfl (fun H locs hH => ?_)
                  obtain ⟨x36, h36, hF⟩ := ob hF
                  refine w_iald X hH h36 (rt_M_10_25 hk0) dX10_apply_186 ?_
                  obtain ⟨w37, h37, hF⟩ := ob hF
                  refine w_callV (As := [.int ((f_X10_fieldIndex (s26.1) (x34))), .int (x36)]) (k := k0) (rest := []) (st1 := []) X hH (c_X10_add (l := l) (g := g) (w := s26.2) (k0 := k0) (v_index := (f_X10_fieldIndex (s26.1) (x34))) (v_objectsToAdd := x36) h37 hk0) (Or.inl tw_5_60) ms_X10_add im_X10_add hk0 cn_10 ⟨Nat.le_of_ble_eq_true rfl, Nat.le_of_ble_eq_true rfl⟩ rfl rfl hl.1 (Nat.le_of_ble_eq_true rfl) dX10_apply_187 ⟨Nat.le_refl _, Nat.le_refl _⟩ rfl (fun H locs hH => ?_)
                  obtain rfl := se1 hF
                  exact Js30 _ _ _ hH (lv_sub hl [0, 1, 2] rfl)
          exact Lr27 NF _ hLr27 _ _ _ hH (lv_sub hl [1, 2, 0] rfl)
        · replace hF := ifn c25 hF
          refine lv_tableOut (tgt := 199) hx hb dX10_apply_5 (by have := lv_neT c3 (show (0 : Int32).toInt = 0 by decide); have := lv_neT c7 (show (1 : Int32).toInt = 1 by decide); have := lv_neT c12 (show (2 : Int32).toInt = 2 by decide); have := lv_neT c25 (show (3 : Int32).toInt = 3 by decide); omega) (by decide) ?_
          refine lv_iconst (v := (0 : Int32)) hx hb dX10_apply_199 (by decide) ?_
          refine lv_istore_n (lv' := [(2, .int ((0 : Int32))), (0, .ref (g.2.2 (k0))), (1, .int (v_c))]) hx hb dX10_apply_200 rfl hl (by decide) rfl (fun ls hl => ?_)
          obtain ⟨r39, hLr39, hF⟩ := ob hF
          have Jr39 : ∀ (H : Heap) (locs : List Loc) (ls : Array Slot), HW zM g r39 s.heap H locs → lv_has ls 3 [(0, .ref (g.2.2 (k0))), (1, .int (v_c))] → W p l e (rmd 1) s m args below meth c H locs 0 0 (MQ below (Qw zM g wz none) args s 0 0 (zA zM g)) (F0 m 285 ls []) := by
            intro H locs ls hH hl
            obtain rfl := se1 hF
            exact Js1 _ _ _ hH (lv_sub hl [0, 1] rfl)
          have Lr39 : ∀ (n : Nat) (s38 : Int32 × Wd), lp (b_X10_apply_3 k0 v_c) n s38 = some r39 → ∀ (H : Heap) (locs : List Loc) (ls : Array Slot), HW zM g s38.2 s.heap H locs → lv_has ls 3 [(0, .ref (g.2.2 (k0))), (1, .int (v_c)), (2, .int (s38.1))] → W p l e (rmd 1) s m args below meth c H locs 0 0 (MQ below (Qw zM g wz none) args s 0 0 (zA zM g)) (F0 m 201 ls []) := by
            intro n
            induction n with
            | zero => intro s38 hL; exact lp_0 hL
            | succ n ih =>
              intro s38 hL H locs ls hH hl
              obtain ⟨bb, hF, hL⟩ := lp_s hL
              unfold b_X10_apply_3 at hF
              refine lv_iload_n hx hb dX10_apply_201 rfl (lv_at hl 2 rfl) ?_
              refine lv_aload_n hx hb dX10_apply_202 rfl (lv_at hl 0 rfl) ?_
              refine w_getr X hH hk0 fs_10_11 lk_10_17 dX10_apply_203 ?_
              refine lv_iconst (v := (0 : Int32)) hx hb dX10_apply_206 (by decide) ?_
              obtain ⟨x40, h40, hF⟩ := ob hF
              refine w_iald X hH h40 (rt_M_10_11 hk0) dX10_apply_207 ?_
              refine w_ilt_f (tgt := 285) hx hb dX10_apply_208 (by decide) (fun c41 => ?_) (fun c41 => ?_)
              · replace hF := ifn c41 hF
                obtain rfl := se1 hF
                subst hL
                exact Jr39 _ _ _ hH (lv_sub hl [0, 1] rfl)
              · replace hF := ifp c41 hF
                obtain ⟨b42, hb42, hF⟩ := ob hF
                have Jb42T : b42 = true → ∀ (H : Heap) (locs : List Loc), HW zM g s38.2 s.heap H locs → W p l e (rmd 1) s m args below meth c H locs 0 0 (MQ below (Qw zM g wz none) args s 0 0 (zA zM g)) (F0 m 279 ls []) := by
                  intro hc H locs hH
                  replace hF := ifp hc hF
                  refine lv_iinc (v := (s38.1 + (1 : Int32))) (lv' := [(2, .int ((s38.1 + (1 : Int32)))), (0, .ref (g.2.2 (k0))), (1, .int (v_c))]) hx hb dX10_apply_279 hl (k := 2) rfl rfl (by decide) rfl (fun ls hl => ?_)
                  refine lv_goto (tgt := 201) hx hb dX10_apply_282 (by decide) ?_
                  obtain rfl := se1 hF
                  exact ih _ hL _ _ _ hH (lv_sub hl [1, 2, 0] rfl)
                have Jb42F : ¬ (b42 = true) → ∀ (H : Heap) (locs : List Loc), HW zM g s38.2 s.heap H locs → W p l e (rmd 1) s m args below meth c H locs 0 0 (MQ below (Qw zM g wz none) args s 0 0 (zA zM g)) (F0 m 239 ls []) := by
                  intro hc H locs hH
                  replace hF := ifn hc hF
                  refine lv_aload_n hx hb dX10_apply_239 rfl (lv_at hl 0 rfl) ?_
                  refine lv_aload_n hx hb dX10_apply_240 rfl (lv_at hl 0 rfl) ?_
                  refine w_getr X hH hk0 fs_10_16 lk_10_33 dX10_apply_241 ?_
                  refine lv_iload_n hx hb dX10_apply_244 rfl (lv_at hl 2 rfl) ?_
                  obtain ⟨x48, h48, hF⟩ := ob hF
                  refine w_iald X hH h48 (rt_M_10_16 hk0) dX10_apply_245 ?_
                  refine lv_aload_n hx hb dX10_apply_246 rfl (lv_at hl 0 rfl) ?_
                  refine w_getr X hH hk0 fs_10_25 lk_10_58 dX10_apply_247 ?_
                  refine lv_aload_n hx hb dX10_apply_250 rfl (lv_at hl 0 rfl) ?_
                  refine lv_iload_n hx hb dX10_apply_251 rfl (lv_at hl 1 rfl) ?_
                  obtain ⟨x49, h49, hF⟩ := ob hF
                  refine w_callV (As := [.int (v_c)]) (k := k0) (rest := [.ref (g.2.2 ((zrf zM (k0) 25))), .int (x48), .ref (g.2.2 (k0))]) (st1 := [.int (x49), .ref (g.2.2 ((zrf zM (k0) 25))), .int (x48), .ref (g.2.2 (k0))]) X hH (c_X10_third (l := l) (g := g) (w := s38.2) (k0 := k0) (v_c := v_c) h49 hk0) (Or.inl tw_5_64) ms_X10_third im_X10_third hk0 cn_10 ⟨Nat.le_of_ble_eq_true rfl, Nat.le_of_ble_eq_true rfl⟩ rfl rfl hl.1 (Nat.le_of_ble_eq_true rfl) dX10_apply_252 ⟨Nat.le_refl _, Nat.le_refl _⟩ rfl (fun H locs hH => ?_)
                  obtain ⟨x50, h50, hF⟩ := ob hF
                  refine w_iald X hH h50 (rt_M_10_25 hk0) dX10_apply_255 ?_
                  obtain ⟨w51, h51, hF⟩ := ob hF
                  refine w_callV (As := [.int (x48), .int (x50)]) (k := k0) (rest := []) (st1 := []) X hH (c_X10_add (l := l) (g := g) (w := s38.2) (k0 := k0) (v_index := x48) (v_objectsToAdd := x50) h51 hk0) (Or.inl tw_5_60) ms_X10_add im_X10_add hk0 cn_10 ⟨Nat.le_of_ble_eq_true rfl, Nat.le_of_ble_eq_true rfl⟩ rfl rfl hl.1 (Nat.le_of_ble_eq_true rfl) dX10_apply_256 ⟨Nat.le_refl _, Nat.le_refl _⟩ rfl (fun H locs hH => ?_)
                  refine lv_aload_n hx hb dX10_apply_259 rfl (lv_at hl 0 rfl) ?_
                  refine lv_aload_n hx hb dX10_apply_260 rfl (lv_at hl 0 rfl) ?_
                  refine lv_iload_n hx hb dX10_apply_261 rfl (lv_at hl 1 rfl) ?_
                  obtain ⟨x52, h52, hF⟩ := ob hF
                  refine w_callV (As := [.int (v_c)]) (k := k0) (rest := [.ref (g.2.2 (k0))]) (st1 := [.int (x52), .ref (g.2.2 (k0))]) X hH (c_X10_first (l := l) (g := g) (w := w51) (k0 := k0) (v_c := v_c) h52 hk0) (Or.inl tw_5_52) ms_X10_first im_X10_first hk0 cn_10 ⟨Nat.le_of_ble_eq_true rfl, Nat.le_of_ble_eq_true rfl⟩ rfl rfl hl.1 (Nat.le_of_ble_eq_true rfl) dX10_apply_262 ⟨Nat.le_refl _, Nat.le_refl _⟩ rfl (fun H locs hH => ?_)
                  refine lv_aload_n hx hb dX10_apply_265 rfl (lv_at hl 0 rfl) ?_
                  refine w_getr X hH hk0 fs_10_25 lk_10_58 dX10_apply_266 ?_
                  refine lv_aload_n hx hb dX10_apply_269 rfl (lv_at hl 0 rfl) ?_
                  refine w_getr X hH hk0 fs_10_17 lk_10_36 dX10_apply_270 ?_
                  refine lv_iload_n hx hb dX10_apply_273 rfl (lv_at hl 2 rfl) ?_
                  obtain ⟨x53, h53, hF⟩ := ob hF
                  refine w_iald X hH h53 (rt_M_10_17 hk0) dX10_apply_274 ?_
                  obtain ⟨x54, h54, hF⟩ := ob hF
                  refine w_iald X hH h54 (rt_M_10_25 hk0) dX10_apply_275 ?_
                  obtain ⟨w55, h55, hF⟩ := ob hF
                  refine w_callV (As := [.int (x52), .int (x54)]) (k := k0) (rest := []) (st1 := []) X hH (c_X10_add (l := l) (g := g) (w := w51) (k0 := k0) (v_index := x52) (v_objectsToAdd := x54) h55 hk0) (Or.inl tw_5_60) ms_X10_add im_X10_add hk0 cn_10 ⟨Nat.le_of_ble_eq_true rfl, Nat.le_of_ble_eq_true rfl⟩ rfl rfl hl.1 (Nat.le_of_ble_eq_true rfl) dX10_apply_276 ⟨Nat.le_refl _, Nat.le_refl _⟩ rfl (fun H locs hH => ?_)
                  refine lv_iinc (v := (s38.1 + (1 : Int32))) (lv' := [(2, .int ((s38.1 + (1 : Int32)))), (0, .ref (g.2.2 (k0))), (1, .int (v_c))]) hx hb dX10_apply_279 hl (k := 2) rfl rfl (by decide) rfl (fun ls hl => ?_)
                  refine lv_goto (tgt := 201) hx hb dX10_apply_282 (by decide) ?_
                  obtain rfl := se1 hF
                  exact ih _ hL _ _ _ hH (lv_sub hl [1, 2, 0] rfl)
                have hF := hb42
                refine lv_aload_n hx hb dX10_apply_211 rfl (lv_at hl 0 rfl) ?_
                refine w_getr X hH hk0 fs_10_25 lk_10_58 dX10_apply_212 ?_
                refine lv_aload_n hx hb dX10_apply_215 rfl (lv_at hl 0 rfl) ?_
                refine lv_iload_n hx hb dX10_apply_216 rfl (lv_at hl 1 rfl) ?_
                obtain ⟨x44, h44, hF⟩ := ob hF
                refine w_callV (As := [.int (v_c)]) (k := k0) (rest := [.ref (g.2.2 ((zrf zM (k0) 25)))]) (st1 := [.int (x44), .ref (g.2.2 ((zrf zM (k0) 25)))]) X hH (c_X10_second (l := l) (g := g) (w := s38.2) (k0 := k0) (v_c := v_c) h44 hk0) (Or.inl tw_5_56) ms_X10_second im_X10_second hk0 cn_10 ⟨Nat.le_of_ble_eq_true rfl, Nat.le_of_ble_eq_true rfl⟩ rfl rfl hl.1 (Nat.le_of_ble_eq_true rfl) dX10_apply_217 ⟨Nat.le_refl _, Nat.le_refl _⟩ rfl (fun H locs hH => ?_)
                obtain ⟨x45, h45, hF⟩ := ob hF
                refine w_iald X hH h45 (rt_M_10_25 hk0) dX10_apply_220 ?_
                refine lv_iload_n hx hb dX10_apply_221 rfl (lv_at hl 2 rfl) ?_
                refine w_callS (As := [.int (x45), .int (s38.1)]) (rest := []) (st1 := [.int (bI ((f_X10_has (x45) (s38.1))))]) X hH (c_X10_has (l := l) (g := g) (w := s38.2) (v_set := x45) (v_k := s38.1) rfl) (Or.inl tw_5_41) ms_X10_has tw_5_42 ⟨Nat.le_of_ble_eq_true rfl, Nat.le_of_ble_eq_true rfl⟩ rfl rfl hl.1 (Nat.le_of_ble_eq_true rfl) dX10_apply_222 ⟨Nat.le_refl _, Nat.le_refl _⟩ rfl (fun H locs hH => ?_)
                refine w_b_f (tgt := 279) hx hb dX10_apply_225 (by decide) (fun c43 => ?_) (fun c43 => ?_)
                · replace hF := ifn c43 hF
                  obtain rfl := se1 hF
                  exact Jb42T rfl _ _ hH
                · replace hF := ifp c43 hF
                  refine lv_aload_n hx hb dX10_apply_228 rfl (lv_at hl 0 rfl) ?_
                  refine lv_iload_n hx hb dX10_apply_229 rfl (lv_at hl 2 rfl) ?_
                  obtain ⟨x47, h47, hF⟩ := ob hF
                  refine w_callV (As := [.int (s38.1)]) (k := k0) (rest := []) (st1 := [.int (bI (x47))]) X hH (c_X10_isFunction (l := l) (g := g) (w := s38.2) (k0 := k0) (v_o := s38.1) h47 hk0) (Or.inl tw_5_71) ms_X10_isFunction im_X10_isFunction hk0 cn_10 ⟨Nat.le_of_ble_eq_true rfl, Nat.le_of_ble_eq_true rfl⟩ rfl rfl hl.1 (Nat.le_of_ble_eq_true rfl) dX10_apply_230 ⟨Nat.le_refl _, Nat.le_refl _⟩ rfl (fun H locs hH => ?_)
                  refine w_b_t (tgt := 239) hx hb dX10_apply_233 (by decide) (fun c46 => ?_) (fun c46 => ?_)
                  · replace hF := ifp c46 hF
                    obtain rfl := se1 hF
                    exact Jb42F Bool.false_ne_true _ _ hH
                  · replace hF := ifn c46 hF
                    refine lv_goto (tgt := 279) hx hb dX10_apply_236 (by decide) ?_
                    obtain rfl := se1 hF
                    exact Jb42T rfl _ _ hH
          exact Lr39 NF _ hLr39 _ _ _ hH (lv_sub hl [1, 2, 0] rfl)

theorem dX10_solve_0 : decode cX10_solve 0 = .ok (.iconst 0, 1) := by decide +kernel
theorem dX10_solve_1 : decode cX10_solve 1 = .ok (.istore_n 1, 1) := by decide +kernel
theorem dX10_solve_2 : decode cX10_solve 2 = .ok (.iload_n 1, 1) := by decide +kernel
theorem dX10_solve_3 : decode cX10_solve 3 = .ok (.bipush 56, 2) := by decide +kernel
theorem dX10_solve_5 : decode cX10_solve 5 = .ok (.if_icmp .ge 16, 3) := by decide +kernel
theorem dX10_solve_8 : decode cX10_solve 8 = .ok (.aload_n 0, 1) := by decide +kernel
theorem dX10_solve_9 : decode cX10_solve 9 = .ok (.getfield 55, 3) := by decide +kernel
theorem dX10_solve_12 : decode cX10_solve 12 = .ok (.iload_n 1, 1) := by decide +kernel
theorem dX10_solve_13 : decode cX10_solve 13 = .ok (.iconst 0, 1) := by decide +kernel
theorem dX10_solve_14 : decode cX10_solve 14 = .ok (.iastore, 1) := by decide +kernel
theorem dX10_solve_15 : decode cX10_solve 15 = .ok (.iinc 1 1, 3) := by decide +kernel
theorem dX10_solve_18 : decode cX10_solve 18 = .ok (.goto (-16), 3) := by decide +kernel
theorem dX10_solve_21 : decode cX10_solve 21 = .ok (.aload_n 0, 1) := by decide +kernel
theorem dX10_solve_22 : decode cX10_solve 22 = .ok (.iconst 0, 1) := by decide +kernel
theorem dX10_solve_23 : decode cX10_solve 23 = .ok (.putfield 248, 3) := by decide +kernel
theorem dX10_solve_26 : decode cX10_solve 26 = .ok (.iconst 1, 1) := by decide +kernel
theorem dX10_solve_27 : decode cX10_solve 27 = .ok (.istore_n 1, 1) := by decide +kernel
theorem dX10_solve_28 : decode cX10_solve 28 = .ok (.iload_n 1, 1) := by decide +kernel
theorem dX10_solve_29 : decode cX10_solve 29 = .ok (.ifCond .eq 165, 3) := by decide +kernel
theorem dX10_solve_32 : decode cX10_solve 32 = .ok (.iconst 0, 1) := by decide +kernel
theorem dX10_solve_33 : decode cX10_solve 33 = .ok (.istore_n 2, 1) := by decide +kernel
theorem dX10_solve_34 : decode cX10_solve 34 = .ok (.iload_n 2, 1) := by decide +kernel
theorem dX10_solve_35 : decode cX10_solve 35 = .ok (.bipush 56, 2) := by decide +kernel
theorem dX10_solve_37 : decode cX10_solve 37 = .ok (.if_icmp .ge 21, 3) := by decide +kernel
theorem dX10_solve_40 : decode cX10_solve 40 = .ok (.aload_n 0, 1) := by decide +kernel
theorem dX10_solve_41 : decode cX10_solve 41 = .ok (.getfield 58, 3) := by decide +kernel
theorem dX10_solve_44 : decode cX10_solve 44 = .ok (.iload_n 2, 1) := by decide +kernel
theorem dX10_solve_45 : decode cX10_solve 45 = .ok (.aload_n 0, 1) := by decide +kernel
theorem dX10_solve_46 : decode cX10_solve 46 = .ok (.getfield 55, 3) := by decide +kernel
theorem dX10_solve_49 : decode cX10_solve 49 = .ok (.iload_n 2, 1) := by decide +kernel
theorem dX10_solve_50 : decode cX10_solve 50 = .ok (.iaload, 1) := by decide +kernel
theorem dX10_solve_51 : decode cX10_solve 51 = .ok (.iastore, 1) := by decide +kernel
theorem dX10_solve_52 : decode cX10_solve 52 = .ok (.iinc 2 1, 3) := by decide +kernel
theorem dX10_solve_55 : decode cX10_solve 55 = .ok (.goto (-21), 3) := by decide +kernel
theorem dX10_solve_58 : decode cX10_solve 58 = .ok (.iconst 0, 1) := by decide +kernel
theorem dX10_solve_59 : decode cX10_solve 59 = .ok (.istore_n 2, 1) := by decide +kernel
theorem dX10_solve_60 : decode cX10_solve 60 = .ok (.iload_n 2, 1) := by decide +kernel
theorem dX10_solve_61 : decode cX10_solve 61 = .ok (.aload_n 0, 1) := by decide +kernel
theorem dX10_solve_62 : decode cX10_solve 62 = .ok (.getfield 39, 3) := by decide +kernel
theorem dX10_solve_65 : decode cX10_solve 65 = .ok (.iconst 0, 1) := by decide +kernel
theorem dX10_solve_66 : decode cX10_solve 66 = .ok (.iaload, 1) := by decide +kernel
theorem dX10_solve_67 : decode cX10_solve 67 = .ok (.if_icmp .ge 22, 3) := by decide +kernel
theorem dX10_solve_70 : decode cX10_solve 70 = .ok (.aload_n 0, 1) := by decide +kernel
theorem dX10_solve_71 : decode cX10_solve 71 = .ok (.iload_n 2, 1) := by decide +kernel
theorem dX10_solve_72 : decode cX10_solve 72 = .ok (.invokevirtual 251, 3) := by decide +kernel
theorem dX10_solve_75 : decode cX10_solve 75 = .ok (.ifCond .eq 8, 3) := by decide +kernel
theorem dX10_solve_78 : decode cX10_solve 78 = .ok (.aload_n 0, 1) := by decide +kernel
theorem dX10_solve_79 : decode cX10_solve 79 = .ok (.iload_n 2, 1) := by decide +kernel
theorem dX10_solve_80 : decode cX10_solve 80 = .ok (.invokevirtual 254, 3) := by decide +kernel
theorem dX10_solve_83 : decode cX10_solve 83 = .ok (.iinc 2 1, 3) := by decide +kernel
theorem dX10_solve_86 : decode cX10_solve 86 = .ok (.goto (-26), 3) := by decide +kernel
theorem dX10_solve_89 : decode cX10_solve 89 = .ok (.iconst 0, 1) := by decide +kernel
theorem dX10_solve_90 : decode cX10_solve 90 = .ok (.istore_n 1, 1) := by decide +kernel
theorem dX10_solve_91 : decode cX10_solve 91 = .ok (.iconst 0, 1) := by decide +kernel
theorem dX10_solve_92 : decode cX10_solve 92 = .ok (.istore_n 2, 1) := by decide +kernel
theorem dX10_solve_93 : decode cX10_solve 93 = .ok (.iload_n 2, 1) := by decide +kernel
theorem dX10_solve_94 : decode cX10_solve 94 = .ok (.bipush 56, 2) := by decide +kernel
theorem dX10_solve_96 : decode cX10_solve 96 = .ok (.if_icmp .ge 77, 3) := by decide +kernel
theorem dX10_solve_99 : decode cX10_solve 99 = .ok (.aload_n 0, 1) := by decide +kernel
theorem dX10_solve_100 : decode cX10_solve 100 = .ok (.getfield 55, 3) := by decide +kernel
theorem dX10_solve_103 : decode cX10_solve 103 = .ok (.iload_n 2, 1) := by decide +kernel
theorem dX10_solve_104 : decode cX10_solve 104 = .ok (.iaload, 1) := by decide +kernel
theorem dX10_solve_105 : decode cX10_solve 105 = .ok (.aload_n 0, 1) := by decide +kernel
theorem dX10_solve_106 : decode cX10_solve 106 = .ok (.getfield 58, 3) := by decide +kernel
theorem dX10_solve_109 : decode cX10_solve 109 = .ok (.iload_n 2, 1) := by decide +kernel
theorem dX10_solve_110 : decode cX10_solve 110 = .ok (.iaload, 1) := by decide +kernel
theorem dX10_solve_111 : decode cX10_solve 111 = .ok (.iconst (-1), 1) := by decide +kernel
theorem dX10_solve_112 : decode cX10_solve 112 = .ok (.ixor, 1) := by decide +kernel
theorem dX10_solve_113 : decode cX10_solve 113 = .ok (.iand, 1) := by decide +kernel
theorem dX10_solve_114 : decode cX10_solve 114 = .ok (.istore_n 3, 1) := by decide +kernel
theorem dX10_solve_115 : decode cX10_solve 115 = .ok (.iload_n 3, 1) := by decide +kernel
theorem dX10_solve_116 : decode cX10_solve 116 = .ok (.ifCond .ne 6, 3) := by decide +kernel
theorem dX10_solve_119 : decode cX10_solve 119 = .ok (.goto 48, 3) := by decide +kernel
theorem dX10_solve_122 : decode cX10_solve 122 = .ok (.iconst 1, 1) := by decide +kernel
theorem dX10_solve_123 : decode cX10_solve 123 = .ok (.istore_n 1, 1) := by decide +kernel
theorem dX10_solve_124 : decode cX10_solve 124 = .ok (.iconst 0, 1) := by decide +kernel
theorem dX10_solve_125 : decode cX10_solve 125 = .ok (.istore 4, 2) := by decide +kernel
theorem dX10_solve_127 : decode cX10_solve 127 = .ok (.iload 4, 2) := by decide +kernel
theorem dX10_solve_129 : decode cX10_solve 129 = .ok (.bipush 10, 2) := by decide +kernel
theorem dX10_solve_131 : decode cX10_solve 131 = .ok (.if_icmp .ge 36, 3) := by decide +kernel
theorem dX10_solve_134 : decode cX10_solve 134 = .ok (.iload_n 3, 1) := by decide +kernel
theorem dX10_solve_135 : decode cX10_solve 135 = .ok (.iload 4, 2) := by decide +kernel
theorem dX10_solve_137 : decode cX10_solve 137 = .ok (.invokestatic 210, 3) := by decide +kernel
theorem dX10_solve_140 : decode cX10_solve 140 = .ok (.ifCond .eq 21, 3) := by decide +kernel
theorem dX10_solve_143 : decode cX10_solve 143 = .ok (.aload_n 0, 1) := by decide +kernel
theorem dX10_solve_144 : decode cX10_solve 144 = .ok (.getfield 61, 3) := by decide +kernel
theorem dX10_solve_147 : decode cX10_solve 147 = .ok (.bipush 10, 2) := by decide +kernel
theorem dX10_solve_149 : decode cX10_solve 149 = .ok (.iload_n 2, 1) := by decide +kernel
theorem dX10_solve_150 : decode cX10_solve 150 = .ok (.imul, 1) := by decide +kernel
theorem dX10_solve_151 : decode cX10_solve 151 = .ok (.iload 4, 2) := by decide +kernel
theorem dX10_solve_153 : decode cX10_solve 153 = .ok (.iadd, 1) := by decide +kernel
theorem dX10_solve_154 : decode cX10_solve 154 = .ok (.aload_n 0, 1) := by decide +kernel
theorem dX10_solve_155 : decode cX10_solve 155 = .ok (.getfield 248, 3) := by decide +kernel
theorem dX10_solve_158 : decode cX10_solve 158 = .ok (.iconst 1, 1) := by decide +kernel
theorem dX10_solve_159 : decode cX10_solve 159 = .ok (.iadd, 1) := by decide +kernel
theorem dX10_solve_160 : decode cX10_solve 160 = .ok (.iastore, 1) := by decide +kernel
theorem dX10_solve_161 : decode cX10_solve 161 = .ok (.iinc 4 1, 3) := by decide +kernel
theorem dX10_solve_164 : decode cX10_solve 164 = .ok (.goto (-37), 3) := by decide +kernel
theorem dX10_solve_167 : decode cX10_solve 167 = .ok (.iinc 2 1, 3) := by decide +kernel
theorem dX10_solve_170 : decode cX10_solve 170 = .ok (.goto (-77), 3) := by decide +kernel
theorem dX10_solve_173 : decode cX10_solve 173 = .ok (.aload_n 0, 1) := by decide +kernel
theorem dX10_solve_174 : decode cX10_solve 174 = .ok (.dup, 1) := by decide +kernel
theorem dX10_solve_175 : decode cX10_solve 175 = .ok (.getfield 248, 3) := by decide +kernel
theorem dX10_solve_178 : decode cX10_solve 178 = .ok (.iload_n 1, 1) := by decide +kernel
theorem dX10_solve_179 : decode cX10_solve 179 = .ok (.ifCond .eq 7, 3) := by decide +kernel
theorem dX10_solve_182 : decode cX10_solve 182 = .ok (.iconst 1, 1) := by decide +kernel
theorem dX10_solve_183 : decode cX10_solve 183 = .ok (.goto 4, 3) := by decide +kernel
theorem dX10_solve_186 : decode cX10_solve 186 = .ok (.iconst 0, 1) := by decide +kernel
theorem dX10_solve_187 : decode cX10_solve 187 = .ok (.iadd, 1) := by decide +kernel
theorem dX10_solve_188 : decode cX10_solve 188 = .ok (.putfield 248, 3) := by decide +kernel
theorem dX10_solve_191 : decode cX10_solve 191 = .ok (.goto (-163), 3) := by decide +kernel
theorem dX10_solve_194 : decode cX10_solve 194 = .ok (.return_, 1) := by decide +kernel
set_option maxHeartbeats 4000000 in
set_option maxRecDepth 100000 in
theorem c_X10_solve {l : Launch} {g : Gh} {w : Wd} {k0 : Nat} {wz : Wd} (hF : f_X10_solve w k0 = some wz) (hk0 : zct zM k0 = 10) : Met l yX10_solve (Cond.code yX10_solve cX10_solve 5 none :: TT) (rmd 2) (Pcw zM g w [.ref (g.2.2 k0)]) (Qw zM g wz none) 0 0 (zA zM g) := by
  refine mt_start (by decide) (Nat.le_of_ble_eq_true rfl) ?_
  intro p e s m args below meth c H locs ls X hr hl hH
  have hx := X.1
  have hb := X.2.1
  have hml := X.2.2.1
  have hown := X.2.2.2.1
  have ht := X.2.2.2.2.1
  have hl : lv_has ls 5 [(0, .ref (g.2.2 (k0)))] := hl
  unfold f_X10_solve at hF
  refine lv_iconst (v := (0 : Int32)) hx hb dX10_solve_0 (by decide) ?_
  refine lv_istore_n (lv' := [(1, .int ((0 : Int32))), (0, .ref (g.2.2 (k0)))]) hx hb dX10_solve_1 rfl hl (by decide) rfl (fun ls hl => ?_)
  obtain ⟨r2, hLr2, hF⟩ := ob hF
  have Jr2 : ∀ (H : Heap) (locs : List Loc) (ls : Array Slot), HW zM g r2 s.heap H locs → lv_has ls 5 [(0, .ref (g.2.2 (k0)))] → W p l e (rmd 2) s m args below meth c H locs 0 0 (MQ below (Qw zM g wz none) args s 0 0 (zA zM g)) (F0 m 21 ls []) := by
    intro H locs ls hH hl
    refine lv_aload_n hx hb dX10_solve_21 rfl (lv_at hl 0 rfl) ?_
    refine lv_iconst (v := (0 : Int32)) hx hb dX10_solve_22 (by decide) ?_
    obtain ⟨w5, h5, hF⟩ := ob hF
    refine w_puti X hH h5 hk0 fs_10_27 nf_10_27 lk_10_248 dX10_solve_23 (fun H locs hH => ?_)
    refine lv_iconst (v := bI true) hx hb dX10_solve_26 (by decide) ?_
    refine lv_istore_n (lv' := [(1, .int (bI (true))), (0, .ref (g.2.2 (k0)))]) hx hb dX10_solve_27 rfl hl (by decide) rfl (fun ls hl => ?_)
    obtain ⟨r7, hLr7, hF⟩ := ob hF
    have Jr7 : ∀ (H : Heap) (locs : List Loc) (ls : Array Slot), HW zM g r7.2 s.heap H locs → lv_has ls 5 [(0, .ref (g.2.2 (k0))), (1, .int (bI (r7.1)))] → W p l e (rmd 2) s m args below meth c H locs 0 0 (MQ below (Qw zM g wz none) args s 0 0 (zA zM g)) (F0 m 194 ls []) := by
      intro H locs ls hH hl
      obtain rfl := se1 hF
      exact w_vret X hH hr dX10_solve_194
    have Lr7 : ∀ (n : Nat) (s6 : Bool × Wd), lp (b_X10_solve_2 k0) n s6 = some r7 → ∀ (H : Heap) (locs : List Loc) (ls : Array Slot), HW zM g s6.2 s.heap H locs → lv_has ls 5 [(0, .ref (g.2.2 (k0))), (1, .int (bI (s6.1)))] → W p l e (rmd 2) s m args below meth c H locs 0 0 (MQ below (Qw zM g wz none) args s 0 0 (zA zM g)) (F0 m 28 ls []) := by
      intro n
      induction n with
      | zero => intro s6 hL; exact lp_0 hL
      | succ n ih =>
        intro s6 hL H locs ls hH hl
        obtain ⟨bb, hF, hL⟩ := lp_s hL
        unfold b_X10_solve_2 at hF
        refine lv_iload_n hx hb dX10_solve_28 rfl (lv_at hl 1 rfl) ?_
        refine w_b_f (tgt := 194) hx hb dX10_solve_29 (by decide) (fun c8 => ?_) (fun c8 => ?_)
        · replace hF := ifn c8 hF
          obtain rfl := se1 hF
          subst hL
          exact Jr7 _ _ _ hH (lv_sub hl [0, 1] rfl)
        · replace hF := ifp c8 hF
          refine lv_iconst (v := (0 : Int32)) hx hb dX10_solve_32 (by decide) ?_
          refine lv_istore_n (lv' := [(2, .int ((0 : Int32))), (0, .ref (g.2.2 (k0))), (1, .int (bI (s6.1)))]) hx hb dX10_solve_33 rfl hl (by decide) rfl (fun ls hl => ?_)
          obtain ⟨r10, hLr10, hF⟩ := ob hF
          have Jr10 : ∀ (H : Heap) (locs : List Loc) (ls : Array Slot), HW zM g r10 s.heap H locs → lv_has ls 5 [(0, .ref (g.2.2 (k0))), (1, .int (bI (s6.1)))] → W p l e (rmd 2) s m args below meth c H locs 0 0 (MQ below (Qw zM g wz none) args s 0 0 (zA zM g)) (F0 m 58 ls []) := by
            intro H locs ls hH hl
            refine lv_iconst (v := (0 : Int32)) hx hb dX10_solve_58 (by decide) ?_
            refine lv_istore_n (lv' := [(2, .int ((0 : Int32))), (0, .ref (g.2.2 (k0))), (1, .int (bI (s6.1)))]) hx hb dX10_solve_59 rfl hl (by decide) rfl (fun ls hl => ?_)
            obtain ⟨r15, hLr15, hF⟩ := ob hF
            have Jr15 : ∀ (H : Heap) (locs : List Loc) (ls : Array Slot), HW zM g r15 s.heap H locs → lv_has ls 5 [(0, .ref (g.2.2 (k0))), (1, .int (bI (s6.1)))] → W p l e (rmd 2) s m args below meth c H locs 0 0 (MQ below (Qw zM g wz none) args s 0 0 (zA zM g)) (F0 m 89 ls []) := by
              intro H locs ls hH hl
              refine lv_iconst (v := bI false) hx hb dX10_solve_89 (by decide) ?_
              refine lv_istore_n (lv' := [(1, .int (bI (false))), (0, .ref (g.2.2 (k0)))]) hx hb dX10_solve_90 rfl hl (by decide) rfl (fun ls hl => ?_)
              refine lv_iconst (v := (0 : Int32)) hx hb dX10_solve_91 (by decide) ?_
              refine lv_istore_n (lv' := [(2, .int ((0 : Int32))), (1, .int (bI (false))), (0, .ref (g.2.2 (k0)))]) hx hb dX10_solve_92 rfl hl (by decide) rfl (fun ls hl => ?_)
              obtain ⟨r23, hLr23, hF⟩ := ob hF
              have Jr23 : ∀ (H : Heap) (locs : List Loc) (ls : Array Slot), HW zM g r23.2 s.heap H locs → lv_has ls 5 [(0, .ref (g.2.2 (k0))), (1, .int (bI (r23.1)))] → W p l e (rmd 2) s m args below meth c H locs 0 0 (MQ below (Qw zM g wz none) args s 0 0 (zA zM g)) (F0 m 173 ls []) := by
                intro H locs ls hH hl
                refine lv_aload_n hx hb dX10_solve_173 rfl (lv_at hl 0 rfl) ?_
                refine lv_dup hx hb dX10_solve_174 rfl ?_
                refine w_geti X hH hk0 fs_10_27 lk_10_248 dX10_solve_175 ?_
                refine lv_iload_n hx hb dX10_solve_178 rfl (lv_at hl 1 rfl) ?_
                have J34 : ∀ (H : Heap) (locs : List Loc), HW zM g r23.2 s.heap H locs → W p l e (rmd 2) s m args below meth c H locs 0 0 (MQ below (Qw zM g wz none) args s 0 0 (zA zM g)) (F0 m 187 ls [.int ((if r23.1 = true then (1 : Int32) else (0 : Int32))), .int ((r23.2.1 (k0) 27)), .ref (g.2.2 (k0))]) := by
                  intro H locs hH
                  refine lv_iadd hx hb dX10_solve_187 ?_
                  obtain ⟨w36, h36, hF⟩ := ob hF
                  refine w_puti X hH h36 hk0 fs_10_27 nf_10_27 lk_10_248 dX10_solve_188 (fun H locs hH => ?_)
                  refine lv_goto (tgt := 28) hx hb dX10_solve_191 (by decide) ?_
                  obtain rfl := se1 hF
                  exact ih _ hL _ _ _ hH (lv_sub hl [0, 1] rfl)
                refine w_b_f (tgt := 186) hx hb dX10_solve_179 (by decide) (fun c35 => ?_) (fun c35 => ?_)
                · refine lv_iconst (v := (0 : Int32)) hx hb dX10_solve_186 (by decide) ?_
                  exact w_in c35 (J34 _ _ hH)
                · refine lv_iconst (v := (1 : Int32)) hx hb dX10_solve_182 (by decide) ?_
                  refine lv_goto (tgt := 187) hx hb dX10_solve_183 (by decide) ?_
                  exact w_ip c35 (J34 _ _ hH)
              have Lr23 : ∀ (n : Nat) (s22 : Bool × Int32 × Wd), lp (b_X10_solve_5 k0) n s22 = some r23 → ∀ (H : Heap) (locs : List Loc) (ls : Array Slot), HW zM g s22.2.2 s.heap H locs → lv_has ls 5 [(0, .ref (g.2.2 (k0))), (1, .int (bI (s22.1))), (2, .int (s22.2.1))] → W p l e (rmd 2) s m args below meth c H locs 0 0 (MQ below (Qw zM g wz none) args s 0 0 (zA zM g)) (F0 m 93 ls []) := by
                intro n
                induction n with
                | zero => intro s22 hL; exact lp_0 hL
                | succ n ih =>
                  intro s22 hL H locs ls hH hl
                  obtain ⟨bb, hF, hL⟩ := lp_s hL
                  unfold b_X10_solve_5 at hF
                  refine lv_iload_n hx hb dX10_solve_93 rfl (lv_at hl 2 rfl) ?_
                  refine lv_bipush (v := (56 : Int32)) hx hb dX10_solve_94 (by decide) ?_
                  refine w_ilt_f (tgt := 173) hx hb dX10_solve_96 (by decide) (fun c24 => ?_) (fun c24 => ?_)
                  · replace hF := ifn c24 hF
                    obtain rfl := se1 hF
                    subst hL
                    exact Jr23 _ _ _ hH (lv_sub hl [0, 1] rfl)
                  · replace hF := ifp c24 hF
                    refine lv_aload_n hx hb dX10_solve_99 rfl (lv_at hl 0 rfl) ?_
                    refine w_getr X hH hk0 fs_10_24 lk_10_55 dX10_solve_100 ?_
                    refine lv_iload_n hx hb dX10_solve_103 rfl (lv_at hl 2 rfl) ?_
                    obtain ⟨x25, h25, hF⟩ := ob hF
                    refine w_iald X hH h25 (rt_M_10_24 hk0) dX10_solve_104 ?_
                    refine lv_aload_n hx hb dX10_solve_105 rfl (lv_at hl 0 rfl) ?_
                    refine w_getr X hH hk0 fs_10_25 lk_10_58 dX10_solve_106 ?_
                    refine lv_iload_n hx hb dX10_solve_109 rfl (lv_at hl 2 rfl) ?_
                    obtain ⟨x26, h26, hF⟩ := ob hF
                    refine w_iald X hH h26 (rt_M_10_25 hk0) dX10_solve_110 ?_
                    refine lv_iconst (v := (-1 : Int32)) hx hb dX10_solve_111 (by decide) ?_
                    refine lv_ixor hx hb dX10_solve_112 ?_
                    refine lv_iand hx hb dX10_solve_113 ?_
                    refine lv_istore_n (lv' := [(3, .int ((x25 &&& (x26 ^^^ (-1 : Int32))))), (0, .ref (g.2.2 (k0))), (1, .int (bI (s22.1))), (2, .int (s22.2.1))]) hx hb dX10_solve_114 rfl hl (by decide) rfl (fun ls hl => ?_)
                    refine lv_iload_n hx hb dX10_solve_115 rfl (lv_at hl 0 rfl) ?_
                    refine w_zeq_f (tgt := 122) hx hb dX10_solve_116 (by decide) (fun c27 => ?_) (fun c27 => ?_)
                    · replace hF := ifn c27 hF
                      refine lv_iconst (v := bI true) hx hb dX10_solve_122 (by decide) ?_
                      refine lv_istore_n (lv' := [(1, .int (bI (true))), (3, .int ((x25 &&& (x26 ^^^ (-1 : Int32))))), (0, .ref (g.2.2 (k0))), (2, .int (s22.2.1))]) hx hb dX10_solve_123 rfl hl (by decide) rfl (fun ls hl => ?_)
                      refine lv_iconst (v := (0 : Int32)) hx hb dX10_solve_124 (by decide) ?_
                      refine lv_istore (lv' := [(4, .int ((0 : Int32))), (1, .int (bI (true))), (3, .int ((x25 &&& (x26 ^^^ (-1 : Int32))))), (0, .ref (g.2.2 (k0))), (2, .int (s22.2.1))]) hx hb dX10_solve_125 hl (by decide) rfl (fun ls hl => ?_)
                      obtain ⟨r29, hLr29, hF⟩ := ob hF
                      have Jr29 : ∀ (H : Heap) (locs : List Loc) (ls : Array Slot), HW zM g r29 s.heap H locs → lv_has ls 5 [(0, .ref (g.2.2 (k0))), (1, .int (bI (true))), (2, .int (s22.2.1)), (3, .int ((x25 &&& (x26 ^^^ (-1 : Int32)))))] → W p l e (rmd 2) s m args below meth c H locs 0 0 (MQ below (Qw zM g wz none) args s 0 0 (zA zM g)) (F0 m 167 ls []) := by
                        intro H locs ls hH hl
                        refine lv_iinc (v := (s22.2.1 + (1 : Int32))) (lv' := [(2, .int ((s22.2.1 + (1 : Int32)))), (0, .ref (g.2.2 (k0))), (1, .int (bI (true))), (3, .int ((x25 &&& (x26 ^^^ (-1 : Int32)))))]) hx hb dX10_solve_167 hl (k := 2) rfl rfl (by decide) rfl (fun ls hl => ?_)
                        refine lv_goto (tgt := 93) hx hb dX10_solve_170 (by decide) ?_
                        obtain rfl := se1 hF
                        exact ih _ hL _ _ _ hH (lv_sub hl [1, 2, 0] rfl)
                      have Lr29 : ∀ (n : Nat) (s28 : Int32 × Wd), lp (b_X10_solve_6 x25 x26 k0 s22) n s28 = some r29 → ∀ (H : Heap) (locs : List Loc) (ls : Array Slot), HW zM g s28.2 s.heap H locs → lv_has ls 5 [(0, .ref (g.2.2 (k0))), (1, .int (bI (true))), (2, .int (s22.2.1)), (3, .int ((x25 &&& (x26 ^^^ (-1 : Int32))))), (4, .int (s28.1))] → W p l e (rmd 2) s m args below meth c H locs 0 0 (MQ below (Qw zM g wz none) args s 0 0 (zA zM g)) (F0 m 127 ls []) := by
                        intro n
                        induction n with
                        | zero => intro s28 hL; exact lp_0 hL
                        | succ n ih =>
                          intro s28 hL H locs ls hH hl
                          obtain ⟨bb, hF, hL⟩ := lp_s hL
                          unfold b_X10_solve_6 at hF
                          refine lv_iload hx hb dX10_solve_127 (lv_at hl 4 rfl) ?_
                          refine lv_bipush (v := (10 : Int32)) hx hb dX10_solve_129 (by decide) ?_
                          refine w_ilt_f (tgt := 167) hx hb dX10_solve_131 (by decide) (fun c30 => ?_) (fun c30 => ?_)
                          · replace hF := ifn c30 hF
                            obtain rfl := se1 hF
                            subst hL
                            exact Jr29 _ _ _ hH (lv_sub hl [0, 1, 2, 3] rfl)
                          · replace hF := ifp c30 hF
                            obtain ⟨s31, hs31, hF⟩ := ob hF
                            have Js31 : ∀ (H : Heap) (locs : List Loc) (ls : Array Slot), HW zM g s31 s.heap H locs → lv_has ls 5 [(0, .ref (g.2.2 (k0))), (1, .int (bI (true))), (2, .int (s22.2.1)), (3, .int ((x25 &&& (x26 ^^^ (-1 : Int32))))), (4, .int (s28.1))] → W p l e (rmd 2) s m args below meth c H locs 0 0 (MQ below (Qw zM g wz none) args s 0 0 (zA zM g)) (F0 m 161 ls []) := by
                              intro H locs ls hH hl
                              refine lv_iinc (v := (s28.1 + (1 : Int32))) (lv' := [(4, .int ((s28.1 + (1 : Int32)))), (0, .ref (g.2.2 (k0))), (1, .int (bI (true))), (2, .int (s22.2.1)), (3, .int ((x25 &&& (x26 ^^^ (-1 : Int32)))))]) hx hb dX10_solve_161 hl (k := 4) rfl rfl (by decide) rfl (fun ls hl => ?_)
                              refine lv_goto (tgt := 127) hx hb dX10_solve_164 (by decide) ?_
                              obtain rfl := se1 hF
                              exact ih _ hL _ _ _ hH (lv_sub hl [1, 2, 3, 4, 0] rfl)
                            have hF := hs31
                            refine lv_iload_n hx hb dX10_solve_134 rfl (lv_at hl 3 rfl) ?_
                            refine lv_iload hx hb dX10_solve_135 (lv_at hl 4 rfl) ?_
                            refine w_callS (As := [.int ((x25 &&& (x26 ^^^ (-1 : Int32)))), .int (s28.1)]) (rest := []) (st1 := [.int (bI ((f_X10_has ((x25 &&& (x26 ^^^ (-1 : Int32)))) (s28.1))))]) X hH (c_X10_has (l := l) (g := g) (w := s28.2) (v_set := (x25 &&& (x26 ^^^ (-1 : Int32)))) (v_k := s28.1) rfl) (Or.inl tw_5_41) ms_X10_has tw_5_42 ⟨Nat.le_of_ble_eq_true rfl, Nat.le_of_ble_eq_true rfl⟩ rfl rfl hl.1 (Nat.le_of_ble_eq_true rfl) dX10_solve_137 ⟨Nat.le_refl _, Nat.le_refl _⟩ rfl (fun H locs hH => ?_)
                            refine w_b_f (tgt := 161) hx hb dX10_solve_140 (by decide) (fun c32 => ?_) (fun c32 => ?_)
                            · replace hF := ifn c32 hF
                              obtain rfl := se1 hF
                              exact Js31 _ _ _ hH (lv_sub hl [0, 1, 2, 3, 4] rfl)
                            · replace hF := ifp c32 hF
                              refine lv_aload_n hx hb dX10_solve_143 rfl (lv_at hl 0 rfl) ?_
                              refine w_getr X hH hk0 fs_10_26 lk_10_61 dX10_solve_144 ?_
                              refine lv_bipush (v := (10 : Int32)) hx hb dX10_solve_147 (by decide) ?_
                              refine lv_iload_n hx hb dX10_solve_149 rfl (lv_at hl 2 rfl) ?_
                              refine lv_imul hx hb dX10_solve_150 ?_
                              refine lv_iload hx hb dX10_solve_151 (lv_at hl 4 rfl) ?_
                              refine lv_iadd hx hb dX10_solve_153 ?_
                              refine lv_aload_n hx hb dX10_solve_154 rfl (lv_at hl 0 rfl) ?_
                              refine w_geti X hH hk0 fs_10_27 lk_10_248 dX10_solve_155 ?_
                              refine lv_iconst (v := (1 : Int32)) hx hb dX10_solve_158 (by decide) ?_
                              refine lv_iadd hx hb dX10_solve_159 ?_
                              obtain ⟨w33, h33, hF⟩ := ob hF
                              refine w_iast X hH h33 (rt_M_10_26 hk0) dX10_solve_160 (fun H locs hH => ?_)
                              obtain rfl := se1 hF
                              exact Js31 _ _ _ hH (lv_sub hl [0, 1, 2, 3, 4] rfl)
                      exact Lr29 NF _ hLr29 _ _ _ hH (lv_sub hl [3, 1, 4, 2, 0] rfl)
                    · replace hF := ifp c27 hF
                      refine lv_goto (tgt := 167) hx hb dX10_solve_119 (by decide) ?_
                      refine lv_iinc (v := (s22.2.1 + (1 : Int32))) (lv' := [(2, .int ((s22.2.1 + (1 : Int32)))), (3, .int ((x25 &&& (x26 ^^^ (-1 : Int32))))), (0, .ref (g.2.2 (k0))), (1, .int (bI (s22.1)))]) hx hb dX10_solve_167 hl (k := 3) rfl rfl (by decide) rfl (fun ls hl => ?_)
                      refine lv_goto (tgt := 93) hx hb dX10_solve_170 (by decide) ?_
                      obtain rfl := se1 hF
                      exact ih _ hL _ _ _ hH (lv_sub hl [2, 3, 0] rfl)
              exact Lr23 NF _ hLr23 _ _ _ hH (lv_sub hl [2, 1, 0] rfl)
            have Lr15 : ∀ (n : Nat) (s14 : Int32 × Wd), lp (b_X10_solve_4 k0) n s14 = some r15 → ∀ (H : Heap) (locs : List Loc) (ls : Array Slot), HW zM g s14.2 s.heap H locs → lv_has ls 5 [(0, .ref (g.2.2 (k0))), (1, .int (bI (s6.1))), (2, .int (s14.1))] → W p l e (rmd 2) s m args below meth c H locs 0 0 (MQ below (Qw zM g wz none) args s 0 0 (zA zM g)) (F0 m 60 ls []) := by
              intro n
              induction n with
              | zero => intro s14 hL; exact lp_0 hL
              | succ n ih =>
                intro s14 hL H locs ls hH hl
                obtain ⟨bb, hF, hL⟩ := lp_s hL
                unfold b_X10_solve_4 at hF
                refine lv_iload_n hx hb dX10_solve_60 rfl (lv_at hl 2 rfl) ?_
                refine lv_aload_n hx hb dX10_solve_61 rfl (lv_at hl 0 rfl) ?_
                refine w_getr X hH hk0 fs_10_18 lk_10_39 dX10_solve_62 ?_
                refine lv_iconst (v := (0 : Int32)) hx hb dX10_solve_65 (by decide) ?_
                obtain ⟨x16, h16, hF⟩ := ob hF
                refine w_iald X hH h16 (rt_M_10_18 hk0) dX10_solve_66 ?_
                refine w_ilt_f (tgt := 89) hx hb dX10_solve_67 (by decide) (fun c17 => ?_) (fun c17 => ?_)
                · replace hF := ifn c17 hF
                  obtain rfl := se1 hF
                  subst hL
                  exact Jr15 _ _ _ hH (lv_sub hl [0, 1] rfl)
                · replace hF := ifp c17 hF
                  obtain ⟨s18, hs18, hF⟩ := ob hF
                  have Js18 : ∀ (H : Heap) (locs : List Loc) (ls : Array Slot), HW zM g s18 s.heap H locs → lv_has ls 5 [(0, .ref (g.2.2 (k0))), (1, .int (bI (s6.1))), (2, .int (s14.1))] → W p l e (rmd 2) s m args below meth c H locs 0 0 (MQ below (Qw zM g wz none) args s 0 0 (zA zM g)) (F0 m 83 ls []) := by
                    intro H locs ls hH hl
                    refine lv_iinc (v := (s14.1 + (1 : Int32))) (lv' := [(2, .int ((s14.1 + (1 : Int32)))), (0, .ref (g.2.2 (k0))), (1, .int (bI (s6.1)))]) hx hb dX10_solve_83 hl (k := 2) rfl rfl (by decide) rfl (fun ls hl => ?_)
                    refine lv_goto (tgt := 60) hx hb dX10_solve_86 (by decide) ?_
                    obtain rfl := se1 hF
                    exact ih _ hL _ _ _ hH (lv_sub hl [1, 2, 0] rfl)
                  have hF := hs18
                  refine lv_aload_n hx hb dX10_solve_70 rfl (lv_at hl 0 rfl) ?_
                  refine lv_iload_n hx hb dX10_solve_71 rfl (lv_at hl 2 rfl) ?_
                  obtain ⟨x19, h19, hF⟩ := ob hF
                  refine w_callV (As := [.int (s14.1)]) (k := k0) (rest := []) (st1 := [.int (bI (x19))]) X hH (c_X10_isEnabled (l := l) (g := g) (w := s14.2) (k0 := k0) (v_c := s14.1) h19 hk0) (Or.inl tw_5_37) ms_X10_isEnabled im_X10_isEnabled hk0 cn_10 ⟨Nat.le_of_ble_eq_true rfl, Nat.le_of_ble_eq_true rfl⟩ rfl rfl hl.1 (Nat.le_of_ble_eq_true rfl) dX10_solve_72 ⟨Nat.le_refl _, Nat.le_refl _⟩ rfl (fun H locs hH => ?_)
                  refine w_b_f (tgt := 83) hx hb dX10_solve_75 (by decide) (fun c20 => ?_) (fun c20 => ?_)
                  · replace hF := ifn c20 hF
                    obtain rfl := se1 hF
                    exact Js18 _ _ _ hH (lv_sub hl [0, 1, 2] rfl)
                  · replace hF := ifp c20 hF
                    refine lv_aload_n hx hb dX10_solve_78 rfl (lv_at hl 0 rfl) ?_
                    refine lv_iload_n hx hb dX10_solve_79 rfl (lv_at hl 2 rfl) ?_
                    obtain ⟨w21, h21, hF⟩ := ob hF
                    refine w_callV (As := [.int (s14.1)]) (k := k0) (rest := []) (st1 := []) X hH (c_X10_apply (l := l) (g := g) (w := s14.2) (k0 := k0) (v_c := s14.1) h21 hk0) (Or.inl tw_5_44) ms_X10_apply im_X10_apply hk0 cn_10 ⟨Nat.le_of_ble_eq_true rfl, Nat.le_of_ble_eq_true rfl⟩ rfl rfl hl.1 (Nat.le_of_ble_eq_true rfl) dX10_solve_80 ⟨Nat.le_refl _, Nat.le_refl _⟩ rfl (fun H locs hH => ?_)
                    obtain rfl := se1 hF
                    exact Js18 _ _ _ hH (lv_sub hl [0, 1, 2] rfl)
            exact Lr15 NF _ hLr15 _ _ _ hH (lv_sub hl [1, 2, 0] rfl)
          have Lr10 : ∀ (n : Nat) (s9 : Int32 × Wd), lp (b_X10_solve_3 k0) n s9 = some r10 → ∀ (H : Heap) (locs : List Loc) (ls : Array Slot), HW zM g s9.2 s.heap H locs → lv_has ls 5 [(0, .ref (g.2.2 (k0))), (1, .int (bI (s6.1))), (2, .int (s9.1))] → W p l e (rmd 2) s m args below meth c H locs 0 0 (MQ below (Qw zM g wz none) args s 0 0 (zA zM g)) (F0 m 34 ls []) := by
            intro n
            induction n with
            | zero => intro s9 hL; exact lp_0 hL
            | succ n ih =>
              intro s9 hL H locs ls hH hl
              obtain ⟨bb, hF, hL⟩ := lp_s hL
              unfold b_X10_solve_3 at hF
              refine lv_iload_n hx hb dX10_solve_34 rfl (lv_at hl 2 rfl) ?_
              refine lv_bipush (v := (56 : Int32)) hx hb dX10_solve_35 (by decide) ?_
              refine w_ilt_f (tgt := 58) hx hb dX10_solve_37 (by decide) (fun c11 => ?_) (fun c11 => ?_)
              · replace hF := ifn c11 hF
                obtain rfl := se1 hF
                subst hL
                exact Jr10 _ _ _ hH (lv_sub hl [0, 1] rfl)
              · replace hF := ifp c11 hF
                refine lv_aload_n hx hb dX10_solve_40 rfl (lv_at hl 0 rfl) ?_
                refine w_getr X hH hk0 fs_10_25 lk_10_58 dX10_solve_41 ?_
                refine lv_iload_n hx hb dX10_solve_44 rfl (lv_at hl 2 rfl) ?_
                refine lv_aload_n hx hb dX10_solve_45 rfl (lv_at hl 0 rfl) ?_
                refine w_getr X hH hk0 fs_10_24 lk_10_55 dX10_solve_46 ?_
                refine lv_iload_n hx hb dX10_solve_49 rfl (lv_at hl 2 rfl) ?_
                obtain ⟨x12, h12, hF⟩ := ob hF
                refine w_iald X hH h12 (rt_M_10_24 hk0) dX10_solve_50 ?_
                obtain ⟨w13, h13, hF⟩ := ob hF
                refine w_iast X hH h13 (rt_M_10_25 hk0) dX10_solve_51 (fun H locs hH => ?_)
                refine lv_iinc (v := (s9.1 + (1 : Int32))) (lv' := [(2, .int ((s9.1 + (1 : Int32)))), (0, .ref (g.2.2 (k0))), (1, .int (bI (s6.1)))]) hx hb dX10_solve_52 hl (k := 2) rfl rfl (by decide) rfl (fun ls hl => ?_)
                refine lv_goto (tgt := 34) hx hb dX10_solve_55 (by decide) ?_
                obtain rfl := se1 hF
                exact ih _ hL _ _ _ hH (lv_sub hl [1, 2, 0] rfl)
          exact Lr10 NF _ hLr10 _ _ _ hH (lv_sub hl [1, 2, 0] rfl)
    exact Lr7 NF _ hLr7 _ _ _ hH (lv_sub hl [1, 0] rfl)
  have Lr2 : ∀ (n : Nat) (s1 : Int32 × Wd), lp (b_X10_solve_1 k0) n s1 = some r2 → ∀ (H : Heap) (locs : List Loc) (ls : Array Slot), HW zM g s1.2 s.heap H locs → lv_has ls 5 [(0, .ref (g.2.2 (k0))), (1, .int (s1.1))] → W p l e (rmd 2) s m args below meth c H locs 0 0 (MQ below (Qw zM g wz none) args s 0 0 (zA zM g)) (F0 m 2 ls []) := by
    intro n
    induction n with
    | zero => intro s1 hL; exact lp_0 hL
    | succ n ih =>
      intro s1 hL H locs ls hH hl
      obtain ⟨bb, hF, hL⟩ := lp_s hL
      unfold b_X10_solve_1 at hF
      refine lv_iload_n hx hb dX10_solve_2 rfl (lv_at hl 1 rfl) ?_
      refine lv_bipush (v := (56 : Int32)) hx hb dX10_solve_3 (by decide) ?_
      refine w_ilt_f (tgt := 21) hx hb dX10_solve_5 (by decide) (fun c3 => ?_) (fun c3 => ?_)
      · replace hF := ifn c3 hF
        obtain rfl := se1 hF
        subst hL
        exact Jr2 _ _ _ hH (lv_sub hl [0] rfl)
      · replace hF := ifp c3 hF
        refine lv_aload_n hx hb dX10_solve_8 rfl (lv_at hl 0 rfl) ?_
        refine w_getr X hH hk0 fs_10_24 lk_10_55 dX10_solve_9 ?_
        refine lv_iload_n hx hb dX10_solve_12 rfl (lv_at hl 1 rfl) ?_
        refine lv_iconst (v := (0 : Int32)) hx hb dX10_solve_13 (by decide) ?_
        obtain ⟨w4, h4, hF⟩ := ob hF
        refine w_iast X hH h4 (rt_M_10_24 hk0) dX10_solve_14 (fun H locs hH => ?_)
        refine lv_iinc (v := (s1.1 + (1 : Int32))) (lv' := [(1, .int ((s1.1 + (1 : Int32)))), (0, .ref (g.2.2 (k0)))]) hx hb dX10_solve_15 hl (k := 1) rfl rfl (by decide) rfl (fun ls hl => ?_)
        refine lv_goto (tgt := 2) hx hb dX10_solve_18 (by decide) ?_
        obtain rfl := se1 hF
        exact ih _ hL _ _ _ hH (lv_sub hl [1, 0] rfl)
  exact Lr2 NF _ hLr2 _ _ _ hH (lv_sub hl [1, 0] rfl)

theorem dX10_parse_0 : decode cX10_parse 0 = .ok (.aload_n 0, 1) := by decide +kernel
theorem dX10_parse_1 : decode cX10_parse 1 = .ok (.iconst 0, 1) := by decide +kernel
theorem dX10_parse_2 : decode cX10_parse 2 = .ok (.putfield 85, 3) := by decide +kernel
theorem dX10_parse_5 : decode cX10_parse 5 = .ok (.iload_n 1, 1) := by decide +kernel
theorem dX10_parse_6 : decode cX10_parse 6 = .ok (.i2l, 1) := by decide +kernel
theorem dX10_parse_7 : decode cX10_parse 7 = .ok (.lconst 0, 1) := by decide +kernel
theorem dX10_parse_8 : decode cX10_parse 8 = .ok (.aload_n 0, 1) := by decide +kernel
theorem dX10_parse_9 : decode cX10_parse 9 = .ok (.getfield 89, 3) := by decide +kernel
theorem dX10_parse_12 : decode cX10_parse 12 = .ok (.i2l, 1) := by decide +kernel
theorem dX10_parse_13 : decode cX10_parse 13 = .ok (.invokestatic 120, 3) := by decide +kernel
theorem dX10_parse_16 : decode cX10_parse 16 = .ok (.ifCond .ne 5, 3) := by decide +kernel
theorem dX10_parse_19 : decode cX10_parse 19 = .ok (.iconst (-1), 1) := by decide +kernel
theorem dX10_parse_20 : decode cX10_parse 20 = .ok (.ireturn, 1) := by decide +kernel
theorem dX10_parse_21 : decode cX10_parse 21 = .ok (.aload_n 0, 1) := by decide +kernel
theorem dX10_parse_22 : decode cX10_parse 22 = .ok (.iload_n 1, 1) := by decide +kernel
theorem dX10_parse_23 : decode cX10_parse 23 = .ok (.putfield 96, 3) := by decide +kernel
theorem dX10_parse_26 : decode cX10_parse 26 = .ok (.aload_n 0, 1) := by decide +kernel
theorem dX10_parse_27 : decode cX10_parse 27 = .ok (.iconst 0, 1) := by decide +kernel
theorem dX10_parse_28 : decode cX10_parse 28 = .ok (.putfield 89, 3) := by decide +kernel
theorem dX10_parse_31 : decode cX10_parse 31 = .ok (.aload_n 0, 1) := by decide +kernel
theorem dX10_parse_32 : decode cX10_parse 32 = .ok (.iconst 0, 1) := by decide +kernel
theorem dX10_parse_33 : decode cX10_parse 33 = .ok (.putfield 99, 3) := by decide +kernel
theorem dX10_parse_36 : decode cX10_parse 36 = .ok (.aload_n 0, 1) := by decide +kernel
theorem dX10_parse_37 : decode cX10_parse 37 = .ok (.iconst 0, 1) := by decide +kernel
theorem dX10_parse_38 : decode cX10_parse 38 = .ok (.putfield 126, 3) := by decide +kernel
theorem dX10_parse_41 : decode cX10_parse 41 = .ok (.aload_n 0, 1) := by decide +kernel
theorem dX10_parse_42 : decode cX10_parse 42 = .ok (.getfield 13, 3) := by decide +kernel
theorem dX10_parse_45 : decode cX10_parse 45 = .ok (.iconst 1, 1) := by decide +kernel
theorem dX10_parse_46 : decode cX10_parse 46 = .ok (.iconst 0, 1) := by decide +kernel
theorem dX10_parse_47 : decode cX10_parse 47 = .ok (.iastore, 1) := by decide +kernel
theorem dX10_parse_48 : decode cX10_parse 48 = .ok (.aload_n 0, 1) := by decide +kernel
theorem dX10_parse_49 : decode cX10_parse 49 = .ok (.getfield 17, 3) := by decide +kernel
theorem dX10_parse_52 : decode cX10_parse 52 = .ok (.iconst 1, 1) := by decide +kernel
theorem dX10_parse_53 : decode cX10_parse 53 = .ok (.iconst 0, 1) := by decide +kernel
theorem dX10_parse_54 : decode cX10_parse 54 = .ok (.iastore, 1) := by decide +kernel
theorem dX10_parse_55 : decode cX10_parse 55 = .ok (.aload_n 0, 1) := by decide +kernel
theorem dX10_parse_56 : decode cX10_parse 56 = .ok (.getfield 20, 3) := by decide +kernel
theorem dX10_parse_59 : decode cX10_parse 59 = .ok (.iconst 1, 1) := by decide +kernel
theorem dX10_parse_60 : decode cX10_parse 60 = .ok (.iconst 0, 1) := by decide +kernel
theorem dX10_parse_61 : decode cX10_parse 61 = .ok (.iastore, 1) := by decide +kernel
theorem dX10_parse_62 : decode cX10_parse 62 = .ok (.aload_n 0, 1) := by decide +kernel
theorem dX10_parse_63 : decode cX10_parse 63 = .ok (.getfield 42, 3) := by decide +kernel
theorem dX10_parse_66 : decode cX10_parse 66 = .ok (.iconst 0, 1) := by decide +kernel
theorem dX10_parse_67 : decode cX10_parse 67 = .ok (.iconst 0, 1) := by decide +kernel
theorem dX10_parse_68 : decode cX10_parse 68 = .ok (.iastore, 1) := by decide +kernel
theorem dX10_parse_69 : decode cX10_parse 69 = .ok (.aload_n 0, 1) := by decide +kernel
theorem dX10_parse_70 : decode cX10_parse 70 = .ok (.invokevirtual 168, 3) := by decide +kernel
theorem dX10_parse_73 : decode cX10_parse 73 = .ok (.aload_n 0, 1) := by decide +kernel
theorem dX10_parse_74 : decode cX10_parse 74 = .ok (.getfield 126, 3) := by decide +kernel
theorem dX10_parse_77 : decode cX10_parse 77 = .ok (.ifCond .ne 77, 3) := by decide +kernel
theorem dX10_parse_80 : decode cX10_parse 80 = .ok (.aload_n 0, 1) := by decide +kernel
theorem dX10_parse_81 : decode cX10_parse 81 = .ok (.getfield 109, 3) := by decide +kernel
theorem dX10_parse_84 : decode cX10_parse 84 = .ok (.ifCond .eq 70, 3) := by decide +kernel
theorem dX10_parse_87 : decode cX10_parse 87 = .ok (.aload_n 0, 1) := by decide +kernel
theorem dX10_parse_88 : decode cX10_parse 88 = .ok (.invokevirtual 161, 3) := by decide +kernel
theorem dX10_parse_91 : decode cX10_parse 91 = .ok (.istore_n 2, 1) := by decide +kernel
theorem dX10_parse_92 : decode cX10_parse 92 = .ok (.iload_n 2, 1) := by decide +kernel
theorem dX10_parse_93 : decode cX10_parse 93 = .ok (.iconst 5, 1) := by decide +kernel
theorem dX10_parse_94 : decode cX10_parse 94 = .ok (.if_icmp .ne 10, 3) := by decide +kernel
theorem dX10_parse_97 : decode cX10_parse 97 = .ok (.aload_n 0, 1) := by decide +kernel
theorem dX10_parse_98 : decode cX10_parse 98 = .ok (.invokevirtual 184, 3) := by decide +kernel
theorem dX10_parse_101 : decode cX10_parse 101 = .ok (.goto 25, 3) := by decide +kernel
theorem dX10_parse_104 : decode cX10_parse 104 = .ok (.aload_n 0, 1) := by decide +kernel
theorem dX10_parse_105 : decode cX10_parse 105 = .ok (.iload_n 2, 1) := by decide +kernel
theorem dX10_parse_106 : decode cX10_parse 106 = .ok (.ifCond .lt 7, 3) := by decide +kernel
theorem dX10_parse_109 : decode cX10_parse 109 = .ok (.iconst 1, 1) := by decide +kernel
theorem dX10_parse_110 : decode cX10_parse 110 = .ok (.goto 4, 3) := by decide +kernel
theorem dX10_parse_113 : decode cX10_parse 113 = .ok (.iconst 0, 1) := by decide +kernel
theorem dX10_parse_114 : decode cX10_parse 114 = .ok (.iconst 1, 1) := by decide +kernel
theorem dX10_parse_115 : decode cX10_parse 115 = .ok (.invokevirtual 164, 3) := by decide +kernel
theorem dX10_parse_118 : decode cX10_parse 118 = .ok (.ifCond .eq 8, 3) := by decide +kernel
theorem dX10_parse_121 : decode cX10_parse 121 = .ok (.aload_n 0, 1) := by decide +kernel
theorem dX10_parse_122 : decode cX10_parse 122 = .ok (.iload_n 2, 1) := by decide +kernel
theorem dX10_parse_123 : decode cX10_parse 123 = .ok (.invokevirtual 187, 3) := by decide +kernel
theorem dX10_parse_126 : decode cX10_parse 126 = .ok (.aload_n 0, 1) := by decide +kernel
theorem dX10_parse_127 : decode cX10_parse 127 = .ok (.aload_n 0, 1) := by decide +kernel
theorem dX10_parse_128 : decode cX10_parse 128 = .ok (.getfield 109, 3) := by decide +kernel
theorem dX10_parse_131 : decode cX10_parse 131 = .ok (.iconst 2, 1) := by decide +kernel
theorem dX10_parse_132 : decode cX10_parse 132 = .ok (.if_icmp .ne 7, 3) := by decide +kernel
theorem dX10_parse_135 : decode cX10_parse 135 = .ok (.iconst 1, 1) := by decide +kernel
theorem dX10_parse_136 : decode cX10_parse 136 = .ok (.goto 4, 3) := by decide +kernel
theorem dX10_parse_139 : decode cX10_parse 139 = .ok (.iconst 0, 1) := by decide +kernel
theorem dX10_parse_140 : decode cX10_parse 140 = .ok (.iconst 1, 1) := by decide +kernel
theorem dX10_parse_141 : decode cX10_parse 141 = .ok (.invokevirtual 164, 3) := by decide +kernel
theorem dX10_parse_144 : decode cX10_parse 144 = .ok (.ifCond .eq 7, 3) := by decide +kernel
theorem dX10_parse_147 : decode cX10_parse 147 = .ok (.aload_n 0, 1) := by decide +kernel
theorem dX10_parse_148 : decode cX10_parse 148 = .ok (.invokevirtual 168, 3) := by decide +kernel
theorem dX10_parse_151 : decode cX10_parse 151 = .ok (.goto (-78), 3) := by decide +kernel
theorem dX10_parse_154 : decode cX10_parse 154 = .ok (.aload_n 0, 1) := by decide +kernel
theorem dX10_parse_155 : decode cX10_parse 155 = .ok (.getfield 126, 3) := by decide +kernel
theorem dX10_parse_158 : decode cX10_parse 158 = .ok (.ifCond .eq 19, 3) := by decide +kernel
theorem dX10_parse_161 : decode cX10_parse 161 = .ok (.bipush (-2), 2) := by decide +kernel
theorem dX10_parse_163 : decode cX10_parse 163 = .ok (.bipush 8, 2) := by decide +kernel
theorem dX10_parse_165 : decode cX10_parse 165 = .ok (.aload_n 0, 1) := by decide +kernel
theorem dX10_parse_166 : decode cX10_parse 166 = .ok (.getfield 129, 3) := by decide +kernel
theorem dX10_parse_169 : decode cX10_parse 169 = .ok (.imul, 1) := by decide +kernel
theorem dX10_parse_170 : decode cX10_parse 170 = .ok (.aload_n 0, 1) := by decide +kernel
theorem dX10_parse_171 : decode cX10_parse 171 = .ok (.getfield 126, 3) := by decide +kernel
theorem dX10_parse_174 : decode cX10_parse 174 = .ok (.iadd, 1) := by decide +kernel
theorem dX10_parse_175 : decode cX10_parse 175 = .ok (.isub, 1) := by decide +kernel
theorem dX10_parse_176 : decode cX10_parse 176 = .ok (.ireturn, 1) := by decide +kernel
theorem dX10_parse_177 : decode cX10_parse 177 = .ok (.aload_n 0, 1) := by decide +kernel
theorem dX10_parse_178 : decode cX10_parse 178 = .ok (.getfield 42, 3) := by decide +kernel
theorem dX10_parse_181 : decode cX10_parse 181 = .ok (.iconst 1, 1) := by decide +kernel
theorem dX10_parse_182 : decode cX10_parse 182 = .ok (.aload_n 0, 1) := by decide +kernel
theorem dX10_parse_183 : decode cX10_parse 183 = .ok (.getfield 42, 3) := by decide +kernel
theorem dX10_parse_186 : decode cX10_parse 186 = .ok (.iconst 0, 1) := by decide +kernel
theorem dX10_parse_187 : decode cX10_parse 187 = .ok (.iaload, 1) := by decide +kernel
theorem dX10_parse_188 : decode cX10_parse 188 = .ok (.invokestatic 190, 3) := by decide +kernel
theorem dX10_parse_191 : decode cX10_parse 191 = .ok (.iastore, 1) := by decide +kernel
theorem dX10_parse_192 : decode cX10_parse 192 = .ok (.aload_n 0, 1) := by decide +kernel
theorem dX10_parse_193 : decode cX10_parse 193 = .ok (.invokevirtual 193, 3) := by decide +kernel
theorem dX10_parse_196 : decode cX10_parse 196 = .ok (.aload_n 0, 1) := by decide +kernel
theorem dX10_parse_197 : decode cX10_parse 197 = .ok (.invokevirtual 82, 3) := by decide +kernel
theorem dX10_parse_200 : decode cX10_parse 200 = .ok (.aload_n 0, 1) := by decide +kernel
theorem dX10_parse_201 : decode cX10_parse 201 = .ok (.getfield 39, 3) := by decide +kernel
theorem dX10_parse_204 : decode cX10_parse 204 = .ok (.iconst 0, 1) := by decide +kernel
theorem dX10_parse_205 : decode cX10_parse 205 = .ok (.iaload, 1) := by decide +kernel
theorem dX10_parse_206 : decode cX10_parse 206 = .ok (.ireturn, 1) := by decide +kernel
set_option maxHeartbeats 4000000 in
set_option maxRecDepth 100000 in
theorem c_X10_parse {l : Launch} {g : Gh} {w : Wd} {k0 : Nat} {v_n : Int32} {rz : Int32} {wz : Wd} (hF : f_X10_parse w k0 v_n = some (rz, wz)) (hk0 : zct zM k0 = 10) : Met l yX10_parse (Cond.code yX10_parse cX10_parse 3 (some .int) :: TT) (rmd 10) (Pcw zM g w [.ref (g.2.2 k0), .int (v_n)]) (Qw zM g wz (some (.int (rz)))) 0 0 (zA zM g) := by
  refine mt_start (by decide) (Nat.le_of_ble_eq_true rfl) ?_
  intro p e s m args below meth c H locs ls X hr hl hH
  have hx := X.1
  have hb := X.2.1
  have hml := X.2.2.1
  have hown := X.2.2.2.1
  have ht := X.2.2.2.2.1
  have hl : lv_has ls 3 [(0, .ref (g.2.2 (k0))), (1, .int (v_n))] := hl
  unfold f_X10_parse at hF
  refine lv_aload_n hx hb dX10_parse_0 rfl (lv_at hl 0 rfl) ?_
  refine lv_iconst (v := (0 : Int32)) hx hb dX10_parse_1 (by decide) ?_
  obtain ⟨w1, h1, hF⟩ := ob hF
  refine w_puti X hH h1 hk0 fs_10_0 nf_10_0 lk_10_85 dX10_parse_2 (fun H locs hH => ?_)
  refine lv_iload_n hx hb dX10_parse_5 rfl (lv_at hl 1 rfl) ?_
  refine w_i2l hx hb dX10_parse_6 ?_
  refine lv_lconst (v := 0) hx hb dX10_parse_7 (by decide) ?_
  refine lv_aload_n hx hb dX10_parse_8 rfl (lv_at hl 0 rfl) ?_
  refine w_geti X hH hk0 fs_10_2 lk_10_89 dX10_parse_9 ?_
  refine w_i2l hx hb dX10_parse_12 ?_
  refine w_callS (As := [.long ((v_n).toInt64), .long ((0 : Int64)), .long (((w1.1 (k0) 2)).toInt64)]) (rest := []) (st1 := [.int (bI ((f_X10_within ((v_n).toInt64) ((0 : Int64)) (((w1.1 (k0) 2)).toInt64))))]) X hH (c_X10_within (l := l) (g := g) (w := w1) (v_v := (v_n).toInt64) (v_low := (0 : Int64)) (v_high := ((w1.1 (k0) 2)).toInt64) rfl) (Or.inl tw_5_223) ms_X10_within tw_5_224 ⟨Nat.le_of_ble_eq_true rfl, Nat.le_of_ble_eq_true rfl⟩ rfl rfl hl.1 (Nat.le_of_ble_eq_true rfl) dX10_parse_13 ⟨Nat.le_refl _, Nat.le_refl _⟩ rfl (fun H locs hH => ?_)
  refine w_b_t (tgt := 21) hx hb dX10_parse_16 (by decide) (fun c2 => ?_) (fun c2 => ?_)
  · replace hF := ifn (fun z => z c2) hF
    refine lv_aload_n hx hb dX10_parse_21 rfl (lv_at hl 0 rfl) ?_
    refine lv_iload_n hx hb dX10_parse_22 rfl (lv_at hl 1 rfl) ?_
    obtain ⟨w3, h3, hF⟩ := ob hF
    refine w_puti X hH h3 hk0 fs_10_3 nf_10_3 lk_10_96 dX10_parse_23 (fun H locs hH => ?_)
    refine lv_aload_n hx hb dX10_parse_26 rfl (lv_at hl 0 rfl) ?_
    refine lv_iconst (v := (0 : Int32)) hx hb dX10_parse_27 (by decide) ?_
    obtain ⟨w4, h4, hF⟩ := ob hF
    refine w_puti X hH h4 hk0 fs_10_2 nf_10_2 lk_10_89 dX10_parse_28 (fun H locs hH => ?_)
    refine lv_aload_n hx hb dX10_parse_31 rfl (lv_at hl 0 rfl) ?_
    refine lv_iconst (v := (0 : Int32)) hx hb dX10_parse_32 (by decide) ?_
    obtain ⟨w5, h5, hF⟩ := ob hF
    refine w_puti X hH h5 hk0 fs_10_5 nf_10_5 lk_10_99 dX10_parse_33 (fun H locs hH => ?_)
    refine lv_aload_n hx hb dX10_parse_36 rfl (lv_at hl 0 rfl) ?_
    refine lv_iconst (v := (0 : Int32)) hx hb dX10_parse_37 (by decide) ?_
    obtain ⟨w6, h6, hF⟩ := ob hF
    refine w_puti X hH h6 hk0 fs_10_8 nf_10_8 lk_10_126 dX10_parse_38 (fun H locs hH => ?_)
    refine lv_aload_n hx hb dX10_parse_41 rfl (lv_at hl 0 rfl) ?_
    refine w_getr X hH hk0 fs_10_10 lk_10_13 dX10_parse_42 ?_
    refine lv_iconst (v := (1 : Int32)) hx hb dX10_parse_45 (by decide) ?_
    refine lv_iconst (v := (0 : Int32)) hx hb dX10_parse_46 (by decide) ?_
    obtain ⟨w7, h7, hF⟩ := ob hF
    refine w_iast X hH h7 (rt_M_10_10 hk0) dX10_parse_47 (fun H locs hH => ?_)
    refine lv_aload_n hx hb dX10_parse_48 rfl (lv_at hl 0 rfl) ?_
    refine w_getr X hH hk0 fs_10_11 lk_10_17 dX10_parse_49 ?_
    refine lv_iconst (v := (1 : Int32)) hx hb dX10_parse_52 (by decide) ?_
    refine lv_iconst (v := (0 : Int32)) hx hb dX10_parse_53 (by decide) ?_
    obtain ⟨w8, h8, hF⟩ := ob hF
    refine w_iast X hH h8 (rt_M_10_11 hk0) dX10_parse_54 (fun H locs hH => ?_)
    refine lv_aload_n hx hb dX10_parse_55 rfl (lv_at hl 0 rfl) ?_
    refine w_getr X hH hk0 fs_10_12 lk_10_20 dX10_parse_56 ?_
    refine lv_iconst (v := (1 : Int32)) hx hb dX10_parse_59 (by decide) ?_
    refine lv_iconst (v := (0 : Int32)) hx hb dX10_parse_60 (by decide) ?_
    obtain ⟨w9, h9, hF⟩ := ob hF
    refine w_iast X hH h9 (rt_M_10_12 hk0) dX10_parse_61 (fun H locs hH => ?_)
    refine lv_aload_n hx hb dX10_parse_62 rfl (lv_at hl 0 rfl) ?_
    refine w_getr X hH hk0 fs_10_19 lk_10_42 dX10_parse_63 ?_
    refine lv_iconst (v := (0 : Int32)) hx hb dX10_parse_66 (by decide) ?_
    refine lv_iconst (v := (0 : Int32)) hx hb dX10_parse_67 (by decide) ?_
    obtain ⟨w10, h10, hF⟩ := ob hF
    refine w_iast X hH h10 (rt_M_10_19 hk0) dX10_parse_68 (fun H locs hH => ?_)
    refine lv_aload_n hx hb dX10_parse_69 rfl (lv_at hl 0 rfl) ?_
    obtain ⟨w11, h11, hF⟩ := ob hF
    refine w_callV (As := []) (k := k0) (rest := []) (st1 := []) X hH (c_X10_nextToken (l := l) (g := g) (w := w10) (k0 := k0) h11 hk0) (Or.inl tw_5_226) ms_X10_nextToken im_X10_nextToken hk0 cn_10 ⟨Nat.le_of_ble_eq_true rfl, Nat.le_of_ble_eq_true rfl⟩ rfl rfl hl.1 (Nat.le_of_ble_eq_true rfl) dX10_parse_70 ⟨Nat.le_refl _, Nat.le_refl _⟩ rfl (fun H locs hH => ?_)
    obtain ⟨r13, hLr13, hF⟩ := ob hF
    have Jr13 : ∀ (H : Heap) (locs : List Loc) (ls : Array Slot), HW zM g r13 s.heap H locs → lv_has ls 3 [(0, .ref (g.2.2 (k0))), (1, .int (v_n))] → W p l e (rmd 10) s m args below meth c H locs 0 0 (MQ below (Qw zM g wz (some (.int (rz)))) args s 0 0 (zA zM g)) (F0 m 154 ls []) := by
      intro H locs ls hH hl
      refine lv_aload_n hx hb dX10_parse_154 rfl (lv_at hl 0 rfl) ?_
      refine w_geti X hH hk0 fs_10_8 lk_10_126 dX10_parse_155 ?_
      refine w_zne_f (tgt := 177) hx hb dX10_parse_158 (by decide) (fun c33 => ?_) (fun c33 => ?_)
      · replace hF := ifn c33 hF
        refine lv_aload_n hx hb dX10_parse_177 rfl (lv_at hl 0 rfl) ?_
        refine w_getr X hH hk0 fs_10_19 lk_10_42 dX10_parse_178 ?_
        refine lv_iconst (v := (1 : Int32)) hx hb dX10_parse_181 (by decide) ?_
        refine lv_aload_n hx hb dX10_parse_182 rfl (lv_at hl 0 rfl) ?_
        refine w_getr X hH hk0 fs_10_19 lk_10_42 dX10_parse_183 ?_
        refine lv_iconst (v := (0 : Int32)) hx hb dX10_parse_186 (by decide) ?_
        obtain ⟨x34, h34, hF⟩ := ob hF
        refine w_iald X hH h34 (rt_M_10_19 hk0) dX10_parse_187 ?_
        refine w_callS (As := [.int (x34)]) (rest := [.int ((1 : Int32)), .ref (g.2.2 ((zrf zM (k0) 19)))]) (st1 := [.int ((f_X10_allOf (x34))), .int ((1 : Int32)), .ref (g.2.2 ((zrf zM (k0) 19)))]) X hH (c_X10_allOf (l := l) (g := g) (w := r13) (v_n := x34) rfl) (Or.inl tw_6_90) ms_X10_allOf tw_6_91 ⟨Nat.le_of_ble_eq_true rfl, Nat.le_of_ble_eq_true rfl⟩ rfl rfl hl.1 (Nat.le_of_ble_eq_true rfl) dX10_parse_188 ⟨Nat.le_refl _, Nat.le_refl _⟩ rfl (fun H locs hH => ?_)
        obtain ⟨w35, h35, hF⟩ := ob hF
        refine w_iast X hH h35 (rt_M_10_19 hk0) dX10_parse_191 (fun H locs hH => ?_)
        refine lv_aload_n hx hb dX10_parse_192 rfl (lv_at hl 0 rfl) ?_
        obtain ⟨w36, h36, hF⟩ := ob hF
        refine w_callV (As := []) (k := k0) (rest := []) (st1 := []) X hH (c_X10_adopt (l := l) (g := g) (w := w35) (k0 := k0) h36 hk0) (Or.inl tw_6_93) ms_X10_adopt im_X10_adopt hk0 cn_10 ⟨Nat.le_of_ble_eq_true rfl, Nat.le_of_ble_eq_true rfl⟩ rfl rfl hl.1 (Nat.le_of_ble_eq_true rfl) dX10_parse_193 ⟨Nat.le_refl _, Nat.le_refl _⟩ rfl (fun H locs hH => ?_)
        refine lv_aload_n hx hb dX10_parse_196 rfl (lv_at hl 0 rfl) ?_
        obtain ⟨w37, h37, hF⟩ := ob hF
        refine w_callV (As := []) (k := k0) (rest := []) (st1 := []) X hH (c_X10_solve (l := l) (g := g) (w := w36) (k0 := k0) h37 hk0) (Or.inl tw_5_33) ms_X10_solve im_X10_solve hk0 cn_10 ⟨Nat.le_of_ble_eq_true rfl, Nat.le_of_ble_eq_true rfl⟩ rfl rfl hl.1 (Nat.le_of_ble_eq_true rfl) dX10_parse_197 ⟨Nat.le_refl _, Nat.le_refl _⟩ rfl (fun H locs hH => ?_)
        refine lv_aload_n hx hb dX10_parse_200 rfl (lv_at hl 0 rfl) ?_
        refine w_getr X hH hk0 fs_10_18 lk_10_39 dX10_parse_201 ?_
        refine lv_iconst (v := (0 : Int32)) hx hb dX10_parse_204 (by decide) ?_
        obtain ⟨x38, h38, hF⟩ := ob hF
        refine w_iald X hH h38 (rt_M_10_18 hk0) dX10_parse_205 ?_
        obtain ⟨rfl, rfl⟩ := se2 hF
        exact w_iret X hH hr dX10_parse_206
      · replace hF := ifp c33 hF
        refine lv_bipush (v := (-2 : Int32)) hx hb dX10_parse_161 (by decide) ?_
        refine lv_bipush (v := (8 : Int32)) hx hb dX10_parse_163 (by decide) ?_
        refine lv_aload_n hx hb dX10_parse_165 rfl (lv_at hl 0 rfl) ?_
        refine w_geti X hH hk0 fs_10_9 lk_10_129 dX10_parse_166 ?_
        refine lv_imul hx hb dX10_parse_169 ?_
        refine lv_aload_n hx hb dX10_parse_170 rfl (lv_at hl 0 rfl) ?_
        refine w_geti X hH hk0 fs_10_8 lk_10_126 dX10_parse_171 ?_
        refine lv_iadd hx hb dX10_parse_174 ?_
        refine lv_isub hx hb dX10_parse_175 ?_
        obtain ⟨rfl, rfl⟩ := se2 hF
        exact w_iret X hH hr dX10_parse_176
    have Lr13 : ∀ (n : Nat) (s12 : Wd), lp (b_X10_parse_1 k0) n s12 = some r13 → ∀ (H : Heap) (locs : List Loc) (ls : Array Slot), HW zM g s12 s.heap H locs → lv_has ls 3 [(0, .ref (g.2.2 (k0))), (1, .int (v_n))] → W p l e (rmd 10) s m args below meth c H locs 0 0 (MQ below (Qw zM g wz (some (.int (rz)))) args s 0 0 (zA zM g)) (F0 m 73 ls []) := by
      intro n
      induction n with
      | zero => intro s12 hL; exact lp_0 hL
      | succ n ih =>
        intro s12 hL H locs ls hH hl
        obtain ⟨bb, hF, hL⟩ := lp_s hL
        unfold b_X10_parse_1 at hF
        refine lv_aload_n hx hb dX10_parse_73 rfl (lv_at hl 0 rfl) ?_
        refine w_geti X hH hk0 fs_10_8 lk_10_126 dX10_parse_74 ?_
        have J14T : ((s12.1 (k0) 8) = (0 : Int32)) ∧ (¬ ((s12.1 (k0) 6) = (0 : Int32))) → ∀ (H : Heap) (locs : List Loc), HW zM g s12 s.heap H locs → W p l e (rmd 10) s m args below meth c H locs 0 0 (MQ below (Qw zM g wz (some (.int (rz)))) args s 0 0 (zA zM g)) (F0 m 87 ls []) := by
          intro hc H locs hH
          replace hF := ifp hc hF
          refine lv_aload_n hx hb dX10_parse_87 rfl (lv_at hl 0 rfl) ?_
          obtain ⟨x17, h17, hF⟩ := ob hF
          refine w_callV (As := []) (k := k0) (rest := []) (st1 := [.int (x17)]) X hH (c_X10_keyword (l := l) (g := g) (w := s12) (k0 := k0) h17 hk0) (Or.inl tw_5_237) ms_X10_keyword im_X10_keyword hk0 cn_10 ⟨Nat.le_of_ble_eq_true rfl, Nat.le_of_ble_eq_true rfl⟩ rfl rfl hl.1 (Nat.le_of_ble_eq_true rfl) dX10_parse_88 ⟨Nat.le_refl _, Nat.le_refl _⟩ rfl (fun H locs hH => ?_)
          refine lv_istore_n (lv' := [(2, .int (x17)), (0, .ref (g.2.2 (k0))), (1, .int (v_n))]) hx hb dX10_parse_91 rfl hl (by decide) rfl (fun ls hl => ?_)
          obtain ⟨s18, hs18, hF⟩ := ob hF
          have Js18 : ∀ (H : Heap) (locs : List Loc) (ls : Array Slot), HW zM g s18 s.heap H locs → lv_has ls 3 [(0, .ref (g.2.2 (k0))), (1, .int (v_n)), (2, .int (x17))] → W p l e (rmd 10) s m args below meth c H locs 0 0 (MQ below (Qw zM g wz (some (.int (rz)))) args s 0 0 (zA zM g)) (F0 m 126 ls []) := by
            intro H locs ls hH hl
            obtain ⟨s27, hs27, hF⟩ := ob hF
            have Js27 : ∀ (H : Heap) (locs : List Loc) (ls : Array Slot), HW zM g s27 s.heap H locs → lv_has ls 3 [(0, .ref (g.2.2 (k0))), (1, .int (v_n)), (2, .int (x17))] → W p l e (rmd 10) s m args below meth c H locs 0 0 (MQ below (Qw zM g wz (some (.int (rz)))) args s 0 0 (zA zM g)) (F0 m 73 ls []) := by
              intro H locs ls hH hl
              obtain rfl := se1 hF
              exact ih _ hL _ _ _ hH (lv_sub hl [0, 1] rfl)
            have hF := hs27
            refine lv_aload_n hx hb dX10_parse_126 rfl (lv_at hl 0 rfl) ?_
            refine lv_aload_n hx hb dX10_parse_127 rfl (lv_at hl 0 rfl) ?_
            refine w_geti X hH hk0 fs_10_6 lk_10_109 dX10_parse_128 ?_
            refine lv_iconst (v := (2 : Int32)) hx hb dX10_parse_131 (by decide) ?_
            have J28 : ∀ (H : Heap) (locs : List Loc), HW zM g s18 s.heap H locs → W p l e (rmd 10) s m args below meth c H locs 0 0 (MQ below (Qw zM g wz (some (.int (rz)))) args s 0 0 (zA zM g)) (F0 m 140 ls [.int (bI ((decide ((s18.1 (k0) 6) = (2 : Int32))))), .ref (g.2.2 (k0))]) := by
              intro H locs hH
              refine lv_iconst (v := (1 : Int32)) hx hb dX10_parse_140 (by decide) ?_
              obtain ⟨x30, h30, hF⟩ := ob hF
              refine w_callV (As := [.int (bI ((decide ((s18.1 (k0) 6) = (2 : Int32))))), .int ((1 : Int32))]) (k := k0) (rest := []) (st1 := [.int (bI (x30.1))]) X hH (c_X10_must (l := l) (g := g) (w := s18) (k0 := k0) (v_condition := (decide ((s18.1 (k0) 6) = (2 : Int32)))) (v_kind := (1 : Int32)) h30 hk0) (Or.inl tw_6_66) ms_X10_must im_X10_must hk0 cn_10 ⟨Nat.le_of_ble_eq_true rfl, Nat.le_of_ble_eq_true rfl⟩ rfl rfl hl.1 (Nat.le_of_ble_eq_true rfl) dX10_parse_141 ⟨Nat.le_refl _, Nat.le_refl _⟩ rfl (fun H locs hH => ?_)
              refine w_b_f (tgt := 151) hx hb dX10_parse_144 (by decide) (fun c31 => ?_) (fun c31 => ?_)
              · replace hF := ifn c31 hF
                refine lv_goto (tgt := 73) hx hb dX10_parse_151 (by decide) ?_
                obtain rfl := se1 hF
                exact Js27 _ _ _ hH (lv_sub hl [0, 1, 2] rfl)
              · replace hF := ifp c31 hF
                refine lv_aload_n hx hb dX10_parse_147 rfl (lv_at hl 0 rfl) ?_
                obtain ⟨w32, h32, hF⟩ := ob hF
                refine w_callV (As := []) (k := k0) (rest := []) (st1 := []) X hH (c_X10_nextToken (l := l) (g := g) (w := x30.2) (k0 := k0) h32 hk0) (Or.inl tw_5_226) ms_X10_nextToken im_X10_nextToken hk0 cn_10 ⟨Nat.le_of_ble_eq_true rfl, Nat.le_of_ble_eq_true rfl⟩ rfl rfl hl.1 (Nat.le_of_ble_eq_true rfl) dX10_parse_148 ⟨Nat.le_refl _, Nat.le_refl _⟩ rfl (fun H locs hH => ?_)
                refine lv_goto (tgt := 73) hx hb dX10_parse_151 (by decide) ?_
                obtain rfl := se1 hF
                exact Js27 _ _ _ hH (lv_sub hl [0, 1, 2] rfl)
            refine w_ieq_f (tgt := 139) hx hb dX10_parse_132 (by decide) (fun c29 => ?_) (fun c29 => ?_)
            · refine lv_iconst (v := (0 : Int32)) hx hb dX10_parse_139 (by decide) ?_
              exact w_b0 c29 (J28 _ _ hH)
            · refine lv_iconst (v := (1 : Int32)) hx hb dX10_parse_135 (by decide) ?_
              refine lv_goto (tgt := 140) hx hb dX10_parse_136 (by decide) ?_
              exact w_b1 c29 (J28 _ _ hH)
          have hF := hs18
          refine lv_iload_n hx hb dX10_parse_92 rfl (lv_at hl 0 rfl) ?_
          refine lv_iconst (v := (5 : Int32)) hx hb dX10_parse_93 (by decide) ?_
          refine w_ieq_f (tgt := 104) hx hb dX10_parse_94 (by decide) (fun c19 => ?_) (fun c19 => ?_)
          · replace hF := ifn c19 hF
            obtain ⟨s20, hs20, hF⟩ := ob hF
            have Js20 : ∀ (H : Heap) (locs : List Loc) (ls : Array Slot), HW zM g s20 s.heap H locs → lv_has ls 3 [(0, .ref (g.2.2 (k0))), (1, .int (v_n)), (2, .int (x17))] → W p l e (rmd 10) s m args below meth c H locs 0 0 (MQ below (Qw zM g wz (some (.int (rz)))) args s 0 0 (zA zM g)) (F0 m 126 ls []) := by
              intro H locs ls hH hl
              obtain rfl := se1 hF
              exact Js18 _ _ _ hH (lv_sub hl [0, 1, 2] rfl)
            have hF := hs20
            refine lv_aload_n hx hb dX10_parse_104 rfl (lv_at hl 1 rfl) ?_
            refine lv_iload_n hx hb dX10_parse_105 rfl (lv_at hl 0 rfl) ?_
            have J21 : ∀ (H : Heap) (locs : List Loc), HW zM g s12 s.heap H locs → W p l e (rmd 10) s m args below meth c H locs 0 0 (MQ below (Qw zM g wz (some (.int (rz)))) args s 0 0 (zA zM g)) (F0 m 114 ls [.int (bI ((decide ((0 : Int32) ≤ x17)))), .ref (g.2.2 (k0))]) := by
              intro H locs hH
              refine lv_iconst (v := (1 : Int32)) hx hb dX10_parse_114 (by decide) ?_
              obtain ⟨x23, h23, hF⟩ := ob hF
              refine w_callV (As := [.int (bI ((decide ((0 : Int32) ≤ x17)))), .int ((1 : Int32))]) (k := k0) (rest := []) (st1 := [.int (bI (x23.1))]) X hH (c_X10_must (l := l) (g := g) (w := s12) (k0 := k0) (v_condition := (decide ((0 : Int32) ≤ x17))) (v_kind := (1 : Int32)) h23 hk0) (Or.inl tw_6_66) ms_X10_must im_X10_must hk0 cn_10 ⟨Nat.le_of_ble_eq_true rfl, Nat.le_of_ble_eq_true rfl⟩ rfl rfl hl.1 (Nat.le_of_ble_eq_true rfl) dX10_parse_115 ⟨Nat.le_refl _, Nat.le_refl _⟩ rfl (fun H locs hH => ?_)
              refine w_b_f (tgt := 126) hx hb dX10_parse_118 (by decide) (fun c24 => ?_) (fun c24 => ?_)
              · replace hF := ifn c24 hF
                obtain rfl := se1 hF
                exact Js20 _ _ _ hH (lv_sub hl [1, 2, 0] rfl)
              · replace hF := ifp c24 hF
                refine lv_aload_n hx hb dX10_parse_121 rfl (lv_at hl 1 rfl) ?_
                refine lv_iload_n hx hb dX10_parse_122 rfl (lv_at hl 0 rfl) ?_
                obtain ⟨w25, h25, hF⟩ := ob hF
                refine w_callV (As := [.int (x17)]) (k := k0) (rest := []) (st1 := []) X hH (c_X10_constraint (l := l) (g := g) (w := x23.2) (k0 := k0) (v_kind := x17) h25 hk0) (Or.inl tw_6_82) ms_X10_constraint im_X10_constraint hk0 cn_10 ⟨Nat.le_of_ble_eq_true rfl, Nat.le_of_ble_eq_true rfl⟩ rfl rfl hl.1 (Nat.le_of_ble_eq_true rfl) dX10_parse_123 ⟨Nat.le_refl _, Nat.le_refl _⟩ rfl (fun H locs hH => ?_)
                obtain rfl := se1 hF
                exact Js20 _ _ _ hH (lv_sub hl [1, 2, 0] rfl)
            refine w_zge_f (tgt := 113) hx hb dX10_parse_106 (by decide) (fun c22 => ?_) (fun c22 => ?_)
            · refine lv_iconst (v := (0 : Int32)) hx hb dX10_parse_113 (by decide) ?_
              exact w_b0 c22 (J21 _ _ hH)
            · refine lv_iconst (v := (1 : Int32)) hx hb dX10_parse_109 (by decide) ?_
              refine lv_goto (tgt := 114) hx hb dX10_parse_110 (by decide) ?_
              exact w_b1 c22 (J21 _ _ hH)
          · replace hF := ifp c19 hF
            refine lv_aload_n hx hb dX10_parse_97 rfl (lv_at hl 1 rfl) ?_
            obtain ⟨w26, h26, hF⟩ := ob hF
            refine w_callV (As := []) (k := k0) (rest := []) (st1 := []) X hH (c_X10_function (l := l) (g := g) (w := s12) (k0 := k0) h26 hk0) (Or.inl tw_6_62) ms_X10_function im_X10_function hk0 cn_10 ⟨Nat.le_of_ble_eq_true rfl, Nat.le_of_ble_eq_true rfl⟩ rfl rfl hl.1 (Nat.le_of_ble_eq_true rfl) dX10_parse_98 ⟨Nat.le_refl _, Nat.le_refl _⟩ rfl (fun H locs hH => ?_)
            refine lv_goto (tgt := 126) hx hb dX10_parse_101 (by decide) ?_
            obtain rfl := se1 hF
            exact Js18 _ _ _ hH (lv_sub hl [1, 2, 0] rfl)
        have J14F : ¬ (((s12.1 (k0) 8) = (0 : Int32)) ∧ (¬ ((s12.1 (k0) 6) = (0 : Int32)))) → ∀ (H : Heap) (locs : List Loc), HW zM g s12 s.heap H locs → W p l e (rmd 10) s m args below meth c H locs 0 0 (MQ below (Qw zM g wz (some (.int (rz)))) args s 0 0 (zA zM g)) (F0 m 154 ls []) := by
          intro hc H locs hH
          replace hF := ifn hc hF
          obtain rfl := se1 hF
          subst hL
          exact Jr13 _ _ _ hH (lv_sub hl [0, 1] rfl)
        refine w_zeq_f (tgt := 154) hx hb dX10_parse_77 (by decide) (fun c15 => ?_) (fun c15 => ?_)
        · exact J14F (fun z => c15 z.1) _ _ hH
        · refine lv_aload_n hx hb dX10_parse_80 rfl (lv_at hl 0 rfl) ?_
          refine w_geti X hH hk0 fs_10_6 lk_10_109 dX10_parse_81 ?_
          refine w_zne_f (tgt := 154) hx hb dX10_parse_84 (by decide) (fun c16 => ?_) (fun c16 => ?_)
          · exact J14F (fun z => c16 z.2) _ _ hH
          · exact J14T ⟨c15, c16⟩ _ _ hH
    exact Lr13 NF _ hLr13 _ _ _ hH (lv_sub hl [0, 1] rfl)
  · replace hF := ifp c2 hF
    refine lv_iconst (v := (-1 : Int32)) hx hb dX10_parse_19 (by decide) ?_
    obtain ⟨rfl, rfl⟩ := se2 hF
    exact w_iret X hH hr dX10_parse_20

theorem dX10_variableCount_0 : decode cX10_variableCount 0 = .ok (.aload_n 0, 1) := by decide +kernel
theorem dX10_variableCount_1 : decode cX10_variableCount 1 = .ok (.iconst 0, 1) := by decide +kernel
theorem dX10_variableCount_2 : decode cX10_variableCount 2 = .ok (.putfield 85, 3) := by decide +kernel
theorem dX10_variableCount_5 : decode cX10_variableCount 5 = .ok (.aload_n 0, 1) := by decide +kernel
theorem dX10_variableCount_6 : decode cX10_variableCount 6 = .ok (.getfield 13, 3) := by decide +kernel
theorem dX10_variableCount_9 : decode cX10_variableCount 9 = .ok (.iconst 0, 1) := by decide +kernel
theorem dX10_variableCount_10 : decode cX10_variableCount 10 = .ok (.iaload, 1) := by decide +kernel
theorem dX10_variableCount_11 : decode cX10_variableCount 11 = .ok (.ireturn, 1) := by decide +kernel
set_option maxHeartbeats 4000000 in
set_option maxRecDepth 100000 in
theorem c_X10_variableCount {l : Launch} {g : Gh} {w : Wd} {k0 : Nat} {rz : Int32} {wz : Wd} (hF : f_X10_variableCount w k0 = some (rz, wz)) (hk0 : zct zM k0 = 10) : Met l yX10_variableCount (Cond.code yX10_variableCount cX10_variableCount 1 (some .int) :: TT) (rmd 0) (Pcw zM g w [.ref (g.2.2 k0)]) (Qw zM g wz (some (.int (rz)))) 0 0 (zA zM g) := by
  refine mt_start (by decide) (Nat.le_of_ble_eq_true rfl) ?_
  intro p e s m args below meth c H locs ls X hr hl hH
  have hx := X.1
  have hb := X.2.1
  have hml := X.2.2.1
  have hown := X.2.2.2.1
  have ht := X.2.2.2.2.1
  have hl : lv_has ls 1 [(0, .ref (g.2.2 (k0)))] := hl
  unfold f_X10_variableCount at hF
  refine lv_aload_n hx hb dX10_variableCount_0 rfl (lv_at hl 0 rfl) ?_
  refine lv_iconst (v := (0 : Int32)) hx hb dX10_variableCount_1 (by decide) ?_
  obtain ⟨w1, h1, hF⟩ := ob hF
  refine w_puti X hH h1 hk0 fs_10_0 nf_10_0 lk_10_85 dX10_variableCount_2 (fun H locs hH => ?_)
  refine lv_aload_n hx hb dX10_variableCount_5 rfl (lv_at hl 0 rfl) ?_
  refine w_getr X hH hk0 fs_10_10 lk_10_13 dX10_variableCount_6 ?_
  refine lv_iconst (v := (0 : Int32)) hx hb dX10_variableCount_9 (by decide) ?_
  obtain ⟨x2, h2, hF⟩ := ob hF
  refine w_iald X hH h2 (rt_M_10_10 hk0) dX10_variableCount_10 ?_
  obtain ⟨rfl, rfl⟩ := se2 hF
  exact w_iret X hH hr dX10_variableCount_11

theorem dX10_objectCount_0 : decode cX10_objectCount 0 = .ok (.aload_n 0, 1) := by decide +kernel
theorem dX10_objectCount_1 : decode cX10_objectCount 1 = .ok (.iconst 0, 1) := by decide +kernel
theorem dX10_objectCount_2 : decode cX10_objectCount 2 = .ok (.putfield 85, 3) := by decide +kernel
theorem dX10_objectCount_5 : decode cX10_objectCount 5 = .ok (.aload_n 0, 1) := by decide +kernel
theorem dX10_objectCount_6 : decode cX10_objectCount 6 = .ok (.getfield 17, 3) := by decide +kernel
theorem dX10_objectCount_9 : decode cX10_objectCount 9 = .ok (.iconst 0, 1) := by decide +kernel
theorem dX10_objectCount_10 : decode cX10_objectCount 10 = .ok (.iaload, 1) := by decide +kernel
theorem dX10_objectCount_11 : decode cX10_objectCount 11 = .ok (.ireturn, 1) := by decide +kernel
set_option maxHeartbeats 4000000 in
set_option maxRecDepth 100000 in
theorem c_X10_objectCount {l : Launch} {g : Gh} {w : Wd} {k0 : Nat} {rz : Int32} {wz : Wd} (hF : f_X10_objectCount w k0 = some (rz, wz)) (hk0 : zct zM k0 = 10) : Met l yX10_objectCount (Cond.code yX10_objectCount cX10_objectCount 1 (some .int) :: TT) (rmd 0) (Pcw zM g w [.ref (g.2.2 k0)]) (Qw zM g wz (some (.int (rz)))) 0 0 (zA zM g) := by
  refine mt_start (by decide) (Nat.le_of_ble_eq_true rfl) ?_
  intro p e s m args below meth c H locs ls X hr hl hH
  have hx := X.1
  have hb := X.2.1
  have hml := X.2.2.1
  have hown := X.2.2.2.1
  have ht := X.2.2.2.2.1
  have hl : lv_has ls 1 [(0, .ref (g.2.2 (k0)))] := hl
  unfold f_X10_objectCount at hF
  refine lv_aload_n hx hb dX10_objectCount_0 rfl (lv_at hl 0 rfl) ?_
  refine lv_iconst (v := (0 : Int32)) hx hb dX10_objectCount_1 (by decide) ?_
  obtain ⟨w1, h1, hF⟩ := ob hF
  refine w_puti X hH h1 hk0 fs_10_0 nf_10_0 lk_10_85 dX10_objectCount_2 (fun H locs hH => ?_)
  refine lv_aload_n hx hb dX10_objectCount_5 rfl (lv_at hl 0 rfl) ?_
  refine w_getr X hH hk0 fs_10_11 lk_10_17 dX10_objectCount_6 ?_
  refine lv_iconst (v := (0 : Int32)) hx hb dX10_objectCount_9 (by decide) ?_
  obtain ⟨x2, h2, hF⟩ := ob hF
  refine w_iald X hH h2 (rt_M_10_11 hk0) dX10_objectCount_10 ?_
  obtain ⟨rfl, rfl⟩ := se2 hF
  exact w_iret X hH hr dX10_objectCount_11

theorem dX10_fieldCount_0 : decode cX10_fieldCount 0 = .ok (.aload_n 0, 1) := by decide +kernel
theorem dX10_fieldCount_1 : decode cX10_fieldCount 1 = .ok (.iconst 0, 1) := by decide +kernel
theorem dX10_fieldCount_2 : decode cX10_fieldCount 2 = .ok (.putfield 85, 3) := by decide +kernel
theorem dX10_fieldCount_5 : decode cX10_fieldCount 5 = .ok (.aload_n 0, 1) := by decide +kernel
theorem dX10_fieldCount_6 : decode cX10_fieldCount 6 = .ok (.getfield 20, 3) := by decide +kernel
theorem dX10_fieldCount_9 : decode cX10_fieldCount 9 = .ok (.iconst 0, 1) := by decide +kernel
theorem dX10_fieldCount_10 : decode cX10_fieldCount 10 = .ok (.iaload, 1) := by decide +kernel
theorem dX10_fieldCount_11 : decode cX10_fieldCount 11 = .ok (.ireturn, 1) := by decide +kernel
set_option maxHeartbeats 4000000 in
set_option maxRecDepth 100000 in
theorem c_X10_fieldCount {l : Launch} {g : Gh} {w : Wd} {k0 : Nat} {rz : Int32} {wz : Wd} (hF : f_X10_fieldCount w k0 = some (rz, wz)) (hk0 : zct zM k0 = 10) : Met l yX10_fieldCount (Cond.code yX10_fieldCount cX10_fieldCount 1 (some .int) :: TT) (rmd 0) (Pcw zM g w [.ref (g.2.2 k0)]) (Qw zM g wz (some (.int (rz)))) 0 0 (zA zM g) := by
  refine mt_start (by decide) (Nat.le_of_ble_eq_true rfl) ?_
  intro p e s m args below meth c H locs ls X hr hl hH
  have hx := X.1
  have hb := X.2.1
  have hml := X.2.2.1
  have hown := X.2.2.2.1
  have ht := X.2.2.2.2.1
  have hl : lv_has ls 1 [(0, .ref (g.2.2 (k0)))] := hl
  unfold f_X10_fieldCount at hF
  refine lv_aload_n hx hb dX10_fieldCount_0 rfl (lv_at hl 0 rfl) ?_
  refine lv_iconst (v := (0 : Int32)) hx hb dX10_fieldCount_1 (by decide) ?_
  obtain ⟨w1, h1, hF⟩ := ob hF
  refine w_puti X hH h1 hk0 fs_10_0 nf_10_0 lk_10_85 dX10_fieldCount_2 (fun H locs hH => ?_)
  refine lv_aload_n hx hb dX10_fieldCount_5 rfl (lv_at hl 0 rfl) ?_
  refine w_getr X hH hk0 fs_10_12 lk_10_20 dX10_fieldCount_6 ?_
  refine lv_iconst (v := (0 : Int32)) hx hb dX10_fieldCount_9 (by decide) ?_
  obtain ⟨x2, h2, hF⟩ := ob hF
  refine w_iald X hH h2 (rt_M_10_12 hk0) dX10_fieldCount_10 ?_
  obtain ⟨rfl, rfl⟩ := se2 hF
  exact w_iret X hH hr dX10_fieldCount_11

theorem dX10_constraintCount_0 : decode cX10_constraintCount 0 = .ok (.aload_n 0, 1) := by decide +kernel
theorem dX10_constraintCount_1 : decode cX10_constraintCount 1 = .ok (.iconst 0, 1) := by decide +kernel
theorem dX10_constraintCount_2 : decode cX10_constraintCount 2 = .ok (.putfield 85, 3) := by decide +kernel
theorem dX10_constraintCount_5 : decode cX10_constraintCount 5 = .ok (.aload_n 0, 1) := by decide +kernel
theorem dX10_constraintCount_6 : decode cX10_constraintCount 6 = .ok (.getfield 39, 3) := by decide +kernel
theorem dX10_constraintCount_9 : decode cX10_constraintCount 9 = .ok (.iconst 0, 1) := by decide +kernel
theorem dX10_constraintCount_10 : decode cX10_constraintCount 10 = .ok (.iaload, 1) := by decide +kernel
theorem dX10_constraintCount_11 : decode cX10_constraintCount 11 = .ok (.ireturn, 1) := by decide +kernel
set_option maxHeartbeats 4000000 in
set_option maxRecDepth 100000 in
theorem c_X10_constraintCount {l : Launch} {g : Gh} {w : Wd} {k0 : Nat} {rz : Int32} {wz : Wd} (hF : f_X10_constraintCount w k0 = some (rz, wz)) (hk0 : zct zM k0 = 10) : Met l yX10_constraintCount (Cond.code yX10_constraintCount cX10_constraintCount 1 (some .int) :: TT) (rmd 0) (Pcw zM g w [.ref (g.2.2 k0)]) (Qw zM g wz (some (.int (rz)))) 0 0 (zA zM g) := by
  refine mt_start (by decide) (Nat.le_of_ble_eq_true rfl) ?_
  intro p e s m args below meth c H locs ls X hr hl hH
  have hx := X.1
  have hb := X.2.1
  have hml := X.2.2.1
  have hown := X.2.2.2.1
  have ht := X.2.2.2.2.1
  have hl : lv_has ls 1 [(0, .ref (g.2.2 (k0)))] := hl
  unfold f_X10_constraintCount at hF
  refine lv_aload_n hx hb dX10_constraintCount_0 rfl (lv_at hl 0 rfl) ?_
  refine lv_iconst (v := (0 : Int32)) hx hb dX10_constraintCount_1 (by decide) ?_
  obtain ⟨w1, h1, hF⟩ := ob hF
  refine w_puti X hH h1 hk0 fs_10_0 nf_10_0 lk_10_85 dX10_constraintCount_2 (fun H locs hH => ?_)
  refine lv_aload_n hx hb dX10_constraintCount_5 rfl (lv_at hl 0 rfl) ?_
  refine w_getr X hH hk0 fs_10_18 lk_10_39 dX10_constraintCount_6 ?_
  refine lv_iconst (v := (0 : Int32)) hx hb dX10_constraintCount_9 (by decide) ?_
  obtain ⟨x2, h2, hF⟩ := ob hF
  refine w_iald X hH h2 (rt_M_10_18 hk0) dX10_constraintCount_10 ?_
  obtain ⟨rfl, rfl⟩ := se2 hF
  exact w_iret X hH hr dX10_constraintCount_11

theorem dX10_enabledConstraints_0 : decode cX10_enabledConstraints 0 = .ok (.aload_n 0, 1) := by decide +kernel
theorem dX10_enabledConstraints_1 : decode cX10_enabledConstraints 1 = .ok (.iconst 0, 1) := by decide +kernel
theorem dX10_enabledConstraints_2 : decode cX10_enabledConstraints 2 = .ok (.putfield 85, 3) := by decide +kernel
theorem dX10_enabledConstraints_5 : decode cX10_enabledConstraints 5 = .ok (.aload_n 0, 1) := by decide +kernel
theorem dX10_enabledConstraints_6 : decode cX10_enabledConstraints 6 = .ok (.getfield 39, 3) := by decide +kernel
theorem dX10_enabledConstraints_9 : decode cX10_enabledConstraints 9 = .ok (.iconst 1, 1) := by decide +kernel
theorem dX10_enabledConstraints_10 : decode cX10_enabledConstraints 10 = .ok (.iaload, 1) := by decide +kernel
theorem dX10_enabledConstraints_11 : decode cX10_enabledConstraints 11 = .ok (.ireturn, 1) := by decide +kernel
set_option maxHeartbeats 4000000 in
set_option maxRecDepth 100000 in
theorem c_X10_enabledConstraints {l : Launch} {g : Gh} {w : Wd} {k0 : Nat} {rz : Int32} {wz : Wd} (hF : f_X10_enabledConstraints w k0 = some (rz, wz)) (hk0 : zct zM k0 = 10) : Met l yX10_enabledConstraints (Cond.code yX10_enabledConstraints cX10_enabledConstraints 1 (some .int) :: TT) (rmd 0) (Pcw zM g w [.ref (g.2.2 k0)]) (Qw zM g wz (some (.int (rz)))) 0 0 (zA zM g) := by
  refine mt_start (by decide) (Nat.le_of_ble_eq_true rfl) ?_
  intro p e s m args below meth c H locs ls X hr hl hH
  have hx := X.1
  have hb := X.2.1
  have hml := X.2.2.1
  have hown := X.2.2.2.1
  have ht := X.2.2.2.2.1
  have hl : lv_has ls 1 [(0, .ref (g.2.2 (k0)))] := hl
  unfold f_X10_enabledConstraints at hF
  refine lv_aload_n hx hb dX10_enabledConstraints_0 rfl (lv_at hl 0 rfl) ?_
  refine lv_iconst (v := (0 : Int32)) hx hb dX10_enabledConstraints_1 (by decide) ?_
  obtain ⟨w1, h1, hF⟩ := ob hF
  refine w_puti X hH h1 hk0 fs_10_0 nf_10_0 lk_10_85 dX10_enabledConstraints_2 (fun H locs hH => ?_)
  refine lv_aload_n hx hb dX10_enabledConstraints_5 rfl (lv_at hl 0 rfl) ?_
  refine w_getr X hH hk0 fs_10_18 lk_10_39 dX10_enabledConstraints_6 ?_
  refine lv_iconst (v := (1 : Int32)) hx hb dX10_enabledConstraints_9 (by decide) ?_
  obtain ⟨x2, h2, hF⟩ := ob hF
  refine w_iald X hH h2 (rt_M_10_18 hk0) dX10_enabledConstraints_10 ?_
  obtain ⟨rfl, rfl⟩ := se2 hF
  exact w_iret X hH hr dX10_enabledConstraints_11

theorem dX10_functionSet_0 : decode cX10_functionSet 0 = .ok (.iconst 0, 1) := by decide +kernel
theorem dX10_functionSet_1 : decode cX10_functionSet 1 = .ok (.istore_n 1, 1) := by decide +kernel
theorem dX10_functionSet_2 : decode cX10_functionSet 2 = .ok (.iconst 0, 1) := by decide +kernel
theorem dX10_functionSet_3 : decode cX10_functionSet 3 = .ok (.istore_n 2, 1) := by decide +kernel
theorem dX10_functionSet_4 : decode cX10_functionSet 4 = .ok (.iload_n 2, 1) := by decide +kernel
theorem dX10_functionSet_5 : decode cX10_functionSet 5 = .ok (.aload_n 0, 1) := by decide +kernel
theorem dX10_functionSet_6 : decode cX10_functionSet 6 = .ok (.getfield 17, 3) := by decide +kernel
theorem dX10_functionSet_9 : decode cX10_functionSet 9 = .ok (.iconst 0, 1) := by decide +kernel
theorem dX10_functionSet_10 : decode cX10_functionSet 10 = .ok (.iaload, 1) := by decide +kernel
theorem dX10_functionSet_11 : decode cX10_functionSet 11 = .ok (.if_icmp .ge 27, 3) := by decide +kernel
theorem dX10_functionSet_14 : decode cX10_functionSet 14 = .ok (.iload_n 1, 1) := by decide +kernel
theorem dX10_functionSet_15 : decode cX10_functionSet 15 = .ok (.aload_n 0, 1) := by decide +kernel
theorem dX10_functionSet_16 : decode cX10_functionSet 16 = .ok (.iload_n 2, 1) := by decide +kernel
theorem dX10_functionSet_17 : decode cX10_functionSet 17 = .ok (.invokevirtual 203, 3) := by decide +kernel
theorem dX10_functionSet_20 : decode cX10_functionSet 20 = .ok (.ifCond .eq 9, 3) := by decide +kernel
theorem dX10_functionSet_23 : decode cX10_functionSet 23 = .ok (.iconst 1, 1) := by decide +kernel
theorem dX10_functionSet_24 : decode cX10_functionSet 24 = .ok (.iload_n 2, 1) := by decide +kernel
theorem dX10_functionSet_25 : decode cX10_functionSet 25 = .ok (.ishl, 1) := by decide +kernel
theorem dX10_functionSet_26 : decode cX10_functionSet 26 = .ok (.goto 4, 3) := by decide +kernel
theorem dX10_functionSet_29 : decode cX10_functionSet 29 = .ok (.iconst 0, 1) := by decide +kernel
theorem dX10_functionSet_30 : decode cX10_functionSet 30 = .ok (.ior, 1) := by decide +kernel
theorem dX10_functionSet_31 : decode cX10_functionSet 31 = .ok (.istore_n 1, 1) := by decide +kernel
theorem dX10_functionSet_32 : decode cX10_functionSet 32 = .ok (.iinc 2 1, 3) := by decide +kernel
theorem dX10_functionSet_35 : decode cX10_functionSet 35 = .ok (.goto (-31), 3) := by decide +kernel
theorem dX10_functionSet_38 : decode cX10_functionSet 38 = .ok (.iload_n 1, 1) := by decide +kernel
theorem dX10_functionSet_39 : decode cX10_functionSet 39 = .ok (.ireturn, 1) := by decide +kernel
set_option maxHeartbeats 4000000 in
set_option maxRecDepth 100000 in
theorem c_X10_functionSet {l : Launch} {g : Gh} {w : Wd} {k0 : Nat} {rz : Int32} (hF : f_X10_functionSet w k0 = some rz) (hk0 : zct zM k0 = 10) : Met l yX10_functionSet (Cond.code yX10_functionSet cX10_functionSet 3 (some .int) :: TT) (rmd 1) (Pcw zM g w [.ref (g.2.2 k0)]) (Qw zM g w (some (.int (rz)))) 0 0 (zA zM g) := by
  refine mt_start (by decide) (Nat.le_of_ble_eq_true rfl) ?_
  intro p e s m args below meth c H locs ls X hr hl hH
  have hx := X.1
  have hb := X.2.1
  have hml := X.2.2.1
  have hown := X.2.2.2.1
  have ht := X.2.2.2.2.1
  have hl : lv_has ls 3 [(0, .ref (g.2.2 (k0)))] := hl
  unfold f_X10_functionSet at hF
  refine lv_iconst (v := (0 : Int32)) hx hb dX10_functionSet_0 (by decide) ?_
  refine lv_istore_n (lv' := [(1, .int ((0 : Int32))), (0, .ref (g.2.2 (k0)))]) hx hb dX10_functionSet_1 rfl hl (by decide) rfl (fun ls hl => ?_)
  refine lv_iconst (v := (0 : Int32)) hx hb dX10_functionSet_2 (by decide) ?_
  refine lv_istore_n (lv' := [(2, .int ((0 : Int32))), (1, .int ((0 : Int32))), (0, .ref (g.2.2 (k0)))]) hx hb dX10_functionSet_3 rfl hl (by decide) rfl (fun ls hl => ?_)
  obtain ⟨r2, hLr2, hF⟩ := ob hF
  have Jr2 : ∀ (H : Heap) (locs : List Loc) (ls : Array Slot), HW zM g w s.heap H locs → lv_has ls 3 [(0, .ref (g.2.2 (k0))), (1, .int (r2))] → W p l e (rmd 1) s m args below meth c H locs 0 0 (MQ below (Qw zM g w (some (.int (rz)))) args s 0 0 (zA zM g)) (F0 m 38 ls []) := by
    intro H locs ls hH hl
    refine lv_iload_n hx hb dX10_functionSet_38 rfl (lv_at hl 1 rfl) ?_
    obtain rfl := se1 hF
    exact w_iret X hH hr dX10_functionSet_39
  have Lr2 : ∀ (n : Nat) (s1 : Int32 × Int32), lp (b_X10_functionSet_1 w k0) n s1 = some r2 → ∀ (H : Heap) (locs : List Loc) (ls : Array Slot), HW zM g w s.heap H locs → lv_has ls 3 [(0, .ref (g.2.2 (k0))), (1, .int (s1.1)), (2, .int (s1.2))] → W p l e (rmd 1) s m args below meth c H locs 0 0 (MQ below (Qw zM g w (some (.int (rz)))) args s 0 0 (zA zM g)) (F0 m 4 ls []) := by
    intro n
    induction n with
    | zero => intro s1 hL; exact lp_0 hL
    | succ n ih =>
      intro s1 hL H locs ls hH hl
      obtain ⟨bb, hF, hL⟩ := lp_s hL
      unfold b_X10_functionSet_1 at hF
      refine lv_iload_n hx hb dX10_functionSet_4 rfl (lv_at hl 2 rfl) ?_
      refine lv_aload_n hx hb dX10_functionSet_5 rfl (lv_at hl 0 rfl) ?_
      refine w_getr X hH hk0 fs_10_11 lk_10_17 dX10_functionSet_6 ?_
      refine lv_iconst (v := (0 : Int32)) hx hb dX10_functionSet_9 (by decide) ?_
      obtain ⟨x3, h3, hF⟩ := ob hF
      refine w_iald X hH h3 (rt_M_10_11 hk0) dX10_functionSet_10 ?_
      refine w_ilt_f (tgt := 38) hx hb dX10_functionSet_11 (by decide) (fun c4 => ?_) (fun c4 => ?_)
      · replace hF := ifn c4 hF
        obtain rfl := se1 hF
        subst hL
        exact Jr2 _ _ _ hH (lv_sub hl [0, 1] rfl)
      · replace hF := ifp c4 hF
        refine lv_iload_n hx hb dX10_functionSet_14 rfl (lv_at hl 1 rfl) ?_
        refine lv_aload_n hx hb dX10_functionSet_15 rfl (lv_at hl 0 rfl) ?_
        refine lv_iload_n hx hb dX10_functionSet_16 rfl (lv_at hl 2 rfl) ?_
        obtain ⟨x6, h6, hF⟩ := ob hF
        refine w_callV (As := [.int (s1.2)]) (k := k0) (rest := [.int (s1.1)]) (st1 := [.int (bI (x6)), .int (s1.1)]) X hH (c_X10_isFunction (l := l) (g := g) (w := w) (k0 := k0) (v_o := s1.2) h6 hk0) (Or.inl tw_5_71) ms_X10_isFunction im_X10_isFunction hk0 cn_10 ⟨Nat.le_of_ble_eq_true rfl, Nat.le_of_ble_eq_true rfl⟩ rfl rfl hl.1 (Nat.le_of_ble_eq_true rfl) dX10_functionSet_17 ⟨Nat.le_refl _, Nat.le_refl _⟩ rfl (fun H locs hH => ?_)
        have J5 : ∀ (H : Heap) (locs : List Loc), HW zM g w s.heap H locs → W p l e (rmd 1) s m args below meth c H locs 0 0 (MQ below (Qw zM g w (some (.int (rz)))) args s 0 0 (zA zM g)) (F0 m 30 ls [.int ((if x6 = true then (jshl ((1 : Int32)) (s1.2)) else (0 : Int32))), .int (s1.1)]) := by
          intro H locs hH
          refine lv_ior hx hb dX10_functionSet_30 ?_
          refine lv_istore_n (lv' := [(1, .int ((s1.1 ||| (if x6 = true then (jshl ((1 : Int32)) (s1.2)) else (0 : Int32))))), (0, .ref (g.2.2 (k0))), (2, .int (s1.2))]) hx hb dX10_functionSet_31 rfl hl (by decide) rfl (fun ls hl => ?_)
          refine lv_iinc (v := (s1.2 + (1 : Int32))) (lv' := [(2, .int ((s1.2 + (1 : Int32)))), (1, .int ((s1.1 ||| (if x6 = true then (jshl ((1 : Int32)) (s1.2)) else (0 : Int32))))), (0, .ref (g.2.2 (k0)))]) hx hb dX10_functionSet_32 hl (k := 2) rfl rfl (by decide) rfl (fun ls hl => ?_)
          refine lv_goto (tgt := 4) hx hb dX10_functionSet_35 (by decide) ?_
          obtain rfl := se1 hF
          exact ih _ hL _ _ _ hH (lv_sub hl [2, 1, 0] rfl)
        refine w_b_f (tgt := 29) hx hb dX10_functionSet_20 (by decide) (fun c7 => ?_) (fun c7 => ?_)
        · refine lv_iconst (v := (0 : Int32)) hx hb dX10_functionSet_29 (by decide) ?_
          exact w_in c7 (J5 _ _ hH)
        · refine lv_iconst (v := (1 : Int32)) hx hb dX10_functionSet_23 (by decide) ?_
          refine lv_iload_n hx hb dX10_functionSet_24 rfl (lv_at hl 2 rfl) ?_
          refine w_ishl hx hb dX10_functionSet_25 ?_
          refine lv_goto (tgt := 30) hx hb dX10_functionSet_26 (by decide) ?_
          exact w_ip c7 (J5 _ _ hH)
  exact Lr2 NF _ hLr2 _ _ _ hH (lv_sub hl [2, 1, 0] rfl)

theorem dX10_functions_0 : decode cX10_functions 0 = .ok (.aload_n 0, 1) := by decide +kernel
theorem dX10_functions_1 : decode cX10_functions 1 = .ok (.iconst 0, 1) := by decide +kernel
theorem dX10_functions_2 : decode cX10_functions 2 = .ok (.putfield 85, 3) := by decide +kernel
theorem dX10_functions_5 : decode cX10_functions 5 = .ok (.aload_n 0, 1) := by decide +kernel
theorem dX10_functions_6 : decode cX10_functions 6 = .ok (.invokevirtual 207, 3) := by decide +kernel
theorem dX10_functions_9 : decode cX10_functions 9 = .ok (.ireturn, 1) := by decide +kernel
set_option maxHeartbeats 4000000 in
set_option maxRecDepth 100000 in
theorem c_X10_functions {l : Launch} {g : Gh} {w : Wd} {k0 : Nat} {rz : Int32} {wz : Wd} (hF : f_X10_functions w k0 = some (rz, wz)) (hk0 : zct zM k0 = 10) : Met l yX10_functions (Cond.code yX10_functions cX10_functions 1 (some .int) :: TT) (rmd 2) (Pcw zM g w [.ref (g.2.2 k0)]) (Qw zM g wz (some (.int (rz)))) 0 0 (zA zM g) := by
  refine mt_start (by decide) (Nat.le_of_ble_eq_true rfl) ?_
  intro p e s m args below meth c H locs ls X hr hl hH
  have hx := X.1
  have hb := X.2.1
  have hml := X.2.2.1
  have hown := X.2.2.2.1
  have ht := X.2.2.2.2.1
  have hl : lv_has ls 1 [(0, .ref (g.2.2 (k0)))] := hl
  unfold f_X10_functions at hF
  refine lv_aload_n hx hb dX10_functions_0 rfl (lv_at hl 0 rfl) ?_
  refine lv_iconst (v := (0 : Int32)) hx hb dX10_functions_1 (by decide) ?_
  obtain ⟨w1, h1, hF⟩ := ob hF
  refine w_puti X hH h1 hk0 fs_10_0 nf_10_0 lk_10_85 dX10_functions_2 (fun H locs hH => ?_)
  refine lv_aload_n hx hb dX10_functions_5 rfl (lv_at hl 0 rfl) ?_
  obtain ⟨x2, h2, hF⟩ := ob hF
  refine w_callV (As := []) (k := k0) (rest := []) (st1 := [.int (x2)]) X hH (c_X10_functionSet (l := l) (g := g) (w := w1) (k0 := k0) h2 hk0) (Or.inl tw_6_124) ms_X10_functionSet im_X10_functionSet hk0 cn_10 ⟨Nat.le_of_ble_eq_true rfl, Nat.le_of_ble_eq_true rfl⟩ rfl rfl hl.1 (Nat.le_of_ble_eq_true rfl) dX10_functions_6 ⟨Nat.le_refl _, Nat.le_refl _⟩ rfl (fun H locs hH => ?_)
  obtain ⟨rfl, rfl⟩ := se2 hF
  exact w_iret X hH hr dX10_functions_9

theorem dX10_isConstraint_0 : decode cX10_isConstraint 0 = .ok (.iload_n 1, 1) := by decide +kernel
theorem dX10_isConstraint_1 : decode cX10_isConstraint 1 = .ok (.i2l, 1) := by decide +kernel
theorem dX10_isConstraint_2 : decode cX10_isConstraint 2 = .ok (.lconst 0, 1) := by decide +kernel
theorem dX10_isConstraint_3 : decode cX10_isConstraint 3 = .ok (.aload_n 0, 1) := by decide +kernel
theorem dX10_isConstraint_4 : decode cX10_isConstraint 4 = .ok (.getfield 39, 3) := by decide +kernel
theorem dX10_isConstraint_7 : decode cX10_isConstraint 7 = .ok (.iconst 0, 1) := by decide +kernel
theorem dX10_isConstraint_8 : decode cX10_isConstraint 8 = .ok (.iaload, 1) := by decide +kernel
theorem dX10_isConstraint_9 : decode cX10_isConstraint 9 = .ok (.iconst 1, 1) := by decide +kernel
theorem dX10_isConstraint_10 : decode cX10_isConstraint 10 = .ok (.isub, 1) := by decide +kernel
theorem dX10_isConstraint_11 : decode cX10_isConstraint 11 = .ok (.i2l, 1) := by decide +kernel
theorem dX10_isConstraint_12 : decode cX10_isConstraint 12 = .ok (.invokestatic 120, 3) := by decide +kernel
theorem dX10_isConstraint_15 : decode cX10_isConstraint 15 = .ok (.ireturn, 1) := by decide +kernel
set_option maxHeartbeats 4000000 in
set_option maxRecDepth 100000 in
theorem c_X10_isConstraint {l : Launch} {g : Gh} {w : Wd} {k0 : Nat} {v_c : Int32} {rz : Bool} (hF : f_X10_isConstraint w k0 v_c = some rz) (hk0 : zct zM k0 = 10) : Met l yX10_isConstraint (Cond.code yX10_isConstraint cX10_isConstraint 2 (some .boolean) :: TT) (rmd 1) (Pcw zM g w [.ref (g.2.2 k0), .int (v_c)]) (Qw zM g w (some (.int (bI (rz))))) 0 0 (zA zM g) := by
  refine mt_start (by decide) (Nat.le_of_ble_eq_true rfl) ?_
  intro p e s m args below meth c H locs ls X hr hl hH
  have hx := X.1
  have hb := X.2.1
  have hml := X.2.2.1
  have hown := X.2.2.2.1
  have ht := X.2.2.2.2.1
  have hl : lv_has ls 2 [(0, .ref (g.2.2 (k0))), (1, .int (v_c))] := hl
  unfold f_X10_isConstraint at hF
  refine lv_iload_n hx hb dX10_isConstraint_0 rfl (lv_at hl 1 rfl) ?_
  refine w_i2l hx hb dX10_isConstraint_1 ?_
  refine lv_lconst (v := 0) hx hb dX10_isConstraint_2 (by decide) ?_
  refine lv_aload_n hx hb dX10_isConstraint_3 rfl (lv_at hl 0 rfl) ?_
  refine w_getr X hH hk0 fs_10_18 lk_10_39 dX10_isConstraint_4 ?_
  refine lv_iconst (v := (0 : Int32)) hx hb dX10_isConstraint_7 (by decide) ?_
  obtain ⟨x1, h1, hF⟩ := ob hF
  refine w_iald X hH h1 (rt_M_10_18 hk0) dX10_isConstraint_8 ?_
  refine lv_iconst (v := (1 : Int32)) hx hb dX10_isConstraint_9 (by decide) ?_
  refine lv_isub hx hb dX10_isConstraint_10 ?_
  refine w_i2l hx hb dX10_isConstraint_11 ?_
  refine w_callS (As := [.long ((v_c).toInt64), .long ((0 : Int64)), .long (((x1 - (1 : Int32))).toInt64)]) (rest := []) (st1 := [.int (bI ((f_X10_within ((v_c).toInt64) ((0 : Int64)) (((x1 - (1 : Int32))).toInt64))))]) X hH (c_X10_within (l := l) (g := g) (w := w) (v_v := (v_c).toInt64) (v_low := (0 : Int64)) (v_high := ((x1 - (1 : Int32))).toInt64) rfl) (Or.inl tw_5_223) ms_X10_within tw_5_224 ⟨Nat.le_of_ble_eq_true rfl, Nat.le_of_ble_eq_true rfl⟩ rfl rfl hl.1 (Nat.le_of_ble_eq_true rfl) dX10_isConstraint_12 ⟨Nat.le_refl _, Nat.le_refl _⟩ rfl (fun H locs hH => ?_)
  obtain rfl := se1 hF
  exact w_zret X hH hr dX10_isConstraint_15

theorem dX10_isObject_0 : decode cX10_isObject 0 = .ok (.iload_n 1, 1) := by decide +kernel
theorem dX10_isObject_1 : decode cX10_isObject 1 = .ok (.i2l, 1) := by decide +kernel
theorem dX10_isObject_2 : decode cX10_isObject 2 = .ok (.lconst 0, 1) := by decide +kernel
theorem dX10_isObject_3 : decode cX10_isObject 3 = .ok (.aload_n 0, 1) := by decide +kernel
theorem dX10_isObject_4 : decode cX10_isObject 4 = .ok (.getfield 17, 3) := by decide +kernel
theorem dX10_isObject_7 : decode cX10_isObject 7 = .ok (.iconst 0, 1) := by decide +kernel
theorem dX10_isObject_8 : decode cX10_isObject 8 = .ok (.iaload, 1) := by decide +kernel
theorem dX10_isObject_9 : decode cX10_isObject 9 = .ok (.iconst 1, 1) := by decide +kernel
theorem dX10_isObject_10 : decode cX10_isObject 10 = .ok (.isub, 1) := by decide +kernel
theorem dX10_isObject_11 : decode cX10_isObject 11 = .ok (.i2l, 1) := by decide +kernel
theorem dX10_isObject_12 : decode cX10_isObject 12 = .ok (.invokestatic 120, 3) := by decide +kernel
theorem dX10_isObject_15 : decode cX10_isObject 15 = .ok (.ireturn, 1) := by decide +kernel
set_option maxHeartbeats 4000000 in
set_option maxRecDepth 100000 in
theorem c_X10_isObject {l : Launch} {g : Gh} {w : Wd} {k0 : Nat} {v_o : Int32} {rz : Bool} (hF : f_X10_isObject w k0 v_o = some rz) (hk0 : zct zM k0 = 10) : Met l yX10_isObject (Cond.code yX10_isObject cX10_isObject 2 (some .boolean) :: TT) (rmd 1) (Pcw zM g w [.ref (g.2.2 k0), .int (v_o)]) (Qw zM g w (some (.int (bI (rz))))) 0 0 (zA zM g) := by
  refine mt_start (by decide) (Nat.le_of_ble_eq_true rfl) ?_
  intro p e s m args below meth c H locs ls X hr hl hH
  have hx := X.1
  have hb := X.2.1
  have hml := X.2.2.1
  have hown := X.2.2.2.1
  have ht := X.2.2.2.2.1
  have hl : lv_has ls 2 [(0, .ref (g.2.2 (k0))), (1, .int (v_o))] := hl
  unfold f_X10_isObject at hF
  refine lv_iload_n hx hb dX10_isObject_0 rfl (lv_at hl 1 rfl) ?_
  refine w_i2l hx hb dX10_isObject_1 ?_
  refine lv_lconst (v := 0) hx hb dX10_isObject_2 (by decide) ?_
  refine lv_aload_n hx hb dX10_isObject_3 rfl (lv_at hl 0 rfl) ?_
  refine w_getr X hH hk0 fs_10_11 lk_10_17 dX10_isObject_4 ?_
  refine lv_iconst (v := (0 : Int32)) hx hb dX10_isObject_7 (by decide) ?_
  obtain ⟨x1, h1, hF⟩ := ob hF
  refine w_iald X hH h1 (rt_M_10_11 hk0) dX10_isObject_8 ?_
  refine lv_iconst (v := (1 : Int32)) hx hb dX10_isObject_9 (by decide) ?_
  refine lv_isub hx hb dX10_isObject_10 ?_
  refine w_i2l hx hb dX10_isObject_11 ?_
  refine w_callS (As := [.long ((v_o).toInt64), .long ((0 : Int64)), .long (((x1 - (1 : Int32))).toInt64)]) (rest := []) (st1 := [.int (bI ((f_X10_within ((v_o).toInt64) ((0 : Int64)) (((x1 - (1 : Int32))).toInt64))))]) X hH (c_X10_within (l := l) (g := g) (w := w) (v_v := (v_o).toInt64) (v_low := (0 : Int64)) (v_high := ((x1 - (1 : Int32))).toInt64) rfl) (Or.inl tw_5_223) ms_X10_within tw_5_224 ⟨Nat.le_of_ble_eq_true rfl, Nat.le_of_ble_eq_true rfl⟩ rfl rfl hl.1 (Nat.le_of_ble_eq_true rfl) dX10_isObject_12 ⟨Nat.le_refl _, Nat.le_refl _⟩ rfl (fun H locs hH => ?_)
  obtain rfl := se1 hF
  exact w_zret X hH hr dX10_isObject_15

theorem dX10_isVariable_0 : decode cX10_isVariable 0 = .ok (.iload_n 1, 1) := by decide +kernel
theorem dX10_isVariable_1 : decode cX10_isVariable 1 = .ok (.i2l, 1) := by decide +kernel
theorem dX10_isVariable_2 : decode cX10_isVariable 2 = .ok (.lconst 0, 1) := by decide +kernel
theorem dX10_isVariable_3 : decode cX10_isVariable 3 = .ok (.aload_n 0, 1) := by decide +kernel
theorem dX10_isVariable_4 : decode cX10_isVariable 4 = .ok (.getfield 13, 3) := by decide +kernel
theorem dX10_isVariable_7 : decode cX10_isVariable 7 = .ok (.iconst 0, 1) := by decide +kernel
theorem dX10_isVariable_8 : decode cX10_isVariable 8 = .ok (.iaload, 1) := by decide +kernel
theorem dX10_isVariable_9 : decode cX10_isVariable 9 = .ok (.iconst 1, 1) := by decide +kernel
theorem dX10_isVariable_10 : decode cX10_isVariable 10 = .ok (.isub, 1) := by decide +kernel
theorem dX10_isVariable_11 : decode cX10_isVariable 11 = .ok (.i2l, 1) := by decide +kernel
theorem dX10_isVariable_12 : decode cX10_isVariable 12 = .ok (.invokestatic 120, 3) := by decide +kernel
theorem dX10_isVariable_15 : decode cX10_isVariable 15 = .ok (.ireturn, 1) := by decide +kernel
set_option maxHeartbeats 4000000 in
set_option maxRecDepth 100000 in
theorem c_X10_isVariable {l : Launch} {g : Gh} {w : Wd} {k0 : Nat} {v_v : Int32} {rz : Bool} (hF : f_X10_isVariable w k0 v_v = some rz) (hk0 : zct zM k0 = 10) : Met l yX10_isVariable (Cond.code yX10_isVariable cX10_isVariable 2 (some .boolean) :: TT) (rmd 1) (Pcw zM g w [.ref (g.2.2 k0), .int (v_v)]) (Qw zM g w (some (.int (bI (rz))))) 0 0 (zA zM g) := by
  refine mt_start (by decide) (Nat.le_of_ble_eq_true rfl) ?_
  intro p e s m args below meth c H locs ls X hr hl hH
  have hx := X.1
  have hb := X.2.1
  have hml := X.2.2.1
  have hown := X.2.2.2.1
  have ht := X.2.2.2.2.1
  have hl : lv_has ls 2 [(0, .ref (g.2.2 (k0))), (1, .int (v_v))] := hl
  unfold f_X10_isVariable at hF
  refine lv_iload_n hx hb dX10_isVariable_0 rfl (lv_at hl 1 rfl) ?_
  refine w_i2l hx hb dX10_isVariable_1 ?_
  refine lv_lconst (v := 0) hx hb dX10_isVariable_2 (by decide) ?_
  refine lv_aload_n hx hb dX10_isVariable_3 rfl (lv_at hl 0 rfl) ?_
  refine w_getr X hH hk0 fs_10_10 lk_10_13 dX10_isVariable_4 ?_
  refine lv_iconst (v := (0 : Int32)) hx hb dX10_isVariable_7 (by decide) ?_
  obtain ⟨x1, h1, hF⟩ := ob hF
  refine w_iald X hH h1 (rt_M_10_10 hk0) dX10_isVariable_8 ?_
  refine lv_iconst (v := (1 : Int32)) hx hb dX10_isVariable_9 (by decide) ?_
  refine lv_isub hx hb dX10_isVariable_10 ?_
  refine w_i2l hx hb dX10_isVariable_11 ?_
  refine w_callS (As := [.long ((v_v).toInt64), .long ((0 : Int64)), .long (((x1 - (1 : Int32))).toInt64)]) (rest := []) (st1 := [.int (bI ((f_X10_within ((v_v).toInt64) ((0 : Int64)) (((x1 - (1 : Int32))).toInt64))))]) X hH (c_X10_within (l := l) (g := g) (w := w) (v_v := (v_v).toInt64) (v_low := (0 : Int64)) (v_high := ((x1 - (1 : Int32))).toInt64) rfl) (Or.inl tw_5_223) ms_X10_within tw_5_224 ⟨Nat.le_of_ble_eq_true rfl, Nat.le_of_ble_eq_true rfl⟩ rfl rfl hl.1 (Nat.le_of_ble_eq_true rfl) dX10_isVariable_12 ⟨Nat.le_refl _, Nat.le_refl _⟩ rfl (fun H locs hH => ?_)
  obtain rfl := se1 hF
  exact w_zret X hH hr dX10_isVariable_15

theorem dX10_isField_0 : decode cX10_isField 0 = .ok (.iload_n 1, 1) := by decide +kernel
theorem dX10_isField_1 : decode cX10_isField 1 = .ok (.i2l, 1) := by decide +kernel
theorem dX10_isField_2 : decode cX10_isField 2 = .ok (.lconst 0, 1) := by decide +kernel
theorem dX10_isField_3 : decode cX10_isField 3 = .ok (.aload_n 0, 1) := by decide +kernel
theorem dX10_isField_4 : decode cX10_isField 4 = .ok (.getfield 20, 3) := by decide +kernel
theorem dX10_isField_7 : decode cX10_isField 7 = .ok (.iconst 0, 1) := by decide +kernel
theorem dX10_isField_8 : decode cX10_isField 8 = .ok (.iaload, 1) := by decide +kernel
theorem dX10_isField_9 : decode cX10_isField 9 = .ok (.iconst 1, 1) := by decide +kernel
theorem dX10_isField_10 : decode cX10_isField 10 = .ok (.isub, 1) := by decide +kernel
theorem dX10_isField_11 : decode cX10_isField 11 = .ok (.i2l, 1) := by decide +kernel
theorem dX10_isField_12 : decode cX10_isField 12 = .ok (.invokestatic 120, 3) := by decide +kernel
theorem dX10_isField_15 : decode cX10_isField 15 = .ok (.ireturn, 1) := by decide +kernel
set_option maxHeartbeats 4000000 in
set_option maxRecDepth 100000 in
theorem c_X10_isField {l : Launch} {g : Gh} {w : Wd} {k0 : Nat} {v_f : Int32} {rz : Bool} (hF : f_X10_isField w k0 v_f = some rz) (hk0 : zct zM k0 = 10) : Met l yX10_isField (Cond.code yX10_isField cX10_isField 2 (some .boolean) :: TT) (rmd 1) (Pcw zM g w [.ref (g.2.2 k0), .int (v_f)]) (Qw zM g w (some (.int (bI (rz))))) 0 0 (zA zM g) := by
  refine mt_start (by decide) (Nat.le_of_ble_eq_true rfl) ?_
  intro p e s m args below meth c H locs ls X hr hl hH
  have hx := X.1
  have hb := X.2.1
  have hml := X.2.2.1
  have hown := X.2.2.2.1
  have ht := X.2.2.2.2.1
  have hl : lv_has ls 2 [(0, .ref (g.2.2 (k0))), (1, .int (v_f))] := hl
  unfold f_X10_isField at hF
  refine lv_iload_n hx hb dX10_isField_0 rfl (lv_at hl 1 rfl) ?_
  refine w_i2l hx hb dX10_isField_1 ?_
  refine lv_lconst (v := 0) hx hb dX10_isField_2 (by decide) ?_
  refine lv_aload_n hx hb dX10_isField_3 rfl (lv_at hl 0 rfl) ?_
  refine w_getr X hH hk0 fs_10_12 lk_10_20 dX10_isField_4 ?_
  refine lv_iconst (v := (0 : Int32)) hx hb dX10_isField_7 (by decide) ?_
  obtain ⟨x1, h1, hF⟩ := ob hF
  refine w_iald X hH h1 (rt_M_10_12 hk0) dX10_isField_8 ?_
  refine lv_iconst (v := (1 : Int32)) hx hb dX10_isField_9 (by decide) ?_
  refine lv_isub hx hb dX10_isField_10 ?_
  refine w_i2l hx hb dX10_isField_11 ?_
  refine w_callS (As := [.long ((v_f).toInt64), .long ((0 : Int64)), .long (((x1 - (1 : Int32))).toInt64)]) (rest := []) (st1 := [.int (bI ((f_X10_within ((v_f).toInt64) ((0 : Int64)) (((x1 - (1 : Int32))).toInt64))))]) X hH (c_X10_within (l := l) (g := g) (w := w) (v_v := (v_f).toInt64) (v_low := (0 : Int64)) (v_high := ((x1 - (1 : Int32))).toInt64) rfl) (Or.inl tw_5_223) ms_X10_within tw_5_224 ⟨Nat.le_of_ble_eq_true rfl, Nat.le_of_ble_eq_true rfl⟩ rfl rfl hl.1 (Nat.le_of_ble_eq_true rfl) dX10_isField_12 ⟨Nat.le_refl _, Nat.le_refl _⟩ rfl (fun H locs hH => ?_)
  obtain rfl := se1 hF
  exact w_zret X hH hr dX10_isField_15

theorem dX10_kindOf_0 : decode cX10_kindOf 0 = .ok (.aload_n 0, 1) := by decide +kernel
theorem dX10_kindOf_1 : decode cX10_kindOf 1 = .ok (.aload_n 0, 1) := by decide +kernel
theorem dX10_kindOf_2 : decode cX10_kindOf 2 = .ok (.iload_n 1, 1) := by decide +kernel
theorem dX10_kindOf_3 : decode cX10_kindOf 3 = .ok (.invokevirtual 214, 3) := by decide +kernel
theorem dX10_kindOf_6 : decode cX10_kindOf 6 = .ok (.ifCond .eq 7, 3) := by decide +kernel
theorem dX10_kindOf_9 : decode cX10_kindOf 9 = .ok (.iconst 0, 1) := by decide +kernel
theorem dX10_kindOf_10 : decode cX10_kindOf 10 = .ok (.goto 4, 3) := by decide +kernel
theorem dX10_kindOf_13 : decode cX10_kindOf 13 = .ok (.iconst 1, 1) := by decide +kernel
theorem dX10_kindOf_14 : decode cX10_kindOf 14 = .ok (.putfield 85, 3) := by decide +kernel
theorem dX10_kindOf_17 : decode cX10_kindOf 17 = .ok (.aload_n 0, 1) := by decide +kernel
theorem dX10_kindOf_18 : decode cX10_kindOf 18 = .ok (.getfield 85, 3) := by decide +kernel
theorem dX10_kindOf_21 : decode cX10_kindOf 21 = .ok (.ifCond .ne 11, 3) := by decide +kernel
theorem dX10_kindOf_24 : decode cX10_kindOf 24 = .ok (.aload_n 0, 1) := by decide +kernel
theorem dX10_kindOf_25 : decode cX10_kindOf 25 = .ok (.iload_n 1, 1) := by decide +kernel
theorem dX10_kindOf_26 : decode cX10_kindOf 26 = .ok (.invokevirtual 217, 3) := by decide +kernel
theorem dX10_kindOf_29 : decode cX10_kindOf 29 = .ok (.goto 4, 3) := by decide +kernel
theorem dX10_kindOf_32 : decode cX10_kindOf 32 = .ok (.iconst 0, 1) := by decide +kernel
theorem dX10_kindOf_33 : decode cX10_kindOf 33 = .ok (.ireturn, 1) := by decide +kernel
set_option maxHeartbeats 4000000 in
set_option maxRecDepth 100000 in
theorem c_X10_kindOf {l : Launch} {g : Gh} {w : Wd} {k0 : Nat} {v_c : Int32} {rz : Int32} {wz : Wd} (hF : f_X10_kindOf w k0 v_c = some (rz, wz)) (hk0 : zct zM k0 = 10) : Met l yX10_kindOf (Cond.code yX10_kindOf cX10_kindOf 2 (some .int) :: TT) (rmd 2) (Pcw zM g w [.ref (g.2.2 k0), .int (v_c)]) (Qw zM g wz (some (.int (rz)))) 0 0 (zA zM g) := by
  refine mt_start (by decide) (Nat.le_of_ble_eq_true rfl) ?_
  intro p e s m args below meth c H locs ls X hr hl hH
  have hx := X.1
  have hb := X.2.1
  have hml := X.2.2.1
  have hown := X.2.2.2.1
  have ht := X.2.2.2.2.1
  have hl : lv_has ls 2 [(0, .ref (g.2.2 (k0))), (1, .int (v_c))] := hl
  unfold f_X10_kindOf at hF
  refine lv_aload_n hx hb dX10_kindOf_0 rfl (lv_at hl 0 rfl) ?_
  refine lv_aload_n hx hb dX10_kindOf_1 rfl (lv_at hl 0 rfl) ?_
  refine lv_iload_n hx hb dX10_kindOf_2 rfl (lv_at hl 1 rfl) ?_
  obtain ⟨x2, h2, hF⟩ := ob hF
  refine w_callV (As := [.int (v_c)]) (k := k0) (rest := [.ref (g.2.2 (k0))]) (st1 := [.int (bI (x2)), .ref (g.2.2 (k0))]) X hH (c_X10_isConstraint (l := l) (g := g) (w := w) (k0 := k0) (v_c := v_c) h2 hk0) (Or.inl tw_6_132) ms_X10_isConstraint im_X10_isConstraint hk0 cn_10 ⟨Nat.le_of_ble_eq_true rfl, Nat.le_of_ble_eq_true rfl⟩ rfl rfl hl.1 (Nat.le_of_ble_eq_true rfl) dX10_kindOf_3 ⟨Nat.le_refl _, Nat.le_refl _⟩ rfl (fun H locs hH => ?_)
  have J1 : ∀ (H : Heap) (locs : List Loc), HW zM g w s.heap H locs → W p l e (rmd 2) s m args below meth c H locs 0 0 (MQ below (Qw zM g wz (some (.int (rz)))) args s 0 0 (zA zM g)) (F0 m 14 ls [.int ((if x2 = true then (0 : Int32) else (1 : Int32))), .ref (g.2.2 (k0))]) := by
    intro H locs hH
    obtain ⟨w4, h4, hF⟩ := ob hF
    refine w_puti X hH h4 hk0 fs_10_0 nf_10_0 lk_10_85 dX10_kindOf_14 (fun H locs hH => ?_)
    obtain ⟨x6, hx6, hF⟩ := ob hF
    have J5 : ∀ (H : Heap) (locs : List Loc), HW zM g w4 s.heap H locs → W p l e (rmd 2) s m args below meth c H locs 0 0 (MQ below (Qw zM g wz (some (.int (rz)))) args s 0 0 (zA zM g)) (F0 m 33 ls [.int (x6)]) := by
      intro H locs hH
      obtain ⟨rfl, rfl⟩ := se2 hF
      exact w_iret X hH hr dX10_kindOf_33
    have hF := hx6
    refine lv_aload_n hx hb dX10_kindOf_17 rfl (lv_at hl 0 rfl) ?_
    refine w_geti X hH hk0 fs_10_0 lk_10_85 dX10_kindOf_18 ?_
    refine w_zeq_f (tgt := 32) hx hb dX10_kindOf_21 (by decide) (fun c7 => ?_) (fun c7 => ?_)
    · replace hF := ifn c7 hF
      refine lv_iconst (v := (0 : Int32)) hx hb dX10_kindOf_32 (by decide) ?_
      obtain rfl := se1 hF
      exact J5 _ _ hH
    · replace hF := ifp c7 hF
      refine lv_aload_n hx hb dX10_kindOf_24 rfl (lv_at hl 0 rfl) ?_
      refine lv_iload_n hx hb dX10_kindOf_25 rfl (lv_at hl 1 rfl) ?_
      obtain ⟨x8, h8, hF⟩ := ob hF
      refine w_callV (As := [.int (v_c)]) (k := k0) (rest := []) (st1 := [.int (x8)]) X hH (c_X10_kind (l := l) (g := g) (w := w4) (k0 := k0) (v_c := v_c) h8 hk0) (Or.inl tw_5_48) ms_X10_kind im_X10_kind hk0 cn_10 ⟨Nat.le_of_ble_eq_true rfl, Nat.le_of_ble_eq_true rfl⟩ rfl rfl hl.1 (Nat.le_of_ble_eq_true rfl) dX10_kindOf_26 ⟨Nat.le_refl _, Nat.le_refl _⟩ rfl (fun H locs hH => ?_)
      refine lv_goto (tgt := 33) hx hb dX10_kindOf_29 (by decide) ?_
      obtain rfl := se1 hF
      exact J5 _ _ hH
  refine w_b_f (tgt := 13) hx hb dX10_kindOf_6 (by decide) (fun c3 => ?_) (fun c3 => ?_)
  · refine lv_iconst (v := (1 : Int32)) hx hb dX10_kindOf_13 (by decide) ?_
    exact w_in c3 (J1 _ _ hH)
  · refine lv_iconst (v := (0 : Int32)) hx hb dX10_kindOf_9 (by decide) ?_
    refine lv_goto (tgt := 14) hx hb dX10_kindOf_10 (by decide) ?_
    exact w_ip c3 (J1 _ _ hH)

theorem dX10_operand_0 : decode cX10_operand 0 = .ok (.aload_n 0, 1) := by decide +kernel
theorem dX10_operand_1 : decode cX10_operand 1 = .ok (.aload_n 0, 1) := by decide +kernel
theorem dX10_operand_2 : decode cX10_operand 2 = .ok (.iload_n 1, 1) := by decide +kernel
theorem dX10_operand_3 : decode cX10_operand 3 = .ok (.invokevirtual 214, 3) := by decide +kernel
theorem dX10_operand_6 : decode cX10_operand 6 = .ok (.ifCond .eq 19, 3) := by decide +kernel
theorem dX10_operand_9 : decode cX10_operand 9 = .ok (.iload_n 2, 1) := by decide +kernel
theorem dX10_operand_10 : decode cX10_operand 10 = .ok (.i2l, 1) := by decide +kernel
theorem dX10_operand_11 : decode cX10_operand 11 = .ok (.lconst 0, 1) := by decide +kernel
theorem dX10_operand_12 : decode cX10_operand 12 = .ok (.ldc2_w 220, 3) := by decide +kernel
theorem dX10_operand_15 : decode cX10_operand 15 = .ok (.invokestatic 120, 3) := by decide +kernel
theorem dX10_operand_18 : decode cX10_operand 18 = .ok (.ifCond .eq 7, 3) := by decide +kernel
theorem dX10_operand_21 : decode cX10_operand 21 = .ok (.iconst 0, 1) := by decide +kernel
theorem dX10_operand_22 : decode cX10_operand 22 = .ok (.goto 4, 3) := by decide +kernel
theorem dX10_operand_25 : decode cX10_operand 25 = .ok (.iconst 1, 1) := by decide +kernel
theorem dX10_operand_26 : decode cX10_operand 26 = .ok (.putfield 85, 3) := by decide +kernel
theorem dX10_operand_29 : decode cX10_operand 29 = .ok (.aload_n 0, 1) := by decide +kernel
theorem dX10_operand_30 : decode cX10_operand 30 = .ok (.getfield 85, 3) := by decide +kernel
theorem dX10_operand_33 : decode cX10_operand 33 = .ok (.ifCond .ne 18, 3) := by decide +kernel
theorem dX10_operand_36 : decode cX10_operand 36 = .ok (.aload_n 0, 1) := by decide +kernel
theorem dX10_operand_37 : decode cX10_operand 37 = .ok (.getfield 39, 3) := by decide +kernel
theorem dX10_operand_40 : decode cX10_operand 40 = .ok (.iconst 3, 1) := by decide +kernel
theorem dX10_operand_41 : decode cX10_operand 41 = .ok (.iconst 4, 1) := by decide +kernel
theorem dX10_operand_42 : decode cX10_operand 42 = .ok (.iload_n 1, 1) := by decide +kernel
theorem dX10_operand_43 : decode cX10_operand 43 = .ok (.imul, 1) := by decide +kernel
theorem dX10_operand_44 : decode cX10_operand 44 = .ok (.iadd, 1) := by decide +kernel
theorem dX10_operand_45 : decode cX10_operand 45 = .ok (.iload_n 2, 1) := by decide +kernel
theorem dX10_operand_46 : decode cX10_operand 46 = .ok (.iadd, 1) := by decide +kernel
theorem dX10_operand_47 : decode cX10_operand 47 = .ok (.iaload, 1) := by decide +kernel
theorem dX10_operand_48 : decode cX10_operand 48 = .ok (.goto 4, 3) := by decide +kernel
theorem dX10_operand_51 : decode cX10_operand 51 = .ok (.iconst 0, 1) := by decide +kernel
theorem dX10_operand_52 : decode cX10_operand 52 = .ok (.ireturn, 1) := by decide +kernel
set_option maxHeartbeats 4000000 in
set_option maxRecDepth 100000 in
theorem c_X10_operand {l : Launch} {g : Gh} {w : Wd} {k0 : Nat} {v_c : Int32} {v_position : Int32} {rz : Int32} {wz : Wd} (hF : f_X10_operand w k0 v_c v_position = some (rz, wz)) (hk0 : zct zM k0 = 10) : Met l yX10_operand (Cond.code yX10_operand cX10_operand 3 (some .int) :: TT) (rmd 2) (Pcw zM g w [.ref (g.2.2 k0), .int (v_c), .int (v_position)]) (Qw zM g wz (some (.int (rz)))) 0 0 (zA zM g) := by
  refine mt_start (by decide) (Nat.le_of_ble_eq_true rfl) ?_
  intro p e s m args below meth c H locs ls X hr hl hH
  have hx := X.1
  have hb := X.2.1
  have hml := X.2.2.1
  have hown := X.2.2.2.1
  have ht := X.2.2.2.2.1
  have hl : lv_has ls 3 [(0, .ref (g.2.2 (k0))), (1, .int (v_c)), (2, .int (v_position))] := hl
  unfold f_X10_operand at hF
  refine lv_aload_n hx hb dX10_operand_0 rfl (lv_at hl 0 rfl) ?_
  refine lv_aload_n hx hb dX10_operand_1 rfl (lv_at hl 0 rfl) ?_
  refine lv_iload_n hx hb dX10_operand_2 rfl (lv_at hl 1 rfl) ?_
  obtain ⟨x2, h2, hF⟩ := ob hF
  refine w_callV (As := [.int (v_c)]) (k := k0) (rest := [.ref (g.2.2 (k0))]) (st1 := [.int (bI (x2)), .ref (g.2.2 (k0))]) X hH (c_X10_isConstraint (l := l) (g := g) (w := w) (k0 := k0) (v_c := v_c) h2 hk0) (Or.inl tw_6_132) ms_X10_isConstraint im_X10_isConstraint hk0 cn_10 ⟨Nat.le_of_ble_eq_true rfl, Nat.le_of_ble_eq_true rfl⟩ rfl rfl hl.1 (Nat.le_of_ble_eq_true rfl) dX10_operand_3 ⟨Nat.le_refl _, Nat.le_refl _⟩ rfl (fun H locs hH => ?_)
  have J1 : ∀ (H : Heap) (locs : List Loc), HW zM g w s.heap H locs → W p l e (rmd 2) s m args below meth c H locs 0 0 (MQ below (Qw zM g wz (some (.int (rz)))) args s 0 0 (zA zM g)) (F0 m 26 ls [.int ((if (x2 = true) ∧ ((f_X10_within ((v_position).toInt64) ((0 : Int64)) ((2 : Int64))) = true) then (0 : Int32) else (1 : Int32))), .ref (g.2.2 (k0))]) := by
    intro H locs hH
    obtain ⟨w5, h5, hF⟩ := ob hF
    refine w_puti X hH h5 hk0 fs_10_0 nf_10_0 lk_10_85 dX10_operand_26 (fun H locs hH => ?_)
    obtain ⟨x7, hx7, hF⟩ := ob hF
    have J6 : ∀ (H : Heap) (locs : List Loc), HW zM g w5 s.heap H locs → W p l e (rmd 2) s m args below meth c H locs 0 0 (MQ below (Qw zM g wz (some (.int (rz)))) args s 0 0 (zA zM g)) (F0 m 52 ls [.int (x7)]) := by
      intro H locs hH
      obtain ⟨rfl, rfl⟩ := se2 hF
      exact w_iret X hH hr dX10_operand_52
    have hF := hx7
    refine lv_aload_n hx hb dX10_operand_29 rfl (lv_at hl 0 rfl) ?_
    refine w_geti X hH hk0 fs_10_0 lk_10_85 dX10_operand_30 ?_
    refine w_zeq_f (tgt := 51) hx hb dX10_operand_33 (by decide) (fun c8 => ?_) (fun c8 => ?_)
    · replace hF := ifn c8 hF
      refine lv_iconst (v := (0 : Int32)) hx hb dX10_operand_51 (by decide) ?_
      obtain rfl := se1 hF
      exact J6 _ _ hH
    · replace hF := ifp c8 hF
      refine lv_aload_n hx hb dX10_operand_36 rfl (lv_at hl 0 rfl) ?_
      refine w_getr X hH hk0 fs_10_18 lk_10_39 dX10_operand_37 ?_
      refine lv_iconst (v := (3 : Int32)) hx hb dX10_operand_40 (by decide) ?_
      refine lv_iconst (v := (4 : Int32)) hx hb dX10_operand_41 (by decide) ?_
      refine lv_iload_n hx hb dX10_operand_42 rfl (lv_at hl 1 rfl) ?_
      refine lv_imul hx hb dX10_operand_43 ?_
      refine lv_iadd hx hb dX10_operand_44 ?_
      refine lv_iload_n hx hb dX10_operand_45 rfl (lv_at hl 2 rfl) ?_
      refine lv_iadd hx hb dX10_operand_46 ?_
      obtain ⟨x9, h9, hF⟩ := ob hF
      refine w_iald X hH h9 (rt_M_10_18 hk0) dX10_operand_47 ?_
      refine lv_goto (tgt := 52) hx hb dX10_operand_48 (by decide) ?_
      obtain rfl := se1 hF
      exact J6 _ _ hH
  refine w_b_f (tgt := 25) hx hb dX10_operand_6 (by decide) (fun c3 => ?_) (fun c3 => ?_)
  · refine lv_iconst (v := (1 : Int32)) hx hb dX10_operand_25 (by decide) ?_
    exact w_in (fun z => c3 z.1) (J1 _ _ hH)
  · refine lv_iload_n hx hb dX10_operand_9 rfl (lv_at hl 2 rfl) ?_
    refine w_i2l hx hb dX10_operand_10 ?_
    refine lv_lconst (v := 0) hx hb dX10_operand_11 (by decide) ?_
    refine lv_ldc2 (own := RX10) (v := (2 : Int64)) hx hb hown (ht _ tw_6_140) dX10_operand_12 ?_
    refine w_callS (As := [.long ((v_position).toInt64), .long ((0 : Int64)), .long ((2 : Int64))]) (rest := [.ref (g.2.2 (k0))]) (st1 := [.int (bI ((f_X10_within ((v_position).toInt64) ((0 : Int64)) ((2 : Int64))))), .ref (g.2.2 (k0))]) X hH (c_X10_within (l := l) (g := g) (w := w) (v_v := (v_position).toInt64) (v_low := (0 : Int64)) (v_high := (2 : Int64)) rfl) (Or.inl tw_5_223) ms_X10_within tw_5_224 ⟨Nat.le_of_ble_eq_true rfl, Nat.le_of_ble_eq_true rfl⟩ rfl rfl hl.1 (Nat.le_of_ble_eq_true rfl) dX10_operand_15 ⟨Nat.le_refl _, Nat.le_refl _⟩ rfl (fun H locs hH => ?_)
    refine w_b_f (tgt := 25) hx hb dX10_operand_18 (by decide) (fun c4 => ?_) (fun c4 => ?_)
    · refine lv_iconst (v := (1 : Int32)) hx hb dX10_operand_25 (by decide) ?_
      exact w_in (fun z => c4 z.2) (J1 _ _ hH)
    · refine lv_iconst (v := (0 : Int32)) hx hb dX10_operand_21 (by decide) ?_
      refine lv_goto (tgt := 26) hx hb dX10_operand_22 (by decide) ?_
      exact w_ip ⟨c3, c4⟩ (J1 _ _ hH)

theorem dX10_parameterOf_0 : decode cX10_parameterOf 0 = .ok (.aload_n 0, 1) := by decide +kernel
theorem dX10_parameterOf_1 : decode cX10_parameterOf 1 = .ok (.iconst 0, 1) := by decide +kernel
theorem dX10_parameterOf_2 : decode cX10_parameterOf 2 = .ok (.putfield 85, 3) := by decide +kernel
theorem dX10_parameterOf_5 : decode cX10_parameterOf 5 = .ok (.aload_n 0, 1) := by decide +kernel
theorem dX10_parameterOf_6 : decode cX10_parameterOf 6 = .ok (.iload_n 1, 1) := by decide +kernel
theorem dX10_parameterOf_7 : decode cX10_parameterOf 7 = .ok (.invokevirtual 222, 3) := by decide +kernel
theorem dX10_parameterOf_10 : decode cX10_parameterOf 10 = .ok (.ifCond .eq 12, 3) := by decide +kernel
theorem dX10_parameterOf_13 : decode cX10_parameterOf 13 = .ok (.aload_n 0, 1) := by decide +kernel
theorem dX10_parameterOf_14 : decode cX10_parameterOf 14 = .ok (.getfield 33, 3) := by decide +kernel
theorem dX10_parameterOf_17 : decode cX10_parameterOf 17 = .ok (.iload_n 1, 1) := by decide +kernel
theorem dX10_parameterOf_18 : decode cX10_parameterOf 18 = .ok (.iaload, 1) := by decide +kernel
theorem dX10_parameterOf_19 : decode cX10_parameterOf 19 = .ok (.goto 4, 3) := by decide +kernel
theorem dX10_parameterOf_22 : decode cX10_parameterOf 22 = .ok (.iconst (-1), 1) := by decide +kernel
theorem dX10_parameterOf_23 : decode cX10_parameterOf 23 = .ok (.ireturn, 1) := by decide +kernel
set_option maxHeartbeats 4000000 in
set_option maxRecDepth 100000 in
theorem c_X10_parameterOf {l : Launch} {g : Gh} {w : Wd} {k0 : Nat} {v_o : Int32} {rz : Int32} {wz : Wd} (hF : f_X10_parameterOf w k0 v_o = some (rz, wz)) (hk0 : zct zM k0 = 10) : Met l yX10_parameterOf (Cond.code yX10_parameterOf cX10_parameterOf 2 (some .int) :: TT) (rmd 2) (Pcw zM g w [.ref (g.2.2 k0), .int (v_o)]) (Qw zM g wz (some (.int (rz)))) 0 0 (zA zM g) := by
  refine mt_start (by decide) (Nat.le_of_ble_eq_true rfl) ?_
  intro p e s m args below meth c H locs ls X hr hl hH
  have hx := X.1
  have hb := X.2.1
  have hml := X.2.2.1
  have hown := X.2.2.2.1
  have ht := X.2.2.2.2.1
  have hl : lv_has ls 2 [(0, .ref (g.2.2 (k0))), (1, .int (v_o))] := hl
  unfold f_X10_parameterOf at hF
  refine lv_aload_n hx hb dX10_parameterOf_0 rfl (lv_at hl 0 rfl) ?_
  refine lv_iconst (v := (0 : Int32)) hx hb dX10_parameterOf_1 (by decide) ?_
  obtain ⟨w1, h1, hF⟩ := ob hF
  refine w_puti X hH h1 hk0 fs_10_0 nf_10_0 lk_10_85 dX10_parameterOf_2 (fun H locs hH => ?_)
  obtain ⟨x3, hx3, hF⟩ := ob hF
  have J2 : ∀ (H : Heap) (locs : List Loc), HW zM g w1 s.heap H locs → W p l e (rmd 2) s m args below meth c H locs 0 0 (MQ below (Qw zM g wz (some (.int (rz)))) args s 0 0 (zA zM g)) (F0 m 23 ls [.int (x3)]) := by
    intro H locs hH
    obtain ⟨rfl, rfl⟩ := se2 hF
    exact w_iret X hH hr dX10_parameterOf_23
  have hF := hx3
  refine lv_aload_n hx hb dX10_parameterOf_5 rfl (lv_at hl 0 rfl) ?_
  refine lv_iload_n hx hb dX10_parameterOf_6 rfl (lv_at hl 1 rfl) ?_
  obtain ⟨x4, h4, hF⟩ := ob hF
  refine w_callV (As := [.int (v_o)]) (k := k0) (rest := []) (st1 := [.int (bI (x4))]) X hH (c_X10_isObject (l := l) (g := g) (w := w1) (k0 := k0) (v_o := v_o) h4 hk0) (Or.inl tw_6_145) ms_X10_isObject im_X10_isObject hk0 cn_10 ⟨Nat.le_of_ble_eq_true rfl, Nat.le_of_ble_eq_true rfl⟩ rfl rfl hl.1 (Nat.le_of_ble_eq_true rfl) dX10_parameterOf_7 ⟨Nat.le_refl _, Nat.le_refl _⟩ rfl (fun H locs hH => ?_)
  refine w_b_f (tgt := 22) hx hb dX10_parameterOf_10 (by decide) (fun c5 => ?_) (fun c5 => ?_)
  · replace hF := ifn c5 hF
    refine lv_iconst (v := (-1 : Int32)) hx hb dX10_parameterOf_22 (by decide) ?_
    obtain rfl := se1 hF
    exact J2 _ _ hH
  · replace hF := ifp c5 hF
    refine lv_aload_n hx hb dX10_parameterOf_13 rfl (lv_at hl 0 rfl) ?_
    refine w_getr X hH hk0 fs_10_16 lk_10_33 dX10_parameterOf_14 ?_
    refine lv_iload_n hx hb dX10_parameterOf_17 rfl (lv_at hl 1 rfl) ?_
    obtain ⟨x6, h6, hF⟩ := ob hF
    refine w_iald X hH h6 (rt_M_10_16 hk0) dX10_parameterOf_18 ?_
    refine lv_goto (tgt := 23) hx hb dX10_parameterOf_19 (by decide) ?_
    obtain rfl := se1 hF
    exact J2 _ _ hH

theorem dX10_resultOf_0 : decode cX10_resultOf 0 = .ok (.aload_n 0, 1) := by decide +kernel
theorem dX10_resultOf_1 : decode cX10_resultOf 1 = .ok (.iconst 0, 1) := by decide +kernel
theorem dX10_resultOf_2 : decode cX10_resultOf 2 = .ok (.putfield 85, 3) := by decide +kernel
theorem dX10_resultOf_5 : decode cX10_resultOf 5 = .ok (.aload_n 0, 1) := by decide +kernel
theorem dX10_resultOf_6 : decode cX10_resultOf 6 = .ok (.iload_n 1, 1) := by decide +kernel
theorem dX10_resultOf_7 : decode cX10_resultOf 7 = .ok (.invokevirtual 222, 3) := by decide +kernel
theorem dX10_resultOf_10 : decode cX10_resultOf 10 = .ok (.ifCond .eq 12, 3) := by decide +kernel
theorem dX10_resultOf_13 : decode cX10_resultOf 13 = .ok (.aload_n 0, 1) := by decide +kernel
theorem dX10_resultOf_14 : decode cX10_resultOf 14 = .ok (.getfield 36, 3) := by decide +kernel
theorem dX10_resultOf_17 : decode cX10_resultOf 17 = .ok (.iload_n 1, 1) := by decide +kernel
theorem dX10_resultOf_18 : decode cX10_resultOf 18 = .ok (.iaload, 1) := by decide +kernel
theorem dX10_resultOf_19 : decode cX10_resultOf 19 = .ok (.goto 4, 3) := by decide +kernel
theorem dX10_resultOf_22 : decode cX10_resultOf 22 = .ok (.iconst (-1), 1) := by decide +kernel
theorem dX10_resultOf_23 : decode cX10_resultOf 23 = .ok (.ireturn, 1) := by decide +kernel
set_option maxHeartbeats 4000000 in
set_option maxRecDepth 100000 in
theorem c_X10_resultOf {l : Launch} {g : Gh} {w : Wd} {k0 : Nat} {v_o : Int32} {rz : Int32} {wz : Wd} (hF : f_X10_resultOf w k0 v_o = some (rz, wz)) (hk0 : zct zM k0 = 10) : Met l yX10_resultOf (Cond.code yX10_resultOf cX10_resultOf 2 (some .int) :: TT) (rmd 2) (Pcw zM g w [.ref (g.2.2 k0), .int (v_o)]) (Qw zM g wz (some (.int (rz)))) 0 0 (zA zM g) := by
  refine mt_start (by decide) (Nat.le_of_ble_eq_true rfl) ?_
  intro p e s m args below meth c H locs ls X hr hl hH
  have hx := X.1
  have hb := X.2.1
  have hml := X.2.2.1
  have hown := X.2.2.2.1
  have ht := X.2.2.2.2.1
  have hl : lv_has ls 2 [(0, .ref (g.2.2 (k0))), (1, .int (v_o))] := hl
  unfold f_X10_resultOf at hF
  refine lv_aload_n hx hb dX10_resultOf_0 rfl (lv_at hl 0 rfl) ?_
  refine lv_iconst (v := (0 : Int32)) hx hb dX10_resultOf_1 (by decide) ?_
  obtain ⟨w1, h1, hF⟩ := ob hF
  refine w_puti X hH h1 hk0 fs_10_0 nf_10_0 lk_10_85 dX10_resultOf_2 (fun H locs hH => ?_)
  obtain ⟨x3, hx3, hF⟩ := ob hF
  have J2 : ∀ (H : Heap) (locs : List Loc), HW zM g w1 s.heap H locs → W p l e (rmd 2) s m args below meth c H locs 0 0 (MQ below (Qw zM g wz (some (.int (rz)))) args s 0 0 (zA zM g)) (F0 m 23 ls [.int (x3)]) := by
    intro H locs hH
    obtain ⟨rfl, rfl⟩ := se2 hF
    exact w_iret X hH hr dX10_resultOf_23
  have hF := hx3
  refine lv_aload_n hx hb dX10_resultOf_5 rfl (lv_at hl 0 rfl) ?_
  refine lv_iload_n hx hb dX10_resultOf_6 rfl (lv_at hl 1 rfl) ?_
  obtain ⟨x4, h4, hF⟩ := ob hF
  refine w_callV (As := [.int (v_o)]) (k := k0) (rest := []) (st1 := [.int (bI (x4))]) X hH (c_X10_isObject (l := l) (g := g) (w := w1) (k0 := k0) (v_o := v_o) h4 hk0) (Or.inl tw_6_145) ms_X10_isObject im_X10_isObject hk0 cn_10 ⟨Nat.le_of_ble_eq_true rfl, Nat.le_of_ble_eq_true rfl⟩ rfl rfl hl.1 (Nat.le_of_ble_eq_true rfl) dX10_resultOf_7 ⟨Nat.le_refl _, Nat.le_refl _⟩ rfl (fun H locs hH => ?_)
  refine w_b_f (tgt := 22) hx hb dX10_resultOf_10 (by decide) (fun c5 => ?_) (fun c5 => ?_)
  · replace hF := ifn c5 hF
    refine lv_iconst (v := (-1 : Int32)) hx hb dX10_resultOf_22 (by decide) ?_
    obtain rfl := se1 hF
    exact J2 _ _ hH
  · replace hF := ifp c5 hF
    refine lv_aload_n hx hb dX10_resultOf_13 rfl (lv_at hl 0 rfl) ?_
    refine w_getr X hH hk0 fs_10_17 lk_10_36 dX10_resultOf_14 ?_
    refine lv_iload_n hx hb dX10_resultOf_17 rfl (lv_at hl 1 rfl) ?_
    obtain ⟨x6, h6, hF⟩ := ob hF
    refine w_iald X hH h6 (rt_M_10_17 hk0) dX10_resultOf_18 ?_
    refine lv_goto (tgt := 23) hx hb dX10_resultOf_19 (by decide) ?_
    obtain rfl := se1 hF
    exact J2 _ _ hH

theorem dX10_indexOf_0 : decode cX10_indexOf 0 = .ok (.aload_n 0, 1) := by decide +kernel
theorem dX10_indexOf_1 : decode cX10_indexOf 1 = .ok (.iload_n 1, 1) := by decide +kernel
theorem dX10_indexOf_2 : decode cX10_indexOf 2 = .ok (.invokevirtual 225, 3) := by decide +kernel
theorem dX10_indexOf_5 : decode cX10_indexOf 5 = .ok (.ifCond .eq 5, 3) := by decide +kernel
theorem dX10_indexOf_8 : decode cX10_indexOf 8 = .ok (.iload_n 1, 1) := by decide +kernel
theorem dX10_indexOf_9 : decode cX10_indexOf 9 = .ok (.ireturn, 1) := by decide +kernel
theorem dX10_indexOf_10 : decode cX10_indexOf 10 = .ok (.iload_n 1, 1) := by decide +kernel
theorem dX10_indexOf_11 : decode cX10_indexOf 11 = .ok (.bipush 100, 2) := by decide +kernel
theorem dX10_indexOf_13 : decode cX10_indexOf 13 = .ok (.isub, 1) := by decide +kernel
theorem dX10_indexOf_14 : decode cX10_indexOf 14 = .ok (.istore_n 2, 1) := by decide +kernel
theorem dX10_indexOf_15 : decode cX10_indexOf 15 = .ok (.iload_n 2, 1) := by decide +kernel
theorem dX10_indexOf_16 : decode cX10_indexOf 16 = .ok (.ifCond .lt 30, 3) := by decide +kernel
theorem dX10_indexOf_19 : decode cX10_indexOf 19 = .ok (.aload_n 0, 1) := by decide +kernel
theorem dX10_indexOf_20 : decode cX10_indexOf 20 = .ok (.iload_n 2, 1) := by decide +kernel
theorem dX10_indexOf_21 : decode cX10_indexOf 21 = .ok (.iconst 4, 1) := by decide +kernel
theorem dX10_indexOf_22 : decode cX10_indexOf 22 = .ok (.idiv, 1) := by decide +kernel
theorem dX10_indexOf_23 : decode cX10_indexOf 23 = .ok (.invokevirtual 222, 3) := by decide +kernel
theorem dX10_indexOf_26 : decode cX10_indexOf 26 = .ok (.ifCond .eq 20, 3) := by decide +kernel
theorem dX10_indexOf_29 : decode cX10_indexOf 29 = .ok (.aload_n 0, 1) := by decide +kernel
theorem dX10_indexOf_30 : decode cX10_indexOf 30 = .ok (.iload_n 2, 1) := by decide +kernel
theorem dX10_indexOf_31 : decode cX10_indexOf 31 = .ok (.iconst 4, 1) := by decide +kernel
theorem dX10_indexOf_32 : decode cX10_indexOf 32 = .ok (.irem, 1) := by decide +kernel
theorem dX10_indexOf_33 : decode cX10_indexOf 33 = .ok (.invokevirtual 228, 3) := by decide +kernel
theorem dX10_indexOf_36 : decode cX10_indexOf 36 = .ok (.ifCond .eq 10, 3) := by decide +kernel
theorem dX10_indexOf_39 : decode cX10_indexOf 39 = .ok (.bipush 16, 2) := by decide +kernel
theorem dX10_indexOf_41 : decode cX10_indexOf 41 = .ok (.iload_n 2, 1) := by decide +kernel
theorem dX10_indexOf_42 : decode cX10_indexOf 42 = .ok (.iadd, 1) := by decide +kernel
theorem dX10_indexOf_43 : decode cX10_indexOf 43 = .ok (.goto 4, 3) := by decide +kernel
theorem dX10_indexOf_46 : decode cX10_indexOf 46 = .ok (.iconst (-1), 1) := by decide +kernel
theorem dX10_indexOf_47 : decode cX10_indexOf 47 = .ok (.ireturn, 1) := by decide +kernel
set_option maxHeartbeats 4000000 in
set_option maxRecDepth 100000 in
theorem c_X10_indexOf {l : Launch} {g : Gh} {w : Wd} {k0 : Nat} {v_location : Int32} {rz : Int32} (hF : f_X10_indexOf w k0 v_location = some rz) (hk0 : zct zM k0 = 10) : Met l yX10_indexOf (Cond.code yX10_indexOf cX10_indexOf 3 (some .int) :: TT) (rmd 2) (Pcw zM g w [.ref (g.2.2 k0), .int (v_location)]) (Qw zM g w (some (.int (rz)))) 0 0 (zA zM g) := by
  refine mt_start (by decide) (Nat.le_of_ble_eq_true rfl) ?_
  intro p e s m args below meth c H locs ls X hr hl hH
  have hx := X.1
  have hb := X.2.1
  have hml := X.2.2.1
  have hown := X.2.2.2.1
  have ht := X.2.2.2.2.1
  have hl : lv_has ls 3 [(0, .ref (g.2.2 (k0))), (1, .int (v_location))] := hl
  unfold f_X10_indexOf at hF
  refine lv_aload_n hx hb dX10_indexOf_0 rfl (lv_at hl 0 rfl) ?_
  refine lv_iload_n hx hb dX10_indexOf_1 rfl (lv_at hl 1 rfl) ?_
  obtain ⟨x1, h1, hF⟩ := ob hF
  refine w_callV (As := [.int (v_location)]) (k := k0) (rest := []) (st1 := [.int (bI (x1))]) X hH (c_X10_isVariable (l := l) (g := g) (w := w) (k0 := k0) (v_v := v_location) h1 hk0) (Or.inl tw_6_176) ms_X10_isVariable im_X10_isVariable hk0 cn_10 ⟨Nat.le_of_ble_eq_true rfl, Nat.le_of_ble_eq_true rfl⟩ rfl rfl hl.1 (Nat.le_of_ble_eq_true rfl) dX10_indexOf_2 ⟨Nat.le_refl _, Nat.le_refl _⟩ rfl (fun H locs hH => ?_)
  refine w_b_f (tgt := 10) hx hb dX10_indexOf_5 (by decide) (fun c2 => ?_) (fun c2 => ?_)
  · replace hF := ifn c2 hF
    refine lv_iload_n hx hb dX10_indexOf_10 rfl (lv_at hl 1 rfl) ?_
    refine lv_bipush (v := (100 : Int32)) hx hb dX10_indexOf_11 (by decide) ?_
    refine lv_isub hx hb dX10_indexOf_13 ?_
    refine lv_istore_n (lv' := [(2, .int ((v_location - (100 : Int32)))), (0, .ref (g.2.2 (k0))), (1, .int (v_location))]) hx hb dX10_indexOf_14 rfl hl (by decide) rfl (fun ls hl => ?_)
    obtain ⟨x4, hx4, hF⟩ := ob hF
    have J3 : ∀ (H : Heap) (locs : List Loc), HW zM g w s.heap H locs → W p l e (rmd 2) s m args below meth c H locs 0 0 (MQ below (Qw zM g w (some (.int (rz)))) args s 0 0 (zA zM g)) (F0 m 47 ls [.int (x4)]) := by
      intro H locs hH
      obtain rfl := se1 hF
      exact w_iret X hH hr dX10_indexOf_47
    have hF := hx4
    obtain ⟨b5, hb5, hF⟩ := ob hF
    have Jb5T : b5 = true → ∀ (H : Heap) (locs : List Loc), HW zM g w s.heap H locs → W p l e (rmd 2) s m args below meth c H locs 0 0 (MQ below (Qw zM g w (some (.int (rz)))) args s 0 0 (zA zM g)) (F0 m 39 ls []) := by
      intro hc H locs hH
      replace hF := ifp hc hF
      refine lv_bipush (v := (16 : Int32)) hx hb dX10_indexOf_39 (by decide) ?_
      refine lv_iload_n hx hb dX10_indexOf_41 rfl (lv_at hl 0 rfl) ?_
      refine lv_iadd hx hb dX10_indexOf_42 ?_
      refine lv_goto (tgt := 47) hx hb dX10_indexOf_43 (by decide) ?_
      obtain rfl := se1 hF
      exact J3 _ _ hH
    have Jb5F : ¬ (b5 = true) → ∀ (H : Heap) (locs : List Loc), HW zM g w s.heap H locs → W p l e (rmd 2) s m args below meth c H locs 0 0 (MQ below (Qw zM g w (some (.int (rz)))) args s 0 0 (zA zM g)) (F0 m 46 ls []) := by
      intro hc H locs hH
      replace hF := ifn hc hF
      refine lv_iconst (v := (-1 : Int32)) hx hb dX10_indexOf_46 (by decide) ?_
      obtain rfl := se1 hF
      exact J3 _ _ hH
    have hF := hb5
    refine lv_iload_n hx hb dX10_indexOf_15 rfl (lv_at hl 0 rfl) ?_
    refine w_zge_f (tgt := 46) hx hb dX10_indexOf_16 (by decide) (fun c6 => ?_) (fun c6 => ?_)
    · replace hF := ifn c6 hF
      obtain rfl := se1 hF
      exact Jb5F Bool.false_ne_true _ _ hH
    · replace hF := ifp c6 hF
      refine lv_aload_n hx hb dX10_indexOf_19 rfl (lv_at hl 1 rfl) ?_
      refine lv_iload_n hx hb dX10_indexOf_20 rfl (lv_at hl 0 rfl) ?_
      refine lv_iconst (v := (4 : Int32)) hx hb dX10_indexOf_21 (by decide) ?_
      refine w_idiv hx hb dX10_indexOf_22 (by decide) ?_
      obtain ⟨x8, h8, hF⟩ := ob hF
      refine w_callV (As := [.int ((jdiv ((v_location - (100 : Int32))) ((4 : Int32))))]) (k := k0) (rest := []) (st1 := [.int (bI (x8))]) X hH (c_X10_isObject (l := l) (g := g) (w := w) (k0 := k0) (v_o := (jdiv ((v_location - (100 : Int32))) ((4 : Int32)))) h8 hk0) (Or.inl tw_6_145) ms_X10_isObject im_X10_isObject hk0 cn_10 ⟨Nat.le_of_ble_eq_true rfl, Nat.le_of_ble_eq_true rfl⟩ rfl rfl hl.1 (Nat.le_of_ble_eq_true rfl) dX10_indexOf_23 ⟨Nat.le_refl _, Nat.le_refl _⟩ rfl (fun H locs hH => ?_)
      refine w_b_f (tgt := 46) hx hb dX10_indexOf_26 (by decide) (fun c7 => ?_) (fun c7 => ?_)
      · replace hF := ifn c7 hF
        obtain rfl := se1 hF
        exact Jb5F Bool.false_ne_true _ _ hH
      · replace hF := ifp c7 hF
        refine lv_aload_n hx hb dX10_indexOf_29 rfl (lv_at hl 1 rfl) ?_
        refine lv_iload_n hx hb dX10_indexOf_30 rfl (lv_at hl 0 rfl) ?_
        refine lv_iconst (v := (4 : Int32)) hx hb dX10_indexOf_31 (by decide) ?_
        refine w_irem hx hb dX10_indexOf_32 (by decide) ?_
        obtain ⟨x10, h10, hF⟩ := ob hF
        refine w_callV (As := [.int ((jrem ((v_location - (100 : Int32))) ((4 : Int32))))]) (k := k0) (rest := []) (st1 := [.int (bI (x10))]) X hH (c_X10_isField (l := l) (g := g) (w := w) (k0 := k0) (v_f := (jrem ((v_location - (100 : Int32))) ((4 : Int32)))) h10 hk0) (Or.inl tw_6_180) ms_X10_isField im_X10_isField hk0 cn_10 ⟨Nat.le_of_ble_eq_true rfl, Nat.le_of_ble_eq_true rfl⟩ rfl rfl hl.1 (Nat.le_of_ble_eq_true rfl) dX10_indexOf_33 ⟨Nat.le_refl _, Nat.le_refl _⟩ rfl (fun H locs hH => ?_)
        refine w_b_f (tgt := 46) hx hb dX10_indexOf_36 (by decide) (fun c9 => ?_) (fun c9 => ?_)
        · replace hF := ifn c9 hF
          obtain rfl := se1 hF
          exact Jb5F Bool.false_ne_true _ _ hH
        · replace hF := ifp c9 hF
          obtain rfl := se1 hF
          exact Jb5T rfl _ _ hH
  · replace hF := ifp c2 hF
    refine lv_iload_n hx hb dX10_indexOf_8 rfl (lv_at hl 1 rfl) ?_
    obtain rfl := se1 hF
    exact w_iret X hH hr dX10_indexOf_9

theorem dX10_locationOf_0 : decode cX10_locationOf 0 = .ok (.iload_n 0, 1) := by decide +kernel
theorem dX10_locationOf_1 : decode cX10_locationOf 1 = .ok (.bipush 16, 2) := by decide +kernel
theorem dX10_locationOf_3 : decode cX10_locationOf 3 = .ok (.if_icmp .ge 7, 3) := by decide +kernel
theorem dX10_locationOf_6 : decode cX10_locationOf 6 = .ok (.iload_n 0, 1) := by decide +kernel
theorem dX10_locationOf_7 : decode cX10_locationOf 7 = .ok (.goto 10, 3) := by decide +kernel
theorem dX10_locationOf_10 : decode cX10_locationOf 10 = .ok (.iload_n 0, 1) := by decide +kernel
theorem dX10_locationOf_11 : decode cX10_locationOf 11 = .ok (.bipush 16, 2) := by decide +kernel
theorem dX10_locationOf_13 : decode cX10_locationOf 13 = .ok (.isub, 1) := by decide +kernel
theorem dX10_locationOf_14 : decode cX10_locationOf 14 = .ok (.bipush 100, 2) := by decide +kernel
theorem dX10_locationOf_16 : decode cX10_locationOf 16 = .ok (.iadd, 1) := by decide +kernel
theorem dX10_locationOf_17 : decode cX10_locationOf 17 = .ok (.ireturn, 1) := by decide +kernel
set_option maxHeartbeats 4000000 in
set_option maxRecDepth 100000 in
theorem c_X10_locationOf {l : Launch} {g : Gh} {w : Wd} {v_index : Int32} {rz : Int32} (hF : f_X10_locationOf v_index = rz)  : Met l yX10_locationOf (Cond.code yX10_locationOf cX10_locationOf 1 (some .int) :: TT) (rmd 0) (Pcw zM g w [.int (v_index)]) (Qw zM g w (some (.int (rz)))) 0 0 (zA zM g) := by
  refine mt_start (by decide) (Nat.le_of_ble_eq_true rfl) ?_
  intro p e s m args below meth c H locs ls X hr hl hH
  have hx := X.1
  have hb := X.2.1
  have hml := X.2.2.1
  have hown := X.2.2.2.1
  have ht := X.2.2.2.2.1
  have hl : lv_has ls 1 [(0, .int (v_index))] := hl
  unfold f_X10_locationOf at hF
  refine lv_iload_n hx hb dX10_locationOf_0 rfl (lv_at hl 0 rfl) ?_
  refine lv_bipush (v := (16 : Int32)) hx hb dX10_locationOf_1 (by decide) ?_
  have J1 : ∀ (H : Heap) (locs : List Loc), HW zM g w s.heap H locs → W p l e (rmd 0) s m args below meth c H locs 0 0 (MQ below (Qw zM g w (some (.int (rz)))) args s 0 0 (zA zM g)) (F0 m 17 ls [.int ((if v_index < (16 : Int32) then v_index else ((v_index - (16 : Int32)) + (100 : Int32))))]) := by
    intro H locs hH
    subst hF
    exact w_iret X hH hr dX10_locationOf_17
  refine w_ilt_f (tgt := 10) hx hb dX10_locationOf_3 (by decide) (fun c2 => ?_) (fun c2 => ?_)
  · refine lv_iload_n hx hb dX10_locationOf_10 rfl (lv_at hl 0 rfl) ?_
    refine lv_bipush (v := (16 : Int32)) hx hb dX10_locationOf_11 (by decide) ?_
    refine lv_isub hx hb dX10_locationOf_13 ?_
    refine lv_bipush (v := (100 : Int32)) hx hb dX10_locationOf_14 (by decide) ?_
    refine lv_iadd hx hb dX10_locationOf_16 ?_
    exact w_in c2 (J1 _ _ hH)
  · refine lv_iload_n hx hb dX10_locationOf_6 rfl (lv_at hl 0 rfl) ?_
    refine lv_goto (tgt := 17) hx hb dX10_locationOf_7 (by decide) ?_
    exact w_ip c2 (J1 _ _ hH)
