theorem dX6_viaSlot_0 : decode cX6_viaSlot 0 = .ok (.aload_n 0, 1) := by decide +kernel
theorem dX6_viaSlot_1 : decode cX6_viaSlot 1 = .ok (.getfield 40, 3) := by decide +kernel
theorem dX6_viaSlot_4 : decode cX6_viaSlot 4 = .ok (.getfield 61, 3) := by decide +kernel
theorem dX6_viaSlot_7 : decode cX6_viaSlot 7 = .ok (.iload_n 1, 1) := by decide +kernel
theorem dX6_viaSlot_8 : decode cX6_viaSlot 8 = .ok (.iaload, 1) := by decide +kernel
theorem dX6_viaSlot_9 : decode cX6_viaSlot 9 = .ok (.tableswitch 47 2 4 #[27, 37, 27], 27) := by decide +kernel
theorem dX6_viaSlot_36 : decode cX6_viaSlot 36 = .ok (.aload_n 0, 1) := by decide +kernel
theorem dX6_viaSlot_37 : decode cX6_viaSlot 37 = .ok (.getfield 40, 3) := by decide +kernel
theorem dX6_viaSlot_40 : decode cX6_viaSlot 40 = .ok (.getfield 64, 3) := by decide +kernel
theorem dX6_viaSlot_43 : decode cX6_viaSlot 43 = .ok (.iload_n 1, 1) := by decide +kernel
theorem dX6_viaSlot_44 : decode cX6_viaSlot 44 = .ok (.iaload, 1) := by decide +kernel
theorem dX6_viaSlot_45 : decode cX6_viaSlot 45 = .ok (.ireturn, 1) := by decide +kernel
theorem dX6_viaSlot_46 : decode cX6_viaSlot 46 = .ok (.aload_n 0, 1) := by decide +kernel
theorem dX6_viaSlot_47 : decode cX6_viaSlot 47 = .ok (.getfield 40, 3) := by decide +kernel
theorem dX6_viaSlot_50 : decode cX6_viaSlot 50 = .ok (.getfield 67, 3) := by decide +kernel
theorem dX6_viaSlot_53 : decode cX6_viaSlot 53 = .ok (.iload_n 1, 1) := by decide +kernel
theorem dX6_viaSlot_54 : decode cX6_viaSlot 54 = .ok (.iaload, 1) := by decide +kernel
theorem dX6_viaSlot_55 : decode cX6_viaSlot 55 = .ok (.ireturn, 1) := by decide +kernel
theorem dX6_viaSlot_56 : decode cX6_viaSlot 56 = .ok (.iconst (-1), 1) := by decide +kernel
theorem dX6_viaSlot_57 : decode cX6_viaSlot 57 = .ok (.ireturn, 1) := by decide +kernel
set_option maxHeartbeats 4000000 in
set_option maxRecDepth 100000 in
theorem c_X6_viaSlot {l : Launch} {g : Gh} {w : Wd} {k0 : Nat} {v_constraint : Int32} {rz : Int32} (hF : f_X6_viaSlot w k0 v_constraint = some rz) (hk0 : zct zC k0 = 6) : Met l yX6_viaSlot (Cond.code yX6_viaSlot cX6_viaSlot 2 (some .int) :: TT) (rmd 0) (Pcw zC g w [.ref (g.2.2 k0), .int (v_constraint)]) (Qw zC g w (some (.int (rz)))) 0 0 (zA zC g) := by
  refine mt_start (by decide) (Nat.le_of_ble_eq_true rfl) ?_
  intro p e s m args below meth c H locs ls X hr hl hH
  have hx := X.1
  have hb := X.2.1
  have hml := X.2.2.1
  have hown := X.2.2.2.1
  have ht := X.2.2.2.2.1
  have hl : lv_has ls 2 [(0, .ref (g.2.2 (k0))), (1, .int (v_constraint))] := hl
  unfold f_X6_viaSlot at hF
  refine lv_aload_n hx hb dX6_viaSlot_0 rfl (lv_at hl 0 rfl) ?_
  refine w_getr X hH hk0 fs_6_6 lk_6_40 dX6_viaSlot_1 ?_
  refine w_getr X hH (rt_C_6_6 hk0) fs_0_0 lk_6_61 dX6_viaSlot_4 ?_
  refine lv_iload_n hx hb dX6_viaSlot_7 rfl (lv_at hl 1 rfl) ?_
  obtain ⟨x1, h1, hF⟩ := ob hF
  refine w_iald X hH h1 (rt_C_0_0 (rt_C_6_6 hk0)) dX6_viaSlot_8 ?_
  by_cases c2 : x1 = (2 : Int32) ∨ x1 = (4 : Int32)
  · replace hF := ifp c2 hF
    have JG : W p l e (rmd 0) s m args below meth c H locs 0 0 (MQ below (Qw zC g w (some (.int (rz)))) args s 0 0 (zA zC g)) (F0 m 36 ls []) := by
      refine lv_aload_n hx hb dX6_viaSlot_36 rfl (lv_at hl 0 rfl) ?_
      refine w_getr X hH hk0 fs_6_6 lk_6_40 dX6_viaSlot_37 ?_
      refine w_getr X hH (rt_C_6_6 hk0) fs_0_2 lk_6_64 dX6_viaSlot_40 ?_
      refine lv_iload_n hx hb dX6_viaSlot_43 rfl (lv_at hl 1 rfl) ?_
      obtain ⟨x3, h3, hF⟩ := ob hF
      refine w_iald X hH h3 (rt_C_0_2 (rt_C_6_6 hk0)) dX6_viaSlot_44 ?_
      obtain rfl := se1 hF
      exact w_iret X hH hr dX6_viaSlot_45
    rcases c2 with hc | hc
    · refine w_tin (tgt := 36) hx hb hc dX6_viaSlot_9 (by decide) (by decide) rfl (by decide) ?_
      exact JG
    · refine w_tin (tgt := 36) hx hb hc dX6_viaSlot_9 (by decide) (by decide) rfl (by decide) ?_
      exact JG
  · replace hF := ifn c2 hF
    by_cases c4 : x1 = (3 : Int32)
    · replace hF := ifp c4 hF
      refine w_tin (tgt := 46) hx hb c4 dX6_viaSlot_9 (by decide) (by decide) rfl (by decide) ?_
      refine lv_aload_n hx hb dX6_viaSlot_46 rfl (lv_at hl 0 rfl) ?_
      refine w_getr X hH hk0 fs_6_6 lk_6_40 dX6_viaSlot_47 ?_
      refine w_getr X hH (rt_C_6_6 hk0) fs_0_1 lk_6_67 dX6_viaSlot_50 ?_
      refine lv_iload_n hx hb dX6_viaSlot_53 rfl (lv_at hl 1 rfl) ?_
      obtain ⟨x5, h5, hF⟩ := ob hF
      refine w_iald X hH h5 (rt_C_0_1 (rt_C_6_6 hk0)) dX6_viaSlot_54 ?_
      obtain rfl := se1 hF
      exact w_iret X hH hr dX6_viaSlot_55
    · replace hF := ifn c4 hF
      refine lv_tableOut (tgt := 56) hx hb dX6_viaSlot_9 (by have := lv_neT (fun z => c2 (Or.inl z)) (show (2 : Int32).toInt = 2 by decide); have := lv_neT (fun z => c2 (Or.inr z)) (show (4 : Int32).toInt = 4 by decide); have := lv_neT c4 (show (3 : Int32).toInt = 3 by decide); omega) (by decide) ?_
      refine lv_iconst (v := (-1 : Int32)) hx hb dX6_viaSlot_56 (by decide) ?_
      obtain rfl := se1 hF
      exact w_iret X hH hr dX6_viaSlot_57

theorem dX6_viasIn_0 : decode cX6_viasIn 0 = .ok (.aload_n 0, 1) := by decide +kernel
theorem dX6_viasIn_1 : decode cX6_viasIn 1 = .ok (.getfield 40, 3) := by decide +kernel
theorem dX6_viasIn_4 : decode cX6_viasIn 4 = .ok (.getfield 61, 3) := by decide +kernel
theorem dX6_viasIn_7 : decode cX6_viasIn 7 = .ok (.iload_n 2, 1) := by decide +kernel
theorem dX6_viasIn_8 : decode cX6_viasIn 8 = .ok (.iaload, 1) := by decide +kernel
theorem dX6_viasIn_9 : decode cX6_viasIn 9 = .ok (.istore_n 3, 1) := by decide +kernel
theorem dX6_viasIn_10 : decode cX6_viasIn 10 = .ok (.aload_n 0, 1) := by decide +kernel
theorem dX6_viasIn_11 : decode cX6_viasIn 11 = .ok (.iload_n 2, 1) := by decide +kernel
theorem dX6_viasIn_12 : decode cX6_viasIn 12 = .ok (.invokevirtual 70, 3) := by decide +kernel
theorem dX6_viasIn_15 : decode cX6_viasIn 15 = .ok (.istore 4, 2) := by decide +kernel
theorem dX6_viasIn_17 : decode cX6_viasIn 17 = .ok (.iload 4, 2) := by decide +kernel
theorem dX6_viasIn_19 : decode cX6_viasIn 19 = .ok (.iconst (-1), 1) := by decide +kernel
theorem dX6_viasIn_20 : decode cX6_viasIn 20 = .ok (.if_icmp .ne 14, 3) := by decide +kernel
theorem dX6_viasIn_23 : decode cX6_viasIn 23 = .ok (.iload_n 3, 1) := by decide +kernel
theorem dX6_viasIn_24 : decode cX6_viasIn 24 = .ok (.iconst 1, 1) := by decide +kernel
theorem dX6_viasIn_25 : decode cX6_viasIn 25 = .ok (.if_icmp .ne 7, 3) := by decide +kernel
theorem dX6_viasIn_28 : decode cX6_viasIn 28 = .ok (.iconst 1, 1) := by decide +kernel
theorem dX6_viasIn_29 : decode cX6_viasIn 29 = .ok (.goto 4, 3) := by decide +kernel
theorem dX6_viasIn_32 : decode cX6_viasIn 32 = .ok (.iconst 0, 1) := by decide +kernel
theorem dX6_viasIn_33 : decode cX6_viasIn 33 = .ok (.ireturn, 1) := by decide +kernel
theorem dX6_viasIn_34 : decode cX6_viasIn 34 = .ok (.iload_n 3, 1) := by decide +kernel
theorem dX6_viasIn_35 : decode cX6_viasIn 35 = .ok (.iconst 4, 1) := by decide +kernel
theorem dX6_viasIn_36 : decode cX6_viasIn 36 = .ok (.if_icmp .ne 15, 3) := by decide +kernel
theorem dX6_viasIn_39 : decode cX6_viasIn 39 = .ok (.aload_n 1, 1) := by decide +kernel
theorem dX6_viasIn_40 : decode cX6_viasIn 40 = .ok (.iload 4, 2) := by decide +kernel
theorem dX6_viasIn_42 : decode cX6_viasIn 42 = .ok (.iaload, 1) := by decide +kernel
theorem dX6_viasIn_43 : decode cX6_viasIn 43 = .ok (.aload_n 0, 1) := by decide +kernel
theorem dX6_viasIn_44 : decode cX6_viasIn 44 = .ok (.getfield 33, 3) := by decide +kernel
theorem dX6_viasIn_47 : decode cX6_viasIn 47 = .ok (.iand, 1) := by decide +kernel
theorem dX6_viasIn_48 : decode cX6_viasIn 48 = .ok (.goto 7, 3) := by decide +kernel
theorem dX6_viasIn_51 : decode cX6_viasIn 51 = .ok (.aload_n 1, 1) := by decide +kernel
theorem dX6_viasIn_52 : decode cX6_viasIn 52 = .ok (.iload 4, 2) := by decide +kernel
theorem dX6_viasIn_54 : decode cX6_viasIn 54 = .ok (.iaload, 1) := by decide +kernel
theorem dX6_viasIn_55 : decode cX6_viasIn 55 = .ok (.ireturn, 1) := by decide +kernel
set_option maxHeartbeats 4000000 in
set_option maxRecDepth 100000 in
theorem c_X6_viasIn {l : Launch} {g : Gh} {w : Wd} {k0 : Nat} {v_sets : Nat} {v_constraint : Int32} {rz : Int32} (hF : f_X6_viasIn w k0 v_sets v_constraint = some rz) (hk0 : zct zC k0 = 6) (hv_sets : zct zC v_sets = 20) : Met l yX6_viasIn (Cond.code yX6_viasIn cX6_viasIn 5 (some .int) :: TT) (rmd 1) (Pcw zC g w [.ref (g.2.2 k0), .ref (g.2.2 (v_sets)), .int (v_constraint)]) (Qw zC g w (some (.int (rz)))) 0 0 (zA zC g) := by
  refine mt_start (by decide) (Nat.le_of_ble_eq_true rfl) ?_
  intro p e s m args below meth c H locs ls X hr hl hH
  have hx := X.1
  have hb := X.2.1
  have hml := X.2.2.1
  have hown := X.2.2.2.1
  have ht := X.2.2.2.2.1
  have hl : lv_has ls 5 [(0, .ref (g.2.2 (k0))), (1, .ref (g.2.2 (v_sets))), (2, .int (v_constraint))] := hl
  unfold f_X6_viasIn at hF
  refine lv_aload_n hx hb dX6_viasIn_0 rfl (lv_at hl 0 rfl) ?_
  refine w_getr X hH hk0 fs_6_6 lk_6_40 dX6_viasIn_1 ?_
  refine w_getr X hH (rt_C_6_6 hk0) fs_0_0 lk_6_61 dX6_viasIn_4 ?_
  refine lv_iload_n hx hb dX6_viasIn_7 rfl (lv_at hl 2 rfl) ?_
  obtain ⟨x1, h1, hF⟩ := ob hF
  refine w_iald X hH h1 (rt_C_0_0 (rt_C_6_6 hk0)) dX6_viasIn_8 ?_
  refine lv_istore_n (lv' := [(3, .int (x1)), (0, .ref (g.2.2 (k0))), (1, .ref (g.2.2 (v_sets))), (2, .int (v_constraint))]) hx hb dX6_viasIn_9 rfl hl (by decide) rfl (fun ls hl => ?_)
  refine lv_aload_n hx hb dX6_viasIn_10 rfl (lv_at hl 1 rfl) ?_
  refine lv_iload_n hx hb dX6_viasIn_11 rfl (lv_at hl 3 rfl) ?_
  obtain ⟨x2, h2, hF⟩ := ob hF
  refine w_callV (As := [.int (v_constraint)]) (k := k0) (rest := []) (st1 := [.int (x2)]) X hH (c_X6_viaSlot (l := l) (g := g) (w := w) (k0 := k0) (v_constraint := v_constraint) h2 hk0) (Or.inl tw_2_205) ms_X6_viaSlot im_X6_viaSlot hk0 cn_6 ⟨Nat.le_of_ble_eq_true rfl, Nat.le_of_ble_eq_true rfl⟩ rfl rfl hl.1 (Nat.le_of_ble_eq_true rfl) dX6_viasIn_12 ⟨Nat.le_refl _, Nat.le_refl _⟩ rfl (fun H locs hH => ?_)
  refine lv_istore (lv' := [(4, .int (x2)), (3, .int (x1)), (0, .ref (g.2.2 (k0))), (1, .ref (g.2.2 (v_sets))), (2, .int (v_constraint))]) hx hb dX6_viasIn_15 hl (by decide) rfl (fun ls hl => ?_)
  refine lv_iload hx hb dX6_viasIn_17 (lv_at hl 0 rfl) ?_
  refine lv_iconst (v := (-1 : Int32)) hx hb dX6_viasIn_19 (by decide) ?_
  refine w_ieq_f (tgt := 34) hx hb dX6_viasIn_20 (by decide) (fun c3 => ?_) (fun c3 => ?_)
  · replace hF := ifn c3 hF
    obtain ⟨x5, hx5, hF⟩ := ob hF
    have J4 : ∀ (H : Heap) (locs : List Loc), HW zC g w s.heap H locs → W p l e (rmd 1) s m args below meth c H locs 0 0 (MQ below (Qw zC g w (some (.int (rz)))) args s 0 0 (zA zC g)) (F0 m 55 ls [.int (x5)]) := by
      intro H locs hH
      obtain rfl := se1 hF
      exact w_iret X hH hr dX6_viasIn_55
    have hF := hx5
    refine lv_iload_n hx hb dX6_viasIn_34 rfl (lv_at hl 1 rfl) ?_
    refine lv_iconst (v := (4 : Int32)) hx hb dX6_viasIn_35 (by decide) ?_
    refine w_ieq_f (tgt := 51) hx hb dX6_viasIn_36 (by decide) (fun c6 => ?_) (fun c6 => ?_)
    · replace hF := ifn c6 hF
      refine lv_aload_n hx hb dX6_viasIn_51 rfl (lv_at hl 3 rfl) ?_
      refine lv_iload hx hb dX6_viasIn_52 (lv_at hl 0 rfl) ?_
      obtain ⟨x7, h7, hF⟩ := ob hF
      refine w_iald X hH h7 hv_sets dX6_viasIn_54 ?_
      obtain rfl := se1 hF
      exact J4 _ _ hH
    · replace hF := ifp c6 hF
      refine lv_aload_n hx hb dX6_viasIn_39 rfl (lv_at hl 3 rfl) ?_
      refine lv_iload hx hb dX6_viasIn_40 (lv_at hl 0 rfl) ?_
      obtain ⟨x8, h8, hF⟩ := ob hF
      refine w_iald X hH h8 hv_sets dX6_viasIn_42 ?_
      refine lv_aload_n hx hb dX6_viasIn_43 rfl (lv_at hl 2 rfl) ?_
      refine w_geti X hH hk0 fs_6_5 lk_6_33 dX6_viasIn_44 ?_
      refine lv_iand hx hb dX6_viasIn_47 ?_
      refine lv_goto (tgt := 55) hx hb dX6_viasIn_48 (by decide) ?_
      obtain rfl := se1 hF
      exact J4 _ _ hH
  · replace hF := ifp c3 hF
    refine lv_iload_n hx hb dX6_viasIn_23 rfl (lv_at hl 1 rfl) ?_
    refine lv_iconst (v := (1 : Int32)) hx hb dX6_viasIn_24 (by decide) ?_
    have J9 : ∀ (H : Heap) (locs : List Loc), HW zC g w s.heap H locs → W p l e (rmd 1) s m args below meth c H locs 0 0 (MQ below (Qw zC g w (some (.int (rz)))) args s 0 0 (zA zC g)) (F0 m 33 ls [.int ((if x1 = (1 : Int32) then (1 : Int32) else (0 : Int32)))]) := by
      intro H locs hH
      obtain rfl := se1 hF
      exact w_iret X hH hr dX6_viasIn_33
    refine w_ieq_f (tgt := 32) hx hb dX6_viasIn_25 (by decide) (fun c10 => ?_) (fun c10 => ?_)
    · refine lv_iconst (v := (0 : Int32)) hx hb dX6_viasIn_32 (by decide) ?_
      exact w_in c10 (J9 _ _ hH)
    · refine lv_iconst (v := (1 : Int32)) hx hb dX6_viasIn_28 (by decide) ?_
      refine lv_goto (tgt := 33) hx hb dX6_viasIn_29 (by decide) ?_
      exact w_ip c10 (J9 _ _ hH)

theorem dX6_flowCount_0 : decode cX6_flowCount 0 = .ok (.aload_n 0, 1) := by decide +kernel
theorem dX6_flowCount_1 : decode cX6_flowCount 1 = .ok (.getfield 40, 3) := by decide +kernel
theorem dX6_flowCount_4 : decode cX6_flowCount 4 = .ok (.getfield 61, 3) := by decide +kernel
theorem dX6_flowCount_7 : decode cX6_flowCount 7 = .ok (.iload_n 1, 1) := by decide +kernel
theorem dX6_flowCount_8 : decode cX6_flowCount 8 = .ok (.iaload, 1) := by decide +kernel
theorem dX6_flowCount_9 : decode cX6_flowCount 9 = .ok (.iconst 4, 1) := by decide +kernel
theorem dX6_flowCount_10 : decode cX6_flowCount 10 = .ok (.if_icmp .ne 7, 3) := by decide +kernel
theorem dX6_flowCount_13 : decode cX6_flowCount 13 = .ok (.iconst 2, 1) := by decide +kernel
theorem dX6_flowCount_14 : decode cX6_flowCount 14 = .ok (.goto 4, 3) := by decide +kernel
theorem dX6_flowCount_17 : decode cX6_flowCount 17 = .ok (.iconst 1, 1) := by decide +kernel
theorem dX6_flowCount_18 : decode cX6_flowCount 18 = .ok (.ireturn, 1) := by decide +kernel
set_option maxHeartbeats 4000000 in
set_option maxRecDepth 100000 in
theorem c_X6_flowCount {l : Launch} {g : Gh} {w : Wd} {k0 : Nat} {v_constraint : Int32} {rz : Int32} (hF : f_X6_flowCount w k0 v_constraint = some rz) (hk0 : zct zC k0 = 6) : Met l yX6_flowCount (Cond.code yX6_flowCount cX6_flowCount 2 (some .int) :: TT) (rmd 0) (Pcw zC g w [.ref (g.2.2 k0), .int (v_constraint)]) (Qw zC g w (some (.int (rz)))) 0 0 (zA zC g) := by
  refine mt_start (by decide) (Nat.le_of_ble_eq_true rfl) ?_
  intro p e s m args below meth c H locs ls X hr hl hH
  have hx := X.1
  have hb := X.2.1
  have hml := X.2.2.1
  have hown := X.2.2.2.1
  have ht := X.2.2.2.2.1
  have hl : lv_has ls 2 [(0, .ref (g.2.2 (k0))), (1, .int (v_constraint))] := hl
  unfold f_X6_flowCount at hF
  refine lv_aload_n hx hb dX6_flowCount_0 rfl (lv_at hl 0 rfl) ?_
  refine w_getr X hH hk0 fs_6_6 lk_6_40 dX6_flowCount_1 ?_
  refine w_getr X hH (rt_C_6_6 hk0) fs_0_0 lk_6_61 dX6_flowCount_4 ?_
  refine lv_iload_n hx hb dX6_flowCount_7 rfl (lv_at hl 1 rfl) ?_
  obtain ⟨x2, h2, hF⟩ := ob hF
  refine w_iald X hH h2 (rt_C_0_0 (rt_C_6_6 hk0)) dX6_flowCount_8 ?_
  refine lv_iconst (v := (4 : Int32)) hx hb dX6_flowCount_9 (by decide) ?_
  have J1 : ∀ (H : Heap) (locs : List Loc), HW zC g w s.heap H locs → W p l e (rmd 0) s m args below meth c H locs 0 0 (MQ below (Qw zC g w (some (.int (rz)))) args s 0 0 (zA zC g)) (F0 m 18 ls [.int ((if x2 = (4 : Int32) then (2 : Int32) else (1 : Int32)))]) := by
    intro H locs hH
    obtain rfl := se1 hF
    exact w_iret X hH hr dX6_flowCount_18
  refine w_ieq_f (tgt := 17) hx hb dX6_flowCount_10 (by decide) (fun c3 => ?_) (fun c3 => ?_)
  · refine lv_iconst (v := (1 : Int32)) hx hb dX6_flowCount_17 (by decide) ?_
    exact w_in c3 (J1 _ _ hH)
  · refine lv_iconst (v := (2 : Int32)) hx hb dX6_flowCount_13 (by decide) ?_
    refine lv_goto (tgt := 18) hx hb dX6_flowCount_14 (by decide) ?_
    exact w_ip c3 (J1 _ _ hH)

theorem dX9_fieldSlot_0 : decode cX9_fieldSlot 0 = .ok (.bipush 16, 2) := by decide +kernel
theorem dX9_fieldSlot_2 : decode cX9_fieldSlot 2 = .ok (.iload_n 0, 1) := by decide +kernel
theorem dX9_fieldSlot_3 : decode cX9_fieldSlot 3 = .ok (.iconst 4, 1) := by decide +kernel
theorem dX9_fieldSlot_4 : decode cX9_fieldSlot 4 = .ok (.imul, 1) := by decide +kernel
theorem dX9_fieldSlot_5 : decode cX9_fieldSlot 5 = .ok (.iadd, 1) := by decide +kernel
theorem dX9_fieldSlot_6 : decode cX9_fieldSlot 6 = .ok (.iload_n 1, 1) := by decide +kernel
theorem dX9_fieldSlot_7 : decode cX9_fieldSlot 7 = .ok (.iadd, 1) := by decide +kernel
theorem dX9_fieldSlot_8 : decode cX9_fieldSlot 8 = .ok (.ireturn, 1) := by decide +kernel
set_option maxHeartbeats 4000000 in
set_option maxRecDepth 100000 in
theorem c_X9_fieldSlot {l : Launch} {g : Gh} {w : Wd} {v_object : Int32} {v_field : Int32} {rz : Int32} (hF : f_X9_fieldSlot v_object v_field = rz)  : Met l yX9_fieldSlot (Cond.code yX9_fieldSlot cX9_fieldSlot 2 (some .int) :: TT) (rmd 0) (Pcw zC g w [.int (v_object), .int (v_field)]) (Qw zC g w (some (.int (rz)))) 0 0 (zA zC g) := by
  refine mt_start (by decide) (Nat.le_of_ble_eq_true rfl) ?_
  intro p e s m args below meth c H locs ls X hr hl hH
  have hx := X.1
  have hb := X.2.1
  have hml := X.2.2.1
  have hown := X.2.2.2.1
  have ht := X.2.2.2.2.1
  have hl : lv_has ls 2 [(0, .int (v_object)), (1, .int (v_field))] := hl
  unfold f_X9_fieldSlot at hF
  refine lv_bipush (v := (16 : Int32)) hx hb dX9_fieldSlot_0 (by decide) ?_
  refine lv_iload_n hx hb dX9_fieldSlot_2 rfl (lv_at hl 0 rfl) ?_
  refine lv_iconst (v := (4 : Int32)) hx hb dX9_fieldSlot_3 (by decide) ?_
  refine lv_imul hx hb dX9_fieldSlot_4 ?_
  refine lv_iadd hx hb dX9_fieldSlot_5 ?_
  refine lv_iload_n hx hb dX9_fieldSlot_6 rfl (lv_at hl 1 rfl) ?_
  refine lv_iadd hx hb dX9_fieldSlot_7 ?_
  subst hF
  exact w_iret X hH hr dX9_fieldSlot_8

theorem dX6_flowSource_0 : decode cX6_flowSource 0 = .ok (.aload_n 0, 1) := by decide +kernel
theorem dX6_flowSource_1 : decode cX6_flowSource 1 = .ok (.getfield 40, 3) := by decide +kernel
theorem dX6_flowSource_4 : decode cX6_flowSource 4 = .ok (.getfield 61, 3) := by decide +kernel
theorem dX6_flowSource_7 : decode cX6_flowSource 7 = .ok (.iload_n 1, 1) := by decide +kernel
theorem dX6_flowSource_8 : decode cX6_flowSource 8 = .ok (.iaload, 1) := by decide +kernel
theorem dX6_flowSource_9 : decode cX6_flowSource 9 = .ok (.tableswitch 74 2 4 #[27, 41, 51], 27) := by decide +kernel
theorem dX6_flowSource_36 : decode cX6_flowSource 36 = .ok (.iload_n 2, 1) := by decide +kernel
theorem dX6_flowSource_37 : decode cX6_flowSource 37 = .ok (.aload_n 0, 1) := by decide +kernel
theorem dX6_flowSource_38 : decode cX6_flowSource 38 = .ok (.getfield 40, 3) := by decide +kernel
theorem dX6_flowSource_41 : decode cX6_flowSource 41 = .ok (.getfield 74, 3) := by decide +kernel
theorem dX6_flowSource_44 : decode cX6_flowSource 44 = .ok (.iload_n 1, 1) := by decide +kernel
theorem dX6_flowSource_45 : decode cX6_flowSource 45 = .ok (.iaload, 1) := by decide +kernel
theorem dX6_flowSource_46 : decode cX6_flowSource 46 = .ok (.invokestatic 54, 3) := by decide +kernel
theorem dX6_flowSource_49 : decode cX6_flowSource 49 = .ok (.ireturn, 1) := by decide +kernel
theorem dX6_flowSource_50 : decode cX6_flowSource 50 = .ok (.aload_n 0, 1) := by decide +kernel
theorem dX6_flowSource_51 : decode cX6_flowSource 51 = .ok (.getfield 40, 3) := by decide +kernel
theorem dX6_flowSource_54 : decode cX6_flowSource 54 = .ok (.getfield 74, 3) := by decide +kernel
theorem dX6_flowSource_57 : decode cX6_flowSource 57 = .ok (.iload_n 1, 1) := by decide +kernel
theorem dX6_flowSource_58 : decode cX6_flowSource 58 = .ok (.iaload, 1) := by decide +kernel
theorem dX6_flowSource_59 : decode cX6_flowSource 59 = .ok (.ireturn, 1) := by decide +kernel
theorem dX6_flowSource_60 : decode cX6_flowSource 60 = .ok (.iload_n 3, 1) := by decide +kernel
theorem dX6_flowSource_61 : decode cX6_flowSource 61 = .ok (.ifCond .ne 15, 3) := by decide +kernel
theorem dX6_flowSource_64 : decode cX6_flowSource 64 = .ok (.aload_n 0, 1) := by decide +kernel
theorem dX6_flowSource_65 : decode cX6_flowSource 65 = .ok (.getfield 40, 3) := by decide +kernel
theorem dX6_flowSource_68 : decode cX6_flowSource 68 = .ok (.getfield 74, 3) := by decide +kernel
theorem dX6_flowSource_71 : decode cX6_flowSource 71 = .ok (.iload_n 1, 1) := by decide +kernel
theorem dX6_flowSource_72 : decode cX6_flowSource 72 = .ok (.iaload, 1) := by decide +kernel
theorem dX6_flowSource_73 : decode cX6_flowSource 73 = .ok (.goto 9, 3) := by decide +kernel
theorem dX6_flowSource_76 : decode cX6_flowSource 76 = .ok (.aload_n 0, 1) := by decide +kernel
theorem dX6_flowSource_77 : decode cX6_flowSource 77 = .ok (.getfield 30, 3) := by decide +kernel
theorem dX6_flowSource_80 : decode cX6_flowSource 80 = .ok (.iload_n 2, 1) := by decide +kernel
theorem dX6_flowSource_81 : decode cX6_flowSource 81 = .ok (.iaload, 1) := by decide +kernel
theorem dX6_flowSource_82 : decode cX6_flowSource 82 = .ok (.ireturn, 1) := by decide +kernel
theorem dX6_flowSource_83 : decode cX6_flowSource 83 = .ok (.aload_n 0, 1) := by decide +kernel
theorem dX6_flowSource_84 : decode cX6_flowSource 84 = .ok (.getfield 40, 3) := by decide +kernel
theorem dX6_flowSource_87 : decode cX6_flowSource 87 = .ok (.getfield 64, 3) := by decide +kernel
theorem dX6_flowSource_90 : decode cX6_flowSource 90 = .ok (.iload_n 1, 1) := by decide +kernel
theorem dX6_flowSource_91 : decode cX6_flowSource 91 = .ok (.iaload, 1) := by decide +kernel
theorem dX6_flowSource_92 : decode cX6_flowSource 92 = .ok (.ireturn, 1) := by decide +kernel
set_option maxHeartbeats 4000000 in
set_option maxRecDepth 100000 in
theorem c_X6_flowSource {l : Launch} {g : Gh} {w : Wd} {k0 : Nat} {v_constraint : Int32} {v_via : Int32} {v_flow : Int32} {rz : Int32} (hF : f_X6_flowSource w k0 v_constraint v_via v_flow = some rz) (hk0 : zct zC k0 = 6) : Met l yX6_flowSource (Cond.code yX6_flowSource cX6_flowSource 4 (some .int) :: TT) (rmd 1) (Pcw zC g w [.ref (g.2.2 k0), .int (v_constraint), .int (v_via), .int (v_flow)]) (Qw zC g w (some (.int (rz)))) 0 0 (zA zC g) := by
  refine mt_start (by decide) (Nat.le_of_ble_eq_true rfl) ?_
  intro p e s m args below meth c H locs ls X hr hl hH
  have hx := X.1
  have hb := X.2.1
  have hml := X.2.2.1
  have hown := X.2.2.2.1
  have ht := X.2.2.2.2.1
  have hl : lv_has ls 4 [(0, .ref (g.2.2 (k0))), (1, .int (v_constraint)), (2, .int (v_via)), (3, .int (v_flow))] := hl
  unfold f_X6_flowSource at hF
  refine lv_aload_n hx hb dX6_flowSource_0 rfl (lv_at hl 0 rfl) ?_
  refine w_getr X hH hk0 fs_6_6 lk_6_40 dX6_flowSource_1 ?_
  refine w_getr X hH (rt_C_6_6 hk0) fs_0_0 lk_6_61 dX6_flowSource_4 ?_
  refine lv_iload_n hx hb dX6_flowSource_7 rfl (lv_at hl 1 rfl) ?_
  obtain ⟨x1, h1, hF⟩ := ob hF
  refine w_iald X hH h1 (rt_C_0_0 (rt_C_6_6 hk0)) dX6_flowSource_8 ?_
  by_cases c2 : x1 = (2 : Int32)
  · replace hF := ifp c2 hF
    refine w_tin (tgt := 36) hx hb c2 dX6_flowSource_9 (by decide) (by decide) rfl (by decide) ?_
    refine lv_iload_n hx hb dX6_flowSource_36 rfl (lv_at hl 2 rfl) ?_
    refine lv_aload_n hx hb dX6_flowSource_37 rfl (lv_at hl 0 rfl) ?_
    refine w_getr X hH hk0 fs_6_6 lk_6_40 dX6_flowSource_38 ?_
    refine w_getr X hH (rt_C_6_6 hk0) fs_0_3 lk_6_74 dX6_flowSource_41 ?_
    refine lv_iload_n hx hb dX6_flowSource_44 rfl (lv_at hl 1 rfl) ?_
    obtain ⟨x3, h3, hF⟩ := ob hF
    refine w_iald X hH h3 (rt_C_0_3 (rt_C_6_6 hk0)) dX6_flowSource_45 ?_
    refine w_callS (As := [.int (v_via), .int (x3)]) (rest := []) (st1 := [.int ((f_X9_fieldSlot (v_via) (x3)))]) X hH (c_X9_fieldSlot (l := l) (g := g) (w := w) (v_object := v_via) (v_field := x3) rfl) (Or.inr ⟨_, tw_2_221⟩) ms_X9_fieldSlot tw_2_222 ⟨Nat.le_of_ble_eq_true rfl, Nat.le_of_ble_eq_true rfl⟩ rfl rfl hl.1 (Nat.le_of_ble_eq_true rfl) dX6_flowSource_46 ⟨Nat.le_refl _, Nat.le_refl _⟩ rfl (fun H locs hH => ?_)
    obtain rfl := se1 hF
    exact w_iret X hH hr dX6_flowSource_49
  · replace hF := ifn c2 hF
    by_cases c4 : x1 = (3 : Int32)
    · replace hF := ifp c4 hF
      refine w_tin (tgt := 50) hx hb c4 dX6_flowSource_9 (by decide) (by decide) rfl (by decide) ?_
      refine lv_aload_n hx hb dX6_flowSource_50 rfl (lv_at hl 0 rfl) ?_
      refine w_getr X hH hk0 fs_6_6 lk_6_40 dX6_flowSource_51 ?_
      refine w_getr X hH (rt_C_6_6 hk0) fs_0_3 lk_6_74 dX6_flowSource_54 ?_
      refine lv_iload_n hx hb dX6_flowSource_57 rfl (lv_at hl 1 rfl) ?_
      obtain ⟨x5, h5, hF⟩ := ob hF
      refine w_iald X hH h5 (rt_C_0_3 (rt_C_6_6 hk0)) dX6_flowSource_58 ?_
      obtain rfl := se1 hF
      exact w_iret X hH hr dX6_flowSource_59
    · replace hF := ifn c4 hF
      by_cases c6 : x1 = (4 : Int32)
      · replace hF := ifp c6 hF
        refine w_tin (tgt := 60) hx hb c6 dX6_flowSource_9 (by decide) (by decide) rfl (by decide) ?_
        obtain ⟨x8, hx8, hF⟩ := ob hF
        have J7 : ∀ (H : Heap) (locs : List Loc), HW zC g w s.heap H locs → W p l e (rmd 1) s m args below meth c H locs 0 0 (MQ below (Qw zC g w (some (.int (rz)))) args s 0 0 (zA zC g)) (F0 m 82 ls [.int (x8)]) := by
          intro H locs hH
          obtain rfl := se1 hF
          exact w_iret X hH hr dX6_flowSource_82
        have hF := hx8
        refine lv_iload_n hx hb dX6_flowSource_60 rfl (lv_at hl 3 rfl) ?_
        refine w_zeq_f (tgt := 76) hx hb dX6_flowSource_61 (by decide) (fun c9 => ?_) (fun c9 => ?_)
        · replace hF := ifn c9 hF
          refine lv_aload_n hx hb dX6_flowSource_76 rfl (lv_at hl 0 rfl) ?_
          refine w_getr X hH hk0 fs_6_4 lk_6_30 dX6_flowSource_77 ?_
          refine lv_iload_n hx hb dX6_flowSource_80 rfl (lv_at hl 2 rfl) ?_
          obtain ⟨x10, h10, hF⟩ := ob hF
          refine w_iald X hH h10 (rt_C_6_4 hk0) dX6_flowSource_81 ?_
          obtain rfl := se1 hF
          exact J7 _ _ hH
        · replace hF := ifp c9 hF
          refine lv_aload_n hx hb dX6_flowSource_64 rfl (lv_at hl 0 rfl) ?_
          refine w_getr X hH hk0 fs_6_6 lk_6_40 dX6_flowSource_65 ?_
          refine w_getr X hH (rt_C_6_6 hk0) fs_0_3 lk_6_74 dX6_flowSource_68 ?_
          refine lv_iload_n hx hb dX6_flowSource_71 rfl (lv_at hl 1 rfl) ?_
          obtain ⟨x11, h11, hF⟩ := ob hF
          refine w_iald X hH h11 (rt_C_0_3 (rt_C_6_6 hk0)) dX6_flowSource_72 ?_
          refine lv_goto (tgt := 82) hx hb dX6_flowSource_73 (by decide) ?_
          obtain rfl := se1 hF
          exact J7 _ _ hH
      · replace hF := ifn c6 hF
        refine lv_tableOut (tgt := 83) hx hb dX6_flowSource_9 (by have := lv_neT c2 (show (2 : Int32).toInt = 2 by decide); have := lv_neT c4 (show (3 : Int32).toInt = 3 by decide); have := lv_neT c6 (show (4 : Int32).toInt = 4 by decide); omega) (by decide) ?_
        refine lv_aload_n hx hb dX6_flowSource_83 rfl (lv_at hl 0 rfl) ?_
        refine w_getr X hH hk0 fs_6_6 lk_6_40 dX6_flowSource_84 ?_
        refine w_getr X hH (rt_C_6_6 hk0) fs_0_2 lk_6_64 dX6_flowSource_87 ?_
        refine lv_iload_n hx hb dX6_flowSource_90 rfl (lv_at hl 1 rfl) ?_
        obtain ⟨x12, h12, hF⟩ := ob hF
        refine w_iald X hH h12 (rt_C_0_2 (rt_C_6_6 hk0)) dX6_flowSource_91 ?_
        obtain rfl := se1 hF
        exact w_iret X hH hr dX6_flowSource_92

theorem dX6_flowTarget_0 : decode cX6_flowTarget 0 = .ok (.aload_n 0, 1) := by decide +kernel
theorem dX6_flowTarget_1 : decode cX6_flowTarget 1 = .ok (.getfield 40, 3) := by decide +kernel
theorem dX6_flowTarget_4 : decode cX6_flowTarget 4 = .ok (.getfield 61, 3) := by decide +kernel
theorem dX6_flowTarget_7 : decode cX6_flowTarget 7 = .ok (.iload_n 1, 1) := by decide +kernel
theorem dX6_flowTarget_8 : decode cX6_flowTarget 8 = .ok (.iaload, 1) := by decide +kernel
theorem dX6_flowTarget_9 : decode cX6_flowTarget 9 = .ok (.lookupswitch 64 #[(3, 27), (4, 41)], 27) := by decide +kernel
theorem dX6_flowTarget_36 : decode cX6_flowTarget 36 = .ok (.iload_n 2, 1) := by decide +kernel
theorem dX6_flowTarget_37 : decode cX6_flowTarget 37 = .ok (.aload_n 0, 1) := by decide +kernel
theorem dX6_flowTarget_38 : decode cX6_flowTarget 38 = .ok (.getfield 40, 3) := by decide +kernel
theorem dX6_flowTarget_41 : decode cX6_flowTarget 41 = .ok (.getfield 64, 3) := by decide +kernel
theorem dX6_flowTarget_44 : decode cX6_flowTarget 44 = .ok (.iload_n 1, 1) := by decide +kernel
theorem dX6_flowTarget_45 : decode cX6_flowTarget 45 = .ok (.iaload, 1) := by decide +kernel
theorem dX6_flowTarget_46 : decode cX6_flowTarget 46 = .ok (.invokestatic 54, 3) := by decide +kernel
theorem dX6_flowTarget_49 : decode cX6_flowTarget 49 = .ok (.ireturn, 1) := by decide +kernel
theorem dX6_flowTarget_50 : decode cX6_flowTarget 50 = .ok (.iload_n 3, 1) := by decide +kernel
theorem dX6_flowTarget_51 : decode cX6_flowTarget 51 = .ok (.ifCond .ne 12, 3) := by decide +kernel
theorem dX6_flowTarget_54 : decode cX6_flowTarget 54 = .ok (.aload_n 0, 1) := by decide +kernel
theorem dX6_flowTarget_55 : decode cX6_flowTarget 55 = .ok (.getfield 26, 3) := by decide +kernel
theorem dX6_flowTarget_58 : decode cX6_flowTarget 58 = .ok (.iload_n 2, 1) := by decide +kernel
theorem dX6_flowTarget_59 : decode cX6_flowTarget 59 = .ok (.iaload, 1) := by decide +kernel
theorem dX6_flowTarget_60 : decode cX6_flowTarget 60 = .ok (.goto 12, 3) := by decide +kernel
theorem dX6_flowTarget_63 : decode cX6_flowTarget 63 = .ok (.aload_n 0, 1) := by decide +kernel
theorem dX6_flowTarget_64 : decode cX6_flowTarget 64 = .ok (.getfield 40, 3) := by decide +kernel
theorem dX6_flowTarget_67 : decode cX6_flowTarget 67 = .ok (.getfield 67, 3) := by decide +kernel
theorem dX6_flowTarget_70 : decode cX6_flowTarget 70 = .ok (.iload_n 1, 1) := by decide +kernel
theorem dX6_flowTarget_71 : decode cX6_flowTarget 71 = .ok (.iaload, 1) := by decide +kernel
theorem dX6_flowTarget_72 : decode cX6_flowTarget 72 = .ok (.ireturn, 1) := by decide +kernel
theorem dX6_flowTarget_73 : decode cX6_flowTarget 73 = .ok (.aload_n 0, 1) := by decide +kernel
theorem dX6_flowTarget_74 : decode cX6_flowTarget 74 = .ok (.getfield 40, 3) := by decide +kernel
theorem dX6_flowTarget_77 : decode cX6_flowTarget 77 = .ok (.getfield 67, 3) := by decide +kernel
theorem dX6_flowTarget_80 : decode cX6_flowTarget 80 = .ok (.iload_n 1, 1) := by decide +kernel
theorem dX6_flowTarget_81 : decode cX6_flowTarget 81 = .ok (.iaload, 1) := by decide +kernel
theorem dX6_flowTarget_82 : decode cX6_flowTarget 82 = .ok (.ireturn, 1) := by decide +kernel
set_option maxHeartbeats 4000000 in
set_option maxRecDepth 100000 in
theorem c_X6_flowTarget {l : Launch} {g : Gh} {w : Wd} {k0 : Nat} {v_constraint : Int32} {v_via : Int32} {v_flow : Int32} {rz : Int32} (hF : f_X6_flowTarget w k0 v_constraint v_via v_flow = some rz) (hk0 : zct zC k0 = 6) : Met l yX6_flowTarget (Cond.code yX6_flowTarget cX6_flowTarget 4 (some .int) :: TT) (rmd 1) (Pcw zC g w [.ref (g.2.2 k0), .int (v_constraint), .int (v_via), .int (v_flow)]) (Qw zC g w (some (.int (rz)))) 0 0 (zA zC g) := by
  refine mt_start (by decide) (Nat.le_of_ble_eq_true rfl) ?_
  intro p e s m args below meth c H locs ls X hr hl hH
  have hx := X.1
  have hb := X.2.1
  have hml := X.2.2.1
  have hown := X.2.2.2.1
  have ht := X.2.2.2.2.1
  have hl : lv_has ls 4 [(0, .ref (g.2.2 (k0))), (1, .int (v_constraint)), (2, .int (v_via)), (3, .int (v_flow))] := hl
  unfold f_X6_flowTarget at hF
  refine lv_aload_n hx hb dX6_flowTarget_0 rfl (lv_at hl 0 rfl) ?_
  refine w_getr X hH hk0 fs_6_6 lk_6_40 dX6_flowTarget_1 ?_
  refine w_getr X hH (rt_C_6_6 hk0) fs_0_0 lk_6_61 dX6_flowTarget_4 ?_
  refine lv_iload_n hx hb dX6_flowTarget_7 rfl (lv_at hl 1 rfl) ?_
  obtain ⟨x1, h1, hF⟩ := ob hF
  refine w_iald X hH h1 (rt_C_0_0 (rt_C_6_6 hk0)) dX6_flowTarget_8 ?_
  by_cases c2 : x1 = (3 : Int32)
  · replace hF := ifp c2 hF
    refine lv_lookup (off := (27 : Int)) (tgt := 36) hx hb dX6_flowTarget_9 (by decide) (by rw [c2] <;> rfl) (by decide) ?_
    refine lv_iload_n hx hb dX6_flowTarget_36 rfl (lv_at hl 2 rfl) ?_
    refine lv_aload_n hx hb dX6_flowTarget_37 rfl (lv_at hl 0 rfl) ?_
    refine w_getr X hH hk0 fs_6_6 lk_6_40 dX6_flowTarget_38 ?_
    refine w_getr X hH (rt_C_6_6 hk0) fs_0_2 lk_6_64 dX6_flowTarget_41 ?_
    refine lv_iload_n hx hb dX6_flowTarget_44 rfl (lv_at hl 1 rfl) ?_
    obtain ⟨x3, h3, hF⟩ := ob hF
    refine w_iald X hH h3 (rt_C_0_2 (rt_C_6_6 hk0)) dX6_flowTarget_45 ?_
    refine w_callS (As := [.int (v_via), .int (x3)]) (rest := []) (st1 := [.int ((f_X9_fieldSlot (v_via) (x3)))]) X hH (c_X9_fieldSlot (l := l) (g := g) (w := w) (v_object := v_via) (v_field := x3) rfl) (Or.inr ⟨_, tw_2_221⟩) ms_X9_fieldSlot tw_2_222 ⟨Nat.le_of_ble_eq_true rfl, Nat.le_of_ble_eq_true rfl⟩ rfl rfl hl.1 (Nat.le_of_ble_eq_true rfl) dX6_flowTarget_46 ⟨Nat.le_refl _, Nat.le_refl _⟩ rfl (fun H locs hH => ?_)
    obtain rfl := se1 hF
    exact w_iret X hH hr dX6_flowTarget_49
  · replace hF := ifn c2 hF
    by_cases c4 : x1 = (4 : Int32)
    · replace hF := ifp c4 hF
      refine lv_lookup (off := (41 : Int)) (tgt := 50) hx hb dX6_flowTarget_9 (by decide) (by rw [c4] <;> rfl) (by decide) ?_
      obtain ⟨x6, hx6, hF⟩ := ob hF
      have J5 : ∀ (H : Heap) (locs : List Loc), HW zC g w s.heap H locs → W p l e (rmd 1) s m args below meth c H locs 0 0 (MQ below (Qw zC g w (some (.int (rz)))) args s 0 0 (zA zC g)) (F0 m 72 ls [.int (x6)]) := by
        intro H locs hH
        obtain rfl := se1 hF
        exact w_iret X hH hr dX6_flowTarget_72
      have hF := hx6
      refine lv_iload_n hx hb dX6_flowTarget_50 rfl (lv_at hl 3 rfl) ?_
      refine w_zeq_f (tgt := 63) hx hb dX6_flowTarget_51 (by decide) (fun c7 => ?_) (fun c7 => ?_)
      · replace hF := ifn c7 hF
        refine lv_aload_n hx hb dX6_flowTarget_63 rfl (lv_at hl 0 rfl) ?_
        refine w_getr X hH hk0 fs_6_6 lk_6_40 dX6_flowTarget_64 ?_
        refine w_getr X hH (rt_C_6_6 hk0) fs_0_1 lk_6_67 dX6_flowTarget_67 ?_
        refine lv_iload_n hx hb dX6_flowTarget_70 rfl (lv_at hl 1 rfl) ?_
        obtain ⟨x8, h8, hF⟩ := ob hF
        refine w_iald X hH h8 (rt_C_0_1 (rt_C_6_6 hk0)) dX6_flowTarget_71 ?_
        obtain rfl := se1 hF
        exact J5 _ _ hH
      · replace hF := ifp c7 hF
        refine lv_aload_n hx hb dX6_flowTarget_54 rfl (lv_at hl 0 rfl) ?_
        refine w_getr X hH hk0 fs_6_3 lk_6_26 dX6_flowTarget_55 ?_
        refine lv_iload_n hx hb dX6_flowTarget_58 rfl (lv_at hl 2 rfl) ?_
        obtain ⟨x9, h9, hF⟩ := ob hF
        refine w_iald X hH h9 (rt_C_6_3 hk0) dX6_flowTarget_59 ?_
        refine lv_goto (tgt := 72) hx hb dX6_flowTarget_60 (by decide) ?_
        obtain rfl := se1 hF
        exact J5 _ _ hH
    · replace hF := ifn c4 hF
      refine lv_lookup (off := (64 : Int)) (tgt := 73) hx hb dX6_flowTarget_9 (by decide) ((lv_osw c2 (by decide)).trans ((lv_osw c4 (by decide)).trans rfl)) (by decide) ?_
      refine lv_aload_n hx hb dX6_flowTarget_73 rfl (lv_at hl 0 rfl) ?_
      refine w_getr X hH hk0 fs_6_6 lk_6_40 dX6_flowTarget_74 ?_
      refine w_getr X hH (rt_C_6_6 hk0) fs_0_1 lk_6_67 dX6_flowTarget_77 ?_
      refine lv_iload_n hx hb dX6_flowTarget_80 rfl (lv_at hl 1 rfl) ?_
      obtain ⟨x10, h10, hF⟩ := ob hF
      refine w_iald X hH h10 (rt_C_0_1 (rt_C_6_6 hk0)) dX6_flowTarget_81 ?_
      obtain rfl := se1 hF
      exact w_iret X hH hr dX6_flowTarget_82

theorem dX7_derive_0 : decode cX7_derive 0 = .ok (.aload_n 0, 1) := by decide +kernel
theorem dX7_derive_1 : decode cX7_derive 1 = .ok (.getfield 34, 3) := by decide +kernel
theorem dX7_derive_4 : decode cX7_derive 4 = .ok (.iload_n 1, 1) := by decide +kernel
theorem dX7_derive_5 : decode cX7_derive 5 = .ok (.iload_n 2, 1) := by decide +kernel
theorem dX7_derive_6 : decode cX7_derive 6 = .ok (.iastore, 1) := by decide +kernel
theorem dX7_derive_7 : decode cX7_derive 7 = .ok (.aload_n 0, 1) := by decide +kernel
theorem dX7_derive_8 : decode cX7_derive 8 = .ok (.getfield 40, 3) := by decide +kernel
theorem dX7_derive_11 : decode cX7_derive 11 = .ok (.iload_n 1, 1) := by decide +kernel
theorem dX7_derive_12 : decode cX7_derive 12 = .ok (.dup2, 1) := by decide +kernel
theorem dX7_derive_13 : decode cX7_derive 13 = .ok (.iaload, 1) := by decide +kernel
theorem dX7_derive_14 : decode cX7_derive 14 = .ok (.aload_n 0, 1) := by decide +kernel
theorem dX7_derive_15 : decode cX7_derive 15 = .ok (.getfield 40, 3) := by decide +kernel
theorem dX7_derive_18 : decode cX7_derive 18 = .ok (.iload_n 3, 1) := by decide +kernel
theorem dX7_derive_19 : decode cX7_derive 19 = .ok (.iaload, 1) := by decide +kernel
theorem dX7_derive_20 : decode cX7_derive 20 = .ok (.iadd, 1) := by decide +kernel
theorem dX7_derive_21 : decode cX7_derive 21 = .ok (.iastore, 1) := by decide +kernel
theorem dX7_derive_22 : decode cX7_derive 22 = .ok (.aload_n 0, 1) := by decide +kernel
theorem dX7_derive_23 : decode cX7_derive 23 = .ok (.getfield 43, 3) := by decide +kernel
theorem dX7_derive_26 : decode cX7_derive 26 = .ok (.iload_n 1, 1) := by decide +kernel
theorem dX7_derive_27 : decode cX7_derive 27 = .ok (.dup2, 1) := by decide +kernel
theorem dX7_derive_28 : decode cX7_derive 28 = .ok (.iaload, 1) := by decide +kernel
theorem dX7_derive_29 : decode cX7_derive 29 = .ok (.aload_n 0, 1) := by decide +kernel
theorem dX7_derive_30 : decode cX7_derive 30 = .ok (.getfield 43, 3) := by decide +kernel
theorem dX7_derive_33 : decode cX7_derive 33 = .ok (.iload_n 3, 1) := by decide +kernel
theorem dX7_derive_34 : decode cX7_derive 34 = .ok (.iaload, 1) := by decide +kernel
theorem dX7_derive_35 : decode cX7_derive 35 = .ok (.ior, 1) := by decide +kernel
theorem dX7_derive_36 : decode cX7_derive 36 = .ok (.iastore, 1) := by decide +kernel
theorem dX7_derive_37 : decode cX7_derive 37 = .ok (.return_, 1) := by decide +kernel
set_option maxHeartbeats 4000000 in
set_option maxRecDepth 100000 in
theorem c_X7_derive {l : Launch} {g : Gh} {w : Wd} {k0 : Nat} {v_fact : Int32} {v_source : Int32} {v_sourceFact : Int32} {wz : Wd} (hF : f_X7_derive w k0 v_fact v_source v_sourceFact = some wz) (hk0 : zct zC k0 = 7) : Met l yX7_derive (Cond.code yX7_derive cX7_derive 4 none :: TT) (rmd 0) (Pcw zC g w [.ref (g.2.2 k0), .int (v_fact), .int (v_source), .int (v_sourceFact)]) (Qw zC g wz none) 0 0 (zA zC g) := by
  refine mt_start (by decide) (Nat.le_of_ble_eq_true rfl) ?_
  intro p e s m args below meth c H locs ls X hr hl hH
  have hx := X.1
  have hb := X.2.1
  have hml := X.2.2.1
  have hown := X.2.2.2.1
  have ht := X.2.2.2.2.1
  have hl : lv_has ls 4 [(0, .ref (g.2.2 (k0))), (1, .int (v_fact)), (2, .int (v_source)), (3, .int (v_sourceFact))] := hl
  unfold f_X7_derive at hF
  refine lv_aload_n hx hb dX7_derive_0 rfl (lv_at hl 0 rfl) ?_
  refine w_getr X hH hk0 fs_7_7 lk_7_34 dX7_derive_1 ?_
  refine lv_iload_n hx hb dX7_derive_4 rfl (lv_at hl 1 rfl) ?_
  refine lv_iload_n hx hb dX7_derive_5 rfl (lv_at hl 2 rfl) ?_
  obtain ⟨w1, h1, hF⟩ := ob hF
  refine w_iast X hH h1 (rt_C_7_7 hk0) dX7_derive_6 (fun H locs hH => ?_)
  refine lv_aload_n hx hb dX7_derive_7 rfl (lv_at hl 0 rfl) ?_
  refine w_getr X hH hk0 fs_7_9 lk_7_40 dX7_derive_8 ?_
  refine lv_iload_n hx hb dX7_derive_11 rfl (lv_at hl 1 rfl) ?_
  refine lv_dup2_11 hx hb dX7_derive_12 rfl rfl ?_
  obtain ⟨x2, h2, hF⟩ := ob hF
  refine w_iald X hH h2 (rt_C_7_9 hk0) dX7_derive_13 ?_
  refine lv_aload_n hx hb dX7_derive_14 rfl (lv_at hl 0 rfl) ?_
  refine w_getr X hH hk0 fs_7_9 lk_7_40 dX7_derive_15 ?_
  refine lv_iload_n hx hb dX7_derive_18 rfl (lv_at hl 3 rfl) ?_
  obtain ⟨x3, h3, hF⟩ := ob hF
  refine w_iald X hH h3 (rt_C_7_9 hk0) dX7_derive_19 ?_
  refine lv_iadd hx hb dX7_derive_20 ?_
  obtain ⟨w4, h4, hF⟩ := ob hF
  refine w_iast X hH h4 (rt_C_7_9 hk0) dX7_derive_21 (fun H locs hH => ?_)
  refine lv_aload_n hx hb dX7_derive_22 rfl (lv_at hl 0 rfl) ?_
  refine w_getr X hH hk0 fs_7_10 lk_7_43 dX7_derive_23 ?_
  refine lv_iload_n hx hb dX7_derive_26 rfl (lv_at hl 1 rfl) ?_
  refine lv_dup2_11 hx hb dX7_derive_27 rfl rfl ?_
  obtain ⟨x5, h5, hF⟩ := ob hF
  refine w_iald X hH h5 (rt_C_7_10 hk0) dX7_derive_28 ?_
  refine lv_aload_n hx hb dX7_derive_29 rfl (lv_at hl 0 rfl) ?_
  refine w_getr X hH hk0 fs_7_10 lk_7_43 dX7_derive_30 ?_
  refine lv_iload_n hx hb dX7_derive_33 rfl (lv_at hl 3 rfl) ?_
  obtain ⟨x6, h6, hF⟩ := ob hF
  refine w_iald X hH h6 (rt_C_7_10 hk0) dX7_derive_34 ?_
  refine lv_ior hx hb dX7_derive_35 ?_
  obtain ⟨w7, h7, hF⟩ := ob hF
  refine w_iast X hH h7 (rt_C_7_10 hk0) dX7_derive_36 (fun H locs hH => ?_)
  obtain rfl := se1 hF
  exact w_vret X hH hr dX7_derive_37

theorem dX7_supply_0 : decode cX7_supply 0 = .ok (.aload_n 0, 1) := by decide +kernel
theorem dX7_supply_1 : decode cX7_supply 1 = .ok (.getfield 37, 3) := by decide +kernel
theorem dX7_supply_4 : decode cX7_supply 4 = .ok (.iload_n 1, 1) := by decide +kernel
theorem dX7_supply_5 : decode cX7_supply 5 = .ok (.iload_n 2, 1) := by decide +kernel
theorem dX7_supply_6 : decode cX7_supply 6 = .ok (.iastore, 1) := by decide +kernel
theorem dX7_supply_7 : decode cX7_supply 7 = .ok (.aload_n 0, 1) := by decide +kernel
theorem dX7_supply_8 : decode cX7_supply 8 = .ok (.getfield 43, 3) := by decide +kernel
theorem dX7_supply_11 : decode cX7_supply 11 = .ok (.iload_n 1, 1) := by decide +kernel
theorem dX7_supply_12 : decode cX7_supply 12 = .ok (.dup2, 1) := by decide +kernel
theorem dX7_supply_13 : decode cX7_supply 13 = .ok (.iaload, 1) := by decide +kernel
theorem dX7_supply_14 : decode cX7_supply 14 = .ok (.aload_n 0, 1) := by decide +kernel
theorem dX7_supply_15 : decode cX7_supply 15 = .ok (.getfield 43, 3) := by decide +kernel
theorem dX7_supply_18 : decode cX7_supply 18 = .ok (.iload_n 3, 1) := by decide +kernel
theorem dX7_supply_19 : decode cX7_supply 19 = .ok (.iaload, 1) := by decide +kernel
theorem dX7_supply_20 : decode cX7_supply 20 = .ok (.ior, 1) := by decide +kernel
theorem dX7_supply_21 : decode cX7_supply 21 = .ok (.iastore, 1) := by decide +kernel
theorem dX7_supply_22 : decode cX7_supply 22 = .ok (.return_, 1) := by decide +kernel
set_option maxHeartbeats 4000000 in
set_option maxRecDepth 100000 in
theorem c_X7_supply {l : Launch} {g : Gh} {w : Wd} {k0 : Nat} {v_fact : Int32} {v_via : Int32} {v_viaFact : Int32} {wz : Wd} (hF : f_X7_supply w k0 v_fact v_via v_viaFact = some wz) (hk0 : zct zC k0 = 7) : Met l yX7_supply (Cond.code yX7_supply cX7_supply 4 none :: TT) (rmd 0) (Pcw zC g w [.ref (g.2.2 k0), .int (v_fact), .int (v_via), .int (v_viaFact)]) (Qw zC g wz none) 0 0 (zA zC g) := by
  refine mt_start (by decide) (Nat.le_of_ble_eq_true rfl) ?_
  intro p e s m args below meth c H locs ls X hr hl hH
  have hx := X.1
  have hb := X.2.1
  have hml := X.2.2.1
  have hown := X.2.2.2.1
  have ht := X.2.2.2.2.1
  have hl : lv_has ls 4 [(0, .ref (g.2.2 (k0))), (1, .int (v_fact)), (2, .int (v_via)), (3, .int (v_viaFact))] := hl
  unfold f_X7_supply at hF
  refine lv_aload_n hx hb dX7_supply_0 rfl (lv_at hl 0 rfl) ?_
  refine w_getr X hH hk0 fs_7_8 lk_7_37 dX7_supply_1 ?_
  refine lv_iload_n hx hb dX7_supply_4 rfl (lv_at hl 1 rfl) ?_
  refine lv_iload_n hx hb dX7_supply_5 rfl (lv_at hl 2 rfl) ?_
  obtain ⟨w1, h1, hF⟩ := ob hF
  refine w_iast X hH h1 (rt_C_7_8 hk0) dX7_supply_6 (fun H locs hH => ?_)
  refine lv_aload_n hx hb dX7_supply_7 rfl (lv_at hl 0 rfl) ?_
  refine w_getr X hH hk0 fs_7_10 lk_7_43 dX7_supply_8 ?_
  refine lv_iload_n hx hb dX7_supply_11 rfl (lv_at hl 1 rfl) ?_
  refine lv_dup2_11 hx hb dX7_supply_12 rfl rfl ?_
  obtain ⟨x2, h2, hF⟩ := ob hF
  refine w_iald X hH h2 (rt_C_7_10 hk0) dX7_supply_13 ?_
  refine lv_aload_n hx hb dX7_supply_14 rfl (lv_at hl 0 rfl) ?_
  refine w_getr X hH hk0 fs_7_10 lk_7_43 dX7_supply_15 ?_
  refine lv_iload_n hx hb dX7_supply_18 rfl (lv_at hl 3 rfl) ?_
  obtain ⟨x3, h3, hF⟩ := ob hF
  refine w_iald X hH h3 (rt_C_7_10 hk0) dX7_supply_19 ?_
  refine lv_ior hx hb dX7_supply_20 ?_
  obtain ⟨w4, h4, hF⟩ := ob hF
  refine w_iast X hH h4 (rt_C_7_10 hk0) dX7_supply_21 (fun H locs hH => ?_)
  obtain rfl := se1 hF
  exact w_vret X hH hr dX7_supply_22

theorem dX7_applyFlow_0 : decode cX7_applyFlow 0 = .ok (.aload_n 1, 1) := by decide +kernel
theorem dX7_applyFlow_1 : decode cX7_applyFlow 1 = .ok (.iload_n 2, 1) := by decide +kernel
theorem dX7_applyFlow_2 : decode cX7_applyFlow 2 = .ok (.iload_n 3, 1) := by decide +kernel
theorem dX7_applyFlow_3 : decode cX7_applyFlow 3 = .ok (.iload 4, 2) := by decide +kernel
theorem dX7_applyFlow_5 : decode cX7_applyFlow 5 = .ok (.invokevirtual 110, 3) := by decide +kernel
theorem dX7_applyFlow_8 : decode cX7_applyFlow 8 = .ok (.istore 6, 2) := by decide +kernel
theorem dX7_applyFlow_10 : decode cX7_applyFlow 10 = .ok (.aload_n 1, 1) := by decide +kernel
theorem dX7_applyFlow_11 : decode cX7_applyFlow 11 = .ok (.iload_n 2, 1) := by decide +kernel
theorem dX7_applyFlow_12 : decode cX7_applyFlow 12 = .ok (.iload_n 3, 1) := by decide +kernel
theorem dX7_applyFlow_13 : decode cX7_applyFlow 13 = .ok (.iload 4, 2) := by decide +kernel
theorem dX7_applyFlow_15 : decode cX7_applyFlow 15 = .ok (.invokevirtual 114, 3) := by decide +kernel
theorem dX7_applyFlow_18 : decode cX7_applyFlow 18 = .ok (.istore 7, 2) := by decide +kernel
theorem dX7_applyFlow_20 : decode cX7_applyFlow 20 = .ok (.aload_n 0, 1) := by decide +kernel
theorem dX7_applyFlow_21 : decode cX7_applyFlow 21 = .ok (.getfield 15, 3) := by decide +kernel
theorem dX7_applyFlow_24 : decode cX7_applyFlow 24 = .ok (.iload 6, 2) := by decide +kernel
theorem dX7_applyFlow_26 : decode cX7_applyFlow 26 = .ok (.iaload, 1) := by decide +kernel
theorem dX7_applyFlow_27 : decode cX7_applyFlow 27 = .ok (.aload_n 0, 1) := by decide +kernel
theorem dX7_applyFlow_28 : decode cX7_applyFlow 28 = .ok (.getfield 9, 3) := by decide +kernel
theorem dX7_applyFlow_31 : decode cX7_applyFlow 31 = .ok (.iload 7, 2) := by decide +kernel
theorem dX7_applyFlow_33 : decode cX7_applyFlow 33 = .ok (.iaload, 1) := by decide +kernel
theorem dX7_applyFlow_34 : decode cX7_applyFlow 34 = .ok (.iconst (-1), 1) := by decide +kernel
theorem dX7_applyFlow_35 : decode cX7_applyFlow 35 = .ok (.ixor, 1) := by decide +kernel
theorem dX7_applyFlow_36 : decode cX7_applyFlow 36 = .ok (.iand, 1) := by decide +kernel
theorem dX7_applyFlow_37 : decode cX7_applyFlow 37 = .ok (.istore 8, 2) := by decide +kernel
theorem dX7_applyFlow_39 : decode cX7_applyFlow 39 = .ok (.iload 8, 2) := by decide +kernel
theorem dX7_applyFlow_41 : decode cX7_applyFlow 41 = .ok (.ifCond .ne 4, 3) := by decide +kernel
theorem dX7_applyFlow_44 : decode cX7_applyFlow 44 = .ok (.return_, 1) := by decide +kernel
theorem dX7_applyFlow_45 : decode cX7_applyFlow 45 = .ok (.aload_n 1, 1) := by decide +kernel
theorem dX7_applyFlow_46 : decode cX7_applyFlow 46 = .ok (.iload_n 2, 1) := by decide +kernel
theorem dX7_applyFlow_47 : decode cX7_applyFlow 47 = .ok (.invokevirtual 117, 3) := by decide +kernel
theorem dX7_applyFlow_50 : decode cX7_applyFlow 50 = .ok (.istore 9, 2) := by decide +kernel
theorem dX7_applyFlow_52 : decode cX7_applyFlow 52 = .ok (.iconst 0, 1) := by decide +kernel
theorem dX7_applyFlow_53 : decode cX7_applyFlow 53 = .ok (.istore 10, 2) := by decide +kernel
theorem dX7_applyFlow_55 : decode cX7_applyFlow 55 = .ok (.iload 10, 2) := by decide +kernel
theorem dX7_applyFlow_57 : decode cX7_applyFlow 57 = .ok (.bipush 10, 2) := by decide +kernel
theorem dX7_applyFlow_59 : decode cX7_applyFlow 59 = .ok (.if_icmp .ge 74, 3) := by decide +kernel
theorem dX7_applyFlow_62 : decode cX7_applyFlow 62 = .ok (.iload 8, 2) := by decide +kernel
theorem dX7_applyFlow_64 : decode cX7_applyFlow 64 = .ok (.iload 10, 2) := by decide +kernel
theorem dX7_applyFlow_66 : decode cX7_applyFlow 66 = .ok (.invokestatic 88, 3) := by decide +kernel
theorem dX7_applyFlow_69 : decode cX7_applyFlow 69 = .ok (.ifCond .eq 58, 3) := by decide +kernel
theorem dX7_applyFlow_72 : decode cX7_applyFlow 72 = .ok (.aload_n 0, 1) := by decide +kernel
theorem dX7_applyFlow_73 : decode cX7_applyFlow 73 = .ok (.iload 7, 2) := by decide +kernel
theorem dX7_applyFlow_75 : decode cX7_applyFlow 75 = .ok (.iload 10, 2) := by decide +kernel
theorem dX7_applyFlow_77 : decode cX7_applyFlow 77 = .ok (.iload_n 2, 1) := by decide +kernel
theorem dX7_applyFlow_78 : decode cX7_applyFlow 78 = .ok (.iload 5, 2) := by decide +kernel
theorem dX7_applyFlow_80 : decode cX7_applyFlow 80 = .ok (.invokevirtual 106, 3) := by decide +kernel
theorem dX7_applyFlow_83 : decode cX7_applyFlow 83 = .ok (.aload_n 0, 1) := by decide +kernel
theorem dX7_applyFlow_84 : decode cX7_applyFlow 84 = .ok (.iload 7, 2) := by decide +kernel
theorem dX7_applyFlow_86 : decode cX7_applyFlow 86 = .ok (.iload 10, 2) := by decide +kernel
theorem dX7_applyFlow_88 : decode cX7_applyFlow 88 = .ok (.invokestatic 120, 3) := by decide +kernel
theorem dX7_applyFlow_91 : decode cX7_applyFlow 91 = .ok (.iload 6, 2) := by decide +kernel
theorem dX7_applyFlow_93 : decode cX7_applyFlow 93 = .ok (.iload 6, 2) := by decide +kernel
theorem dX7_applyFlow_95 : decode cX7_applyFlow 95 = .ok (.iload 10, 2) := by decide +kernel
theorem dX7_applyFlow_97 : decode cX7_applyFlow 97 = .ok (.invokestatic 120, 3) := by decide +kernel
theorem dX7_applyFlow_100 : decode cX7_applyFlow 100 = .ok (.invokevirtual 124, 3) := by decide +kernel
theorem dX7_applyFlow_103 : decode cX7_applyFlow 103 = .ok (.iload 9, 2) := by decide +kernel
theorem dX7_applyFlow_105 : decode cX7_applyFlow 105 = .ok (.iconst (-1), 1) := by decide +kernel
theorem dX7_applyFlow_106 : decode cX7_applyFlow 106 = .ok (.if_icmp .eq 21, 3) := by decide +kernel
theorem dX7_applyFlow_109 : decode cX7_applyFlow 109 = .ok (.aload_n 0, 1) := by decide +kernel
theorem dX7_applyFlow_110 : decode cX7_applyFlow 110 = .ok (.iload 7, 2) := by decide +kernel
theorem dX7_applyFlow_112 : decode cX7_applyFlow 112 = .ok (.iload 10, 2) := by decide +kernel
theorem dX7_applyFlow_114 : decode cX7_applyFlow 114 = .ok (.invokestatic 120, 3) := by decide +kernel
theorem dX7_applyFlow_117 : decode cX7_applyFlow 117 = .ok (.iload_n 3, 1) := by decide +kernel
theorem dX7_applyFlow_118 : decode cX7_applyFlow 118 = .ok (.iload 9, 2) := by decide +kernel
theorem dX7_applyFlow_120 : decode cX7_applyFlow 120 = .ok (.iload_n 3, 1) := by decide +kernel
theorem dX7_applyFlow_121 : decode cX7_applyFlow 121 = .ok (.invokestatic 120, 3) := by decide +kernel
theorem dX7_applyFlow_124 : decode cX7_applyFlow 124 = .ok (.invokevirtual 128, 3) := by decide +kernel
theorem dX7_applyFlow_127 : decode cX7_applyFlow 127 = .ok (.iinc 10 1, 3) := by decide +kernel
theorem dX7_applyFlow_130 : decode cX7_applyFlow 130 = .ok (.goto (-75), 3) := by decide +kernel
theorem dX7_applyFlow_133 : decode cX7_applyFlow 133 = .ok (.return_, 1) := by decide +kernel
set_option maxHeartbeats 4000000 in
set_option maxRecDepth 100000 in
theorem c_X7_applyFlow {l : Launch} {g : Gh} {w : Wd} {k0 : Nat} {v_program : Nat} {v_constraint : Int32} {v_via : Int32} {v_flow : Int32} {v_round : Int32} {wz : Wd} (hF : f_X7_applyFlow w k0 v_program v_constraint v_via v_flow v_round = some wz) (hk0 : zct zC k0 = 7) (hv_program : zct zC v_program = 6) : Met l yX7_applyFlow (Cond.code yX7_applyFlow cX7_applyFlow 11 none :: TT) (rmd 2) (Pcw zC g w [.ref (g.2.2 k0), .ref (g.2.2 (v_program)), .int (v_constraint), .int (v_via), .int (v_flow), .int (v_round)]) (Qw zC g wz none) 0 0 (zA zC g) := by
  refine mt_start (by decide) (Nat.le_of_ble_eq_true rfl) ?_
  intro p e s m args below meth c H locs ls X hr hl hH
  have hx := X.1
  have hb := X.2.1
  have hml := X.2.2.1
  have hown := X.2.2.2.1
  have ht := X.2.2.2.2.1
  have hl : lv_has ls 11 [(0, .ref (g.2.2 (k0))), (1, .ref (g.2.2 (v_program))), (2, .int (v_constraint)), (3, .int (v_via)), (4, .int (v_flow)), (5, .int (v_round))] := hl
  unfold f_X7_applyFlow at hF
  refine lv_aload_n hx hb dX7_applyFlow_0 rfl (lv_at hl 1 rfl) ?_
  refine lv_iload_n hx hb dX7_applyFlow_1 rfl (lv_at hl 2 rfl) ?_
  refine lv_iload_n hx hb dX7_applyFlow_2 rfl (lv_at hl 3 rfl) ?_
  refine lv_iload hx hb dX7_applyFlow_3 (lv_at hl 4 rfl) ?_
  obtain ⟨x1, h1, hF⟩ := ob hF
  refine w_callV (As := [.int (v_constraint), .int (v_via), .int (v_flow)]) (k := v_program) (rest := []) (st1 := [.int (x1)]) X hH (c_X6_flowSource (l := l) (g := g) (w := w) (k0 := v_program) (v_constraint := v_constraint) (v_via := v_via) (v_flow := v_flow) h1 hv_program) (Or.inr ⟨_, tw_2_217⟩) ms_X6_flowSource im_X6_flowSource hv_program cn_6 ⟨Nat.le_of_ble_eq_true rfl, Nat.le_of_ble_eq_true rfl⟩ rfl rfl hl.1 (Nat.le_of_ble_eq_true rfl) dX7_applyFlow_5 ⟨Nat.le_refl _, Nat.le_refl _⟩ rfl (fun H locs hH => ?_)
  refine lv_istore (lv' := [(6, .int (x1)), (0, .ref (g.2.2 (k0))), (1, .ref (g.2.2 (v_program))), (2, .int (v_constraint)), (3, .int (v_via)), (4, .int (v_flow)), (5, .int (v_round))]) hx hb dX7_applyFlow_8 hl (by decide) rfl (fun ls hl => ?_)
  refine lv_aload_n hx hb dX7_applyFlow_10 rfl (lv_at hl 2 rfl) ?_
  refine lv_iload_n hx hb dX7_applyFlow_11 rfl (lv_at hl 3 rfl) ?_
  refine lv_iload_n hx hb dX7_applyFlow_12 rfl (lv_at hl 4 rfl) ?_
  refine lv_iload hx hb dX7_applyFlow_13 (lv_at hl 5 rfl) ?_
  obtain ⟨x2, h2, hF⟩ := ob hF
  refine w_callV (As := [.int (v_constraint), .int (v_via), .int (v_flow)]) (k := v_program) (rest := []) (st1 := [.int (x2)]) X hH (c_X6_flowTarget (l := l) (g := g) (w := w) (k0 := v_program) (v_constraint := v_constraint) (v_via := v_via) (v_flow := v_flow) h2 hv_program) (Or.inr ⟨_, tw_2_224⟩) ms_X6_flowTarget im_X6_flowTarget hv_program cn_6 ⟨Nat.le_of_ble_eq_true rfl, Nat.le_of_ble_eq_true rfl⟩ rfl rfl hl.1 (Nat.le_of_ble_eq_true rfl) dX7_applyFlow_15 ⟨Nat.le_refl _, Nat.le_refl _⟩ rfl (fun H locs hH => ?_)
  refine lv_istore (lv' := [(7, .int (x2)), (6, .int (x1)), (0, .ref (g.2.2 (k0))), (1, .ref (g.2.2 (v_program))), (2, .int (v_constraint)), (3, .int (v_via)), (4, .int (v_flow)), (5, .int (v_round))]) hx hb dX7_applyFlow_18 hl (by decide) rfl (fun ls hl => ?_)
  refine lv_aload_n hx hb dX7_applyFlow_20 rfl (lv_at hl 2 rfl) ?_
  refine w_getr X hH hk0 fs_7_1 lk_7_15 dX7_applyFlow_21 ?_
  refine lv_iload hx hb dX7_applyFlow_24 (lv_at hl 1 rfl) ?_
  obtain ⟨x3, h3, hF⟩ := ob hF
  refine w_iald X hH h3 (rt_C_7_1 hk0) dX7_applyFlow_26 ?_
  refine lv_aload_n hx hb dX7_applyFlow_27 rfl (lv_at hl 2 rfl) ?_
  refine w_getr X hH hk0 fs_7_0 lk_7_9 dX7_applyFlow_28 ?_
  refine lv_iload hx hb dX7_applyFlow_31 (lv_at hl 0 rfl) ?_
  obtain ⟨x4, h4, hF⟩ := ob hF
  refine w_iald X hH h4 (rt_C_7_0 hk0) dX7_applyFlow_33 ?_
  refine lv_iconst (v := (-1 : Int32)) hx hb dX7_applyFlow_34 (by decide) ?_
  refine lv_ixor hx hb dX7_applyFlow_35 ?_
  refine lv_iand hx hb dX7_applyFlow_36 ?_
  refine lv_istore (lv' := [(8, .int ((x3 &&& (x4 ^^^ (-1 : Int32))))), (7, .int (x2)), (6, .int (x1)), (0, .ref (g.2.2 (k0))), (1, .ref (g.2.2 (v_program))), (2, .int (v_constraint)), (3, .int (v_via)), (4, .int (v_flow)), (5, .int (v_round))]) hx hb dX7_applyFlow_37 hl (by decide) rfl (fun ls hl => ?_)
  refine lv_iload hx hb dX7_applyFlow_39 (lv_at hl 0 rfl) ?_
  refine w_zeq_f (tgt := 45) hx hb dX7_applyFlow_41 (by decide) (fun c5 => ?_) (fun c5 => ?_)
  · replace hF := ifn c5 hF
    refine lv_aload_n hx hb dX7_applyFlow_45 rfl (lv_at hl 4 rfl) ?_
    refine lv_iload_n hx hb dX7_applyFlow_46 rfl (lv_at hl 5 rfl) ?_
    obtain ⟨x6, h6, hF⟩ := ob hF
    refine w_callV (As := [.int (v_constraint)]) (k := v_program) (rest := []) (st1 := [.int (x6)]) X hH (c_X6_viaSlot (l := l) (g := g) (w := w) (k0 := v_program) (v_constraint := v_constraint) h6 hv_program) (Or.inr ⟨_, tw_2_228⟩) ms_X6_viaSlot im_X6_viaSlot hv_program cn_6 ⟨Nat.le_of_ble_eq_true rfl, Nat.le_of_ble_eq_true rfl⟩ rfl rfl hl.1 (Nat.le_of_ble_eq_true rfl) dX7_applyFlow_47 ⟨Nat.le_refl _, Nat.le_refl _⟩ rfl (fun H locs hH => ?_)
    refine lv_istore (lv' := [(9, .int (x6)), (8, .int ((x3 &&& (x4 ^^^ (-1 : Int32))))), (7, .int (x2)), (6, .int (x1)), (0, .ref (g.2.2 (k0))), (1, .ref (g.2.2 (v_program))), (2, .int (v_constraint)), (3, .int (v_via)), (4, .int (v_flow)), (5, .int (v_round))]) hx hb dX7_applyFlow_50 hl (by decide) rfl (fun ls hl => ?_)
    refine lv_iconst (v := (0 : Int32)) hx hb dX7_applyFlow_52 (by decide) ?_
    refine lv_istore (lv' := [(10, .int ((0 : Int32))), (9, .int (x6)), (8, .int ((x3 &&& (x4 ^^^ (-1 : Int32))))), (7, .int (x2)), (6, .int (x1)), (0, .ref (g.2.2 (k0))), (1, .ref (g.2.2 (v_program))), (2, .int (v_constraint)), (3, .int (v_via)), (4, .int (v_flow)), (5, .int (v_round))]) hx hb dX7_applyFlow_53 hl (by decide) rfl (fun ls hl => ?_)
    obtain ⟨r8, hLr8, hF⟩ := ob hF
    have Jr8 : ∀ (H : Heap) (locs : List Loc) (ls : Array Slot), HW zC g r8 s.heap H locs → lv_has ls 11 [(0, .ref (g.2.2 (k0))), (1, .ref (g.2.2 (v_program))), (2, .int (v_constraint)), (3, .int (v_via)), (4, .int (v_flow)), (5, .int (v_round)), (6, .int (x1)), (7, .int (x2)), (8, .int ((x3 &&& (x4 ^^^ (-1 : Int32))))), (9, .int (x6))] → W p l e (rmd 2) s m args below meth c H locs 0 0 (MQ below (Qw zC g wz none) args s 0 0 (zA zC g)) (F0 m 133 ls []) := by
      intro H locs ls hH hl
      obtain rfl := se1 hF
      exact w_vret X hH hr dX7_applyFlow_133
    have Lr8 : ∀ (n : Nat) (s7 : Int32 × Wd), lp (b_X7_applyFlow_1 x3 x4 k0 x2 v_constraint v_round x1 x6 v_via) n s7 = some r8 → ∀ (H : Heap) (locs : List Loc) (ls : Array Slot), HW zC g s7.2 s.heap H locs → lv_has ls 11 [(0, .ref (g.2.2 (k0))), (1, .ref (g.2.2 (v_program))), (2, .int (v_constraint)), (3, .int (v_via)), (4, .int (v_flow)), (5, .int (v_round)), (6, .int (x1)), (7, .int (x2)), (8, .int ((x3 &&& (x4 ^^^ (-1 : Int32))))), (9, .int (x6)), (10, .int (s7.1))] → W p l e (rmd 2) s m args below meth c H locs 0 0 (MQ below (Qw zC g wz none) args s 0 0 (zA zC g)) (F0 m 55 ls []) := by
      intro n
      induction n with
      | zero => intro s7 hL; exact lp_0 hL
      | succ n ih =>
        intro s7 hL H locs ls hH hl
        obtain ⟨bb, hF, hL⟩ := lp_s hL
        unfold b_X7_applyFlow_1 at hF
        refine lv_iload hx hb dX7_applyFlow_55 (lv_at hl 10 rfl) ?_
        refine lv_bipush (v := (10 : Int32)) hx hb dX7_applyFlow_57 (by decide) ?_
        refine w_ilt_f (tgt := 133) hx hb dX7_applyFlow_59 (by decide) (fun c9 => ?_) (fun c9 => ?_)
        · replace hF := ifn c9 hF
          obtain rfl := se1 hF
          subst hL
          exact Jr8 _ _ _ hH (lv_sub hl [0, 1, 2, 3, 4, 5, 6, 7, 8, 9] rfl)
        · replace hF := ifp c9 hF
          obtain ⟨s10, hs10, hF⟩ := ob hF
          have Js10 : ∀ (H : Heap) (locs : List Loc) (ls : Array Slot), HW zC g s10 s.heap H locs → lv_has ls 11 [(0, .ref (g.2.2 (k0))), (1, .ref (g.2.2 (v_program))), (2, .int (v_constraint)), (3, .int (v_via)), (4, .int (v_flow)), (5, .int (v_round)), (6, .int (x1)), (7, .int (x2)), (8, .int ((x3 &&& (x4 ^^^ (-1 : Int32))))), (9, .int (x6)), (10, .int (s7.1))] → W p l e (rmd 2) s m args below meth c H locs 0 0 (MQ below (Qw zC g wz none) args s 0 0 (zA zC g)) (F0 m 127 ls []) := by
            intro H locs ls hH hl
            refine lv_iinc (v := (s7.1 + (1 : Int32))) (lv' := [(10, .int ((s7.1 + (1 : Int32)))), (0, .ref (g.2.2 (k0))), (1, .ref (g.2.2 (v_program))), (2, .int (v_constraint)), (3, .int (v_via)), (4, .int (v_flow)), (5, .int (v_round)), (6, .int (x1)), (7, .int (x2)), (8, .int ((x3 &&& (x4 ^^^ (-1 : Int32))))), (9, .int (x6))]) hx hb dX7_applyFlow_127 hl (k := 10) rfl rfl (by decide) rfl (fun ls hl => ?_)
            refine lv_goto (tgt := 55) hx hb dX7_applyFlow_130 (by decide) ?_
            obtain rfl := se1 hF
            exact ih _ hL _ _ _ hH (lv_sub hl [1, 2, 3, 4, 5, 6, 7, 8, 9, 10, 0] rfl)
          have hF := hs10
          refine lv_iload hx hb dX7_applyFlow_62 (lv_at hl 8 rfl) ?_
          refine lv_iload hx hb dX7_applyFlow_64 (lv_at hl 10 rfl) ?_
          refine w_callS (As := [.int ((x3 &&& (x4 ^^^ (-1 : Int32)))), .int (s7.1)]) (rest := []) (st1 := [.int (bI ((f_X9_contains ((x3 &&& (x4 ^^^ (-1 : Int32)))) (s7.1))))]) X hH (c_X9_contains (l := l) (g := g) (w := s7.2) (v_set := (x3 &&& (x4 ^^^ (-1 : Int32)))) (v_number := s7.1) rfl) (Or.inr ⟨_, tw_2_193⟩) ms_X9_contains tw_2_147 ⟨Nat.le_of_ble_eq_true rfl, Nat.le_of_ble_eq_true rfl⟩ rfl rfl hl.1 (Nat.le_of_ble_eq_true rfl) dX7_applyFlow_66 ⟨Nat.le_refl _, Nat.le_refl _⟩ rfl (fun H locs hH => ?_)
          refine w_b_f (tgt := 127) hx hb dX7_applyFlow_69 (by decide) (fun c11 => ?_) (fun c11 => ?_)
          · replace hF := ifn c11 hF
            obtain rfl := se1 hF
            exact Js10 _ _ _ hH (lv_sub hl [0, 1, 2, 3, 4, 5, 6, 7, 8, 9, 10] rfl)
          · replace hF := ifp c11 hF
            refine lv_aload_n hx hb dX7_applyFlow_72 rfl (lv_at hl 0 rfl) ?_
            refine lv_iload hx hb dX7_applyFlow_73 (lv_at hl 7 rfl) ?_
            refine lv_iload hx hb dX7_applyFlow_75 (lv_at hl 10 rfl) ?_
            refine lv_iload_n hx hb dX7_applyFlow_77 rfl (lv_at hl 2 rfl) ?_
            refine lv_iload hx hb dX7_applyFlow_78 (lv_at hl 5 rfl) ?_
            obtain ⟨w12, h12, hF⟩ := ob hF
            refine w_callV (As := [.int (x2), .int (s7.1), .int (v_constraint), .int (v_round)]) (k := k0) (rest := []) (st1 := []) X hH (c_X7_addFact (l := l) (g := g) (w := s7.2) (k0 := k0) (v_slot := x2) (v_object := s7.1) (v_constraint := v_constraint) (v_round := v_round) h12 hk0) (Or.inl tw_2_194) ms_X7_addFact im_X7_addFact hk0 cn_7 ⟨Nat.le_of_ble_eq_true rfl, Nat.le_of_ble_eq_true rfl⟩ rfl rfl hl.1 (Nat.le_of_ble_eq_true rfl) dX7_applyFlow_80 ⟨Nat.le_refl _, Nat.le_refl _⟩ rfl (fun H locs hH => ?_)
            refine lv_aload_n hx hb dX7_applyFlow_83 rfl (lv_at hl 0 rfl) ?_
            refine lv_iload hx hb dX7_applyFlow_84 (lv_at hl 7 rfl) ?_
            refine lv_iload hx hb dX7_applyFlow_86 (lv_at hl 10 rfl) ?_
            refine w_callS (As := [.int (x2), .int (s7.1)]) (rest := [.ref (g.2.2 (k0))]) (st1 := [.int ((f_X9_factOf (x2) (s7.1))), .ref (g.2.2 (k0))]) X hH (c_X9_factOf (l := l) (g := g) (w := w12) (v_slot := x2) (v_object := s7.1) rfl) (Or.inr ⟨_, tw_2_198⟩) ms_X9_factOf tw_2_199 ⟨Nat.le_of_ble_eq_true rfl, Nat.le_of_ble_eq_true rfl⟩ rfl rfl hl.1 (Nat.le_of_ble_eq_true rfl) dX7_applyFlow_88 ⟨Nat.le_refl _, Nat.le_refl _⟩ rfl (fun H locs hH => ?_)
            refine lv_iload hx hb dX7_applyFlow_91 (lv_at hl 6 rfl) ?_
            refine lv_iload hx hb dX7_applyFlow_93 (lv_at hl 6 rfl) ?_
            refine lv_iload hx hb dX7_applyFlow_95 (lv_at hl 10 rfl) ?_
            refine w_callS (As := [.int (x1), .int (s7.1)]) (rest := [.int (x1), .int ((f_X9_factOf (x2) (s7.1))), .ref (g.2.2 (k0))]) (st1 := [.int ((f_X9_factOf (x1) (s7.1))), .int (x1), .int ((f_X9_factOf (x2) (s7.1))), .ref (g.2.2 (k0))]) X hH (c_X9_factOf (l := l) (g := g) (w := w12) (v_slot := x1) (v_object := s7.1) rfl) (Or.inr ⟨_, tw_2_198⟩) ms_X9_factOf tw_2_199 ⟨Nat.le_of_ble_eq_true rfl, Nat.le_of_ble_eq_true rfl⟩ rfl rfl hl.1 (Nat.le_of_ble_eq_true rfl) dX7_applyFlow_97 ⟨Nat.le_refl _, Nat.le_refl _⟩ rfl (fun H locs hH => ?_)
            obtain ⟨w13, h13, hF⟩ := ob hF
            refine w_callV (As := [.int ((f_X9_factOf (x2) (s7.1))), .int (x1), .int ((f_X9_factOf (x1) (s7.1)))]) (k := k0) (rest := []) (st1 := []) X hH (c_X7_derive (l := l) (g := g) (w := w12) (k0 := k0) (v_fact := (f_X9_factOf (x2) (s7.1))) (v_source := x1) (v_sourceFact := (f_X9_factOf (x1) (s7.1))) h13 hk0) (Or.inl tw_2_229) ms_X7_derive im_X7_derive hk0 cn_7 ⟨Nat.le_of_ble_eq_true rfl, Nat.le_of_ble_eq_true rfl⟩ rfl rfl hl.1 (Nat.le_of_ble_eq_true rfl) dX7_applyFlow_100 ⟨Nat.le_refl _, Nat.le_refl _⟩ rfl (fun H locs hH => ?_)
            obtain ⟨s14, hs14, hF⟩ := ob hF
            have Js14 : ∀ (H : Heap) (locs : List Loc) (ls : Array Slot), HW zC g s14 s.heap H locs → lv_has ls 11 [(0, .ref (g.2.2 (k0))), (1, .ref (g.2.2 (v_program))), (2, .int (v_constraint)), (3, .int (v_via)), (4, .int (v_flow)), (5, .int (v_round)), (6, .int (x1)), (7, .int (x2)), (8, .int ((x3 &&& (x4 ^^^ (-1 : Int32))))), (9, .int (x6)), (10, .int (s7.1))] → W p l e (rmd 2) s m args below meth c H locs 0 0 (MQ below (Qw zC g wz none) args s 0 0 (zA zC g)) (F0 m 127 ls []) := by
              intro H locs ls hH hl
              obtain rfl := se1 hF
              exact Js10 _ _ _ hH (lv_sub hl [0, 1, 2, 3, 4, 5, 6, 7, 8, 9, 10] rfl)
            have hF := hs14
            refine lv_iload hx hb dX7_applyFlow_103 (lv_at hl 9 rfl) ?_
            refine lv_iconst (v := (-1 : Int32)) hx hb dX7_applyFlow_105 (by decide) ?_
            refine w_ine_f (tgt := 127) hx hb dX7_applyFlow_106 (by decide) (fun c15 => ?_) (fun c15 => ?_)
            · replace hF := ifn c15 hF
              obtain rfl := se1 hF
              exact Js14 _ _ _ hH (lv_sub hl [0, 1, 2, 3, 4, 5, 6, 7, 8, 9, 10] rfl)
            · replace hF := ifp c15 hF
              refine lv_aload_n hx hb dX7_applyFlow_109 rfl (lv_at hl 0 rfl) ?_
              refine lv_iload hx hb dX7_applyFlow_110 (lv_at hl 7 rfl) ?_
              refine lv_iload hx hb dX7_applyFlow_112 (lv_at hl 10 rfl) ?_
              refine w_callS (As := [.int (x2), .int (s7.1)]) (rest := [.ref (g.2.2 (k0))]) (st1 := [.int ((f_X9_factOf (x2) (s7.1))), .ref (g.2.2 (k0))]) X hH (c_X9_factOf (l := l) (g := g) (w := w13) (v_slot := x2) (v_object := s7.1) rfl) (Or.inr ⟨_, tw_2_198⟩) ms_X9_factOf tw_2_199 ⟨Nat.le_of_ble_eq_true rfl, Nat.le_of_ble_eq_true rfl⟩ rfl rfl hl.1 (Nat.le_of_ble_eq_true rfl) dX7_applyFlow_114 ⟨Nat.le_refl _, Nat.le_refl _⟩ rfl (fun H locs hH => ?_)
              refine lv_iload_n hx hb dX7_applyFlow_117 rfl (lv_at hl 3 rfl) ?_
              refine lv_iload hx hb dX7_applyFlow_118 (lv_at hl 9 rfl) ?_
              refine lv_iload_n hx hb dX7_applyFlow_120 rfl (lv_at hl 3 rfl) ?_
              refine w_callS (As := [.int (x6), .int (v_via)]) (rest := [.int (v_via), .int ((f_X9_factOf (x2) (s7.1))), .ref (g.2.2 (k0))]) (st1 := [.int ((f_X9_factOf (x6) (v_via))), .int (v_via), .int ((f_X9_factOf (x2) (s7.1))), .ref (g.2.2 (k0))]) X hH (c_X9_factOf (l := l) (g := g) (w := w13) (v_slot := x6) (v_object := v_via) rfl) (Or.inr ⟨_, tw_2_198⟩) ms_X9_factOf tw_2_199 ⟨Nat.le_of_ble_eq_true rfl, Nat.le_of_ble_eq_true rfl⟩ rfl rfl hl.1 (Nat.le_of_ble_eq_true rfl) dX7_applyFlow_121 ⟨Nat.le_refl _, Nat.le_refl _⟩ rfl (fun H locs hH => ?_)
              obtain ⟨w16, h16, hF⟩ := ob hF
              refine w_callV (As := [.int ((f_X9_factOf (x2) (s7.1))), .int (v_via), .int ((f_X9_factOf (x6) (v_via)))]) (k := k0) (rest := []) (st1 := []) X hH (c_X7_supply (l := l) (g := g) (w := w13) (k0 := k0) (v_fact := (f_X9_factOf (x2) (s7.1))) (v_via := v_via) (v_viaFact := (f_X9_factOf (x6) (v_via))) h16 hk0) (Or.inl tw_2_233) ms_X7_supply im_X7_supply hk0 cn_7 ⟨Nat.le_of_ble_eq_true rfl, Nat.le_of_ble_eq_true rfl⟩ rfl rfl hl.1 (Nat.le_of_ble_eq_true rfl) dX7_applyFlow_124 ⟨Nat.le_refl _, Nat.le_refl _⟩ rfl (fun H locs hH => ?_)
              obtain rfl := se1 hF
              exact Js14 _ _ _ hH (lv_sub hl [0, 1, 2, 3, 4, 5, 6, 7, 8, 9, 10] rfl)
    exact Lr8 NF _ hLr8 _ _ _ hH (lv_sub hl [5, 6, 7, 8, 9, 10, 4, 3, 2, 1, 0] rfl)
  · replace hF := ifp c5 hF
    obtain rfl := se1 hF
    exact w_vret X hH hr dX7_applyFlow_44

theorem dX7_apply_0 : decode cX7_apply 0 = .ok (.aload_n 1, 1) := by decide +kernel
theorem dX7_apply_1 : decode cX7_apply 1 = .ok (.getfield 58, 3) := by decide +kernel
theorem dX7_apply_4 : decode cX7_apply 4 = .ok (.getfield 77, 3) := by decide +kernel
theorem dX7_apply_7 : decode cX7_apply 7 = .ok (.iload_n 2, 1) := by decide +kernel
theorem dX7_apply_8 : decode cX7_apply 8 = .ok (.iaload, 1) := by decide +kernel
theorem dX7_apply_9 : decode cX7_apply 9 = .ok (.ifCond .ne 14, 3) := by decide +kernel
theorem dX7_apply_12 : decode cX7_apply 12 = .ok (.aload_n 0, 1) := by decide +kernel
theorem dX7_apply_13 : decode cX7_apply 13 = .ok (.aload_n 1, 1) := by decide +kernel
theorem dX7_apply_14 : decode cX7_apply 14 = .ok (.getfield 58, 3) := by decide +kernel
theorem dX7_apply_17 : decode cX7_apply 17 = .ok (.iload_n 2, 1) := by decide +kernel
theorem dX7_apply_18 : decode cX7_apply 18 = .ok (.iload_n 3, 1) := by decide +kernel
theorem dX7_apply_19 : decode cX7_apply 19 = .ok (.invokevirtual 80, 3) := by decide +kernel
theorem dX7_apply_22 : decode cX7_apply 22 = .ok (.return_, 1) := by decide +kernel
theorem dX7_apply_23 : decode cX7_apply 23 = .ok (.aload_n 1, 1) := by decide +kernel
theorem dX7_apply_24 : decode cX7_apply 24 = .ok (.aload_n 0, 1) := by decide +kernel
theorem dX7_apply_25 : decode cX7_apply 25 = .ok (.getfield 15, 3) := by decide +kernel
theorem dX7_apply_28 : decode cX7_apply 28 = .ok (.iload_n 2, 1) := by decide +kernel
theorem dX7_apply_29 : decode cX7_apply 29 = .ok (.invokevirtual 84, 3) := by decide +kernel
theorem dX7_apply_32 : decode cX7_apply 32 = .ok (.istore 4, 2) := by decide +kernel
theorem dX7_apply_34 : decode cX7_apply 34 = .ok (.iconst 0, 1) := by decide +kernel
theorem dX7_apply_35 : decode cX7_apply 35 = .ok (.istore 5, 2) := by decide +kernel
theorem dX7_apply_37 : decode cX7_apply 37 = .ok (.iload 5, 2) := by decide +kernel
theorem dX7_apply_39 : decode cX7_apply 39 = .ok (.bipush 10, 2) := by decide +kernel
theorem dX7_apply_41 : decode cX7_apply 41 = .ok (.if_icmp .ge 49, 3) := by decide +kernel
theorem dX7_apply_44 : decode cX7_apply 44 = .ok (.iload 4, 2) := by decide +kernel
theorem dX7_apply_46 : decode cX7_apply 46 = .ok (.iload 5, 2) := by decide +kernel
theorem dX7_apply_48 : decode cX7_apply 48 = .ok (.invokestatic 88, 3) := by decide +kernel
theorem dX7_apply_51 : decode cX7_apply 51 = .ok (.ifCond .eq 33, 3) := by decide +kernel
theorem dX7_apply_54 : decode cX7_apply 54 = .ok (.iconst 0, 1) := by decide +kernel
theorem dX7_apply_55 : decode cX7_apply 55 = .ok (.istore 6, 2) := by decide +kernel
theorem dX7_apply_57 : decode cX7_apply 57 = .ok (.iload 6, 2) := by decide +kernel
theorem dX7_apply_59 : decode cX7_apply 59 = .ok (.aload_n 1, 1) := by decide +kernel
theorem dX7_apply_60 : decode cX7_apply 60 = .ok (.iload_n 2, 1) := by decide +kernel
theorem dX7_apply_61 : decode cX7_apply 61 = .ok (.invokevirtual 92, 3) := by decide +kernel
theorem dX7_apply_64 : decode cX7_apply 64 = .ok (.if_icmp .ge 20, 3) := by decide +kernel
theorem dX7_apply_67 : decode cX7_apply 67 = .ok (.aload_n 0, 1) := by decide +kernel
theorem dX7_apply_68 : decode cX7_apply 68 = .ok (.aload_n 1, 1) := by decide +kernel
theorem dX7_apply_69 : decode cX7_apply 69 = .ok (.iload_n 2, 1) := by decide +kernel
theorem dX7_apply_70 : decode cX7_apply 70 = .ok (.iload 5, 2) := by decide +kernel
theorem dX7_apply_72 : decode cX7_apply 72 = .ok (.iload 6, 2) := by decide +kernel
theorem dX7_apply_74 : decode cX7_apply 74 = .ok (.iload_n 3, 1) := by decide +kernel
theorem dX7_apply_75 : decode cX7_apply 75 = .ok (.invokevirtual 96, 3) := by decide +kernel
theorem dX7_apply_78 : decode cX7_apply 78 = .ok (.iinc 6 1, 3) := by decide +kernel
theorem dX7_apply_81 : decode cX7_apply 81 = .ok (.goto (-24), 3) := by decide +kernel
theorem dX7_apply_84 : decode cX7_apply 84 = .ok (.iinc 5 1, 3) := by decide +kernel
theorem dX7_apply_87 : decode cX7_apply 87 = .ok (.goto (-50), 3) := by decide +kernel
theorem dX7_apply_90 : decode cX7_apply 90 = .ok (.return_, 1) := by decide +kernel
set_option maxHeartbeats 4000000 in
set_option maxRecDepth 100000 in
theorem c_X7_apply {l : Launch} {g : Gh} {w : Wd} {k0 : Nat} {v_program : Nat} {v_constraint : Int32} {v_round : Int32} {wz : Wd} (hF : f_X7_apply w k0 v_program v_constraint v_round = some wz) (hk0 : zct zC k0 = 7) (hv_program : zct zC v_program = 6) : Met l yX7_apply (Cond.code yX7_apply cX7_apply 7 none :: TT) (rmd 3) (Pcw zC g w [.ref (g.2.2 k0), .ref (g.2.2 (v_program)), .int (v_constraint), .int (v_round)]) (Qw zC g wz none) 0 0 (zA zC g) := by
  refine mt_start (by decide) (Nat.le_of_ble_eq_true rfl) ?_
  intro p e s m args below meth c H locs ls X hr hl hH
  have hx := X.1
  have hb := X.2.1
  have hml := X.2.2.1
  have hown := X.2.2.2.1
  have ht := X.2.2.2.2.1
  have hl : lv_has ls 7 [(0, .ref (g.2.2 (k0))), (1, .ref (g.2.2 (v_program))), (2, .int (v_constraint)), (3, .int (v_round))] := hl
  unfold f_X7_apply at hF
  refine lv_aload_n hx hb dX7_apply_0 rfl (lv_at hl 1 rfl) ?_
  refine w_getr X hH hv_program fs_6_6 lk_7_58 dX7_apply_1 ?_
  refine w_getr X hH (rt_C_6_6 hv_program) fs_0_0 lk_7_77 dX7_apply_4 ?_
  refine lv_iload_n hx hb dX7_apply_7 rfl (lv_at hl 2 rfl) ?_
  obtain ⟨x1, h1, hF⟩ := ob hF
  refine w_iald X hH h1 (rt_C_0_0 (rt_C_6_6 hv_program)) dX7_apply_8 ?_
  refine w_zeq_f (tgt := 23) hx hb dX7_apply_9 (by decide) (fun c2 => ?_) (fun c2 => ?_)
  · replace hF := ifn c2 hF
    refine lv_aload_n hx hb dX7_apply_23 rfl (lv_at hl 1 rfl) ?_
    refine lv_aload_n hx hb dX7_apply_24 rfl (lv_at hl 0 rfl) ?_
    refine w_getr X hH hk0 fs_7_1 lk_7_15 dX7_apply_25 ?_
    refine lv_iload_n hx hb dX7_apply_28 rfl (lv_at hl 2 rfl) ?_
    obtain ⟨x3, h3, hF⟩ := ob hF
    refine w_callV (As := [.ref (g.2.2 ((zrf zC (k0) 1))), .int (v_constraint)]) (k := v_program) (rest := []) (st1 := [.int (x3)]) X hH (c_X6_viasIn (l := l) (g := g) (w := w) (k0 := v_program) (v_sets := (zrf zC (k0) 1)) (v_constraint := v_constraint) h3 hv_program (rt_C_7_1 hk0)) (Or.inr ⟨_, tw_2_201⟩) ms_X6_viasIn im_X6_viasIn hv_program cn_6 ⟨Nat.le_of_ble_eq_true rfl, Nat.le_of_ble_eq_true rfl⟩ rfl rfl hl.1 (Nat.le_of_ble_eq_true rfl) dX7_apply_29 ⟨Nat.le_refl _, Nat.le_refl _⟩ rfl (fun H locs hH => ?_)
    refine lv_istore (lv' := [(4, .int (x3)), (0, .ref (g.2.2 (k0))), (1, .ref (g.2.2 (v_program))), (2, .int (v_constraint)), (3, .int (v_round))]) hx hb dX7_apply_32 hl (by decide) rfl (fun ls hl => ?_)
    refine lv_iconst (v := (0 : Int32)) hx hb dX7_apply_34 (by decide) ?_
    refine lv_istore (lv' := [(5, .int ((0 : Int32))), (4, .int (x3)), (0, .ref (g.2.2 (k0))), (1, .ref (g.2.2 (v_program))), (2, .int (v_constraint)), (3, .int (v_round))]) hx hb dX7_apply_35 hl (by decide) rfl (fun ls hl => ?_)
    obtain ⟨r5, hLr5, hF⟩ := ob hF
    have Jr5 : ∀ (H : Heap) (locs : List Loc) (ls : Array Slot), HW zC g r5 s.heap H locs → lv_has ls 7 [(0, .ref (g.2.2 (k0))), (1, .ref (g.2.2 (v_program))), (2, .int (v_constraint)), (3, .int (v_round)), (4, .int (x3))] → W p l e (rmd 3) s m args below meth c H locs 0 0 (MQ below (Qw zC g wz none) args s 0 0 (zA zC g)) (F0 m 90 ls []) := by
      intro H locs ls hH hl
      obtain rfl := se1 hF
      exact w_vret X hH hr dX7_apply_90
    have Lr5 : ∀ (n : Nat) (s4 : Int32 × Wd), lp (b_X7_apply_1 x3 v_program v_constraint k0 v_round) n s4 = some r5 → ∀ (H : Heap) (locs : List Loc) (ls : Array Slot), HW zC g s4.2 s.heap H locs → lv_has ls 7 [(0, .ref (g.2.2 (k0))), (1, .ref (g.2.2 (v_program))), (2, .int (v_constraint)), (3, .int (v_round)), (4, .int (x3)), (5, .int (s4.1))] → W p l e (rmd 3) s m args below meth c H locs 0 0 (MQ below (Qw zC g wz none) args s 0 0 (zA zC g)) (F0 m 37 ls []) := by
      intro n
      induction n with
      | zero => intro s4 hL; exact lp_0 hL
      | succ n ih =>
        intro s4 hL H locs ls hH hl
        obtain ⟨bb, hF, hL⟩ := lp_s hL
        unfold b_X7_apply_1 at hF
        refine lv_iload hx hb dX7_apply_37 (lv_at hl 5 rfl) ?_
        refine lv_bipush (v := (10 : Int32)) hx hb dX7_apply_39 (by decide) ?_
        refine w_ilt_f (tgt := 90) hx hb dX7_apply_41 (by decide) (fun c6 => ?_) (fun c6 => ?_)
        · replace hF := ifn c6 hF
          obtain rfl := se1 hF
          subst hL
          exact Jr5 _ _ _ hH (lv_sub hl [0, 1, 2, 3, 4] rfl)
        · replace hF := ifp c6 hF
          obtain ⟨s7, hs7, hF⟩ := ob hF
          have Js7 : ∀ (H : Heap) (locs : List Loc) (ls : Array Slot), HW zC g s7 s.heap H locs → lv_has ls 7 [(0, .ref (g.2.2 (k0))), (1, .ref (g.2.2 (v_program))), (2, .int (v_constraint)), (3, .int (v_round)), (4, .int (x3)), (5, .int (s4.1))] → W p l e (rmd 3) s m args below meth c H locs 0 0 (MQ below (Qw zC g wz none) args s 0 0 (zA zC g)) (F0 m 84 ls []) := by
            intro H locs ls hH hl
            refine lv_iinc (v := (s4.1 + (1 : Int32))) (lv' := [(5, .int ((s4.1 + (1 : Int32)))), (0, .ref (g.2.2 (k0))), (1, .ref (g.2.2 (v_program))), (2, .int (v_constraint)), (3, .int (v_round)), (4, .int (x3))]) hx hb dX7_apply_84 hl (k := 5) rfl rfl (by decide) rfl (fun ls hl => ?_)
            refine lv_goto (tgt := 37) hx hb dX7_apply_87 (by decide) ?_
            obtain rfl := se1 hF
            exact ih _ hL _ _ _ hH (lv_sub hl [1, 2, 3, 4, 5, 0] rfl)
          have hF := hs7
          refine lv_iload hx hb dX7_apply_44 (lv_at hl 4 rfl) ?_
          refine lv_iload hx hb dX7_apply_46 (lv_at hl 5 rfl) ?_
          refine w_callS (As := [.int (x3), .int (s4.1)]) (rest := []) (st1 := [.int (bI ((f_X9_contains (x3) (s4.1))))]) X hH (c_X9_contains (l := l) (g := g) (w := s4.2) (v_set := x3) (v_number := s4.1) rfl) (Or.inr ⟨_, tw_2_193⟩) ms_X9_contains tw_2_147 ⟨Nat.le_of_ble_eq_true rfl, Nat.le_of_ble_eq_true rfl⟩ rfl rfl hl.1 (Nat.le_of_ble_eq_true rfl) dX7_apply_48 ⟨Nat.le_refl _, Nat.le_refl _⟩ rfl (fun H locs hH => ?_)
          refine w_b_f (tgt := 84) hx hb dX7_apply_51 (by decide) (fun c8 => ?_) (fun c8 => ?_)
          · replace hF := ifn c8 hF
            obtain rfl := se1 hF
            exact Js7 _ _ _ hH (lv_sub hl [0, 1, 2, 3, 4, 5] rfl)
          · replace hF := ifp c8 hF
            refine lv_iconst (v := (0 : Int32)) hx hb dX7_apply_54 (by decide) ?_
            refine lv_istore (lv' := [(6, .int ((0 : Int32))), (0, .ref (g.2.2 (k0))), (1, .ref (g.2.2 (v_program))), (2, .int (v_constraint)), (3, .int (v_round)), (4, .int (x3)), (5, .int (s4.1))]) hx hb dX7_apply_55 hl (by decide) rfl (fun ls hl => ?_)
            obtain ⟨r10, hLr10, hF⟩ := ob hF
            have Jr10 : ∀ (H : Heap) (locs : List Loc) (ls : Array Slot), HW zC g r10 s.heap H locs → lv_has ls 7 [(0, .ref (g.2.2 (k0))), (1, .ref (g.2.2 (v_program))), (2, .int (v_constraint)), (3, .int (v_round)), (4, .int (x3)), (5, .int (s4.1))] → W p l e (rmd 3) s m args below meth c H locs 0 0 (MQ below (Qw zC g wz none) args s 0 0 (zA zC g)) (F0 m 84 ls []) := by
              intro H locs ls hH hl
              obtain rfl := se1 hF
              exact Js7 _ _ _ hH (lv_sub hl [0, 1, 2, 3, 4, 5] rfl)
            have Lr10 : ∀ (n : Nat) (s9 : Int32 × Wd), lp (b_X7_apply_2 v_program v_constraint k0 s4 v_round) n s9 = some r10 → ∀ (H : Heap) (locs : List Loc) (ls : Array Slot), HW zC g s9.2 s.heap H locs → lv_has ls 7 [(0, .ref (g.2.2 (k0))), (1, .ref (g.2.2 (v_program))), (2, .int (v_constraint)), (3, .int (v_round)), (4, .int (x3)), (5, .int (s4.1)), (6, .int (s9.1))] → W p l e (rmd 3) s m args below meth c H locs 0 0 (MQ below (Qw zC g wz none) args s 0 0 (zA zC g)) (F0 m 57 ls []) := by
              intro n
              induction n with
              | zero => intro s9 hL; exact lp_0 hL
              | succ n ih =>
                intro s9 hL H locs ls hH hl
                obtain ⟨bb, hF, hL⟩ := lp_s hL
                unfold b_X7_apply_2 at hF
                refine lv_iload hx hb dX7_apply_57 (lv_at hl 6 rfl) ?_
                refine lv_aload_n hx hb dX7_apply_59 rfl (lv_at hl 1 rfl) ?_
                refine lv_iload_n hx hb dX7_apply_60 rfl (lv_at hl 2 rfl) ?_
                obtain ⟨x11, h11, hF⟩ := ob hF
                refine w_callV (As := [.int (v_constraint)]) (k := v_program) (rest := [.int (s9.1)]) (st1 := [.int (x11), .int (s9.1)]) X hH (c_X6_flowCount (l := l) (g := g) (w := s9.2) (k0 := v_program) (v_constraint := v_constraint) h11 hv_program) (Or.inr ⟨_, tw_2_209⟩) ms_X6_flowCount im_X6_flowCount hv_program cn_6 ⟨Nat.le_of_ble_eq_true rfl, Nat.le_of_ble_eq_true rfl⟩ rfl rfl hl.1 (Nat.le_of_ble_eq_true rfl) dX7_apply_61 ⟨Nat.le_refl _, Nat.le_refl _⟩ rfl (fun H locs hH => ?_)
                refine w_ilt_f (tgt := 84) hx hb dX7_apply_64 (by decide) (fun c12 => ?_) (fun c12 => ?_)
                · replace hF := ifn c12 hF
                  obtain rfl := se1 hF
                  subst hL
                  exact Jr10 _ _ _ hH (lv_sub hl [0, 1, 2, 3, 4, 5] rfl)
                · replace hF := ifp c12 hF
                  refine lv_aload_n hx hb dX7_apply_67 rfl (lv_at hl 0 rfl) ?_
                  refine lv_aload_n hx hb dX7_apply_68 rfl (lv_at hl 1 rfl) ?_
                  refine lv_iload_n hx hb dX7_apply_69 rfl (lv_at hl 2 rfl) ?_
                  refine lv_iload hx hb dX7_apply_70 (lv_at hl 5 rfl) ?_
                  refine lv_iload hx hb dX7_apply_72 (lv_at hl 6 rfl) ?_
                  refine lv_iload_n hx hb dX7_apply_74 rfl (lv_at hl 3 rfl) ?_
                  obtain ⟨w13, h13, hF⟩ := ob hF
                  refine w_callV (As := [.ref (g.2.2 (v_program)), .int (v_constraint), .int (s4.1), .int (s9.1), .int (v_round)]) (k := k0) (rest := []) (st1 := []) X hH (c_X7_applyFlow (l := l) (g := g) (w := s9.2) (k0 := k0) (v_program := v_program) (v_constraint := v_constraint) (v_via := s4.1) (v_flow := s9.1) (v_round := v_round) h13 hk0 hv_program) (Or.inl tw_2_213) ms_X7_applyFlow im_X7_applyFlow hk0 cn_7 ⟨Nat.le_of_ble_eq_true rfl, Nat.le_of_ble_eq_true rfl⟩ rfl rfl hl.1 (Nat.le_of_ble_eq_true rfl) dX7_apply_75 ⟨Nat.le_refl _, Nat.le_refl _⟩ rfl (fun H locs hH => ?_)
                  refine lv_iinc (v := (s9.1 + (1 : Int32))) (lv' := [(6, .int ((s9.1 + (1 : Int32)))), (0, .ref (g.2.2 (k0))), (1, .ref (g.2.2 (v_program))), (2, .int (v_constraint)), (3, .int (v_round)), (4, .int (x3)), (5, .int (s4.1))]) hx hb dX7_apply_78 hl (k := 6) rfl rfl (by decide) rfl (fun ls hl => ?_)
                  refine lv_goto (tgt := 57) hx hb dX7_apply_81 (by decide) ?_
                  obtain rfl := se1 hF
                  exact ih _ hL _ _ _ hH (lv_sub hl [1, 2, 3, 4, 5, 6, 0] rfl)
            exact Lr10 NF _ hLr10 _ _ _ hH (lv_sub hl [1, 2, 3, 4, 5, 6, 0] rfl)
    exact Lr5 NF _ hLr5 _ _ _ hH (lv_sub hl [2, 3, 4, 5, 1, 0] rfl)
  · replace hF := ifp c2 hF
    refine lv_aload_n hx hb dX7_apply_12 rfl (lv_at hl 0 rfl) ?_
    refine lv_aload_n hx hb dX7_apply_13 rfl (lv_at hl 1 rfl) ?_
    refine w_getr X hH hv_program fs_6_6 lk_7_58 dX7_apply_14 ?_
    refine lv_iload_n hx hb dX7_apply_17 rfl (lv_at hl 2 rfl) ?_
    refine lv_iload_n hx hb dX7_apply_18 rfl (lv_at hl 3 rfl) ?_
    obtain ⟨w14, h14, hF⟩ := ob hF
    refine w_callV (As := [.ref (g.2.2 ((zrf zC (v_program) 6))), .int (v_constraint), .int (v_round)]) (k := k0) (rest := []) (st1 := []) X hH (c_X7_applyNew (l := l) (g := g) (w := w) (k0 := k0) (v_list := (zrf zC (v_program) 6)) (v_constraint := v_constraint) (v_round := v_round) h14 hk0 (rt_C_6_6 hv_program)) (Or.inl tw_2_189) ms_X7_applyNew im_X7_applyNew hk0 cn_7 ⟨Nat.le_of_ble_eq_true rfl, Nat.le_of_ble_eq_true rfl⟩ rfl rfl hl.1 (Nat.le_of_ble_eq_true rfl) dX7_apply_19 ⟨Nat.le_refl _, Nat.le_refl _⟩ rfl (fun H locs hH => ?_)
    obtain rfl := se1 hF
    exact w_vret X hH hr dX7_apply_22

theorem dX7_solve_0 : decode cX7_solve 0 = .ok (.aload_n 0, 1) := by decide +kernel
theorem dX7_solve_1 : decode cX7_solve 1 = .ok (.getfield 9, 3) := by decide +kernel
theorem dX7_solve_4 : decode cX7_solve 4 = .ok (.iconst 0, 1) := by decide +kernel
theorem dX7_solve_5 : decode cX7_solve 5 = .ok (.invokestatic 46, 3) := by decide +kernel
theorem dX7_solve_8 : decode cX7_solve 8 = .ok (.aload_n 0, 1) := by decide +kernel
theorem dX7_solve_9 : decode cX7_solve 9 = .ok (.iconst 0, 1) := by decide +kernel
theorem dX7_solve_10 : decode cX7_solve 10 = .ok (.putfield 18, 3) := by decide +kernel
theorem dX7_solve_13 : decode cX7_solve 13 = .ok (.aload_n 0, 1) := by decide +kernel
theorem dX7_solve_14 : decode cX7_solve 14 = .ok (.iconst 0, 1) := by decide +kernel
theorem dX7_solve_15 : decode cX7_solve 15 = .ok (.putfield 22, 3) := by decide +kernel
theorem dX7_solve_18 : decode cX7_solve 18 = .ok (.aload_n 0, 1) := by decide +kernel
theorem dX7_solve_19 : decode cX7_solve 19 = .ok (.iconst 0, 1) := by decide +kernel
theorem dX7_solve_20 : decode cX7_solve 20 = .ok (.putfield 25, 3) := by decide +kernel
theorem dX7_solve_23 : decode cX7_solve 23 = .ok (.iconst 1, 1) := by decide +kernel
theorem dX7_solve_24 : decode cX7_solve 24 = .ok (.istore_n 2, 1) := by decide +kernel
theorem dX7_solve_25 : decode cX7_solve 25 = .ok (.iconst 1, 1) := by decide +kernel
theorem dX7_solve_26 : decode cX7_solve 26 = .ok (.istore_n 3, 1) := by decide +kernel
theorem dX7_solve_27 : decode cX7_solve 27 = .ok (.iload_n 2, 1) := by decide +kernel
theorem dX7_solve_28 : decode cX7_solve 28 = .ok (.ifCond .eq 109, 3) := by decide +kernel
theorem dX7_solve_31 : decode cX7_solve 31 = .ok (.iload_n 3, 1) := by decide +kernel
theorem dX7_solve_32 : decode cX7_solve 32 = .ok (.sipush 561, 3) := by decide +kernel
theorem dX7_solve_35 : decode cX7_solve 35 = .ok (.if_icmp .gt 102, 3) := by decide +kernel
theorem dX7_solve_38 : decode cX7_solve 38 = .ok (.aload_n 0, 1) := by decide +kernel
theorem dX7_solve_39 : decode cX7_solve 39 = .ok (.getfield 18, 3) := by decide +kernel
theorem dX7_solve_42 : decode cX7_solve 42 = .ok (.istore 4, 2) := by decide +kernel
theorem dX7_solve_44 : decode cX7_solve 44 = .ok (.aload_n 0, 1) := by decide +kernel
theorem dX7_solve_45 : decode cX7_solve 45 = .ok (.getfield 9, 3) := by decide +kernel
theorem dX7_solve_48 : decode cX7_solve 48 = .ok (.iconst 0, 1) := by decide +kernel
theorem dX7_solve_49 : decode cX7_solve 49 = .ok (.aload_n 0, 1) := by decide +kernel
theorem dX7_solve_50 : decode cX7_solve 50 = .ok (.getfield 15, 3) := by decide +kernel
theorem dX7_solve_53 : decode cX7_solve 53 = .ok (.iconst 0, 1) := by decide +kernel
theorem dX7_solve_54 : decode cX7_solve 54 = .ok (.bipush 56, 2) := by decide +kernel
theorem dX7_solve_56 : decode cX7_solve 56 = .ok (.invokestatic 52, 3) := by decide +kernel
theorem dX7_solve_59 : decode cX7_solve 59 = .ok (.iconst 0, 1) := by decide +kernel
theorem dX7_solve_60 : decode cX7_solve 60 = .ok (.istore 5, 2) := by decide +kernel
theorem dX7_solve_62 : decode cX7_solve 62 = .ok (.iload 5, 2) := by decide +kernel
theorem dX7_solve_64 : decode cX7_solve 64 = .ok (.aload_n 1, 1) := by decide +kernel
theorem dX7_solve_65 : decode cX7_solve 65 = .ok (.getfield 58, 3) := by decide +kernel
theorem dX7_solve_68 : decode cX7_solve 68 = .ok (.getfield 64, 3) := by decide +kernel
theorem dX7_solve_71 : decode cX7_solve 71 = .ok (.if_icmp .ge 29, 3) := by decide +kernel
theorem dX7_solve_74 : decode cX7_solve 74 = .ok (.aload_n 1, 1) := by decide +kernel
theorem dX7_solve_75 : decode cX7_solve 75 = .ok (.getfield 58, 3) := by decide +kernel
theorem dX7_solve_78 : decode cX7_solve 78 = .ok (.iload 5, 2) := by decide +kernel
theorem dX7_solve_80 : decode cX7_solve 80 = .ok (.invokevirtual 69, 3) := by decide +kernel
theorem dX7_solve_83 : decode cX7_solve 83 = .ok (.ifCond .eq 11, 3) := by decide +kernel
theorem dX7_solve_86 : decode cX7_solve 86 = .ok (.aload_n 0, 1) := by decide +kernel
theorem dX7_solve_87 : decode cX7_solve 87 = .ok (.aload_n 1, 1) := by decide +kernel
theorem dX7_solve_88 : decode cX7_solve 88 = .ok (.iload 5, 2) := by decide +kernel
theorem dX7_solve_90 : decode cX7_solve 90 = .ok (.iload_n 3, 1) := by decide +kernel
theorem dX7_solve_91 : decode cX7_solve 91 = .ok (.invokevirtual 73, 3) := by decide +kernel
theorem dX7_solve_94 : decode cX7_solve 94 = .ok (.iinc 5 1, 3) := by decide +kernel
theorem dX7_solve_97 : decode cX7_solve 97 = .ok (.goto (-35), 3) := by decide +kernel
theorem dX7_solve_100 : decode cX7_solve 100 = .ok (.aload_n 0, 1) := by decide +kernel
theorem dX7_solve_101 : decode cX7_solve 101 = .ok (.getfield 18, 3) := by decide +kernel
theorem dX7_solve_104 : decode cX7_solve 104 = .ok (.iload 4, 2) := by decide +kernel
theorem dX7_solve_106 : decode cX7_solve 106 = .ok (.if_icmp .le 7, 3) := by decide +kernel
theorem dX7_solve_109 : decode cX7_solve 109 = .ok (.iconst 1, 1) := by decide +kernel
theorem dX7_solve_110 : decode cX7_solve 110 = .ok (.goto 4, 3) := by decide +kernel
theorem dX7_solve_113 : decode cX7_solve 113 = .ok (.iconst 0, 1) := by decide +kernel
theorem dX7_solve_114 : decode cX7_solve 114 = .ok (.istore_n 2, 1) := by decide +kernel
theorem dX7_solve_115 : decode cX7_solve 115 = .ok (.aload_n 0, 1) := by decide +kernel
theorem dX7_solve_116 : decode cX7_solve 116 = .ok (.iload_n 2, 1) := by decide +kernel
theorem dX7_solve_117 : decode cX7_solve 117 = .ok (.ifCond .eq 7, 3) := by decide +kernel
theorem dX7_solve_120 : decode cX7_solve 120 = .ok (.iload_n 3, 1) := by decide +kernel
theorem dX7_solve_121 : decode cX7_solve 121 = .ok (.goto 7, 3) := by decide +kernel
theorem dX7_solve_124 : decode cX7_solve 124 = .ok (.aload_n 0, 1) := by decide +kernel
theorem dX7_solve_125 : decode cX7_solve 125 = .ok (.getfield 22, 3) := by decide +kernel
theorem dX7_solve_128 : decode cX7_solve 128 = .ok (.putfield 22, 3) := by decide +kernel
theorem dX7_solve_131 : decode cX7_solve 131 = .ok (.iinc 3 1, 3) := by decide +kernel
theorem dX7_solve_134 : decode cX7_solve 134 = .ok (.goto (-107), 3) := by decide +kernel
theorem dX7_solve_137 : decode cX7_solve 137 = .ok (.return_, 1) := by decide +kernel
set_option maxHeartbeats 4000000 in
set_option maxRecDepth 100000 in
theorem c_X7_solve {l : Launch} {g : Gh} {w : Wd} {k0 : Nat} {v_program : Nat} {wz : Wd} (hF : f_X7_solve w k0 v_program = some wz) (hk0 : zct zC k0 = 7) (hv_program : zct zC v_program = 6) : Met l yX7_solve (Cond.code yX7_solve cX7_solve 6 none :: TT) (rmd 4) (Pcw zC g w [.ref (g.2.2 k0), .ref (g.2.2 (v_program))]) (Qw zC g wz none) 0 0 (zA zC g) := by
  refine mt_start (by decide) (Nat.le_of_ble_eq_true rfl) ?_
  intro p e s m args below meth c H locs ls X hr hl hH
  have hx := X.1
  have hb := X.2.1
  have hml := X.2.2.1
  have hown := X.2.2.2.1
  have ht := X.2.2.2.2.1
  have hl : lv_has ls 6 [(0, .ref (g.2.2 (k0))), (1, .ref (g.2.2 (v_program)))] := hl
  unfold f_X7_solve at hF
  refine lv_aload_n hx hb dX7_solve_0 rfl (lv_at hl 0 rfl) ?_
  refine w_getr X hH hk0 fs_7_0 lk_7_9 dX7_solve_1 ?_
  refine lv_iconst (v := (0 : Int32)) hx hb dX7_solve_4 (by decide) ?_
  obtain ⟨w1, h1, hF⟩ := ob hF
  refine w_callS (As := [.ref (g.2.2 ((zrf zC (k0) 0))), .int ((0 : Int32))]) (rest := []) (st1 := []) X hH (c_J7_fill (l := l) (g := g) (w := w) (v_a := (zrf zC (k0) 0)) (v_val := (0 : Int32)) h1 (rt_C_7_0 hk0)) (Or.inl tw_2_174) ms_J7_fill tw_2_175 ⟨Nat.le_of_ble_eq_true rfl, Nat.le_of_ble_eq_true rfl⟩ rfl rfl hl.1 (Nat.le_of_ble_eq_true rfl) dX7_solve_5 ⟨Nat.le_refl _, Nat.le_refl _⟩ rfl (fun H locs hH => ?_)
  refine lv_aload_n hx hb dX7_solve_8 rfl (lv_at hl 0 rfl) ?_
  refine lv_iconst (v := (0 : Int32)) hx hb dX7_solve_9 (by decide) ?_
  obtain ⟨w2, h2, hF⟩ := ob hF
  refine w_puti X hH h2 hk0 fs_7_2 nf_7_2 lk_7_18 dX7_solve_10 (fun H locs hH => ?_)
  refine lv_aload_n hx hb dX7_solve_13 rfl (lv_at hl 0 rfl) ?_
  refine lv_iconst (v := (0 : Int32)) hx hb dX7_solve_14 (by decide) ?_
  obtain ⟨w3, h3, hF⟩ := ob hF
  refine w_puti X hH h3 hk0 fs_7_3 nf_7_3 lk_7_22 dX7_solve_15 (fun H locs hH => ?_)
  refine lv_aload_n hx hb dX7_solve_18 rfl (lv_at hl 0 rfl) ?_
  refine lv_iconst (v := (0 : Int32)) hx hb dX7_solve_19 (by decide) ?_
  obtain ⟨w4, h4, hF⟩ := ob hF
  refine w_puti X hH h4 hk0 fs_7_4 nf_7_4 lk_7_25 dX7_solve_20 (fun H locs hH => ?_)
  refine lv_iconst (v := bI true) hx hb dX7_solve_23 (by decide) ?_
  refine lv_istore_n (lv' := [(2, .int (bI (true))), (0, .ref (g.2.2 (k0))), (1, .ref (g.2.2 (v_program)))]) hx hb dX7_solve_24 rfl hl (by decide) rfl (fun ls hl => ?_)
  refine lv_iconst (v := (1 : Int32)) hx hb dX7_solve_25 (by decide) ?_
  refine lv_istore_n (lv' := [(3, .int ((1 : Int32))), (2, .int (bI (true))), (0, .ref (g.2.2 (k0))), (1, .ref (g.2.2 (v_program)))]) hx hb dX7_solve_26 rfl hl (by decide) rfl (fun ls hl => ?_)
  obtain ⟨r6, hLr6, hF⟩ := ob hF
  have Jr6 : ∀ (H : Heap) (locs : List Loc) (ls : Array Slot), HW zC g r6.2 s.heap H locs → lv_has ls 6 [(0, .ref (g.2.2 (k0))), (1, .ref (g.2.2 (v_program))), (2, .int (bI (r6.1)))] → W p l e (rmd 4) s m args below meth c H locs 0 0 (MQ below (Qw zC g wz none) args s 0 0 (zA zC g)) (F0 m 137 ls []) := by
    intro H locs ls hH hl
    obtain rfl := se1 hF
    exact w_vret X hH hr dX7_solve_137
  have Lr6 : ∀ (n : Nat) (s5 : Bool × Int32 × Wd), lp (b_X7_solve_1 k0 v_program) n s5 = some r6 → ∀ (H : Heap) (locs : List Loc) (ls : Array Slot), HW zC g s5.2.2 s.heap H locs → lv_has ls 6 [(0, .ref (g.2.2 (k0))), (1, .ref (g.2.2 (v_program))), (2, .int (bI (s5.1))), (3, .int (s5.2.1))] → W p l e (rmd 4) s m args below meth c H locs 0 0 (MQ below (Qw zC g wz none) args s 0 0 (zA zC g)) (F0 m 27 ls []) := by
    intro n
    induction n with
    | zero => intro s5 hL; exact lp_0 hL
    | succ n ih =>
      intro s5 hL H locs ls hH hl
      obtain ⟨bb, hF, hL⟩ := lp_s hL
      unfold b_X7_solve_1 at hF
      refine lv_iload_n hx hb dX7_solve_27 rfl (lv_at hl 2 rfl) ?_
      have J7T : (s5.1 = true) ∧ (s5.2.1 ≤ (561 : Int32)) → ∀ (H : Heap) (locs : List Loc), HW zC g s5.2.2 s.heap H locs → W p l e (rmd 4) s m args below meth c H locs 0 0 (MQ below (Qw zC g wz none) args s 0 0 (zA zC g)) (F0 m 38 ls []) := by
        intro hc H locs hH
        replace hF := ifp hc hF
        refine lv_aload_n hx hb dX7_solve_38 rfl (lv_at hl 0 rfl) ?_
        refine w_geti X hH hk0 fs_7_2 lk_7_18 dX7_solve_39 ?_
        refine lv_istore (lv' := [(4, .int ((s5.2.2.1 (k0) 2))), (0, .ref (g.2.2 (k0))), (1, .ref (g.2.2 (v_program))), (2, .int (bI (s5.1))), (3, .int (s5.2.1))]) hx hb dX7_solve_42 hl (by decide) rfl (fun ls hl => ?_)
        refine lv_aload_n hx hb dX7_solve_44 rfl (lv_at hl 1 rfl) ?_
        refine w_getr X hH hk0 fs_7_0 lk_7_9 dX7_solve_45 ?_
        refine lv_iconst (v := (0 : Int32)) hx hb dX7_solve_48 (by decide) ?_
        refine lv_aload_n hx hb dX7_solve_49 rfl (lv_at hl 1 rfl) ?_
        refine w_getr X hH hk0 fs_7_1 lk_7_15 dX7_solve_50 ?_
        refine lv_iconst (v := (0 : Int32)) hx hb dX7_solve_53 (by decide) ?_
        refine lv_bipush (v := (56 : Int32)) hx hb dX7_solve_54 (by decide) ?_
        obtain ⟨w10, h10, hF⟩ := ob hF
        refine w_copy X hH h10 (rt_C_7_0 hk0) (rt_C_7_1 hk0) tw_2_177 tw_2_179 tw_2_178 tw_1_16 hl.1 (Nat.le_of_ble_eq_true rfl) (Nat.le_of_ble_eq_true rfl) dX7_solve_56 (fun H locs hH => ?_)
        refine lv_iconst (v := (0 : Int32)) hx hb dX7_solve_59 (by decide) ?_
        refine lv_istore (lv' := [(5, .int ((0 : Int32))), (4, .int ((s5.2.2.1 (k0) 2))), (0, .ref (g.2.2 (k0))), (1, .ref (g.2.2 (v_program))), (2, .int (bI (s5.1))), (3, .int (s5.2.1))]) hx hb dX7_solve_60 hl (by decide) rfl (fun ls hl => ?_)
        obtain ⟨r12, hLr12, hF⟩ := ob hF
        have Jr12 : ∀ (H : Heap) (locs : List Loc) (ls : Array Slot), HW zC g r12 s.heap H locs → lv_has ls 6 [(0, .ref (g.2.2 (k0))), (1, .ref (g.2.2 (v_program))), (2, .int (bI (s5.1))), (3, .int (s5.2.1)), (4, .int ((s5.2.2.1 (k0) 2)))] → W p l e (rmd 4) s m args below meth c H locs 0 0 (MQ below (Qw zC g wz none) args s 0 0 (zA zC g)) (F0 m 100 ls []) := by
          intro H locs ls hH hl
          refine lv_aload_n hx hb dX7_solve_100 rfl (lv_at hl 0 rfl) ?_
          refine w_geti X hH hk0 fs_7_2 lk_7_18 dX7_solve_101 ?_
          refine lv_iload hx hb dX7_solve_104 (lv_at hl 4 rfl) ?_
          have J17 : ∀ (H : Heap) (locs : List Loc), HW zC g r12 s.heap H locs → W p l e (rmd 4) s m args below meth c H locs 0 0 (MQ below (Qw zC g wz none) args s 0 0 (zA zC g)) (F0 m 114 ls [.int (bI ((decide ((s5.2.2.1 (k0) 2) < (r12.1 (k0) 2)))))]) := by
            intro H locs hH
            refine lv_istore_n (lv' := [(2, .int (bI ((decide ((s5.2.2.1 (k0) 2) < (r12.1 (k0) 2)))))), (0, .ref (g.2.2 (k0))), (1, .ref (g.2.2 (v_program))), (3, .int (s5.2.1)), (4, .int ((s5.2.2.1 (k0) 2)))]) hx hb dX7_solve_114 rfl hl (by decide) rfl (fun ls hl => ?_)
            refine lv_aload_n hx hb dX7_solve_115 rfl (lv_at hl 1 rfl) ?_
            refine lv_iload_n hx hb dX7_solve_116 rfl (lv_at hl 0 rfl) ?_
            have J19 : ∀ (H : Heap) (locs : List Loc), HW zC g r12 s.heap H locs → W p l e (rmd 4) s m args below meth c H locs 0 0 (MQ below (Qw zC g wz none) args s 0 0 (zA zC g)) (F0 m 128 ls [.int ((if (decide ((s5.2.2.1 (k0) 2) < (r12.1 (k0) 2))) = true then s5.2.1 else (r12.1 (k0) 3))), .ref (g.2.2 (k0))]) := by
              intro H locs hH
              obtain ⟨w21, h21, hF⟩ := ob hF
              refine w_puti X hH h21 hk0 fs_7_3 nf_7_3 lk_7_22 dX7_solve_128 (fun H locs hH => ?_)
              refine lv_iinc (v := (s5.2.1 + (1 : Int32))) (lv' := [(3, .int ((s5.2.1 + (1 : Int32)))), (2, .int (bI ((decide ((s5.2.2.1 (k0) 2) < (r12.1 (k0) 2)))))), (0, .ref (g.2.2 (k0))), (1, .ref (g.2.2 (v_program))), (4, .int ((s5.2.2.1 (k0) 2)))]) hx hb dX7_solve_131 hl (k := 3) rfl rfl (by decide) rfl (fun ls hl => ?_)
              refine lv_goto (tgt := 27) hx hb dX7_solve_134 (by decide) ?_
              obtain rfl := se1 hF
              exact ih _ hL _ _ _ hH (lv_sub hl [2, 3, 1, 0] rfl)
            refine w_b_f (tgt := 124) hx hb dX7_solve_117 (by decide) (fun c20 => ?_) (fun c20 => ?_)
            · refine lv_aload_n hx hb dX7_solve_124 rfl (lv_at hl 1 rfl) ?_
              refine w_geti X hH hk0 fs_7_3 lk_7_22 dX7_solve_125 ?_
              exact w_in c20 (J19 _ _ hH)
            · refine lv_iload_n hx hb dX7_solve_120 rfl (lv_at hl 3 rfl) ?_
              refine lv_goto (tgt := 128) hx hb dX7_solve_121 (by decide) ?_
              exact w_ip c20 (J19 _ _ hH)
          refine w_igt_f (tgt := 113) hx hb dX7_solve_106 (by decide) (fun c18 => ?_) (fun c18 => ?_)
          · refine lv_iconst (v := (0 : Int32)) hx hb dX7_solve_113 (by decide) ?_
            exact w_b0 c18 (J17 _ _ hH)
          · refine lv_iconst (v := (1 : Int32)) hx hb dX7_solve_109 (by decide) ?_
            refine lv_goto (tgt := 114) hx hb dX7_solve_110 (by decide) ?_
            exact w_b1 c18 (J17 _ _ hH)
        have Lr12 : ∀ (n : Nat) (s11 : Int32 × Wd), lp (b_X7_solve_2 v_program k0 s5) n s11 = some r12 → ∀ (H : Heap) (locs : List Loc) (ls : Array Slot), HW zC g s11.2 s.heap H locs → lv_has ls 6 [(0, .ref (g.2.2 (k0))), (1, .ref (g.2.2 (v_program))), (2, .int (bI (s5.1))), (3, .int (s5.2.1)), (4, .int ((s5.2.2.1 (k0) 2))), (5, .int (s11.1))] → W p l e (rmd 4) s m args below meth c H locs 0 0 (MQ below (Qw zC g wz none) args s 0 0 (zA zC g)) (F0 m 62 ls []) := by
          intro n
          induction n with
          | zero => intro s11 hL; exact lp_0 hL
          | succ n ih =>
            intro s11 hL H locs ls hH hl
            obtain ⟨bb, hF, hL⟩ := lp_s hL
            unfold b_X7_solve_2 at hF
            refine lv_iload hx hb dX7_solve_62 (lv_at hl 5 rfl) ?_
            refine lv_aload_n hx hb dX7_solve_64 rfl (lv_at hl 1 rfl) ?_
            refine w_getr X hH hv_program fs_6_6 lk_7_58 dX7_solve_65 ?_
            refine w_geti X hH (rt_C_6_6 hv_program) fs_0_4 lk_7_64 dX7_solve_68 ?_
            refine w_ilt_f (tgt := 100) hx hb dX7_solve_71 (by decide) (fun c13 => ?_) (fun c13 => ?_)
            · replace hF := ifn c13 hF
              obtain rfl := se1 hF
              subst hL
              exact Jr12 _ _ _ hH (lv_sub hl [0, 1, 2, 3, 4] rfl)
            · replace hF := ifp c13 hF
              obtain ⟨s14, hs14, hF⟩ := ob hF
              have Js14 : ∀ (H : Heap) (locs : List Loc) (ls : Array Slot), HW zC g s14 s.heap H locs → lv_has ls 6 [(0, .ref (g.2.2 (k0))), (1, .ref (g.2.2 (v_program))), (2, .int (bI (s5.1))), (3, .int (s5.2.1)), (4, .int ((s5.2.2.1 (k0) 2))), (5, .int (s11.1))] → W p l e (rmd 4) s m args below meth c H locs 0 0 (MQ below (Qw zC g wz none) args s 0 0 (zA zC g)) (F0 m 94 ls []) := by
                intro H locs ls hH hl
                refine lv_iinc (v := (s11.1 + (1 : Int32))) (lv' := [(5, .int ((s11.1 + (1 : Int32)))), (0, .ref (g.2.2 (k0))), (1, .ref (g.2.2 (v_program))), (2, .int (bI (s5.1))), (3, .int (s5.2.1)), (4, .int ((s5.2.2.1 (k0) 2)))]) hx hb dX7_solve_94 hl (k := 5) rfl rfl (by decide) rfl (fun ls hl => ?_)
                refine lv_goto (tgt := 62) hx hb dX7_solve_97 (by decide) ?_
                obtain rfl := se1 hF
                exact ih _ hL _ _ _ hH (lv_sub hl [1, 2, 3, 4, 5, 0] rfl)
              have hF := hs14
              refine lv_aload_n hx hb dX7_solve_74 rfl (lv_at hl 1 rfl) ?_
              refine w_getr X hH hv_program fs_6_6 lk_7_58 dX7_solve_75 ?_
              refine lv_iload hx hb dX7_solve_78 (lv_at hl 5 rfl) ?_
              refine w_callV (As := [.int (s11.1)]) (k := (zrf zC (v_program) 6)) (rest := []) (st1 := [.int (bI ((f_X0_isEnabled s11.2 ((zrf zC (v_program) 6)) (s11.1))))]) X hH (c_X0_isEnabled (l := l) (g := g) (w := s11.2) (k0 := (zrf zC (v_program) 6)) (v_constraint := s11.1) rfl (rt_C_6_6 hv_program)) (Or.inr ⟨_, tw_2_180⟩) ms_X0_isEnabled im_X0_isEnabled (rt_C_6_6 hv_program) cn_0 ⟨Nat.le_of_ble_eq_true rfl, Nat.le_of_ble_eq_true rfl⟩ rfl rfl hl.1 (Nat.le_of_ble_eq_true rfl) dX7_solve_80 ⟨Nat.le_refl _, Nat.le_refl _⟩ rfl (fun H locs hH => ?_)
              refine w_b_f (tgt := 94) hx hb dX7_solve_83 (by decide) (fun c15 => ?_) (fun c15 => ?_)
              · replace hF := ifn c15 hF
                obtain rfl := se1 hF
                exact Js14 _ _ _ hH (lv_sub hl [0, 1, 2, 3, 4, 5] rfl)
              · replace hF := ifp c15 hF
                refine lv_aload_n hx hb dX7_solve_86 rfl (lv_at hl 0 rfl) ?_
                refine lv_aload_n hx hb dX7_solve_87 rfl (lv_at hl 1 rfl) ?_
                refine lv_iload hx hb dX7_solve_88 (lv_at hl 5 rfl) ?_
                refine lv_iload_n hx hb dX7_solve_90 rfl (lv_at hl 3 rfl) ?_
                obtain ⟨w16, h16, hF⟩ := ob hF
                refine w_callV (As := [.ref (g.2.2 (v_program)), .int (s11.1), .int (s5.2.1)]) (k := k0) (rest := []) (st1 := []) X hH (c_X7_apply (l := l) (g := g) (w := s11.2) (k0 := k0) (v_program := v_program) (v_constraint := s11.1) (v_round := s5.2.1) h16 hk0 hv_program) (Or.inl tw_2_185) ms_X7_apply im_X7_apply hk0 cn_7 ⟨Nat.le_of_ble_eq_true rfl, Nat.le_of_ble_eq_true rfl⟩ rfl rfl hl.1 (Nat.le_of_ble_eq_true rfl) dX7_solve_91 ⟨Nat.le_refl _, Nat.le_refl _⟩ rfl (fun H locs hH => ?_)
                obtain rfl := se1 hF
                exact Js14 _ _ _ hH (lv_sub hl [0, 1, 2, 3, 4, 5] rfl)
        exact Lr12 NF _ hLr12 _ _ _ hH (lv_sub hl [2, 3, 4, 5, 1, 0] rfl)
      have J7F : ¬ ((s5.1 = true) ∧ (s5.2.1 ≤ (561 : Int32))) → ∀ (H : Heap) (locs : List Loc), HW zC g s5.2.2 s.heap H locs → W p l e (rmd 4) s m args below meth c H locs 0 0 (MQ below (Qw zC g wz none) args s 0 0 (zA zC g)) (F0 m 137 ls []) := by
        intro hc H locs hH
        replace hF := ifn hc hF
        obtain rfl := se1 hF
        subst hL
        exact Jr6 _ _ _ hH (lv_sub hl [0, 1, 2] rfl)
      refine w_b_f (tgt := 137) hx hb dX7_solve_28 (by decide) (fun c8 => ?_) (fun c8 => ?_)
      · exact J7F (fun z => c8 z.1) _ _ hH
      · refine lv_iload_n hx hb dX7_solve_31 rfl (lv_at hl 3 rfl) ?_
        refine lv_sipush (v := (561 : Int32)) hx hb dX7_solve_32 (by decide) ?_
        refine w_ile_f (tgt := 137) hx hb dX7_solve_35 (by decide) (fun c9 => ?_) (fun c9 => ?_)
        · exact J7F (fun z => c9 z.2) _ _ hH
        · exact J7T ⟨c8, c9⟩ _ _ hH
  exact Lr6 NF _ hLr6 _ _ _ hH (lv_sub hl [2, 3, 1, 0] rfl)

theorem dX9_settle_0 : decode cX9_settle 0 = .ok (.aload_n 0, 1) := by decide +kernel
theorem dX9_settle_1 : decode cX9_settle 1 = .ok (.getfield 47, 3) := by decide +kernel
theorem dX9_settle_4 : decode cX9_settle 4 = .ok (.aload_n 0, 1) := by decide +kernel
theorem dX9_settle_5 : decode cX9_settle 5 = .ok (.getfield 19, 3) := by decide +kernel
theorem dX9_settle_8 : decode cX9_settle 8 = .ok (.invokevirtual 306, 3) := by decide +kernel
theorem dX9_settle_11 : decode cX9_settle 11 = .ok (.aload_n 0, 1) := by decide +kernel
theorem dX9_settle_12 : decode cX9_settle 12 = .ok (.iconst 1, 1) := by decide +kernel
theorem dX9_settle_13 : decode cX9_settle 13 = .ok (.putfield 65, 3) := by decide +kernel
theorem dX9_settle_16 : decode cX9_settle 16 = .ok (.aload_n 0, 1) := by decide +kernel
theorem dX9_settle_17 : decode cX9_settle 17 = .ok (.iconst 1, 1) := by decide +kernel
theorem dX9_settle_18 : decode cX9_settle 18 = .ok (.putfield 69, 3) := by decide +kernel
theorem dX9_settle_21 : decode cX9_settle 21 = .ok (.return_, 1) := by decide +kernel
set_option maxHeartbeats 4000000 in
set_option maxRecDepth 100000 in
theorem c_X9_settle {l : Launch} {g : Gh} {w : Wd} {k0 : Nat} {wz : Wd} (hF : f_X9_settle w k0 = some wz) (hk0 : zct zC k0 = 9) : Met l yX9_settle (Cond.code yX9_settle cX9_settle 1 none :: TT) (rmd 5) (Pcw zC g w [.ref (g.2.2 k0)]) (Qw zC g wz none) 0 0 (zA zC g) := by
  refine mt_start (by decide) (Nat.le_of_ble_eq_true rfl) ?_
  intro p e s m args below meth c H locs ls X hr hl hH
  have hx := X.1
  have hb := X.2.1
  have hml := X.2.2.1
  have hown := X.2.2.2.1
  have ht := X.2.2.2.2.1
  have hl : lv_has ls 1 [(0, .ref (g.2.2 (k0)))] := hl
  unfold f_X9_settle at hF
  refine lv_aload_n hx hb dX9_settle_0 rfl (lv_at hl 0 rfl) ?_
  refine w_getr X hH hk0 fs_9_6 lk_9_47 dX9_settle_1 ?_
  refine lv_aload_n hx hb dX9_settle_4 rfl (lv_at hl 0 rfl) ?_
  obtain ⟨x1, h1, hF⟩ := ob hF
  refine w_getd X hH h1 hk0 fs_9_1 lk_9_19 dX9_settle_5 (fun q1 => ?_)
  obtain ⟨w2, h2, hF⟩ := ob hF
  refine w_callV (As := [.ref (g.2.2 (x1))]) (k := (zrf zC (k0) 6)) (rest := []) (st1 := []) X hH (c_X7_solve (l := l) (g := g) (w := w) (k0 := (zrf zC (k0) 6)) (v_program := x1) h2 (rt_C_9_6 hk0) q1) (Or.inr ⟨_, tw_2_170⟩) ms_X7_solve im_X7_solve (rt_C_9_6 hk0) cn_7 ⟨Nat.le_of_ble_eq_true rfl, Nat.le_of_ble_eq_true rfl⟩ rfl rfl hl.1 (Nat.le_of_ble_eq_true rfl) dX9_settle_8 ⟨Nat.le_refl _, Nat.le_refl _⟩ rfl (fun H locs hH => ?_)
  refine lv_aload_n hx hb dX9_settle_11 rfl (lv_at hl 0 rfl) ?_
  refine lv_iconst (v := bI true) hx hb dX9_settle_12 (by decide) ?_
  obtain ⟨w3, h3, hF⟩ := ob hF
  refine w_putz X hH h3 hk0 fs_9_9 nf_9_9 lk_9_65 dX9_settle_13 (fun H locs hH => ?_)
  refine lv_aload_n hx hb dX9_settle_16 rfl (lv_at hl 0 rfl) ?_
  refine lv_iconst (v := bI true) hx hb dX9_settle_17 (by decide) ?_
  obtain ⟨w4, h4, hF⟩ := ob hF
  refine w_putz X hH h4 hk0 fs_9_10 nf_9_10 lk_9_69 dX9_settle_18 (fun H locs hH => ?_)
  obtain rfl := se1 hF
  exact w_vret X hH hr dX9_settle_21

theorem dX9_parse_0 : decode cX9_parse 0 = .ok (.iload_n 1, 1) := by decide +kernel
theorem dX9_parse_1 : decode cX9_parse 1 = .ok (.ifCond .lt 14, 3) := by decide +kernel
theorem dX9_parse_4 : decode cX9_parse 4 = .ok (.iload_n 1, 1) := by decide +kernel
theorem dX9_parse_5 : decode cX9_parse 5 = .ok (.aload_n 0, 1) := by decide +kernel
theorem dX9_parse_6 : decode cX9_parse 6 = .ok (.getfield 12, 3) := by decide +kernel
theorem dX9_parse_9 : decode cX9_parse 9 = .ok (.getfield 79, 3) := by decide +kernel
theorem dX9_parse_12 : decode cX9_parse 12 = .ok (.if_icmp .le 5, 3) := by decide +kernel
theorem dX9_parse_15 : decode cX9_parse 15 = .ok (.iconst (-1), 1) := by decide +kernel
theorem dX9_parse_16 : decode cX9_parse 16 = .ok (.ireturn, 1) := by decide +kernel
theorem dX9_parse_17 : decode cX9_parse 17 = .ok (.aload_n 0, 1) := by decide +kernel
theorem dX9_parse_18 : decode cX9_parse 18 = .ok (.getfield 12, 3) := by decide +kernel
theorem dX9_parse_21 : decode cX9_parse 21 = .ok (.iload_n 1, 1) := by decide +kernel
theorem dX9_parse_22 : decode cX9_parse 22 = .ok (.aload_n 0, 1) := by decide +kernel
theorem dX9_parse_23 : decode cX9_parse 23 = .ok (.getfield 23, 3) := by decide +kernel
theorem dX9_parse_26 : decode cX9_parse 26 = .ok (.invokevirtual 86, 3) := by decide +kernel
theorem dX9_parse_29 : decode cX9_parse 29 = .ok (.istore_n 2, 1) := by decide +kernel
theorem dX9_parse_30 : decode cX9_parse 30 = .ok (.iload_n 2, 1) := by decide +kernel
theorem dX9_parse_31 : decode cX9_parse 31 = .ok (.ifCond .eq 8, 3) := by decide +kernel
theorem dX9_parse_34 : decode cX9_parse 34 = .ok (.bipush (-2), 2) := by decide +kernel
theorem dX9_parse_36 : decode cX9_parse 36 = .ok (.iload_n 2, 1) := by decide +kernel
theorem dX9_parse_37 : decode cX9_parse 37 = .ok (.isub, 1) := by decide +kernel
theorem dX9_parse_38 : decode cX9_parse 38 = .ok (.ireturn, 1) := by decide +kernel
theorem dX9_parse_39 : decode cX9_parse 39 = .ok (.aload_n 0, 1) := by decide +kernel
theorem dX9_parse_40 : decode cX9_parse 40 = .ok (.getfield 19, 3) := by decide +kernel
theorem dX9_parse_43 : decode cX9_parse 43 = .ok (.astore_n 3, 1) := by decide +kernel
theorem dX9_parse_44 : decode cX9_parse 44 = .ok (.aload_n 0, 1) := by decide +kernel
theorem dX9_parse_45 : decode cX9_parse 45 = .ok (.aload_n 0, 1) := by decide +kernel
theorem dX9_parse_46 : decode cX9_parse 46 = .ok (.getfield 23, 3) := by decide +kernel
theorem dX9_parse_49 : decode cX9_parse 49 = .ok (.putfield 19, 3) := by decide +kernel
theorem dX9_parse_52 : decode cX9_parse 52 = .ok (.aload_n 0, 1) := by decide +kernel
theorem dX9_parse_53 : decode cX9_parse 53 = .ok (.aload_n 3, 1) := by decide +kernel
theorem dX9_parse_54 : decode cX9_parse 54 = .ok (.putfield 23, 3) := by decide +kernel
theorem dX9_parse_57 : decode cX9_parse 57 = .ok (.aload_n 0, 1) := by decide +kernel
theorem dX9_parse_58 : decode cX9_parse 58 = .ok (.getfield 29, 3) := by decide +kernel
theorem dX9_parse_61 : decode cX9_parse 61 = .ok (.invokevirtual 90, 3) := by decide +kernel
theorem dX9_parse_64 : decode cX9_parse 64 = .ok (.aload_n 0, 1) := by decide +kernel
theorem dX9_parse_65 : decode cX9_parse 65 = .ok (.iconst 0, 1) := by decide +kernel
theorem dX9_parse_66 : decode cX9_parse 66 = .ok (.putfield 40, 3) := by decide +kernel
theorem dX9_parse_69 : decode cX9_parse 69 = .ok (.aload_n 0, 1) := by decide +kernel
theorem dX9_parse_70 : decode cX9_parse 70 = .ok (.invokevirtual 93, 3) := by decide +kernel
theorem dX9_parse_73 : decode cX9_parse 73 = .ok (.aload_n 0, 1) := by decide +kernel
theorem dX9_parse_74 : decode cX9_parse 74 = .ok (.getfield 19, 3) := by decide +kernel
theorem dX9_parse_77 : decode cX9_parse 77 = .ok (.getfield 96, 3) := by decide +kernel
theorem dX9_parse_80 : decode cX9_parse 80 = .ok (.getfield 100, 3) := by decide +kernel
theorem dX9_parse_83 : decode cX9_parse 83 = .ok (.ireturn, 1) := by decide +kernel
set_option maxHeartbeats 4000000 in
set_option maxRecDepth 100000 in
theorem c_X9_parse {l : Launch} {g : Gh} {w : Wd} {k0 : Nat} {v_length : Int32} {rz : Int32} {wz : Wd} (hF : f_X9_parse w k0 v_length = some (rz, wz)) (hk0 : zct zC k0 = 9) : Met l yX9_parse (Cond.code yX9_parse cX9_parse 4 (some .int) :: TT) (rmd 6) (Pcw zC g w [.ref (g.2.2 k0), .int (v_length)]) (Qw zC g wz (some (.int (rz)))) 0 0 (zA zC g) := by
  refine mt_start (by decide) (Nat.le_of_ble_eq_true rfl) ?_
  intro p e s m args below meth c H locs ls X hr hl hH
  have hx := X.1
  have hb := X.2.1
  have hml := X.2.2.1
  have hown := X.2.2.2.1
  have ht := X.2.2.2.2.1
  have hl : lv_has ls 4 [(0, .ref (g.2.2 (k0))), (1, .int (v_length))] := hl
  unfold f_X9_parse at hF
  refine lv_iload_n hx hb dX9_parse_0 rfl (lv_at hl 1 rfl) ?_
  have J1T : (v_length < (0 : Int32)) ∨ ((w.1 ((zrf zC (k0) 0)) 1) < v_length) → ∀ (H : Heap) (locs : List Loc), HW zC g w s.heap H locs → W p l e (rmd 6) s m args below meth c H locs 0 0 (MQ below (Qw zC g wz (some (.int (rz)))) args s 0 0 (zA zC g)) (F0 m 15 ls []) := by
    intro hc H locs hH
    replace hF := ifp hc hF
    refine lv_iconst (v := (-1 : Int32)) hx hb dX9_parse_15 (by decide) ?_
    obtain ⟨rfl, rfl⟩ := se2 hF
    exact w_iret X hH hr dX9_parse_16
  have J1F : ¬ ((v_length < (0 : Int32)) ∨ ((w.1 ((zrf zC (k0) 0)) 1) < v_length)) → ∀ (H : Heap) (locs : List Loc), HW zC g w s.heap H locs → W p l e (rmd 6) s m args below meth c H locs 0 0 (MQ below (Qw zC g wz (some (.int (rz)))) args s 0 0 (zA zC g)) (F0 m 17 ls []) := by
    intro hc H locs hH
    replace hF := ifn hc hF
    refine lv_aload_n hx hb dX9_parse_17 rfl (lv_at hl 0 rfl) ?_
    refine w_getr X hH hk0 fs_9_0 lk_9_12 dX9_parse_18 ?_
    refine lv_iload_n hx hb dX9_parse_21 rfl (lv_at hl 1 rfl) ?_
    refine lv_aload_n hx hb dX9_parse_22 rfl (lv_at hl 0 rfl) ?_
    obtain ⟨x4, h4, hF⟩ := ob hF
    refine w_getd X hH h4 hk0 fs_9_2 lk_9_23 dX9_parse_23 (fun q4 => ?_)
    obtain ⟨x5, h5, hF⟩ := ob hF
    refine w_callV (As := [.int (v_length), .ref (g.2.2 (x4))]) (k := (zrf zC (k0) 0)) (rest := []) (st1 := [.int (x5.1)]) X hH (c_X5_read (l := l) (g := g) (w := w) (k0 := (zrf zC (k0) 0)) (v_count := v_length) (v_into := x4) h5 (rt_C_9_0 hk0) q4) (Or.inr ⟨_, tw_2_81⟩) ms_X5_read im_X5_read (rt_C_9_0 hk0) cn_5 ⟨Nat.le_of_ble_eq_true rfl, Nat.le_of_ble_eq_true rfl⟩ rfl rfl hl.1 (Nat.le_of_ble_eq_true rfl) dX9_parse_26 ⟨Nat.le_refl _, Nat.le_refl _⟩ rfl (fun H locs hH => ?_)
    refine lv_istore_n (lv' := [(2, .int (x5.1)), (0, .ref (g.2.2 (k0))), (1, .int (v_length))]) hx hb dX9_parse_29 rfl hl (by decide) rfl (fun ls hl => ?_)
    refine lv_iload_n hx hb dX9_parse_30 rfl (lv_at hl 0 rfl) ?_
    refine w_zne_f (tgt := 39) hx hb dX9_parse_31 (by decide) (fun c6 => ?_) (fun c6 => ?_)
    · replace hF := ifn c6 hF
      refine lv_aload_n hx hb dX9_parse_39 rfl (lv_at hl 1 rfl) ?_
      obtain ⟨x7, h7, hF⟩ := ob hF
      refine w_getd X hH h7 hk0 fs_9_1 lk_9_19 dX9_parse_40 (fun q7 => ?_)
      refine lv_astore_n (lv' := [(3, .ref (g.2.2 (x7))), (2, .int (x5.1)), (0, .ref (g.2.2 (k0))), (1, .int (v_length))]) hx hb dX9_parse_43 rfl hl (by decide) rfl (fun ls hl => ?_)
      refine lv_aload_n hx hb dX9_parse_44 rfl (lv_at hl 2 rfl) ?_
      refine lv_aload_n hx hb dX9_parse_45 rfl (lv_at hl 2 rfl) ?_
      obtain ⟨x8, h8, hF⟩ := ob hF
      refine w_getd X hH h8 hk0 fs_9_2 lk_9_23 dX9_parse_46 (fun q8 => ?_)
      obtain ⟨w9, h9, hF⟩ := ob hF
      refine w_putd X hH h9 hk0 fs_9_1 nf_9_1 lk_9_19 dX9_parse_49 (fun H locs hH => ?_)
      refine lv_aload_n hx hb dX9_parse_52 rfl (lv_at hl 2 rfl) ?_
      refine lv_aload_n hx hb dX9_parse_53 rfl (lv_at hl 0 rfl) ?_
      obtain ⟨w10, h10, hF⟩ := ob hF
      refine w_putd X hH h10 hk0 fs_9_2 nf_9_2 lk_9_23 dX9_parse_54 (fun H locs hH => ?_)
      refine lv_aload_n hx hb dX9_parse_57 rfl (lv_at hl 2 rfl) ?_
      refine w_getr X hH hk0 fs_9_3 lk_9_29 dX9_parse_58 ?_
      obtain ⟨w11, h11, hF⟩ := ob hF
      refine w_callV (As := []) (k := (zrf zC (k0) 3)) (rest := []) (st1 := []) X hH (c_X3_clear (l := l) (g := g) (w := w10) (k0 := (zrf zC (k0) 3)) h11 (rt_C_9_3 hk0)) (Or.inr ⟨_, tw_2_162⟩) ms_X3_clear im_X3_clear (rt_C_9_3 hk0) cn_3 ⟨Nat.le_of_ble_eq_true rfl, Nat.le_of_ble_eq_true rfl⟩ rfl rfl hl.1 (Nat.le_of_ble_eq_true rfl) dX9_parse_61 ⟨Nat.le_refl _, Nat.le_refl _⟩ rfl (fun H locs hH => ?_)
      refine lv_aload_n hx hb dX9_parse_64 rfl (lv_at hl 2 rfl) ?_
      refine lv_iconst (v := (0 : Int32)) hx hb dX9_parse_65 (by decide) ?_
      obtain ⟨w12, h12, hF⟩ := ob hF
      refine w_puti X hH h12 hk0 fs_9_5 nf_9_5 lk_9_40 dX9_parse_66 (fun H locs hH => ?_)
      refine lv_aload_n hx hb dX9_parse_69 rfl (lv_at hl 2 rfl) ?_
      obtain ⟨w13, h13, hF⟩ := ob hF
      refine w_callV (As := []) (k := k0) (rest := []) (st1 := []) X hH (c_X9_settle (l := l) (g := g) (w := w12) (k0 := k0) h13 hk0) (Or.inl tw_2_166) ms_X9_settle im_X9_settle hk0 cn_9 ⟨Nat.le_of_ble_eq_true rfl, Nat.le_of_ble_eq_true rfl⟩ rfl rfl hl.1 (Nat.le_of_ble_eq_true rfl) dX9_parse_70 ⟨Nat.le_refl _, Nat.le_refl _⟩ rfl (fun H locs hH => ?_)
      refine lv_aload_n hx hb dX9_parse_73 rfl (lv_at hl 2 rfl) ?_
      obtain ⟨x14, h14, hF⟩ := ob hF
      refine w_getd X hH h14 hk0 fs_9_1 lk_9_19 dX9_parse_74 (fun q14 => ?_)
      refine w_getr X hH q14 fs_6_6 lk_9_96 dX9_parse_77 ?_
      refine w_geti X hH (rt_C_6_6 q14) fs_0_4 lk_9_100 dX9_parse_80 ?_
      obtain ⟨rfl, rfl⟩ := se2 hF
      exact w_iret X hH hr dX9_parse_83
    · replace hF := ifp c6 hF
      refine lv_bipush (v := (-2 : Int32)) hx hb dX9_parse_34 (by decide) ?_
      refine lv_iload_n hx hb dX9_parse_36 rfl (lv_at hl 0 rfl) ?_
      refine lv_isub hx hb dX9_parse_37 ?_
      obtain ⟨rfl, rfl⟩ := se2 hF
      exact w_iret X hH hr dX9_parse_38
  refine w_zlt_t (tgt := 15) hx hb dX9_parse_1 (by decide) (fun c2 => ?_) (fun c2 => ?_)
  · exact J1T (Or.inl c2) _ _ hH
  · refine lv_iload_n hx hb dX9_parse_4 rfl (lv_at hl 1 rfl) ?_
    refine lv_aload_n hx hb dX9_parse_5 rfl (lv_at hl 0 rfl) ?_
    refine w_getr X hH hk0 fs_9_0 lk_9_12 dX9_parse_6 ?_
    refine w_geti X hH (rt_C_9_0 hk0) fs_5_1 lk_9_79 dX9_parse_9 ?_
    refine w_igt_f (tgt := 17) hx hb dX9_parse_12 (by decide) (fun c3 => ?_) (fun c3 => ?_)
    · exact J1F (fun z => z.elim c2 c3) _ _ hH
    · exact J1T (Or.inr c3) _ _ hH

theorem dX9_variableCount_0 : decode cX9_variableCount 0 = .ok (.aload_n 0, 1) := by decide +kernel
theorem dX9_variableCount_1 : decode cX9_variableCount 1 = .ok (.getfield 19, 3) := by decide +kernel
theorem dX9_variableCount_4 : decode cX9_variableCount 4 = .ok (.getfield 103, 3) := by decide +kernel
theorem dX9_variableCount_7 : decode cX9_variableCount 7 = .ok (.getfield 107, 3) := by decide +kernel
theorem dX9_variableCount_10 : decode cX9_variableCount 10 = .ok (.ireturn, 1) := by decide +kernel
set_option maxHeartbeats 4000000 in
set_option maxRecDepth 100000 in
theorem c_X9_variableCount {l : Launch} {g : Gh} {w : Wd} {k0 : Nat} {rz : Int32} (hF : f_X9_variableCount w k0 = some rz) (hk0 : zct zC k0 = 9) : Met l yX9_variableCount (Cond.code yX9_variableCount cX9_variableCount 1 (some .int) :: TT) (rmd 0) (Pcw zC g w [.ref (g.2.2 k0)]) (Qw zC g w (some (.int (rz)))) 0 0 (zA zC g) := by
  refine mt_start (by decide) (Nat.le_of_ble_eq_true rfl) ?_
  intro p e s m args below meth c H locs ls X hr hl hH
  have hx := X.1
  have hb := X.2.1
  have hml := X.2.2.1
  have hown := X.2.2.2.1
  have ht := X.2.2.2.2.1
  have hl : lv_has ls 1 [(0, .ref (g.2.2 (k0)))] := hl
  unfold f_X9_variableCount at hF
  refine lv_aload_n hx hb dX9_variableCount_0 rfl (lv_at hl 0 rfl) ?_
  obtain ⟨x1, h1, hF⟩ := ob hF
  refine w_getd X hH h1 hk0 fs_9_1 lk_9_19 dX9_variableCount_1 (fun q1 => ?_)
  refine w_getr X hH q1 fs_6_0 lk_9_103 dX9_variableCount_4 ?_
  refine w_geti X hH (rt_C_6_0 q1) fs_4_2 lk_9_107 dX9_variableCount_7 ?_
  obtain rfl := se1 hF
  exact w_iret X hH hr dX9_variableCount_10

theorem dX9_objectCount_0 : decode cX9_objectCount 0 = .ok (.aload_n 0, 1) := by decide +kernel
theorem dX9_objectCount_1 : decode cX9_objectCount 1 = .ok (.getfield 19, 3) := by decide +kernel
theorem dX9_objectCount_4 : decode cX9_objectCount 4 = .ok (.getfield 110, 3) := by decide +kernel
theorem dX9_objectCount_7 : decode cX9_objectCount 7 = .ok (.getfield 107, 3) := by decide +kernel
theorem dX9_objectCount_10 : decode cX9_objectCount 10 = .ok (.ireturn, 1) := by decide +kernel
set_option maxHeartbeats 4000000 in
set_option maxRecDepth 100000 in
theorem c_X9_objectCount {l : Launch} {g : Gh} {w : Wd} {k0 : Nat} {rz : Int32} (hF : f_X9_objectCount w k0 = some rz) (hk0 : zct zC k0 = 9) : Met l yX9_objectCount (Cond.code yX9_objectCount cX9_objectCount 1 (some .int) :: TT) (rmd 0) (Pcw zC g w [.ref (g.2.2 k0)]) (Qw zC g w (some (.int (rz)))) 0 0 (zA zC g) := by
  refine mt_start (by decide) (Nat.le_of_ble_eq_true rfl) ?_
  intro p e s m args below meth c H locs ls X hr hl hH
  have hx := X.1
  have hb := X.2.1
  have hml := X.2.2.1
  have hown := X.2.2.2.1
  have ht := X.2.2.2.2.1
  have hl : lv_has ls 1 [(0, .ref (g.2.2 (k0)))] := hl
  unfold f_X9_objectCount at hF
  refine lv_aload_n hx hb dX9_objectCount_0 rfl (lv_at hl 0 rfl) ?_
  obtain ⟨x1, h1, hF⟩ := ob hF
  refine w_getd X hH h1 hk0 fs_9_1 lk_9_19 dX9_objectCount_1 (fun q1 => ?_)
  refine w_getr X hH q1 fs_6_1 lk_9_110 dX9_objectCount_4 ?_
  refine w_geti X hH (rt_C_6_1 q1) fs_4_2 lk_9_107 dX9_objectCount_7 ?_
  obtain rfl := se1 hF
  exact w_iret X hH hr dX9_objectCount_10

theorem dX9_fieldCount_0 : decode cX9_fieldCount 0 = .ok (.aload_n 0, 1) := by decide +kernel
theorem dX9_fieldCount_1 : decode cX9_fieldCount 1 = .ok (.getfield 19, 3) := by decide +kernel
theorem dX9_fieldCount_4 : decode cX9_fieldCount 4 = .ok (.getfield 113, 3) := by decide +kernel
theorem dX9_fieldCount_7 : decode cX9_fieldCount 7 = .ok (.getfield 107, 3) := by decide +kernel
theorem dX9_fieldCount_10 : decode cX9_fieldCount 10 = .ok (.ireturn, 1) := by decide +kernel
set_option maxHeartbeats 4000000 in
set_option maxRecDepth 100000 in
theorem c_X9_fieldCount {l : Launch} {g : Gh} {w : Wd} {k0 : Nat} {rz : Int32} (hF : f_X9_fieldCount w k0 = some rz) (hk0 : zct zC k0 = 9) : Met l yX9_fieldCount (Cond.code yX9_fieldCount cX9_fieldCount 1 (some .int) :: TT) (rmd 0) (Pcw zC g w [.ref (g.2.2 k0)]) (Qw zC g w (some (.int (rz)))) 0 0 (zA zC g) := by
  refine mt_start (by decide) (Nat.le_of_ble_eq_true rfl) ?_
  intro p e s m args below meth c H locs ls X hr hl hH
  have hx := X.1
  have hb := X.2.1
  have hml := X.2.2.1
  have hown := X.2.2.2.1
  have ht := X.2.2.2.2.1
  have hl : lv_has ls 1 [(0, .ref (g.2.2 (k0)))] := hl
  unfold f_X9_fieldCount at hF
  refine lv_aload_n hx hb dX9_fieldCount_0 rfl (lv_at hl 0 rfl) ?_
  obtain ⟨x1, h1, hF⟩ := ob hF
  refine w_getd X hH h1 hk0 fs_9_1 lk_9_19 dX9_fieldCount_1 (fun q1 => ?_)
  refine w_getr X hH q1 fs_6_2 lk_9_113 dX9_fieldCount_4 ?_
  refine w_geti X hH (rt_C_6_2 q1) fs_4_2 lk_9_107 dX9_fieldCount_7 ?_
  obtain rfl := se1 hF
  exact w_iret X hH hr dX9_fieldCount_10

theorem dX9_constraintCount_0 : decode cX9_constraintCount 0 = .ok (.aload_n 0, 1) := by decide +kernel
theorem dX9_constraintCount_1 : decode cX9_constraintCount 1 = .ok (.getfield 19, 3) := by decide +kernel
theorem dX9_constraintCount_4 : decode cX9_constraintCount 4 = .ok (.getfield 96, 3) := by decide +kernel
theorem dX9_constraintCount_7 : decode cX9_constraintCount 7 = .ok (.getfield 100, 3) := by decide +kernel
theorem dX9_constraintCount_10 : decode cX9_constraintCount 10 = .ok (.ireturn, 1) := by decide +kernel
set_option maxHeartbeats 4000000 in
set_option maxRecDepth 100000 in
theorem c_X9_constraintCount {l : Launch} {g : Gh} {w : Wd} {k0 : Nat} {rz : Int32} (hF : f_X9_constraintCount w k0 = some rz) (hk0 : zct zC k0 = 9) : Met l yX9_constraintCount (Cond.code yX9_constraintCount cX9_constraintCount 1 (some .int) :: TT) (rmd 0) (Pcw zC g w [.ref (g.2.2 k0)]) (Qw zC g w (some (.int (rz)))) 0 0 (zA zC g) := by
  refine mt_start (by decide) (Nat.le_of_ble_eq_true rfl) ?_
  intro p e s m args below meth c H locs ls X hr hl hH
  have hx := X.1
  have hb := X.2.1
  have hml := X.2.2.1
  have hown := X.2.2.2.1
  have ht := X.2.2.2.2.1
  have hl : lv_has ls 1 [(0, .ref (g.2.2 (k0)))] := hl
  unfold f_X9_constraintCount at hF
  refine lv_aload_n hx hb dX9_constraintCount_0 rfl (lv_at hl 0 rfl) ?_
  obtain ⟨x1, h1, hF⟩ := ob hF
  refine w_getd X hH h1 hk0 fs_9_1 lk_9_19 dX9_constraintCount_1 (fun q1 => ?_)
  refine w_getr X hH q1 fs_6_6 lk_9_96 dX9_constraintCount_4 ?_
  refine w_geti X hH (rt_C_6_6 q1) fs_0_4 lk_9_100 dX9_constraintCount_7 ?_
  obtain rfl := se1 hF
  exact w_iret X hH hr dX9_constraintCount_10

theorem dX9_enabledConstraints_0 : decode cX9_enabledConstraints 0 = .ok (.aload_n 0, 1) := by decide +kernel
theorem dX9_enabledConstraints_1 : decode cX9_enabledConstraints 1 = .ok (.getfield 19, 3) := by decide +kernel
theorem dX9_enabledConstraints_4 : decode cX9_enabledConstraints 4 = .ok (.getfield 96, 3) := by decide +kernel
theorem dX9_enabledConstraints_7 : decode cX9_enabledConstraints 7 = .ok (.getfield 116, 3) := by decide +kernel
theorem dX9_enabledConstraints_10 : decode cX9_enabledConstraints 10 = .ok (.ireturn, 1) := by decide +kernel
set_option maxHeartbeats 4000000 in
set_option maxRecDepth 100000 in
theorem c_X9_enabledConstraints {l : Launch} {g : Gh} {w : Wd} {k0 : Nat} {rz : Int32} (hF : f_X9_enabledConstraints w k0 = some rz) (hk0 : zct zC k0 = 9) : Met l yX9_enabledConstraints (Cond.code yX9_enabledConstraints cX9_enabledConstraints 1 (some .int) :: TT) (rmd 0) (Pcw zC g w [.ref (g.2.2 k0)]) (Qw zC g w (some (.int (rz)))) 0 0 (zA zC g) := by
  refine mt_start (by decide) (Nat.le_of_ble_eq_true rfl) ?_
  intro p e s m args below meth c H locs ls X hr hl hH
  have hx := X.1
  have hb := X.2.1
  have hml := X.2.2.1
  have hown := X.2.2.2.1
  have ht := X.2.2.2.2.1
  have hl : lv_has ls 1 [(0, .ref (g.2.2 (k0)))] := hl
  unfold f_X9_enabledConstraints at hF
  refine lv_aload_n hx hb dX9_enabledConstraints_0 rfl (lv_at hl 0 rfl) ?_
  obtain ⟨x1, h1, hF⟩ := ob hF
  refine w_getd X hH h1 hk0 fs_9_1 lk_9_19 dX9_enabledConstraints_1 (fun q1 => ?_)
  refine w_getr X hH q1 fs_6_6 lk_9_96 dX9_enabledConstraints_4 ?_
  refine w_geti X hH (rt_C_6_6 q1) fs_0_5 lk_9_116 dX9_enabledConstraints_7 ?_
  obtain rfl := se1 hF
  exact w_iret X hH hr dX9_enabledConstraints_10

theorem dX9_isObject_0 : decode cX9_isObject 0 = .ok (.iload_n 1, 1) := by decide +kernel
theorem dX9_isObject_1 : decode cX9_isObject 1 = .ok (.ifCond .lt 21, 3) := by decide +kernel
theorem dX9_isObject_4 : decode cX9_isObject 4 = .ok (.iload_n 1, 1) := by decide +kernel
theorem dX9_isObject_5 : decode cX9_isObject 5 = .ok (.aload_n 0, 1) := by decide +kernel
theorem dX9_isObject_6 : decode cX9_isObject 6 = .ok (.getfield 19, 3) := by decide +kernel
theorem dX9_isObject_9 : decode cX9_isObject 9 = .ok (.getfield 110, 3) := by decide +kernel
theorem dX9_isObject_12 : decode cX9_isObject 12 = .ok (.getfield 107, 3) := by decide +kernel
theorem dX9_isObject_15 : decode cX9_isObject 15 = .ok (.if_icmp .ge 7, 3) := by decide +kernel
theorem dX9_isObject_18 : decode cX9_isObject 18 = .ok (.iconst 1, 1) := by decide +kernel
theorem dX9_isObject_19 : decode cX9_isObject 19 = .ok (.goto 4, 3) := by decide +kernel
theorem dX9_isObject_22 : decode cX9_isObject 22 = .ok (.iconst 0, 1) := by decide +kernel
theorem dX9_isObject_23 : decode cX9_isObject 23 = .ok (.ireturn, 1) := by decide +kernel
set_option maxHeartbeats 4000000 in
set_option maxRecDepth 100000 in
theorem c_X9_isObject {l : Launch} {g : Gh} {w : Wd} {k0 : Nat} {v_object : Int32} {rz : Bool} (hF : f_X9_isObject w k0 v_object = some rz) (hk0 : zct zC k0 = 9) : Met l yX9_isObject (Cond.code yX9_isObject cX9_isObject 2 (some .boolean) :: TT) (rmd 0) (Pcw zC g w [.ref (g.2.2 k0), .int (v_object)]) (Qw zC g w (some (.int (bI (rz))))) 0 0 (zA zC g) := by
  refine mt_start (by decide) (Nat.le_of_ble_eq_true rfl) ?_
  intro p e s m args below meth c H locs ls X hr hl hH
  have hx := X.1
  have hb := X.2.1
  have hml := X.2.2.1
  have hown := X.2.2.2.1
  have ht := X.2.2.2.2.1
  have hl : lv_has ls 2 [(0, .ref (g.2.2 (k0))), (1, .int (v_object))] := hl
  unfold f_X9_isObject at hF
  obtain ⟨b2, hb2, hF⟩ := ob hF
  have J1 : ∀ (H : Heap) (locs : List Loc), HW zC g w s.heap H locs → W p l e (rmd 0) s m args below meth c H locs 0 0 (MQ below (Qw zC g w (some (.int (bI (rz))))) args s 0 0 (zA zC g)) (F0 m 23 ls [.int (bI (b2))]) := by
    intro H locs hH
    obtain rfl := se1 hF
    exact w_zret X hH hr dX9_isObject_23
  have hF := hb2
  refine lv_iload_n hx hb dX9_isObject_0 rfl (lv_at hl 1 rfl) ?_
  refine w_zge_f (tgt := 22) hx hb dX9_isObject_1 (by decide) (fun c3 => ?_) (fun c3 => ?_)
  · replace hF := ifn c3 hF
    refine lv_iconst (v := (0 : Int32)) hx hb dX9_isObject_22 (by decide) ?_
    obtain rfl := se1 hF
    exact J1 _ _ hH
  · replace hF := ifp c3 hF
    refine lv_iload_n hx hb dX9_isObject_4 rfl (lv_at hl 1 rfl) ?_
    refine lv_aload_n hx hb dX9_isObject_5 rfl (lv_at hl 0 rfl) ?_
    obtain ⟨x5, h5, hF⟩ := ob hF
    refine w_getd X hH h5 hk0 fs_9_1 lk_9_19 dX9_isObject_6 (fun q5 => ?_)
    refine w_getr X hH q5 fs_6_1 lk_9_110 dX9_isObject_9 ?_
    refine w_geti X hH (rt_C_6_1 q5) fs_4_2 lk_9_107 dX9_isObject_12 ?_
    refine w_ilt_f (tgt := 22) hx hb dX9_isObject_15 (by decide) (fun c4 => ?_) (fun c4 => ?_)
    · replace hF := ifn c4 hF
      refine lv_iconst (v := (0 : Int32)) hx hb dX9_isObject_22 (by decide) ?_
      obtain rfl := se1 hF
      exact J1 _ _ hH
    · replace hF := ifp c4 hF
      refine lv_iconst (v := (1 : Int32)) hx hb dX9_isObject_18 (by decide) ?_
      refine lv_goto (tgt := 23) hx hb dX9_isObject_19 (by decide) ?_
      obtain rfl := se1 hF
      exact J1 _ _ hH

theorem dX9_parameterOf_0 : decode cX9_parameterOf 0 = .ok (.aload_n 0, 1) := by decide +kernel
theorem dX9_parameterOf_1 : decode cX9_parameterOf 1 = .ok (.iload_n 1, 1) := by decide +kernel
theorem dX9_parameterOf_2 : decode cX9_parameterOf 2 = .ok (.invokevirtual 143, 3) := by decide +kernel
theorem dX9_parameterOf_5 : decode cX9_parameterOf 5 = .ok (.ifCond .ne 5, 3) := by decide +kernel
theorem dX9_parameterOf_8 : decode cX9_parameterOf 8 = .ok (.iconst (-1), 1) := by decide +kernel
theorem dX9_parameterOf_9 : decode cX9_parameterOf 9 = .ok (.ireturn, 1) := by decide +kernel
theorem dX9_parameterOf_10 : decode cX9_parameterOf 10 = .ok (.aload_n 0, 1) := by decide +kernel
theorem dX9_parameterOf_11 : decode cX9_parameterOf 11 = .ok (.getfield 19, 3) := by decide +kernel
theorem dX9_parameterOf_14 : decode cX9_parameterOf 14 = .ok (.iload_n 1, 1) := by decide +kernel
theorem dX9_parameterOf_15 : decode cX9_parameterOf 15 = .ok (.invokevirtual 146, 3) := by decide +kernel
theorem dX9_parameterOf_18 : decode cX9_parameterOf 18 = .ok (.ifCond .eq 15, 3) := by decide +kernel
theorem dX9_parameterOf_21 : decode cX9_parameterOf 21 = .ok (.aload_n 0, 1) := by decide +kernel
theorem dX9_parameterOf_22 : decode cX9_parameterOf 22 = .ok (.getfield 19, 3) := by decide +kernel
theorem dX9_parameterOf_25 : decode cX9_parameterOf 25 = .ok (.getfield 149, 3) := by decide +kernel
theorem dX9_parameterOf_28 : decode cX9_parameterOf 28 = .ok (.iload_n 1, 1) := by decide +kernel
theorem dX9_parameterOf_29 : decode cX9_parameterOf 29 = .ok (.iaload, 1) := by decide +kernel
theorem dX9_parameterOf_30 : decode cX9_parameterOf 30 = .ok (.goto 5, 3) := by decide +kernel
theorem dX9_parameterOf_33 : decode cX9_parameterOf 33 = .ok (.bipush (-2), 2) := by decide +kernel
theorem dX9_parameterOf_35 : decode cX9_parameterOf 35 = .ok (.ireturn, 1) := by decide +kernel
set_option maxHeartbeats 4000000 in
set_option maxRecDepth 100000 in
theorem c_X9_parameterOf {l : Launch} {g : Gh} {w : Wd} {k0 : Nat} {v_object : Int32} {rz : Int32} (hF : f_X9_parameterOf w k0 v_object = some rz) (hk0 : zct zC k0 = 9) : Met l yX9_parameterOf (Cond.code yX9_parameterOf cX9_parameterOf 2 (some .int) :: TT) (rmd 2) (Pcw zC g w [.ref (g.2.2 k0), .int (v_object)]) (Qw zC g w (some (.int (rz)))) 0 0 (zA zC g) := by
  refine mt_start (by decide) (Nat.le_of_ble_eq_true rfl) ?_
  intro p e s m args below meth c H locs ls X hr hl hH
  have hx := X.1
  have hb := X.2.1
  have hml := X.2.2.1
  have hown := X.2.2.2.1
  have ht := X.2.2.2.2.1
  have hl : lv_has ls 2 [(0, .ref (g.2.2 (k0))), (1, .int (v_object))] := hl
  unfold f_X9_parameterOf at hF
  refine lv_aload_n hx hb dX9_parameterOf_0 rfl (lv_at hl 0 rfl) ?_
  refine lv_iload_n hx hb dX9_parameterOf_1 rfl (lv_at hl 1 rfl) ?_
  obtain ⟨x1, h1, hF⟩ := ob hF
  refine w_callV (As := [.int (v_object)]) (k := k0) (rest := []) (st1 := [.int (bI (x1))]) X hH (c_X9_isObject (l := l) (g := g) (w := w) (k0 := k0) (v_object := v_object) h1 hk0) (Or.inl tw_3_33) ms_X9_isObject im_X9_isObject hk0 cn_9 ⟨Nat.le_of_ble_eq_true rfl, Nat.le_of_ble_eq_true rfl⟩ rfl rfl hl.1 (Nat.le_of_ble_eq_true rfl) dX9_parameterOf_2 ⟨Nat.le_refl _, Nat.le_refl _⟩ rfl (fun H locs hH => ?_)
  refine w_b_t (tgt := 10) hx hb dX9_parameterOf_5 (by decide) (fun c2 => ?_) (fun c2 => ?_)
  · replace hF := ifn (fun z => z c2) hF
    obtain ⟨x4, hx4, hF⟩ := ob hF
    have J3 : ∀ (H : Heap) (locs : List Loc), HW zC g w s.heap H locs → W p l e (rmd 2) s m args below meth c H locs 0 0 (MQ below (Qw zC g w (some (.int (rz)))) args s 0 0 (zA zC g)) (F0 m 35 ls [.int (x4)]) := by
      intro H locs hH
      obtain rfl := se1 hF
      exact w_iret X hH hr dX9_parameterOf_35
    have hF := hx4
    refine lv_aload_n hx hb dX9_parameterOf_10 rfl (lv_at hl 0 rfl) ?_
    obtain ⟨x5, h5, hF⟩ := ob hF
    refine w_getd X hH h5 hk0 fs_9_1 lk_9_19 dX9_parameterOf_11 (fun q5 => ?_)
    refine lv_iload_n hx hb dX9_parameterOf_14 rfl (lv_at hl 1 rfl) ?_
    refine w_callV (As := [.int (v_object)]) (k := x5) (rest := []) (st1 := [.int (bI ((f_X6_isFunction w (x5) (v_object))))]) X hH (c_X6_isFunction (l := l) (g := g) (w := w) (k0 := x5) (v_object := v_object) rfl q5) (Or.inr ⟨_, tw_5_14⟩) ms_X6_isFunction im_X6_isFunction q5 cn_6 ⟨Nat.le_of_ble_eq_true rfl, Nat.le_of_ble_eq_true rfl⟩ rfl rfl hl.1 (Nat.le_of_ble_eq_true rfl) dX9_parameterOf_15 ⟨Nat.le_refl _, Nat.le_refl _⟩ rfl (fun H locs hH => ?_)
    refine w_b_f (tgt := 33) hx hb dX9_parameterOf_18 (by decide) (fun c6 => ?_) (fun c6 => ?_)
    · replace hF := ifn c6 hF
      refine lv_bipush (v := (-2 : Int32)) hx hb dX9_parameterOf_33 (by decide) ?_
      obtain rfl := se1 hF
      exact J3 _ _ hH
    · replace hF := ifp c6 hF
      refine lv_aload_n hx hb dX9_parameterOf_21 rfl (lv_at hl 0 rfl) ?_
      obtain ⟨x7, h7, hF⟩ := ob hF
      refine w_getd X hH h7 hk0 fs_9_1 lk_9_19 dX9_parameterOf_22 (fun q7 => ?_)
      refine w_getr X hH q7 fs_6_3 lk_9_149 dX9_parameterOf_25 ?_
      refine lv_iload_n hx hb dX9_parameterOf_28 rfl (lv_at hl 1 rfl) ?_
      obtain ⟨x8, h8, hF⟩ := ob hF
      refine w_iald X hH h8 (rt_C_6_3 q7) dX9_parameterOf_29 ?_
      refine lv_goto (tgt := 35) hx hb dX9_parameterOf_30 (by decide) ?_
      obtain rfl := se1 hF
      exact J3 _ _ hH
  · replace hF := ifp c2 hF
    refine lv_iconst (v := (-1 : Int32)) hx hb dX9_parameterOf_8 (by decide) ?_
    obtain rfl := se1 hF
    exact w_iret X hH hr dX9_parameterOf_9

theorem dX9_resultOf_0 : decode cX9_resultOf 0 = .ok (.aload_n 0, 1) := by decide +kernel
theorem dX9_resultOf_1 : decode cX9_resultOf 1 = .ok (.iload_n 1, 1) := by decide +kernel
theorem dX9_resultOf_2 : decode cX9_resultOf 2 = .ok (.invokevirtual 143, 3) := by decide +kernel
theorem dX9_resultOf_5 : decode cX9_resultOf 5 = .ok (.ifCond .ne 5, 3) := by decide +kernel
theorem dX9_resultOf_8 : decode cX9_resultOf 8 = .ok (.iconst (-1), 1) := by decide +kernel
theorem dX9_resultOf_9 : decode cX9_resultOf 9 = .ok (.ireturn, 1) := by decide +kernel
theorem dX9_resultOf_10 : decode cX9_resultOf 10 = .ok (.aload_n 0, 1) := by decide +kernel
theorem dX9_resultOf_11 : decode cX9_resultOf 11 = .ok (.getfield 19, 3) := by decide +kernel
theorem dX9_resultOf_14 : decode cX9_resultOf 14 = .ok (.iload_n 1, 1) := by decide +kernel
theorem dX9_resultOf_15 : decode cX9_resultOf 15 = .ok (.invokevirtual 146, 3) := by decide +kernel
theorem dX9_resultOf_18 : decode cX9_resultOf 18 = .ok (.ifCond .eq 15, 3) := by decide +kernel
theorem dX9_resultOf_21 : decode cX9_resultOf 21 = .ok (.aload_n 0, 1) := by decide +kernel
theorem dX9_resultOf_22 : decode cX9_resultOf 22 = .ok (.getfield 19, 3) := by decide +kernel
theorem dX9_resultOf_25 : decode cX9_resultOf 25 = .ok (.getfield 152, 3) := by decide +kernel
theorem dX9_resultOf_28 : decode cX9_resultOf 28 = .ok (.iload_n 1, 1) := by decide +kernel
theorem dX9_resultOf_29 : decode cX9_resultOf 29 = .ok (.iaload, 1) := by decide +kernel
theorem dX9_resultOf_30 : decode cX9_resultOf 30 = .ok (.goto 5, 3) := by decide +kernel
theorem dX9_resultOf_33 : decode cX9_resultOf 33 = .ok (.bipush (-2), 2) := by decide +kernel
theorem dX9_resultOf_35 : decode cX9_resultOf 35 = .ok (.ireturn, 1) := by decide +kernel
set_option maxHeartbeats 4000000 in
set_option maxRecDepth 100000 in
theorem c_X9_resultOf {l : Launch} {g : Gh} {w : Wd} {k0 : Nat} {v_object : Int32} {rz : Int32} (hF : f_X9_resultOf w k0 v_object = some rz) (hk0 : zct zC k0 = 9) : Met l yX9_resultOf (Cond.code yX9_resultOf cX9_resultOf 2 (some .int) :: TT) (rmd 2) (Pcw zC g w [.ref (g.2.2 k0), .int (v_object)]) (Qw zC g w (some (.int (rz)))) 0 0 (zA zC g) := by
  refine mt_start (by decide) (Nat.le_of_ble_eq_true rfl) ?_
  intro p e s m args below meth c H locs ls X hr hl hH
  have hx := X.1
  have hb := X.2.1
  have hml := X.2.2.1
  have hown := X.2.2.2.1
  have ht := X.2.2.2.2.1
  have hl : lv_has ls 2 [(0, .ref (g.2.2 (k0))), (1, .int (v_object))] := hl
  unfold f_X9_resultOf at hF
  refine lv_aload_n hx hb dX9_resultOf_0 rfl (lv_at hl 0 rfl) ?_
  refine lv_iload_n hx hb dX9_resultOf_1 rfl (lv_at hl 1 rfl) ?_
  obtain ⟨x1, h1, hF⟩ := ob hF
  refine w_callV (As := [.int (v_object)]) (k := k0) (rest := []) (st1 := [.int (bI (x1))]) X hH (c_X9_isObject (l := l) (g := g) (w := w) (k0 := k0) (v_object := v_object) h1 hk0) (Or.inl tw_3_33) ms_X9_isObject im_X9_isObject hk0 cn_9 ⟨Nat.le_of_ble_eq_true rfl, Nat.le_of_ble_eq_true rfl⟩ rfl rfl hl.1 (Nat.le_of_ble_eq_true rfl) dX9_resultOf_2 ⟨Nat.le_refl _, Nat.le_refl _⟩ rfl (fun H locs hH => ?_)
  refine w_b_t (tgt := 10) hx hb dX9_resultOf_5 (by decide) (fun c2 => ?_) (fun c2 => ?_)
  · replace hF := ifn (fun z => z c2) hF
    obtain ⟨x4, hx4, hF⟩ := ob hF
    have J3 : ∀ (H : Heap) (locs : List Loc), HW zC g w s.heap H locs → W p l e (rmd 2) s m args below meth c H locs 0 0 (MQ below (Qw zC g w (some (.int (rz)))) args s 0 0 (zA zC g)) (F0 m 35 ls [.int (x4)]) := by
      intro H locs hH
      obtain rfl := se1 hF
      exact w_iret X hH hr dX9_resultOf_35
    have hF := hx4
    refine lv_aload_n hx hb dX9_resultOf_10 rfl (lv_at hl 0 rfl) ?_
    obtain ⟨x5, h5, hF⟩ := ob hF
    refine w_getd X hH h5 hk0 fs_9_1 lk_9_19 dX9_resultOf_11 (fun q5 => ?_)
    refine lv_iload_n hx hb dX9_resultOf_14 rfl (lv_at hl 1 rfl) ?_
    refine w_callV (As := [.int (v_object)]) (k := x5) (rest := []) (st1 := [.int (bI ((f_X6_isFunction w (x5) (v_object))))]) X hH (c_X6_isFunction (l := l) (g := g) (w := w) (k0 := x5) (v_object := v_object) rfl q5) (Or.inr ⟨_, tw_5_14⟩) ms_X6_isFunction im_X6_isFunction q5 cn_6 ⟨Nat.le_of_ble_eq_true rfl, Nat.le_of_ble_eq_true rfl⟩ rfl rfl hl.1 (Nat.le_of_ble_eq_true rfl) dX9_resultOf_15 ⟨Nat.le_refl _, Nat.le_refl _⟩ rfl (fun H locs hH => ?_)
    refine w_b_f (tgt := 33) hx hb dX9_resultOf_18 (by decide) (fun c6 => ?_) (fun c6 => ?_)
    · replace hF := ifn c6 hF
      refine lv_bipush (v := (-2 : Int32)) hx hb dX9_resultOf_33 (by decide) ?_
      obtain rfl := se1 hF
      exact J3 _ _ hH
    · replace hF := ifp c6 hF
      refine lv_aload_n hx hb dX9_resultOf_21 rfl (lv_at hl 0 rfl) ?_
      obtain ⟨x7, h7, hF⟩ := ob hF
      refine w_getd X hH h7 hk0 fs_9_1 lk_9_19 dX9_resultOf_22 (fun q7 => ?_)
      refine w_getr X hH q7 fs_6_4 lk_9_152 dX9_resultOf_25 ?_
      refine lv_iload_n hx hb dX9_resultOf_28 rfl (lv_at hl 1 rfl) ?_
      obtain ⟨x8, h8, hF⟩ := ob hF
      refine w_iald X hH h8 (rt_C_6_4 q7) dX9_resultOf_29 ?_
      refine lv_goto (tgt := 35) hx hb dX9_resultOf_30 (by decide) ?_
      obtain rfl := se1 hF
      exact J3 _ _ hH
  · replace hF := ifp c2 hF
    refine lv_iconst (v := (-1 : Int32)) hx hb dX9_resultOf_8 (by decide) ?_
    obtain rfl := se1 hF
    exact w_iret X hH hr dX9_resultOf_9

theorem dX9_factCount_0 : decode cX9_factCount 0 = .ok (.aload_n 0, 1) := by decide +kernel
theorem dX9_factCount_1 : decode cX9_factCount 1 = .ok (.getfield 47, 3) := by decide +kernel
theorem dX9_factCount_4 : decode cX9_factCount 4 = .ok (.getfield 155, 3) := by decide +kernel
theorem dX9_factCount_7 : decode cX9_factCount 7 = .ok (.ireturn, 1) := by decide +kernel
set_option maxHeartbeats 4000000 in
set_option maxRecDepth 100000 in
theorem c_X9_factCount {l : Launch} {g : Gh} {w : Wd} {k0 : Nat} {rz : Int32} (hF : f_X9_factCount w k0 = rz) (hk0 : zct zC k0 = 9) : Met l yX9_factCount (Cond.code yX9_factCount cX9_factCount 1 (some .int) :: TT) (rmd 0) (Pcw zC g w [.ref (g.2.2 k0)]) (Qw zC g w (some (.int (rz)))) 0 0 (zA zC g) := by
  refine mt_start (by decide) (Nat.le_of_ble_eq_true rfl) ?_
  intro p e s m args below meth c H locs ls X hr hl hH
  have hx := X.1
  have hb := X.2.1
  have hml := X.2.2.1
  have hown := X.2.2.2.1
  have ht := X.2.2.2.2.1
  have hl : lv_has ls 1 [(0, .ref (g.2.2 (k0)))] := hl
  unfold f_X9_factCount at hF
  refine lv_aload_n hx hb dX9_factCount_0 rfl (lv_at hl 0 rfl) ?_
  refine w_getr X hH hk0 fs_9_6 lk_9_47 dX9_factCount_1 ?_
  refine w_geti X hH (rt_C_9_6 hk0) fs_7_2 lk_9_155 dX9_factCount_4 ?_
  subst hF
  exact w_iret X hH hr dX9_factCount_7

theorem dX9_roundCount_0 : decode cX9_roundCount 0 = .ok (.aload_n 0, 1) := by decide +kernel
theorem dX9_roundCount_1 : decode cX9_roundCount 1 = .ok (.getfield 47, 3) := by decide +kernel
theorem dX9_roundCount_4 : decode cX9_roundCount 4 = .ok (.getfield 158, 3) := by decide +kernel
theorem dX9_roundCount_7 : decode cX9_roundCount 7 = .ok (.ireturn, 1) := by decide +kernel
set_option maxHeartbeats 4000000 in
set_option maxRecDepth 100000 in
theorem c_X9_roundCount {l : Launch} {g : Gh} {w : Wd} {k0 : Nat} {rz : Int32} (hF : f_X9_roundCount w k0 = rz) (hk0 : zct zC k0 = 9) : Met l yX9_roundCount (Cond.code yX9_roundCount cX9_roundCount 1 (some .int) :: TT) (rmd 0) (Pcw zC g w [.ref (g.2.2 k0)]) (Qw zC g w (some (.int (rz)))) 0 0 (zA zC g) := by
  refine mt_start (by decide) (Nat.le_of_ble_eq_true rfl) ?_
  intro p e s m args below meth c H locs ls X hr hl hH
  have hx := X.1
  have hb := X.2.1
  have hml := X.2.2.1
  have hown := X.2.2.2.1
  have ht := X.2.2.2.2.1
  have hl : lv_has ls 1 [(0, .ref (g.2.2 (k0)))] := hl
  unfold f_X9_roundCount at hF
  refine lv_aload_n hx hb dX9_roundCount_0 rfl (lv_at hl 0 rfl) ?_
  refine w_getr X hH hk0 fs_9_6 lk_9_47 dX9_roundCount_1 ?_
  refine w_geti X hH (rt_C_9_6 hk0) fs_7_3 lk_9_158 dX9_roundCount_4 ?_
  subst hF
  exact w_iret X hH hr dX9_roundCount_7

theorem dX6_slotAt_0 : decode cX6_slotAt 0 = .ok (.iload_n 1, 1) := by decide +kernel
theorem dX6_slotAt_1 : decode cX6_slotAt 1 = .ok (.ifCond .lt 16, 3) := by decide +kernel
theorem dX6_slotAt_4 : decode cX6_slotAt 4 = .ok (.iload_n 1, 1) := by decide +kernel
theorem dX6_slotAt_5 : decode cX6_slotAt 5 = .ok (.aload_n 0, 1) := by decide +kernel
theorem dX6_slotAt_6 : decode cX6_slotAt 6 = .ok (.getfield 14, 3) := by decide +kernel
theorem dX6_slotAt_9 : decode cX6_slotAt 9 = .ok (.getfield 44, 3) := by decide +kernel
theorem dX6_slotAt_12 : decode cX6_slotAt 12 = .ok (.if_icmp .ge 5, 3) := by decide +kernel
theorem dX6_slotAt_15 : decode cX6_slotAt 15 = .ok (.iload_n 1, 1) := by decide +kernel
theorem dX6_slotAt_16 : decode cX6_slotAt 16 = .ok (.ireturn, 1) := by decide +kernel
theorem dX6_slotAt_17 : decode cX6_slotAt 17 = .ok (.iload_n 1, 1) := by decide +kernel
theorem dX6_slotAt_18 : decode cX6_slotAt 18 = .ok (.bipush 100, 2) := by decide +kernel
theorem dX6_slotAt_20 : decode cX6_slotAt 20 = .ok (.if_icmp .lt 10, 3) := by decide +kernel
theorem dX6_slotAt_23 : decode cX6_slotAt 23 = .ok (.iload_n 1, 1) := by decide +kernel
theorem dX6_slotAt_24 : decode cX6_slotAt 24 = .ok (.sipush 140, 3) := by decide +kernel
theorem dX6_slotAt_27 : decode cX6_slotAt 27 = .ok (.if_icmp .lt 5, 3) := by decide +kernel
theorem dX6_slotAt_30 : decode cX6_slotAt 30 = .ok (.iconst (-1), 1) := by decide +kernel
theorem dX6_slotAt_31 : decode cX6_slotAt 31 = .ok (.ireturn, 1) := by decide +kernel
theorem dX6_slotAt_32 : decode cX6_slotAt 32 = .ok (.iload_n 1, 1) := by decide +kernel
theorem dX6_slotAt_33 : decode cX6_slotAt 33 = .ok (.bipush 100, 2) := by decide +kernel
theorem dX6_slotAt_35 : decode cX6_slotAt 35 = .ok (.isub, 1) := by decide +kernel
theorem dX6_slotAt_36 : decode cX6_slotAt 36 = .ok (.istore_n 2, 1) := by decide +kernel
theorem dX6_slotAt_37 : decode cX6_slotAt 37 = .ok (.iload_n 2, 1) := by decide +kernel
theorem dX6_slotAt_38 : decode cX6_slotAt 38 = .ok (.iconst 4, 1) := by decide +kernel
theorem dX6_slotAt_39 : decode cX6_slotAt 39 = .ok (.idiv, 1) := by decide +kernel
theorem dX6_slotAt_40 : decode cX6_slotAt 40 = .ok (.istore_n 3, 1) := by decide +kernel
theorem dX6_slotAt_41 : decode cX6_slotAt 41 = .ok (.iload_n 2, 1) := by decide +kernel
theorem dX6_slotAt_42 : decode cX6_slotAt 42 = .ok (.iconst 4, 1) := by decide +kernel
theorem dX6_slotAt_43 : decode cX6_slotAt 43 = .ok (.irem, 1) := by decide +kernel
theorem dX6_slotAt_44 : decode cX6_slotAt 44 = .ok (.istore 4, 2) := by decide +kernel
theorem dX6_slotAt_46 : decode cX6_slotAt 46 = .ok (.iload_n 3, 1) := by decide +kernel
theorem dX6_slotAt_47 : decode cX6_slotAt 47 = .ok (.aload_n 0, 1) := by decide +kernel
theorem dX6_slotAt_48 : decode cX6_slotAt 48 = .ok (.getfield 20, 3) := by decide +kernel
theorem dX6_slotAt_51 : decode cX6_slotAt 51 = .ok (.getfield 44, 3) := by decide +kernel
theorem dX6_slotAt_54 : decode cX6_slotAt 54 = .ok (.if_icmp .ge 19, 3) := by decide +kernel
theorem dX6_slotAt_57 : decode cX6_slotAt 57 = .ok (.iload 4, 2) := by decide +kernel
theorem dX6_slotAt_59 : decode cX6_slotAt 59 = .ok (.aload_n 0, 1) := by decide +kernel
theorem dX6_slotAt_60 : decode cX6_slotAt 60 = .ok (.getfield 23, 3) := by decide +kernel
theorem dX6_slotAt_63 : decode cX6_slotAt 63 = .ok (.getfield 44, 3) := by decide +kernel
theorem dX6_slotAt_66 : decode cX6_slotAt 66 = .ok (.if_icmp .ge 7, 3) := by decide +kernel
theorem dX6_slotAt_69 : decode cX6_slotAt 69 = .ok (.iconst 1, 1) := by decide +kernel
theorem dX6_slotAt_70 : decode cX6_slotAt 70 = .ok (.goto 4, 3) := by decide +kernel
theorem dX6_slotAt_73 : decode cX6_slotAt 73 = .ok (.iconst 0, 1) := by decide +kernel
theorem dX6_slotAt_74 : decode cX6_slotAt 74 = .ok (.istore 5, 2) := by decide +kernel
theorem dX6_slotAt_76 : decode cX6_slotAt 76 = .ok (.iload 5, 2) := by decide +kernel
theorem dX6_slotAt_78 : decode cX6_slotAt 78 = .ok (.ifCond .eq 12, 3) := by decide +kernel
theorem dX6_slotAt_81 : decode cX6_slotAt 81 = .ok (.iload_n 3, 1) := by decide +kernel
theorem dX6_slotAt_82 : decode cX6_slotAt 82 = .ok (.iload 4, 2) := by decide +kernel
theorem dX6_slotAt_84 : decode cX6_slotAt 84 = .ok (.invokestatic 54, 3) := by decide +kernel
theorem dX6_slotAt_87 : decode cX6_slotAt 87 = .ok (.goto 4, 3) := by decide +kernel
theorem dX6_slotAt_90 : decode cX6_slotAt 90 = .ok (.iconst (-1), 1) := by decide +kernel
theorem dX6_slotAt_91 : decode cX6_slotAt 91 = .ok (.ireturn, 1) := by decide +kernel
set_option maxHeartbeats 4000000 in
set_option maxRecDepth 100000 in
theorem c_X6_slotAt {l : Launch} {g : Gh} {w : Wd} {k0 : Nat} {v_location : Int32} {rz : Int32} (hF : f_X6_slotAt w k0 v_location = rz) (hk0 : zct zC k0 = 6) : Met l yX6_slotAt (Cond.code yX6_slotAt cX6_slotAt 6 (some .int) :: TT) (rmd 1) (Pcw zC g w [.ref (g.2.2 k0), .int (v_location)]) (Qw zC g w (some (.int (rz)))) 0 0 (zA zC g) := by
  refine mt_start (by decide) (Nat.le_of_ble_eq_true rfl) ?_
  intro p e s m args below meth c H locs ls X hr hl hH
  have hx := X.1
  have hb := X.2.1
  have hml := X.2.2.1
  have hown := X.2.2.2.1
  have ht := X.2.2.2.2.1
  have hl : lv_has ls 6 [(0, .ref (g.2.2 (k0))), (1, .int (v_location))] := hl
  unfold f_X6_slotAt at hF
  refine lv_iload_n hx hb dX6_slotAt_0 rfl (lv_at hl 1 rfl) ?_
  have J1T : ((0 : Int32) ≤ v_location) ∧ (v_location < (w.1 ((zrf zC (k0) 0)) 2)) → ∀ (H : Heap) (locs : List Loc), HW zC g w s.heap H locs → W p l e (rmd 1) s m args below meth c H locs 0 0 (MQ below (Qw zC g w (some (.int (rz)))) args s 0 0 (zA zC g)) (F0 m 15 ls []) := by
    intro hc H locs hH
    replace hF := ifp hc hF
    refine lv_iload_n hx hb dX6_slotAt_15 rfl (lv_at hl 1 rfl) ?_
    subst hF
    exact w_iret X hH hr dX6_slotAt_16
  have J1F : ¬ (((0 : Int32) ≤ v_location) ∧ (v_location < (w.1 ((zrf zC (k0) 0)) 2))) → ∀ (H : Heap) (locs : List Loc), HW zC g w s.heap H locs → W p l e (rmd 1) s m args below meth c H locs 0 0 (MQ below (Qw zC g w (some (.int (rz)))) args s 0 0 (zA zC g)) (F0 m 17 ls []) := by
    intro hc H locs hH
    replace hF := ifn hc hF
    refine lv_iload_n hx hb dX6_slotAt_17 rfl (lv_at hl 1 rfl) ?_
    refine lv_bipush (v := (100 : Int32)) hx hb dX6_slotAt_18 (by decide) ?_
    have J4T : (v_location < (100 : Int32)) ∨ ((140 : Int32) ≤ v_location) → ∀ (H : Heap) (locs : List Loc), HW zC g w s.heap H locs → W p l e (rmd 1) s m args below meth c H locs 0 0 (MQ below (Qw zC g w (some (.int (rz)))) args s 0 0 (zA zC g)) (F0 m 30 ls []) := by
      intro hc H locs hH
      replace hF := ifp hc hF
      refine lv_iconst (v := (-1 : Int32)) hx hb dX6_slotAt_30 (by decide) ?_
      subst hF
      exact w_iret X hH hr dX6_slotAt_31
    have J4F : ¬ ((v_location < (100 : Int32)) ∨ ((140 : Int32) ≤ v_location)) → ∀ (H : Heap) (locs : List Loc), HW zC g w s.heap H locs → W p l e (rmd 1) s m args below meth c H locs 0 0 (MQ below (Qw zC g w (some (.int (rz)))) args s 0 0 (zA zC g)) (F0 m 32 ls []) := by
      intro hc H locs hH
      replace hF := ifn hc hF
      refine lv_iload_n hx hb dX6_slotAt_32 rfl (lv_at hl 1 rfl) ?_
      refine lv_bipush (v := (100 : Int32)) hx hb dX6_slotAt_33 (by decide) ?_
      refine lv_isub hx hb dX6_slotAt_35 ?_
      refine lv_istore_n (lv' := [(2, .int ((v_location - (100 : Int32)))), (0, .ref (g.2.2 (k0))), (1, .int (v_location))]) hx hb dX6_slotAt_36 rfl hl (by decide) rfl (fun ls hl => ?_)
      refine lv_iload_n hx hb dX6_slotAt_37 rfl (lv_at hl 0 rfl) ?_
      refine lv_iconst (v := (4 : Int32)) hx hb dX6_slotAt_38 (by decide) ?_
      refine w_idiv hx hb dX6_slotAt_39 (by decide) ?_
      refine lv_istore_n (lv' := [(3, .int ((jdiv ((v_location - (100 : Int32))) ((4 : Int32))))), (2, .int ((v_location - (100 : Int32)))), (0, .ref (g.2.2 (k0))), (1, .int (v_location))]) hx hb dX6_slotAt_40 rfl hl (by decide) rfl (fun ls hl => ?_)
      refine lv_iload_n hx hb dX6_slotAt_41 rfl (lv_at hl 1 rfl) ?_
      refine lv_iconst (v := (4 : Int32)) hx hb dX6_slotAt_42 (by decide) ?_
      refine w_irem hx hb dX6_slotAt_43 (by decide) ?_
      refine lv_istore (lv' := [(4, .int ((jrem ((v_location - (100 : Int32))) ((4 : Int32))))), (3, .int ((jdiv ((v_location - (100 : Int32))) ((4 : Int32))))), (2, .int ((v_location - (100 : Int32)))), (0, .ref (g.2.2 (k0))), (1, .int (v_location))]) hx hb dX6_slotAt_44 hl (by decide) rfl (fun ls hl => ?_)
      refine lv_iload_n hx hb dX6_slotAt_46 rfl (lv_at hl 1 rfl) ?_
      refine lv_aload_n hx hb dX6_slotAt_47 rfl (lv_at hl 3 rfl) ?_
      refine w_getr X hH hk0 fs_6_1 lk_6_20 dX6_slotAt_48 ?_
      refine w_geti X hH (rt_C_6_1 hk0) fs_4_2 lk_6_44 dX6_slotAt_51 ?_
      have J7 : ∀ (H : Heap) (locs : List Loc), HW zC g w s.heap H locs → W p l e (rmd 1) s m args below meth c H locs 0 0 (MQ below (Qw zC g w (some (.int (rz)))) args s 0 0 (zA zC g)) (F0 m 74 ls [.int (bI ((decide (((jdiv ((v_location - (100 : Int32))) ((4 : Int32))) < (w.1 ((zrf zC (k0) 1)) 2)) ∧ ((jrem ((v_location - (100 : Int32))) ((4 : Int32))) < (w.1 ((zrf zC (k0) 2)) 2))))))]) := by
        intro H locs hH
        refine lv_istore (lv' := [(5, .int (bI ((decide (((jdiv ((v_location - (100 : Int32))) ((4 : Int32))) < (w.1 ((zrf zC (k0) 1)) 2)) ∧ ((jrem ((v_location - (100 : Int32))) ((4 : Int32))) < (w.1 ((zrf zC (k0) 2)) 2))))))), (4, .int ((jrem ((v_location - (100 : Int32))) ((4 : Int32))))), (3, .int ((jdiv ((v_location - (100 : Int32))) ((4 : Int32))))), (2, .int ((v_location - (100 : Int32)))), (0, .ref (g.2.2 (k0))), (1, .int (v_location))]) hx hb dX6_slotAt_74 hl (by decide) rfl (fun ls hl => ?_)
        refine lv_iload hx hb dX6_slotAt_76 (lv_at hl 0 rfl) ?_
        have J10 : ∀ (H : Heap) (locs : List Loc), HW zC g w s.heap H locs → W p l e (rmd 1) s m args below meth c H locs 0 0 (MQ below (Qw zC g w (some (.int (rz)))) args s 0 0 (zA zC g)) (F0 m 91 ls [.int ((if (decide (((jdiv ((v_location - (100 : Int32))) ((4 : Int32))) < (w.1 ((zrf zC (k0) 1)) 2)) ∧ ((jrem ((v_location - (100 : Int32))) ((4 : Int32))) < (w.1 ((zrf zC (k0) 2)) 2)))) = true then (f_X9_fieldSlot ((jdiv ((v_location - (100 : Int32))) ((4 : Int32)))) ((jrem ((v_location - (100 : Int32))) ((4 : Int32))))) else (-1 : Int32)))]) := by
          intro H locs hH
          subst hF
          exact w_iret X hH hr dX6_slotAt_91
        refine w_b_f (tgt := 90) hx hb dX6_slotAt_78 (by decide) (fun c11 => ?_) (fun c11 => ?_)
        · refine lv_iconst (v := (-1 : Int32)) hx hb dX6_slotAt_90 (by decide) ?_
          exact w_in c11 (J10 _ _ hH)
        · refine lv_iload_n hx hb dX6_slotAt_81 rfl (lv_at hl 2 rfl) ?_
          refine lv_iload hx hb dX6_slotAt_82 (lv_at hl 1 rfl) ?_
          refine w_callS (As := [.int ((jdiv ((v_location - (100 : Int32))) ((4 : Int32)))), .int ((jrem ((v_location - (100 : Int32))) ((4 : Int32))))]) (rest := []) (st1 := [.int ((f_X9_fieldSlot ((jdiv ((v_location - (100 : Int32))) ((4 : Int32)))) ((jrem ((v_location - (100 : Int32))) ((4 : Int32))))))]) X hH (c_X9_fieldSlot (l := l) (g := g) (w := w) (v_object := (jdiv ((v_location - (100 : Int32))) ((4 : Int32)))) (v_field := (jrem ((v_location - (100 : Int32))) ((4 : Int32)))) rfl) (Or.inr ⟨_, tw_2_221⟩) ms_X9_fieldSlot tw_2_222 ⟨Nat.le_of_ble_eq_true rfl, Nat.le_of_ble_eq_true rfl⟩ rfl rfl hl.1 (Nat.le_of_ble_eq_true rfl) dX6_slotAt_84 ⟨Nat.le_refl _, Nat.le_refl _⟩ rfl (fun H locs hH => ?_)
          refine lv_goto (tgt := 91) hx hb dX6_slotAt_87 (by decide) ?_
          exact w_ip c11 (J10 _ _ hH)
      refine w_ilt_f (tgt := 73) hx hb dX6_slotAt_54 (by decide) (fun c8 => ?_) (fun c8 => ?_)
      · refine lv_iconst (v := (0 : Int32)) hx hb dX6_slotAt_73 (by decide) ?_
        exact w_b0 (fun z => c8 z.1) (J7 _ _ hH)
      · refine lv_iload hx hb dX6_slotAt_57 (lv_at hl 0 rfl) ?_
        refine lv_aload_n hx hb dX6_slotAt_59 rfl (lv_at hl 3 rfl) ?_
        refine w_getr X hH hk0 fs_6_2 lk_6_23 dX6_slotAt_60 ?_
        refine w_geti X hH (rt_C_6_2 hk0) fs_4_2 lk_6_44 dX6_slotAt_63 ?_
        refine w_ilt_f (tgt := 73) hx hb dX6_slotAt_66 (by decide) (fun c9 => ?_) (fun c9 => ?_)
        · refine lv_iconst (v := (0 : Int32)) hx hb dX6_slotAt_73 (by decide) ?_
          exact w_b0 (fun z => c9 z.2) (J7 _ _ hH)
        · refine lv_iconst (v := (1 : Int32)) hx hb dX6_slotAt_69 (by decide) ?_
          refine lv_goto (tgt := 74) hx hb dX6_slotAt_70 (by decide) ?_
          exact w_b1 ⟨c8, c9⟩ (J7 _ _ hH)
    refine w_ilt_t (tgt := 30) hx hb dX6_slotAt_20 (by decide) (fun c5 => ?_) (fun c5 => ?_)
    · exact J4T (Or.inl c5) _ _ hH
    · refine lv_iload_n hx hb dX6_slotAt_23 rfl (lv_at hl 1 rfl) ?_
      refine lv_sipush (v := (140 : Int32)) hx hb dX6_slotAt_24 (by decide) ?_
      refine w_ige_f (tgt := 32) hx hb dX6_slotAt_27 (by decide) (fun c6 => ?_) (fun c6 => ?_)
      · exact J4F (fun z => z.elim c5 c6) _ _ hH
      · exact J4T (Or.inr c6) _ _ hH
  refine w_zge_f (tgt := 17) hx hb dX6_slotAt_1 (by decide) (fun c2 => ?_) (fun c2 => ?_)
  · exact J1F (fun z => c2 z.1) _ _ hH
  · refine lv_iload_n hx hb dX6_slotAt_4 rfl (lv_at hl 1 rfl) ?_
    refine lv_aload_n hx hb dX6_slotAt_5 rfl (lv_at hl 0 rfl) ?_
    refine w_getr X hH hk0 fs_6_0 lk_6_14 dX6_slotAt_6 ?_
    refine w_geti X hH (rt_C_6_0 hk0) fs_4_2 lk_6_44 dX6_slotAt_9 ?_
    refine w_ilt_f (tgt := 17) hx hb dX6_slotAt_12 (by decide) (fun c3 => ?_) (fun c3 => ?_)
    · exact J1F (fun z => c3 z.2) _ _ hH
    · exact J1T ⟨c2, c3⟩ _ _ hH

theorem dX9_pointsTo_0 : decode cX9_pointsTo 0 = .ok (.aload_n 0, 1) := by decide +kernel
theorem dX9_pointsTo_1 : decode cX9_pointsTo 1 = .ok (.getfield 19, 3) := by decide +kernel
theorem dX9_pointsTo_4 : decode cX9_pointsTo 4 = .ok (.iload_n 1, 1) := by decide +kernel
theorem dX9_pointsTo_5 : decode cX9_pointsTo 5 = .ok (.invokevirtual 161, 3) := by decide +kernel
theorem dX9_pointsTo_8 : decode cX9_pointsTo 8 = .ok (.istore_n 2, 1) := by decide +kernel
theorem dX9_pointsTo_9 : decode cX9_pointsTo 9 = .ok (.iload_n 2, 1) := by decide +kernel
theorem dX9_pointsTo_10 : decode cX9_pointsTo 10 = .ok (.iconst (-1), 1) := by decide +kernel
theorem dX9_pointsTo_11 : decode cX9_pointsTo 11 = .ok (.if_icmp .ne 7, 3) := by decide +kernel
theorem dX9_pointsTo_14 : decode cX9_pointsTo 14 = .ok (.iconst (-1), 1) := by decide +kernel
theorem dX9_pointsTo_15 : decode cX9_pointsTo 15 = .ok (.goto 12, 3) := by decide +kernel
theorem dX9_pointsTo_18 : decode cX9_pointsTo 18 = .ok (.aload_n 0, 1) := by decide +kernel
theorem dX9_pointsTo_19 : decode cX9_pointsTo 19 = .ok (.getfield 47, 3) := by decide +kernel
theorem dX9_pointsTo_22 : decode cX9_pointsTo 22 = .ok (.getfield 165, 3) := by decide +kernel
theorem dX9_pointsTo_25 : decode cX9_pointsTo 25 = .ok (.iload_n 2, 1) := by decide +kernel
theorem dX9_pointsTo_26 : decode cX9_pointsTo 26 = .ok (.iaload, 1) := by decide +kernel
theorem dX9_pointsTo_27 : decode cX9_pointsTo 27 = .ok (.ireturn, 1) := by decide +kernel
set_option maxHeartbeats 4000000 in
set_option maxRecDepth 100000 in
theorem c_X9_pointsTo {l : Launch} {g : Gh} {w : Wd} {k0 : Nat} {v_location : Int32} {rz : Int32} (hF : f_X9_pointsTo w k0 v_location = some rz) (hk0 : zct zC k0 = 9) : Met l yX9_pointsTo (Cond.code yX9_pointsTo cX9_pointsTo 3 (some .int) :: TT) (rmd 2) (Pcw zC g w [.ref (g.2.2 k0), .int (v_location)]) (Qw zC g w (some (.int (rz)))) 0 0 (zA zC g) := by
  refine mt_start (by decide) (Nat.le_of_ble_eq_true rfl) ?_
  intro p e s m args below meth c H locs ls X hr hl hH
  have hx := X.1
  have hb := X.2.1
  have hml := X.2.2.1
  have hown := X.2.2.2.1
  have ht := X.2.2.2.2.1
  have hl : lv_has ls 3 [(0, .ref (g.2.2 (k0))), (1, .int (v_location))] := hl
  unfold f_X9_pointsTo at hF
  refine lv_aload_n hx hb dX9_pointsTo_0 rfl (lv_at hl 0 rfl) ?_
  obtain ⟨x1, h1, hF⟩ := ob hF
  refine w_getd X hH h1 hk0 fs_9_1 lk_9_19 dX9_pointsTo_1 (fun q1 => ?_)
  refine lv_iload_n hx hb dX9_pointsTo_4 rfl (lv_at hl 1 rfl) ?_
  refine w_callV (As := [.int (v_location)]) (k := x1) (rest := []) (st1 := [.int ((f_X6_slotAt w (x1) (v_location)))]) X hH (c_X6_slotAt (l := l) (g := g) (w := w) (k0 := x1) (v_location := v_location) rfl q1) (Or.inr ⟨_, tw_3_21⟩) ms_X6_slotAt im_X6_slotAt q1 cn_6 ⟨Nat.le_of_ble_eq_true rfl, Nat.le_of_ble_eq_true rfl⟩ rfl rfl hl.1 (Nat.le_of_ble_eq_true rfl) dX9_pointsTo_5 ⟨Nat.le_refl _, Nat.le_refl _⟩ rfl (fun H locs hH => ?_)
  refine lv_istore_n (lv' := [(2, .int ((f_X6_slotAt w (x1) (v_location)))), (0, .ref (g.2.2 (k0))), (1, .int (v_location))]) hx hb dX9_pointsTo_8 rfl hl (by decide) rfl (fun ls hl => ?_)
  obtain ⟨x3, hx3, hF⟩ := ob hF
  have J2 : ∀ (H : Heap) (locs : List Loc), HW zC g w s.heap H locs → W p l e (rmd 2) s m args below meth c H locs 0 0 (MQ below (Qw zC g w (some (.int (rz)))) args s 0 0 (zA zC g)) (F0 m 27 ls [.int (x3)]) := by
    intro H locs hH
    obtain rfl := se1 hF
    exact w_iret X hH hr dX9_pointsTo_27
  have hF := hx3
  refine lv_iload_n hx hb dX9_pointsTo_9 rfl (lv_at hl 0 rfl) ?_
  refine lv_iconst (v := (-1 : Int32)) hx hb dX9_pointsTo_10 (by decide) ?_
  refine w_ieq_f (tgt := 18) hx hb dX9_pointsTo_11 (by decide) (fun c4 => ?_) (fun c4 => ?_)
  · replace hF := ifn c4 hF
    refine lv_aload_n hx hb dX9_pointsTo_18 rfl (lv_at hl 1 rfl) ?_
    refine w_getr X hH hk0 fs_9_6 lk_9_47 dX9_pointsTo_19 ?_
    refine w_getr X hH (rt_C_9_6 hk0) fs_7_0 lk_9_165 dX9_pointsTo_22 ?_
    refine lv_iload_n hx hb dX9_pointsTo_25 rfl (lv_at hl 0 rfl) ?_
    obtain ⟨x5, h5, hF⟩ := ob hF
    refine w_iald X hH h5 (rt_C_7_0 (rt_C_9_6 hk0)) dX9_pointsTo_26 ?_
    obtain rfl := se1 hF
    exact J2 _ _ hH
  · replace hF := ifp c4 hF
    refine lv_iconst (v := (-1 : Int32)) hx hb dX9_pointsTo_14 (by decide) ?_
    refine lv_goto (tgt := 27) hx hb dX9_pointsTo_15 (by decide) ?_
    obtain rfl := se1 hF
    exact J2 _ _ hH

theorem dX9_findFact_0 : decode cX9_findFact 0 = .ok (.aload_n 0, 1) := by decide +kernel
theorem dX9_findFact_1 : decode cX9_findFact 1 = .ok (.getfield 19, 3) := by decide +kernel
theorem dX9_findFact_4 : decode cX9_findFact 4 = .ok (.iload_n 1, 1) := by decide +kernel
theorem dX9_findFact_5 : decode cX9_findFact 5 = .ok (.invokevirtual 161, 3) := by decide +kernel
theorem dX9_findFact_8 : decode cX9_findFact 8 = .ok (.istore_n 3, 1) := by decide +kernel
theorem dX9_findFact_9 : decode cX9_findFact 9 = .ok (.iload_n 3, 1) := by decide +kernel
theorem dX9_findFact_10 : decode cX9_findFact 10 = .ok (.iconst (-1), 1) := by decide +kernel
theorem dX9_findFact_11 : decode cX9_findFact 11 = .ok (.if_icmp .eq 11, 3) := by decide +kernel
theorem dX9_findFact_14 : decode cX9_findFact 14 = .ok (.aload_n 0, 1) := by decide +kernel
theorem dX9_findFact_15 : decode cX9_findFact 15 = .ok (.iload_n 2, 1) := by decide +kernel
theorem dX9_findFact_16 : decode cX9_findFact 16 = .ok (.invokevirtual 143, 3) := by decide +kernel
theorem dX9_findFact_19 : decode cX9_findFact 19 = .ok (.ifCond .ne 5, 3) := by decide +kernel
theorem dX9_findFact_22 : decode cX9_findFact 22 = .ok (.iconst (-1), 1) := by decide +kernel
theorem dX9_findFact_23 : decode cX9_findFact 23 = .ok (.ireturn, 1) := by decide +kernel
theorem dX9_findFact_24 : decode cX9_findFact 24 = .ok (.aload_n 0, 1) := by decide +kernel
theorem dX9_findFact_25 : decode cX9_findFact 25 = .ok (.getfield 47, 3) := by decide +kernel
theorem dX9_findFact_28 : decode cX9_findFact 28 = .ok (.getfield 165, 3) := by decide +kernel
theorem dX9_findFact_31 : decode cX9_findFact 31 = .ok (.iload_n 3, 1) := by decide +kernel
theorem dX9_findFact_32 : decode cX9_findFact 32 = .ok (.iaload, 1) := by decide +kernel
theorem dX9_findFact_33 : decode cX9_findFact 33 = .ok (.iload_n 2, 1) := by decide +kernel
theorem dX9_findFact_34 : decode cX9_findFact 34 = .ok (.invokestatic 168, 3) := by decide +kernel
theorem dX9_findFact_37 : decode cX9_findFact 37 = .ok (.ifCond .eq 11, 3) := by decide +kernel
theorem dX9_findFact_40 : decode cX9_findFact 40 = .ok (.iload_n 3, 1) := by decide +kernel
theorem dX9_findFact_41 : decode cX9_findFact 41 = .ok (.iload_n 2, 1) := by decide +kernel
theorem dX9_findFact_42 : decode cX9_findFact 42 = .ok (.invokestatic 316, 3) := by decide +kernel
theorem dX9_findFact_45 : decode cX9_findFact 45 = .ok (.goto 5, 3) := by decide +kernel
theorem dX9_findFact_48 : decode cX9_findFact 48 = .ok (.bipush (-2), 2) := by decide +kernel
theorem dX9_findFact_50 : decode cX9_findFact 50 = .ok (.ireturn, 1) := by decide +kernel
set_option maxHeartbeats 4000000 in
set_option maxRecDepth 100000 in
theorem c_X9_findFact {l : Launch} {g : Gh} {w : Wd} {k0 : Nat} {v_location : Int32} {v_object : Int32} {rz : Int32} (hF : f_X9_findFact w k0 v_location v_object = some rz) (hk0 : zct zC k0 = 9) : Met l yX9_findFact (Cond.code yX9_findFact cX9_findFact 4 (some .int) :: TT) (rmd 2) (Pcw zC g w [.ref (g.2.2 k0), .int (v_location), .int (v_object)]) (Qw zC g w (some (.int (rz)))) 0 0 (zA zC g) := by
  refine mt_start (by decide) (Nat.le_of_ble_eq_true rfl) ?_
  intro p e s m args below meth c H locs ls X hr hl hH
  have hx := X.1
  have hb := X.2.1
  have hml := X.2.2.1
  have hown := X.2.2.2.1
  have ht := X.2.2.2.2.1
  have hl : lv_has ls 4 [(0, .ref (g.2.2 (k0))), (1, .int (v_location)), (2, .int (v_object))] := hl
  unfold f_X9_findFact at hF
  refine lv_aload_n hx hb dX9_findFact_0 rfl (lv_at hl 0 rfl) ?_
  obtain ⟨x1, h1, hF⟩ := ob hF
  refine w_getd X hH h1 hk0 fs_9_1 lk_9_19 dX9_findFact_1 (fun q1 => ?_)
  refine lv_iload_n hx hb dX9_findFact_4 rfl (lv_at hl 1 rfl) ?_
  refine w_callV (As := [.int (v_location)]) (k := x1) (rest := []) (st1 := [.int ((f_X6_slotAt w (x1) (v_location)))]) X hH (c_X6_slotAt (l := l) (g := g) (w := w) (k0 := x1) (v_location := v_location) rfl q1) (Or.inr ⟨_, tw_3_21⟩) ms_X6_slotAt im_X6_slotAt q1 cn_6 ⟨Nat.le_of_ble_eq_true rfl, Nat.le_of_ble_eq_true rfl⟩ rfl rfl hl.1 (Nat.le_of_ble_eq_true rfl) dX9_findFact_5 ⟨Nat.le_refl _, Nat.le_refl _⟩ rfl (fun H locs hH => ?_)
  refine lv_istore_n (lv' := [(3, .int ((f_X6_slotAt w (x1) (v_location)))), (0, .ref (g.2.2 (k0))), (1, .int (v_location)), (2, .int (v_object))]) hx hb dX9_findFact_8 rfl hl (by decide) rfl (fun ls hl => ?_)
  obtain ⟨b2, hb2, hF⟩ := ob hF
  have Jb2T : b2 = true → ∀ (H : Heap) (locs : List Loc), HW zC g w s.heap H locs → W p l e (rmd 2) s m args below meth c H locs 0 0 (MQ below (Qw zC g w (some (.int (rz)))) args s 0 0 (zA zC g)) (F0 m 22 ls []) := by
    intro hc H locs hH
    replace hF := ifp hc hF
    refine lv_iconst (v := (-1 : Int32)) hx hb dX9_findFact_22 (by decide) ?_
    obtain rfl := se1 hF
    exact w_iret X hH hr dX9_findFact_23
  have Jb2F : ¬ (b2 = true) → ∀ (H : Heap) (locs : List Loc), HW zC g w s.heap H locs → W p l e (rmd 2) s m args below meth c H locs 0 0 (MQ below (Qw zC g w (some (.int (rz)))) args s 0 0 (zA zC g)) (F0 m 24 ls []) := by
    intro hc H locs hH
    replace hF := ifn hc hF
    refine lv_aload_n hx hb dX9_findFact_24 rfl (lv_at hl 1 rfl) ?_
    refine w_getr X hH hk0 fs_9_6 lk_9_47 dX9_findFact_25 ?_
    refine w_getr X hH (rt_C_9_6 hk0) fs_7_0 lk_9_165 dX9_findFact_28 ?_
    refine lv_iload_n hx hb dX9_findFact_31 rfl (lv_at hl 0 rfl) ?_
    obtain ⟨x7, h7, hF⟩ := ob hF
    refine w_iald X hH h7 (rt_C_7_0 (rt_C_9_6 hk0)) dX9_findFact_32 ?_
    refine lv_iload_n hx hb dX9_findFact_33 rfl (lv_at hl 3 rfl) ?_
    refine w_callS (As := [.int (x7), .int (v_object)]) (rest := []) (st1 := [.int (bI ((f_X9_contains (x7) (v_object))))]) X hH (c_X9_contains (l := l) (g := g) (w := w) (v_set := x7) (v_number := v_object) rfl) (Or.inl tw_3_37) ms_X9_contains tw_2_147 ⟨Nat.le_of_ble_eq_true rfl, Nat.le_of_ble_eq_true rfl⟩ rfl rfl hl.1 (Nat.le_of_ble_eq_true rfl) dX9_findFact_34 ⟨Nat.le_refl _, Nat.le_refl _⟩ rfl (fun H locs hH => ?_)
    have J6 : ∀ (H : Heap) (locs : List Loc), HW zC g w s.heap H locs → W p l e (rmd 2) s m args below meth c H locs 0 0 (MQ below (Qw zC g w (some (.int (rz)))) args s 0 0 (zA zC g)) (F0 m 50 ls [.int ((if (f_X9_contains (x7) (v_object)) = true then (f_X9_factOf ((f_X6_slotAt w (x1) (v_location))) (v_object)) else (-2 : Int32)))]) := by
      intro H locs hH
      obtain rfl := se1 hF
      exact w_iret X hH hr dX9_findFact_50
    refine w_b_f (tgt := 48) hx hb dX9_findFact_37 (by decide) (fun c8 => ?_) (fun c8 => ?_)
    · refine lv_bipush (v := (-2 : Int32)) hx hb dX9_findFact_48 (by decide) ?_
      exact w_in c8 (J6 _ _ hH)
    · refine lv_iload_n hx hb dX9_findFact_40 rfl (lv_at hl 0 rfl) ?_
      refine lv_iload_n hx hb dX9_findFact_41 rfl (lv_at hl 3 rfl) ?_
      refine w_callS (As := [.int ((f_X6_slotAt w (x1) (v_location))), .int (v_object)]) (rest := []) (st1 := [.int ((f_X9_factOf ((f_X6_slotAt w (x1) (v_location))) (v_object)))]) X hH (c_X9_factOf (l := l) (g := g) (w := w) (v_slot := (f_X6_slotAt w (x1) (v_location))) (v_object := v_object) rfl) (Or.inl tw_3_38) ms_X9_factOf tw_2_199 ⟨Nat.le_of_ble_eq_true rfl, Nat.le_of_ble_eq_true rfl⟩ rfl rfl hl.1 (Nat.le_of_ble_eq_true rfl) dX9_findFact_42 ⟨Nat.le_refl _, Nat.le_refl _⟩ rfl (fun H locs hH => ?_)
      refine lv_goto (tgt := 50) hx hb dX9_findFact_45 (by decide) ?_
      exact w_ip c8 (J6 _ _ hH)
  have hF := hb2
  refine lv_iload_n hx hb dX9_findFact_9 rfl (lv_at hl 0 rfl) ?_
  refine lv_iconst (v := (-1 : Int32)) hx hb dX9_findFact_10 (by decide) ?_
  refine w_ieq_t (tgt := 22) hx hb dX9_findFact_11 (by decide) (fun c3 => ?_) (fun c3 => ?_)
  · replace hF := ifp c3 hF
    obtain rfl := se1 hF
    exact Jb2T rfl _ _ hH
  · replace hF := ifn c3 hF
    refine lv_aload_n hx hb dX9_findFact_14 rfl (lv_at hl 1 rfl) ?_
    refine lv_iload_n hx hb dX9_findFact_15 rfl (lv_at hl 3 rfl) ?_
    obtain ⟨x5, h5, hF⟩ := ob hF
    refine w_callV (As := [.int (v_object)]) (k := k0) (rest := []) (st1 := [.int (bI (x5))]) X hH (c_X9_isObject (l := l) (g := g) (w := w) (k0 := k0) (v_object := v_object) h5 hk0) (Or.inl tw_3_33) ms_X9_isObject im_X9_isObject hk0 cn_9 ⟨Nat.le_of_ble_eq_true rfl, Nat.le_of_ble_eq_true rfl⟩ rfl rfl hl.1 (Nat.le_of_ble_eq_true rfl) dX9_findFact_16 ⟨Nat.le_refl _, Nat.le_refl _⟩ rfl (fun H locs hH => ?_)
    refine w_b_t (tgt := 24) hx hb dX9_findFact_19 (by decide) (fun c4 => ?_) (fun c4 => ?_)
    · replace hF := ifp c4 hF
      obtain rfl := se1 hF
      exact Jb2F Bool.false_ne_true _ _ hH
    · replace hF := ifn c4 hF
      obtain rfl := se1 hF
      exact Jb2T rfl _ _ hH

theorem dX9_roundOf_0 : decode cX9_roundOf 0 = .ok (.aload_n 0, 1) := by decide +kernel
theorem dX9_roundOf_1 : decode cX9_roundOf 1 = .ok (.iload_n 1, 1) := by decide +kernel
theorem dX9_roundOf_2 : decode cX9_roundOf 2 = .ok (.iload_n 2, 1) := by decide +kernel
theorem dX9_roundOf_3 : decode cX9_roundOf 3 = .ok (.invokevirtual 175, 3) := by decide +kernel
theorem dX9_roundOf_6 : decode cX9_roundOf 6 = .ok (.istore_n 3, 1) := by decide +kernel
theorem dX9_roundOf_7 : decode cX9_roundOf 7 = .ok (.iload_n 3, 1) := by decide +kernel
theorem dX9_roundOf_8 : decode cX9_roundOf 8 = .ok (.ifCond .ge 7, 3) := by decide +kernel
theorem dX9_roundOf_11 : decode cX9_roundOf 11 = .ok (.iload_n 3, 1) := by decide +kernel
theorem dX9_roundOf_12 : decode cX9_roundOf 12 = .ok (.goto 12, 3) := by decide +kernel
theorem dX9_roundOf_15 : decode cX9_roundOf 15 = .ok (.aload_n 0, 1) := by decide +kernel
theorem dX9_roundOf_16 : decode cX9_roundOf 16 = .ok (.getfield 47, 3) := by decide +kernel
theorem dX9_roundOf_19 : decode cX9_roundOf 19 = .ok (.getfield 178, 3) := by decide +kernel
theorem dX9_roundOf_22 : decode cX9_roundOf 22 = .ok (.iload_n 3, 1) := by decide +kernel
theorem dX9_roundOf_23 : decode cX9_roundOf 23 = .ok (.iaload, 1) := by decide +kernel
theorem dX9_roundOf_24 : decode cX9_roundOf 24 = .ok (.ireturn, 1) := by decide +kernel
set_option maxHeartbeats 4000000 in
set_option maxRecDepth 100000 in
theorem c_X9_roundOf {l : Launch} {g : Gh} {w : Wd} {k0 : Nat} {v_location : Int32} {v_object : Int32} {rz : Int32} (hF : f_X9_roundOf w k0 v_location v_object = some rz) (hk0 : zct zC k0 = 9) : Met l yX9_roundOf (Cond.code yX9_roundOf cX9_roundOf 4 (some .int) :: TT) (rmd 3) (Pcw zC g w [.ref (g.2.2 k0), .int (v_location), .int (v_object)]) (Qw zC g w (some (.int (rz)))) 0 0 (zA zC g) := by
  refine mt_start (by decide) (Nat.le_of_ble_eq_true rfl) ?_
  intro p e s m args below meth c H locs ls X hr hl hH
  have hx := X.1
  have hb := X.2.1
  have hml := X.2.2.1
  have hown := X.2.2.2.1
  have ht := X.2.2.2.2.1
  have hl : lv_has ls 4 [(0, .ref (g.2.2 (k0))), (1, .int (v_location)), (2, .int (v_object))] := hl
  unfold f_X9_roundOf at hF
  refine lv_aload_n hx hb dX9_roundOf_0 rfl (lv_at hl 0 rfl) ?_
  refine lv_iload_n hx hb dX9_roundOf_1 rfl (lv_at hl 1 rfl) ?_
  refine lv_iload_n hx hb dX9_roundOf_2 rfl (lv_at hl 2 rfl) ?_
  obtain ⟨x1, h1, hF⟩ := ob hF
  refine w_callV (As := [.int (v_location), .int (v_object)]) (k := k0) (rest := []) (st1 := [.int (x1)]) X hH (c_X9_findFact (l := l) (g := g) (w := w) (k0 := k0) (v_location := v_location) (v_object := v_object) h1 hk0) (Or.inl tw_3_29) ms_X9_findFact im_X9_findFact hk0 cn_9 ⟨Nat.le_of_ble_eq_true rfl, Nat.le_of_ble_eq_true rfl⟩ rfl rfl hl.1 (Nat.le_of_ble_eq_true rfl) dX9_roundOf_3 ⟨Nat.le_refl _, Nat.le_refl _⟩ rfl (fun H locs hH => ?_)
  refine lv_istore_n (lv' := [(3, .int (x1)), (0, .ref (g.2.2 (k0))), (1, .int (v_location)), (2, .int (v_object))]) hx hb dX9_roundOf_6 rfl hl (by decide) rfl (fun ls hl => ?_)
  obtain ⟨x3, hx3, hF⟩ := ob hF
  have J2 : ∀ (H : Heap) (locs : List Loc), HW zC g w s.heap H locs → W p l e (rmd 3) s m args below meth c H locs 0 0 (MQ below (Qw zC g w (some (.int (rz)))) args s 0 0 (zA zC g)) (F0 m 24 ls [.int (x3)]) := by
    intro H locs hH
    obtain rfl := se1 hF
    exact w_iret X hH hr dX9_roundOf_24
  have hF := hx3
  refine lv_iload_n hx hb dX9_roundOf_7 rfl (lv_at hl 0 rfl) ?_
  refine w_zlt_f (tgt := 15) hx hb dX9_roundOf_8 (by decide) (fun c4 => ?_) (fun c4 => ?_)
  · replace hF := ifn c4 hF
    refine lv_aload_n hx hb dX9_roundOf_15 rfl (lv_at hl 1 rfl) ?_
    refine w_getr X hH hk0 fs_9_6 lk_9_47 dX9_roundOf_16 ?_
    refine w_getr X hH (rt_C_9_6 hk0) fs_7_5 lk_9_178 dX9_roundOf_19 ?_
    refine lv_iload_n hx hb dX9_roundOf_22 rfl (lv_at hl 0 rfl) ?_
    obtain ⟨x5, h5, hF⟩ := ob hF
    refine w_iald X hH h5 (rt_C_7_5 (rt_C_9_6 hk0)) dX9_roundOf_23 ?_
    obtain rfl := se1 hF
    exact J2 _ _ hH
  · replace hF := ifp c4 hF
    refine lv_iload_n hx hb dX9_roundOf_11 rfl (lv_at hl 0 rfl) ?_
    refine lv_goto (tgt := 24) hx hb dX9_roundOf_12 (by decide) ?_
    obtain rfl := se1 hF
    exact J2 _ _ hH

theorem dX9_locationOf_0 : decode cX9_locationOf 0 = .ok (.iload_n 0, 1) := by decide +kernel
theorem dX9_locationOf_1 : decode cX9_locationOf 1 = .ok (.bipush 16, 2) := by decide +kernel
theorem dX9_locationOf_3 : decode cX9_locationOf 3 = .ok (.if_icmp .ge 7, 3) := by decide +kernel
theorem dX9_locationOf_6 : decode cX9_locationOf 6 = .ok (.iload_n 0, 1) := by decide +kernel
theorem dX9_locationOf_7 : decode cX9_locationOf 7 = .ok (.goto 10, 3) := by decide +kernel
theorem dX9_locationOf_10 : decode cX9_locationOf 10 = .ok (.iload_n 0, 1) := by decide +kernel
theorem dX9_locationOf_11 : decode cX9_locationOf 11 = .ok (.bipush 16, 2) := by decide +kernel
theorem dX9_locationOf_13 : decode cX9_locationOf 13 = .ok (.isub, 1) := by decide +kernel
theorem dX9_locationOf_14 : decode cX9_locationOf 14 = .ok (.bipush 100, 2) := by decide +kernel
theorem dX9_locationOf_16 : decode cX9_locationOf 16 = .ok (.iadd, 1) := by decide +kernel
theorem dX9_locationOf_17 : decode cX9_locationOf 17 = .ok (.ireturn, 1) := by decide +kernel
set_option maxHeartbeats 4000000 in
set_option maxRecDepth 100000 in
theorem c_X9_locationOf {l : Launch} {g : Gh} {w : Wd} {v_slot : Int32} {rz : Int32} (hF : f_X9_locationOf v_slot = rz)  : Met l yX9_locationOf (Cond.code yX9_locationOf cX9_locationOf 1 (some .int) :: TT) (rmd 0) (Pcw zC g w [.int (v_slot)]) (Qw zC g w (some (.int (rz)))) 0 0 (zA zC g) := by
  refine mt_start (by decide) (Nat.le_of_ble_eq_true rfl) ?_
  intro p e s m args below meth c H locs ls X hr hl hH
  have hx := X.1
  have hb := X.2.1
  have hml := X.2.2.1
  have hown := X.2.2.2.1
  have ht := X.2.2.2.2.1
  have hl : lv_has ls 1 [(0, .int (v_slot))] := hl
  unfold f_X9_locationOf at hF
  refine lv_iload_n hx hb dX9_locationOf_0 rfl (lv_at hl 0 rfl) ?_
  refine lv_bipush (v := (16 : Int32)) hx hb dX9_locationOf_1 (by decide) ?_
  have J1 : ∀ (H : Heap) (locs : List Loc), HW zC g w s.heap H locs → W p l e (rmd 0) s m args below meth c H locs 0 0 (MQ below (Qw zC g w (some (.int (rz)))) args s 0 0 (zA zC g)) (F0 m 17 ls [.int ((if v_slot < (16 : Int32) then v_slot else ((v_slot - (16 : Int32)) + (100 : Int32))))]) := by
    intro H locs hH
    subst hF
    exact w_iret X hH hr dX9_locationOf_17
  refine w_ilt_f (tgt := 10) hx hb dX9_locationOf_3 (by decide) (fun c2 => ?_) (fun c2 => ?_)
  · refine lv_iload_n hx hb dX9_locationOf_10 rfl (lv_at hl 0 rfl) ?_
    refine lv_bipush (v := (16 : Int32)) hx hb dX9_locationOf_11 (by decide) ?_
    refine lv_isub hx hb dX9_locationOf_13 ?_
    refine lv_bipush (v := (100 : Int32)) hx hb dX9_locationOf_14 (by decide) ?_
    refine lv_iadd hx hb dX9_locationOf_16 ?_
    exact w_in c2 (J1 _ _ hH)
  · refine lv_iload_n hx hb dX9_locationOf_6 rfl (lv_at hl 0 rfl) ?_
    refine lv_goto (tgt := 17) hx hb dX9_locationOf_7 (by decide) ?_
    exact w_ip c2 (J1 _ _ hH)

theorem dJ13_bitCount_95d88_0 : decode cJ13_bitCount_95d88 0 = .ok (.lload_n 0, 1) := by decide +kernel
theorem dJ13_bitCount_95d88_1 : decode cJ13_bitCount_95d88 1 = .ok (.lload_n 0, 1) := by decide +kernel
theorem dJ13_bitCount_95d88_2 : decode cJ13_bitCount_95d88 2 = .ok (.iconst 1, 1) := by decide +kernel
theorem dJ13_bitCount_95d88_3 : decode cJ13_bitCount_95d88 3 = .ok (.lushr, 1) := by decide +kernel
theorem dJ13_bitCount_95d88_4 : decode cJ13_bitCount_95d88 4 = .ok (.ldc2_w 314, 3) := by decide +kernel
theorem dJ13_bitCount_95d88_7 : decode cJ13_bitCount_95d88 7 = .ok (.land, 1) := by decide +kernel
theorem dJ13_bitCount_95d88_8 : decode cJ13_bitCount_95d88 8 = .ok (.lsub, 1) := by decide +kernel
theorem dJ13_bitCount_95d88_9 : decode cJ13_bitCount_95d88 9 = .ok (.lstore_n 0, 1) := by decide +kernel
theorem dJ13_bitCount_95d88_10 : decode cJ13_bitCount_95d88 10 = .ok (.lload_n 0, 1) := by decide +kernel
theorem dJ13_bitCount_95d88_11 : decode cJ13_bitCount_95d88 11 = .ok (.ldc2_w 316, 3) := by decide +kernel
theorem dJ13_bitCount_95d88_14 : decode cJ13_bitCount_95d88 14 = .ok (.land, 1) := by decide +kernel
theorem dJ13_bitCount_95d88_15 : decode cJ13_bitCount_95d88 15 = .ok (.lload_n 0, 1) := by decide +kernel
theorem dJ13_bitCount_95d88_16 : decode cJ13_bitCount_95d88 16 = .ok (.iconst 2, 1) := by decide +kernel
theorem dJ13_bitCount_95d88_17 : decode cJ13_bitCount_95d88 17 = .ok (.lushr, 1) := by decide +kernel
theorem dJ13_bitCount_95d88_18 : decode cJ13_bitCount_95d88 18 = .ok (.ldc2_w 316, 3) := by decide +kernel
theorem dJ13_bitCount_95d88_21 : decode cJ13_bitCount_95d88 21 = .ok (.land, 1) := by decide +kernel
theorem dJ13_bitCount_95d88_22 : decode cJ13_bitCount_95d88 22 = .ok (.ladd, 1) := by decide +kernel
theorem dJ13_bitCount_95d88_23 : decode cJ13_bitCount_95d88 23 = .ok (.lstore_n 0, 1) := by decide +kernel
theorem dJ13_bitCount_95d88_24 : decode cJ13_bitCount_95d88 24 = .ok (.lload_n 0, 1) := by decide +kernel
theorem dJ13_bitCount_95d88_25 : decode cJ13_bitCount_95d88 25 = .ok (.lload_n 0, 1) := by decide +kernel
theorem dJ13_bitCount_95d88_26 : decode cJ13_bitCount_95d88 26 = .ok (.iconst 4, 1) := by decide +kernel
theorem dJ13_bitCount_95d88_27 : decode cJ13_bitCount_95d88 27 = .ok (.lushr, 1) := by decide +kernel
theorem dJ13_bitCount_95d88_28 : decode cJ13_bitCount_95d88 28 = .ok (.ladd, 1) := by decide +kernel
theorem dJ13_bitCount_95d88_29 : decode cJ13_bitCount_95d88 29 = .ok (.ldc2_w 318, 3) := by decide +kernel
theorem dJ13_bitCount_95d88_32 : decode cJ13_bitCount_95d88 32 = .ok (.land, 1) := by decide +kernel
theorem dJ13_bitCount_95d88_33 : decode cJ13_bitCount_95d88 33 = .ok (.lstore_n 0, 1) := by decide +kernel
theorem dJ13_bitCount_95d88_34 : decode cJ13_bitCount_95d88 34 = .ok (.lload_n 0, 1) := by decide +kernel
theorem dJ13_bitCount_95d88_35 : decode cJ13_bitCount_95d88 35 = .ok (.lload_n 0, 1) := by decide +kernel
theorem dJ13_bitCount_95d88_36 : decode cJ13_bitCount_95d88 36 = .ok (.bipush 8, 2) := by decide +kernel
theorem dJ13_bitCount_95d88_38 : decode cJ13_bitCount_95d88 38 = .ok (.lushr, 1) := by decide +kernel
theorem dJ13_bitCount_95d88_39 : decode cJ13_bitCount_95d88 39 = .ok (.ladd, 1) := by decide +kernel
theorem dJ13_bitCount_95d88_40 : decode cJ13_bitCount_95d88 40 = .ok (.lstore_n 0, 1) := by decide +kernel
theorem dJ13_bitCount_95d88_41 : decode cJ13_bitCount_95d88 41 = .ok (.lload_n 0, 1) := by decide +kernel
theorem dJ13_bitCount_95d88_42 : decode cJ13_bitCount_95d88 42 = .ok (.lload_n 0, 1) := by decide +kernel
theorem dJ13_bitCount_95d88_43 : decode cJ13_bitCount_95d88 43 = .ok (.bipush 16, 2) := by decide +kernel
theorem dJ13_bitCount_95d88_45 : decode cJ13_bitCount_95d88 45 = .ok (.lushr, 1) := by decide +kernel
theorem dJ13_bitCount_95d88_46 : decode cJ13_bitCount_95d88 46 = .ok (.ladd, 1) := by decide +kernel
theorem dJ13_bitCount_95d88_47 : decode cJ13_bitCount_95d88 47 = .ok (.lstore_n 0, 1) := by decide +kernel
theorem dJ13_bitCount_95d88_48 : decode cJ13_bitCount_95d88 48 = .ok (.lload_n 0, 1) := by decide +kernel
theorem dJ13_bitCount_95d88_49 : decode cJ13_bitCount_95d88 49 = .ok (.lload_n 0, 1) := by decide +kernel
theorem dJ13_bitCount_95d88_50 : decode cJ13_bitCount_95d88 50 = .ok (.bipush 32, 2) := by decide +kernel
theorem dJ13_bitCount_95d88_52 : decode cJ13_bitCount_95d88 52 = .ok (.lushr, 1) := by decide +kernel
theorem dJ13_bitCount_95d88_53 : decode cJ13_bitCount_95d88 53 = .ok (.ladd, 1) := by decide +kernel
theorem dJ13_bitCount_95d88_54 : decode cJ13_bitCount_95d88 54 = .ok (.lstore_n 0, 1) := by decide +kernel
theorem dJ13_bitCount_95d88_55 : decode cJ13_bitCount_95d88 55 = .ok (.lload_n 0, 1) := by decide +kernel
theorem dJ13_bitCount_95d88_56 : decode cJ13_bitCount_95d88 56 = .ok (.l2i, 1) := by decide +kernel
theorem dJ13_bitCount_95d88_57 : decode cJ13_bitCount_95d88 57 = .ok (.bipush 127, 2) := by decide +kernel
theorem dJ13_bitCount_95d88_59 : decode cJ13_bitCount_95d88 59 = .ok (.iand, 1) := by decide +kernel
theorem dJ13_bitCount_95d88_60 : decode cJ13_bitCount_95d88 60 = .ok (.ireturn, 1) := by decide +kernel
set_option maxHeartbeats 4000000 in
set_option maxRecDepth 100000 in
theorem c_J13_bitCount {l : Launch} {g : Gh} {w : Wd} {v_i : Int64} {rz : Int32} (hF : f_J13_bitCount v_i = rz)  : Met l yJ13_bitCount_95d88 (Cond.code yJ13_bitCount_95d88 cJ13_bitCount_95d88 2 (some .int) :: TT) (rmd 0) (Pcw zC g w [.long (v_i)]) (Qw zC g w (some (.int (rz)))) 0 0 (zA zC g) := by
  refine mt_start (by decide) (Nat.le_of_ble_eq_true rfl) ?_
  intro p e s m args below meth c H locs ls X hr hl hH
  have hx := X.1
  have hb := X.2.1
  have hml := X.2.2.1
  have hown := X.2.2.2.1
  have ht := X.2.2.2.2.1
  have hl : lv_has ls 2 [(0, .long (v_i))] := hl
  unfold f_J13_bitCount at hF
  refine lv_lload_n hx hb dJ13_bitCount_95d88_0 rfl (lv_at hl 0 rfl) ?_
  refine lv_lload_n hx hb dJ13_bitCount_95d88_1 rfl (lv_at hl 0 rfl) ?_
  refine lv_iconst (v := (1 : Int32)) hx hb dJ13_bitCount_95d88_2 (by decide) ?_
  refine w_lushr hx hb dJ13_bitCount_95d88_3 ?_
  refine lv_ldc2 (own := RJ13) (v := (6148914691236517205 : Int64)) hx hb hown (ht _ tw_3_105) dJ13_bitCount_95d88_4 ?_
  refine lv_land hx hb dJ13_bitCount_95d88_7 ?_
  refine lv_lsub hx hb dJ13_bitCount_95d88_8 ?_
  refine lv_lstore_n (lv' := [(0, .long ((v_i - ((jlushr (v_i) ((1 : Int32))) &&& (6148914691236517205 : Int64)))))]) hx hb dJ13_bitCount_95d88_9 rfl hl (by decide) rfl (fun ls hl => ?_)
  refine lv_lload_n hx hb dJ13_bitCount_95d88_10 rfl (lv_at hl 0 rfl) ?_
  refine lv_ldc2 (own := RJ13) (v := (3689348814741910323 : Int64)) hx hb hown (ht _ tw_3_106) dJ13_bitCount_95d88_11 ?_
  refine lv_land hx hb dJ13_bitCount_95d88_14 ?_
  refine lv_lload_n hx hb dJ13_bitCount_95d88_15 rfl (lv_at hl 0 rfl) ?_
  refine lv_iconst (v := (2 : Int32)) hx hb dJ13_bitCount_95d88_16 (by decide) ?_
  refine w_lushr hx hb dJ13_bitCount_95d88_17 ?_
  refine lv_ldc2 (own := RJ13) (v := (3689348814741910323 : Int64)) hx hb hown (ht _ tw_3_106) dJ13_bitCount_95d88_18 ?_
  refine lv_land hx hb dJ13_bitCount_95d88_21 ?_
  refine lv_ladd hx hb dJ13_bitCount_95d88_22 ?_
  refine lv_lstore_n (lv' := [(0, .long ((((v_i - ((jlushr (v_i) ((1 : Int32))) &&& (6148914691236517205 : Int64))) &&& (3689348814741910323 : Int64)) + ((jlushr ((v_i - ((jlushr (v_i) ((1 : Int32))) &&& (6148914691236517205 : Int64)))) ((2 : Int32))) &&& (3689348814741910323 : Int64)))))]) hx hb dJ13_bitCount_95d88_23 rfl hl (by decide) rfl (fun ls hl => ?_)
  refine lv_lload_n hx hb dJ13_bitCount_95d88_24 rfl (lv_at hl 0 rfl) ?_
  refine lv_lload_n hx hb dJ13_bitCount_95d88_25 rfl (lv_at hl 0 rfl) ?_
  refine lv_iconst (v := (4 : Int32)) hx hb dJ13_bitCount_95d88_26 (by decide) ?_
  refine w_lushr hx hb dJ13_bitCount_95d88_27 ?_
  refine lv_ladd hx hb dJ13_bitCount_95d88_28 ?_
  refine lv_ldc2 (own := RJ13) (v := (1085102592571150095 : Int64)) hx hb hown (ht _ tw_3_107) dJ13_bitCount_95d88_29 ?_
  refine lv_land hx hb dJ13_bitCount_95d88_32 ?_
  refine lv_lstore_n (lv' := [(0, .long ((((((v_i - ((jlushr (v_i) ((1 : Int32))) &&& (6148914691236517205 : Int64))) &&& (3689348814741910323 : Int64)) + ((jlushr ((v_i - ((jlushr (v_i) ((1 : Int32))) &&& (6148914691236517205 : Int64)))) ((2 : Int32))) &&& (3689348814741910323 : Int64))) + (jlushr ((((v_i - ((jlushr (v_i) ((1 : Int32))) &&& (6148914691236517205 : Int64))) &&& (3689348814741910323 : Int64)) + ((jlushr ((v_i - ((jlushr (v_i) ((1 : Int32))) &&& (6148914691236517205 : Int64)))) ((2 : Int32))) &&& (3689348814741910323 : Int64)))) ((4 : Int32)))) &&& (1085102592571150095 : Int64))))]) hx hb dJ13_bitCount_95d88_33 rfl hl (by decide) rfl (fun ls hl => ?_)
  refine lv_lload_n hx hb dJ13_bitCount_95d88_34 rfl (lv_at hl 0 rfl) ?_
  refine lv_lload_n hx hb dJ13_bitCount_95d88_35 rfl (lv_at hl 0 rfl) ?_
  refine lv_bipush (v := (8 : Int32)) hx hb dJ13_bitCount_95d88_36 (by decide) ?_
  refine w_lushr hx hb dJ13_bitCount_95d88_38 ?_
  refine lv_ladd hx hb dJ13_bitCount_95d88_39 ?_
  refine lv_lstore_n (lv' := [(0, .long (((((((v_i - ((jlushr (v_i) ((1 : Int32))) &&& (6148914691236517205 : Int64))) &&& (3689348814741910323 : Int64)) + ((jlushr ((v_i - ((jlushr (v_i) ((1 : Int32))) &&& (6148914691236517205 : Int64)))) ((2 : Int32))) &&& (3689348814741910323 : Int64))) + (jlushr ((((v_i - ((jlushr (v_i) ((1 : Int32))) &&& (6148914691236517205 : Int64))) &&& (3689348814741910323 : Int64)) + ((jlushr ((v_i - ((jlushr (v_i) ((1 : Int32))) &&& (6148914691236517205 : Int64)))) ((2 : Int32))) &&& (3689348814741910323 : Int64)))) ((4 : Int32)))) &&& (1085102592571150095 : Int64)) + (jlushr ((((((v_i - ((jlushr (v_i) ((1 : Int32))) &&& (6148914691236517205 : Int64))) &&& (3689348814741910323 : Int64)) + ((jlushr ((v_i - ((jlushr (v_i) ((1 : Int32))) &&& (6148914691236517205 : Int64)))) ((2 : Int32))) &&& (3689348814741910323 : Int64))) + (jlushr ((((v_i - ((jlushr (v_i) ((1 : Int32))) &&& (6148914691236517205 : Int64))) &&& (3689348814741910323 : Int64)) + ((jlushr ((v_i - ((jlushr (v_i) ((1 : Int32))) &&& (6148914691236517205 : Int64)))) ((2 : Int32))) &&& (3689348814741910323 : Int64)))) ((4 : Int32)))) &&& (1085102592571150095 : Int64))) ((8 : Int32))))))]) hx hb dJ13_bitCount_95d88_40 rfl hl (by decide) rfl (fun ls hl => ?_)
  refine lv_lload_n hx hb dJ13_bitCount_95d88_41 rfl (lv_at hl 0 rfl) ?_
  refine lv_lload_n hx hb dJ13_bitCount_95d88_42 rfl (lv_at hl 0 rfl) ?_
  refine lv_bipush (v := (16 : Int32)) hx hb dJ13_bitCount_95d88_43 (by decide) ?_
  refine w_lushr hx hb dJ13_bitCount_95d88_45 ?_
  refine lv_ladd hx hb dJ13_bitCount_95d88_46 ?_
  refine lv_lstore_n (lv' := [(0, .long ((((((((v_i - ((jlushr (v_i) ((1 : Int32))) &&& (6148914691236517205 : Int64))) &&& (3689348814741910323 : Int64)) + ((jlushr ((v_i - ((jlushr (v_i) ((1 : Int32))) &&& (6148914691236517205 : Int64)))) ((2 : Int32))) &&& (3689348814741910323 : Int64))) + (jlushr ((((v_i - ((jlushr (v_i) ((1 : Int32))) &&& (6148914691236517205 : Int64))) &&& (3689348814741910323 : Int64)) + ((jlushr ((v_i - ((jlushr (v_i) ((1 : Int32))) &&& (6148914691236517205 : Int64)))) ((2 : Int32))) &&& (3689348814741910323 : Int64)))) ((4 : Int32)))) &&& (1085102592571150095 : Int64)) + (jlushr ((((((v_i - ((jlushr (v_i) ((1 : Int32))) &&& (6148914691236517205 : Int64))) &&& (3689348814741910323 : Int64)) + ((jlushr ((v_i - ((jlushr (v_i) ((1 : Int32))) &&& (6148914691236517205 : Int64)))) ((2 : Int32))) &&& (3689348814741910323 : Int64))) + (jlushr ((((v_i - ((jlushr (v_i) ((1 : Int32))) &&& (6148914691236517205 : Int64))) &&& (3689348814741910323 : Int64)) + ((jlushr ((v_i - ((jlushr (v_i) ((1 : Int32))) &&& (6148914691236517205 : Int64)))) ((2 : Int32))) &&& (3689348814741910323 : Int64)))) ((4 : Int32)))) &&& (1085102592571150095 : Int64))) ((8 : Int32)))) + (jlushr (((((((v_i - ((jlushr (v_i) ((1 : Int32))) &&& (6148914691236517205 : Int64))) &&& (3689348814741910323 : Int64)) + ((jlushr ((v_i - ((jlushr (v_i) ((1 : Int32))) &&& (6148914691236517205 : Int64)))) ((2 : Int32))) &&& (3689348814741910323 : Int64))) + (jlushr ((((v_i - ((jlushr (v_i) ((1 : Int32))) &&& (6148914691236517205 : Int64))) &&& (3689348814741910323 : Int64)) + ((jlushr ((v_i - ((jlushr (v_i) ((1 : Int32))) &&& (6148914691236517205 : Int64)))) ((2 : Int32))) &&& (3689348814741910323 : Int64)))) ((4 : Int32)))) &&& (1085102592571150095 : Int64)) + (jlushr ((((((v_i - ((jlushr (v_i) ((1 : Int32))) &&& (6148914691236517205 : Int64))) &&& (3689348814741910323 : Int64)) + ((jlushr ((v_i - ((jlushr (v_i) ((1 : Int32))) &&& (6148914691236517205 : Int64)))) ((2 : Int32))) &&& (3689348814741910323 : Int64))) + (jlushr ((((v_i - ((jlushr (v_i) ((1 : Int32))) &&& (6148914691236517205 : Int64))) &&& (3689348814741910323 : Int64)) + ((jlushr ((v_i - ((jlushr (v_i) ((1 : Int32))) &&& (6148914691236517205 : Int64)))) ((2 : Int32))) &&& (3689348814741910323 : Int64)))) ((4 : Int32)))) &&& (1085102592571150095 : Int64))) ((8 : Int32))))) ((16 : Int32))))))]) hx hb dJ13_bitCount_95d88_47 rfl hl (by decide) rfl (fun ls hl => ?_)
  refine lv_lload_n hx hb dJ13_bitCount_95d88_48 rfl (lv_at hl 0 rfl) ?_
  refine lv_lload_n hx hb dJ13_bitCount_95d88_49 rfl (lv_at hl 0 rfl) ?_
  refine lv_bipush (v := (32 : Int32)) hx hb dJ13_bitCount_95d88_50 (by decide) ?_
  refine w_lushr hx hb dJ13_bitCount_95d88_52 ?_
  refine lv_ladd hx hb dJ13_bitCount_95d88_53 ?_
  refine lv_lstore_n (lv' := [(0, .long (((((((((v_i - ((jlushr (v_i) ((1 : Int32))) &&& (6148914691236517205 : Int64))) &&& (3689348814741910323 : Int64)) + ((jlushr ((v_i - ((jlushr (v_i) ((1 : Int32))) &&& (6148914691236517205 : Int64)))) ((2 : Int32))) &&& (3689348814741910323 : Int64))) + (jlushr ((((v_i - ((jlushr (v_i) ((1 : Int32))) &&& (6148914691236517205 : Int64))) &&& (3689348814741910323 : Int64)) + ((jlushr ((v_i - ((jlushr (v_i) ((1 : Int32))) &&& (6148914691236517205 : Int64)))) ((2 : Int32))) &&& (3689348814741910323 : Int64)))) ((4 : Int32)))) &&& (1085102592571150095 : Int64)) + (jlushr ((((((v_i - ((jlushr (v_i) ((1 : Int32))) &&& (6148914691236517205 : Int64))) &&& (3689348814741910323 : Int64)) + ((jlushr ((v_i - ((jlushr (v_i) ((1 : Int32))) &&& (6148914691236517205 : Int64)))) ((2 : Int32))) &&& (3689348814741910323 : Int64))) + (jlushr ((((v_i - ((jlushr (v_i) ((1 : Int32))) &&& (6148914691236517205 : Int64))) &&& (3689348814741910323 : Int64)) + ((jlushr ((v_i - ((jlushr (v_i) ((1 : Int32))) &&& (6148914691236517205 : Int64)))) ((2 : Int32))) &&& (3689348814741910323 : Int64)))) ((4 : Int32)))) &&& (1085102592571150095 : Int64))) ((8 : Int32)))) + (jlushr (((((((v_i - ((jlushr (v_i) ((1 : Int32))) &&& (6148914691236517205 : Int64))) &&& (3689348814741910323 : Int64)) + ((jlushr ((v_i - ((jlushr (v_i) ((1 : Int32))) &&& (6148914691236517205 : Int64)))) ((2 : Int32))) &&& (3689348814741910323 : Int64))) + (jlushr ((((v_i - ((jlushr (v_i) ((1 : Int32))) &&& (6148914691236517205 : Int64))) &&& (3689348814741910323 : Int64)) + ((jlushr ((v_i - ((jlushr (v_i) ((1 : Int32))) &&& (6148914691236517205 : Int64)))) ((2 : Int32))) &&& (3689348814741910323 : Int64)))) ((4 : Int32)))) &&& (1085102592571150095 : Int64)) + (jlushr ((((((v_i - ((jlushr (v_i) ((1 : Int32))) &&& (6148914691236517205 : Int64))) &&& (3689348814741910323 : Int64)) + ((jlushr ((v_i - ((jlushr (v_i) ((1 : Int32))) &&& (6148914691236517205 : Int64)))) ((2 : Int32))) &&& (3689348814741910323 : Int64))) + (jlushr ((((v_i - ((jlushr (v_i) ((1 : Int32))) &&& (6148914691236517205 : Int64))) &&& (3689348814741910323 : Int64)) + ((jlushr ((v_i - ((jlushr (v_i) ((1 : Int32))) &&& (6148914691236517205 : Int64)))) ((2 : Int32))) &&& (3689348814741910323 : Int64)))) ((4 : Int32)))) &&& (1085102592571150095 : Int64))) ((8 : Int32))))) ((16 : Int32)))) + (jlushr ((((((((v_i - ((jlushr (v_i) ((1 : Int32))) &&& (6148914691236517205 : Int64))) &&& (3689348814741910323 : Int64)) + ((jlushr ((v_i - ((jlushr (v_i) ((1 : Int32))) &&& (6148914691236517205 : Int64)))) ((2 : Int32))) &&& (3689348814741910323 : Int64))) + (jlushr ((((v_i - ((jlushr (v_i) ((1 : Int32))) &&& (6148914691236517205 : Int64))) &&& (3689348814741910323 : Int64)) + ((jlushr ((v_i - ((jlushr (v_i) ((1 : Int32))) &&& (6148914691236517205 : Int64)))) ((2 : Int32))) &&& (3689348814741910323 : Int64)))) ((4 : Int32)))) &&& (1085102592571150095 : Int64)) + (jlushr ((((((v_i - ((jlushr (v_i) ((1 : Int32))) &&& (6148914691236517205 : Int64))) &&& (3689348814741910323 : Int64)) + ((jlushr ((v_i - ((jlushr (v_i) ((1 : Int32))) &&& (6148914691236517205 : Int64)))) ((2 : Int32))) &&& (3689348814741910323 : Int64))) + (jlushr ((((v_i - ((jlushr (v_i) ((1 : Int32))) &&& (6148914691236517205 : Int64))) &&& (3689348814741910323 : Int64)) + ((jlushr ((v_i - ((jlushr (v_i) ((1 : Int32))) &&& (6148914691236517205 : Int64)))) ((2 : Int32))) &&& (3689348814741910323 : Int64)))) ((4 : Int32)))) &&& (1085102592571150095 : Int64))) ((8 : Int32)))) + (jlushr (((((((v_i - ((jlushr (v_i) ((1 : Int32))) &&& (6148914691236517205 : Int64))) &&& (3689348814741910323 : Int64)) + ((jlushr ((v_i - ((jlushr (v_i) ((1 : Int32))) &&& (6148914691236517205 : Int64)))) ((2 : Int32))) &&& (3689348814741910323 : Int64))) + (jlushr ((((v_i - ((jlushr (v_i) ((1 : Int32))) &&& (6148914691236517205 : Int64))) &&& (3689348814741910323 : Int64)) + ((jlushr ((v_i - ((jlushr (v_i) ((1 : Int32))) &&& (6148914691236517205 : Int64)))) ((2 : Int32))) &&& (3689348814741910323 : Int64)))) ((4 : Int32)))) &&& (1085102592571150095 : Int64)) + (jlushr ((((((v_i - ((jlushr (v_i) ((1 : Int32))) &&& (6148914691236517205 : Int64))) &&& (3689348814741910323 : Int64)) + ((jlushr ((v_i - ((jlushr (v_i) ((1 : Int32))) &&& (6148914691236517205 : Int64)))) ((2 : Int32))) &&& (3689348814741910323 : Int64))) + (jlushr ((((v_i - ((jlushr (v_i) ((1 : Int32))) &&& (6148914691236517205 : Int64))) &&& (3689348814741910323 : Int64)) + ((jlushr ((v_i - ((jlushr (v_i) ((1 : Int32))) &&& (6148914691236517205 : Int64)))) ((2 : Int32))) &&& (3689348814741910323 : Int64)))) ((4 : Int32)))) &&& (1085102592571150095 : Int64))) ((8 : Int32))))) ((16 : Int32))))) ((32 : Int32))))))]) hx hb dJ13_bitCount_95d88_54 rfl hl (by decide) rfl (fun ls hl => ?_)
  refine lv_lload_n hx hb dJ13_bitCount_95d88_55 rfl (lv_at hl 0 rfl) ?_
  refine w_l2i hx hb dJ13_bitCount_95d88_56 ?_
  refine lv_bipush (v := (127 : Int32)) hx hb dJ13_bitCount_95d88_57 (by decide) ?_
  refine lv_iand hx hb dJ13_bitCount_95d88_59 ?_
  subst hF
  exact w_iret X hH hr dJ13_bitCount_95d88_60
