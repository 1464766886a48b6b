theorem dX10_append_0 : decode cX10_append 0 = .ok (.aload_n 0, 1) := by decide +kernel
theorem dX10_append_1 : decode cX10_append 1 = .ok (.iconst 0, 1) := by decide +kernel
theorem dX10_append_2 : decode cX10_append 2 = .ok (.putfield 85, 3) := by decide +kernel
theorem dX10_append_5 : decode cX10_append 5 = .ok (.aload_n 0, 1) := by decide +kernel
theorem dX10_append_6 : decode cX10_append 6 = .ok (.getfield 89, 3) := by decide +kernel
theorem dX10_append_9 : decode cX10_append 9 = .ok (.bipush 20, 2) := by decide +kernel
theorem dX10_append_11 : decode cX10_append 11 = .ok (.iadd, 1) := by decide +kernel
theorem dX10_append_12 : decode cX10_append 12 = .ok (.sipush 600, 3) := by decide +kernel
theorem dX10_append_15 : decode cX10_append 15 = .ok (.if_icmp .le 5, 3) := by decide +kernel
theorem dX10_append_18 : decode cX10_append 18 = .ok (.iconst (-1), 1) := by decide +kernel
theorem dX10_append_19 : decode cX10_append 19 = .ok (.ireturn, 1) := by decide +kernel
theorem dX10_append_20 : decode cX10_append 20 = .ok (.aload_n 0, 1) := by decide +kernel
theorem dX10_append_21 : decode cX10_append 21 = .ok (.iload_n 1, 1) := by decide +kernel
theorem dX10_append_22 : decode cX10_append 22 = .ok (.invokevirtual 92, 3) := by decide +kernel
theorem dX10_append_25 : decode cX10_append 25 = .ok (.aload_n 0, 1) := by decide +kernel
theorem dX10_append_26 : decode cX10_append 26 = .ok (.iload_n 2, 1) := by decide +kernel
theorem dX10_append_27 : decode cX10_append 27 = .ok (.invokevirtual 92, 3) := by decide +kernel
theorem dX10_append_30 : decode cX10_append 30 = .ok (.aload_n 0, 1) := by decide +kernel
theorem dX10_append_31 : decode cX10_append 31 = .ok (.iload_n 3, 1) := by decide +kernel
theorem dX10_append_32 : decode cX10_append 32 = .ok (.invokevirtual 92, 3) := by decide +kernel
theorem dX10_append_35 : decode cX10_append 35 = .ok (.aload_n 0, 1) := by decide +kernel
theorem dX10_append_36 : decode cX10_append 36 = .ok (.iload 4, 2) := by decide +kernel
theorem dX10_append_38 : decode cX10_append 38 = .ok (.invokevirtual 92, 3) := by decide +kernel
theorem dX10_append_41 : decode cX10_append 41 = .ok (.aload_n 0, 1) := by decide +kernel
theorem dX10_append_42 : decode cX10_append 42 = .ok (.iload 5, 2) := by decide +kernel
theorem dX10_append_44 : decode cX10_append 44 = .ok (.invokevirtual 92, 3) := by decide +kernel
theorem dX10_append_47 : decode cX10_append 47 = .ok (.aload_n 0, 1) := by decide +kernel
theorem dX10_append_48 : decode cX10_append 48 = .ok (.getfield 89, 3) := by decide +kernel
theorem dX10_append_51 : decode cX10_append 51 = .ok (.ireturn, 1) := by decide +kernel
set_option maxHeartbeats 4000000 in
set_option maxRecDepth 100000 in
theorem c_X10_append {l : Launch} {g : Gh} {w : Wd} {k0 : Nat} {v_a : Int32} {v_b : Int32} {v_c : Int32} {v_d : Int32} {v_e : Int32} {rz : Int32} {wz : Wd} (hF : f_X10_append w k0 v_a v_b v_c v_d v_e = some (rz, wz)) (hk0 : zct zM k0 = 10) : Met l yX10_append (Cond.code yX10_append cX10_append 6 (some .int) :: TT) (rmd 1) (Pcw zM g w [.ref (g.2.2 k0), .int (v_a), .int (v_b), .int (v_c), .int (v_d), .int (v_e)]) (Qw zM g wz (some (.int (rz)))) 0 0 (zA zM g) := by
  refine mt_start (by decide) (Nat.le_of_ble_eq_true rfl) ?_
  intro p e s m args below meth c H locs ls X hr hl hH
  have hx := X.1
  have hb := X.2.1
  have hml := X.2.2.1
  have hown := X.2.2.2.1
  have ht := X.2.2.2.2.1
  have hl : lv_has ls 6 [(0, .ref (g.2.2 (k0))), (1, .int (v_a)), (2, .int (v_b)), (3, .int (v_c)), (4, .int (v_d)), (5, .int (v_e))] := hl
  unfold f_X10_append at hF
  refine lv_aload_n hx hb dX10_append_0 rfl (lv_at hl 0 rfl) ?_
  refine lv_iconst (v := (0 : Int32)) hx hb dX10_append_1 (by decide) ?_
  obtain ⟨w1, h1, hF⟩ := ob hF
  refine w_puti X hH h1 hk0 fs_10_0 nf_10_0 lk_10_85 dX10_append_2 (fun H locs hH => ?_)
  refine lv_aload_n hx hb dX10_append_5 rfl (lv_at hl 0 rfl) ?_
  refine w_geti X hH hk0 fs_10_2 lk_10_89 dX10_append_6 ?_
  refine lv_bipush (v := (20 : Int32)) hx hb dX10_append_9 (by decide) ?_
  refine lv_iadd hx hb dX10_append_11 ?_
  refine lv_sipush (v := (600 : Int32)) hx hb dX10_append_12 (by decide) ?_
  refine w_igt_f (tgt := 20) hx hb dX10_append_15 (by decide) (fun c2 => ?_) (fun c2 => ?_)
  · replace hF := ifn c2 hF
    refine lv_aload_n hx hb dX10_append_20 rfl (lv_at hl 0 rfl) ?_
    refine lv_iload_n hx hb dX10_append_21 rfl (lv_at hl 1 rfl) ?_
    obtain ⟨w3, h3, hF⟩ := ob hF
    refine w_callV (As := [.int (v_a)]) (k := k0) (rest := []) (st1 := []) X hH (c_X10_appendInt (l := l) (g := g) (w := w1) (k0 := k0) (v_v := v_a) h3 hk0) (Or.inl tw_5_211) ms_X10_appendInt im_X10_appendInt hk0 cn_10 ⟨Nat.le_of_ble_eq_true rfl, Nat.le_of_ble_eq_true rfl⟩ rfl rfl hl.1 (Nat.le_of_ble_eq_true rfl) dX10_append_22 ⟨Nat.le_refl _, Nat.le_refl _⟩ rfl (fun H locs hH => ?_)
    refine lv_aload_n hx hb dX10_append_25 rfl (lv_at hl 0 rfl) ?_
    refine lv_iload_n hx hb dX10_append_26 rfl (lv_at hl 2 rfl) ?_
    obtain ⟨w4, h4, hF⟩ := ob hF
    refine w_callV (As := [.int (v_b)]) (k := k0) (rest := []) (st1 := []) X hH (c_X10_appendInt (l := l) (g := g) (w := w3) (k0 := k0) (v_v := v_b) h4 hk0) (Or.inl tw_5_211) ms_X10_appendInt im_X10_appendInt hk0 cn_10 ⟨Nat.le_of_ble_eq_true rfl, Nat.le_of_ble_eq_true rfl⟩ rfl rfl hl.1 (Nat.le_of_ble_eq_true rfl) dX10_append_27 ⟨Nat.le_refl _, Nat.le_refl _⟩ rfl (fun H locs hH => ?_)
    refine lv_aload_n hx hb dX10_append_30 rfl (lv_at hl 0 rfl) ?_
    refine lv_iload_n hx hb dX10_append_31 rfl (lv_at hl 3 rfl) ?_
    obtain ⟨w5, h5, hF⟩ := ob hF
    refine w_callV (As := [.int (v_c)]) (k := k0) (rest := []) (st1 := []) X hH (c_X10_appendInt (l := l) (g := g) (w := w4) (k0 := k0) (v_v := v_c) h5 hk0) (Or.inl tw_5_211) ms_X10_appendInt im_X10_appendInt hk0 cn_10 ⟨Nat.le_of_ble_eq_true rfl, Nat.le_of_ble_eq_true rfl⟩ rfl rfl hl.1 (Nat.le_of_ble_eq_true rfl) dX10_append_32 ⟨Nat.le_refl _, Nat.le_refl _⟩ rfl (fun H locs hH => ?_)
    refine lv_aload_n hx hb dX10_append_35 rfl (lv_at hl 0 rfl) ?_
    refine lv_iload hx hb dX10_append_36 (lv_at hl 4 rfl) ?_
    obtain ⟨w6, h6, hF⟩ := ob hF
    refine w_callV (As := [.int (v_d)]) (k := k0) (rest := []) (st1 := []) X hH (c_X10_appendInt (l := l) (g := g) (w := w5) (k0 := k0) (v_v := v_d) h6 hk0) (Or.inl tw_5_211) ms_X10_appendInt im_X10_appendInt hk0 cn_10 ⟨Nat.le_of_ble_eq_true rfl, Nat.le_of_ble_eq_true rfl⟩ rfl rfl hl.1 (Nat.le_of_ble_eq_true rfl) dX10_append_38 ⟨Nat.le_refl _, Nat.le_refl _⟩ rfl (fun H locs hH => ?_)
    refine lv_aload_n hx hb dX10_append_41 rfl (lv_at hl 0 rfl) ?_
    refine lv_iload hx hb dX10_append_42 (lv_at hl 5 rfl) ?_
    obtain ⟨w7, h7, hF⟩ := ob hF
    refine w_callV (As := [.int (v_e)]) (k := k0) (rest := []) (st1 := []) X hH (c_X10_appendInt (l := l) (g := g) (w := w6) (k0 := k0) (v_v := v_e) h7 hk0) (Or.inl tw_5_211) ms_X10_appendInt im_X10_appendInt hk0 cn_10 ⟨Nat.le_of_ble_eq_true rfl, Nat.le_of_ble_eq_true rfl⟩ rfl rfl hl.1 (Nat.le_of_ble_eq_true rfl) dX10_append_44 ⟨Nat.le_refl _, Nat.le_refl _⟩ rfl (fun H locs hH => ?_)
    refine lv_aload_n hx hb dX10_append_47 rfl (lv_at hl 0 rfl) ?_
    refine w_geti X hH hk0 fs_10_2 lk_10_89 dX10_append_48 ?_
    obtain ⟨rfl, rfl⟩ := se2 hF
    exact w_iret X hH hr dX10_append_51
  · replace hF := ifp c2 hF
    refine lv_iconst (v := (-1 : Int32)) hx hb dX10_append_18 (by decide) ?_
    obtain ⟨rfl, rfl⟩ := se2 hF
    exact w_iret X hH hr dX10_append_19

theorem dX10_bufferLength_0 : decode cX10_bufferLength 0 = .ok (.aload_n 0, 1) := by decide +kernel
theorem dX10_bufferLength_1 : decode cX10_bufferLength 1 = .ok (.iconst 0, 1) := by decide +kernel
theorem dX10_bufferLength_2 : decode cX10_bufferLength 2 = .ok (.putfield 85, 3) := by decide +kernel
theorem dX10_bufferLength_5 : decode cX10_bufferLength 5 = .ok (.aload_n 0, 1) := by decide +kernel
theorem dX10_bufferLength_6 : decode cX10_bufferLength 6 = .ok (.getfield 89, 3) := by decide +kernel
theorem dX10_bufferLength_9 : decode cX10_bufferLength 9 = .ok (.ireturn, 1) := by decide +kernel
set_option maxHeartbeats 4000000 in
set_option maxRecDepth 100000 in
theorem c_X10_bufferLength {l : Launch} {g : Gh} {w : Wd} {k0 : Nat} {rz : Int32} {wz : Wd} (hF : f_X10_bufferLength w k0 = some (rz, wz)) (hk0 : zct zM k0 = 10) : Met l yX10_bufferLength (Cond.code yX10_bufferLength cX10_bufferLength 1 (some .int) :: TT) (rmd 0) (Pcw zM g w [.ref (g.2.2 k0)]) (Qw zM g wz (some (.int (rz)))) 0 0 (zA zM g) := by
  refine mt_start (by decide) (Nat.le_of_ble_eq_true rfl) ?_
  intro p e s m args below meth c H locs ls X hr hl hH
  have hx := X.1
  have hb := X.2.1
  have hml := X.2.2.1
  have hown := X.2.2.2.1
  have ht := X.2.2.2.2.1
  have hl : lv_has ls 1 [(0, .ref (g.2.2 (k0)))] := hl
  unfold f_X10_bufferLength at hF
  refine lv_aload_n hx hb dX10_bufferLength_0 rfl (lv_at hl 0 rfl) ?_
  refine lv_iconst (v := (0 : Int32)) hx hb dX10_bufferLength_1 (by decide) ?_
  obtain ⟨w1, h1, hF⟩ := ob hF
  refine w_puti X hH h1 hk0 fs_10_0 nf_10_0 lk_10_85 dX10_bufferLength_2 (fun H locs hH => ?_)
  refine lv_aload_n hx hb dX10_bufferLength_5 rfl (lv_at hl 0 rfl) ?_
  refine w_geti X hH hk0 fs_10_2 lk_10_89 dX10_bufferLength_6 ?_
  obtain ⟨rfl, rfl⟩ := se2 hF
  exact w_iret X hH hr dX10_bufferLength_9

theorem dX10_byteAt_0 : decode cX10_byteAt 0 = .ok (.iload_n 1, 1) := by decide +kernel
theorem dX10_byteAt_1 : decode cX10_byteAt 1 = .ok (.aload_n 0, 1) := by decide +kernel
theorem dX10_byteAt_2 : decode cX10_byteAt 2 = .ok (.getfield 96, 3) := by decide +kernel
theorem dX10_byteAt_5 : decode cX10_byteAt 5 = .ok (.if_icmp .ge 16, 3) := by decide +kernel
theorem dX10_byteAt_8 : decode cX10_byteAt 8 = .ok (.aload_n 0, 1) := by decide +kernel
theorem dX10_byteAt_9 : decode cX10_byteAt 9 = .ok (.getfield 7, 3) := by decide +kernel
theorem dX10_byteAt_12 : decode cX10_byteAt 12 = .ok (.iload_n 1, 1) := by decide +kernel
theorem dX10_byteAt_13 : decode cX10_byteAt 13 = .ok (.baload, 1) := by decide +kernel
theorem dX10_byteAt_14 : decode cX10_byteAt 14 = .ok (.sipush 255, 3) := by decide +kernel
theorem dX10_byteAt_17 : decode cX10_byteAt 17 = .ok (.iand, 1) := by decide +kernel
theorem dX10_byteAt_18 : decode cX10_byteAt 18 = .ok (.goto 4, 3) := by decide +kernel
theorem dX10_byteAt_21 : decode cX10_byteAt 21 = .ok (.iconst (-1), 1) := by decide +kernel
theorem dX10_byteAt_22 : decode cX10_byteAt 22 = .ok (.ireturn, 1) := by decide +kernel
set_option maxHeartbeats 4000000 in
set_option maxRecDepth 100000 in
theorem c_X10_byteAt {l : Launch} {g : Gh} {w : Wd} {k0 : Nat} {v_k : Int32} {rz : Int32} (hF : f_X10_byteAt w k0 v_k = some rz) (hk0 : zct zM k0 = 10) : Met l yX10_byteAt (Cond.code yX10_byteAt cX10_byteAt 2 (some .int) :: TT) (rmd 0) (Pcw zM g w [.ref (g.2.2 k0), .int (v_k)]) (Qw zM g w (some (.int (rz)))) 0 0 (zA zM g) := by
  refine mt_start (by decide) (Nat.le_of_ble_eq_true rfl) ?_
  intro p e s m args below meth c H locs ls X hr hl hH
  have hx := X.1
  have hb := X.2.1
  have hml := X.2.2.1
  have hown := X.2.2.2.1
  have ht := X.2.2.2.2.1
  have hl : lv_has ls 2 [(0, .ref (g.2.2 (k0))), (1, .int (v_k))] := hl
  unfold f_X10_byteAt at hF
  obtain ⟨x2, hx2, hF⟩ := ob hF
  have J1 : ∀ (H : Heap) (locs : List Loc), HW zM g w s.heap H locs → W p l e (rmd 0) s m args below meth c H locs 0 0 (MQ below (Qw zM g w (some (.int (rz)))) args s 0 0 (zA zM g)) (F0 m 22 ls [.int (x2)]) := by
    intro H locs hH
    obtain rfl := se1 hF
    exact w_iret X hH hr dX10_byteAt_22
  have hF := hx2
  refine lv_iload_n hx hb dX10_byteAt_0 rfl (lv_at hl 1 rfl) ?_
  refine lv_aload_n hx hb dX10_byteAt_1 rfl (lv_at hl 0 rfl) ?_
  refine w_geti X hH hk0 fs_10_3 lk_10_96 dX10_byteAt_2 ?_
  refine w_ilt_f (tgt := 21) hx hb dX10_byteAt_5 (by decide) (fun c3 => ?_) (fun c3 => ?_)
  · replace hF := ifn c3 hF
    refine lv_iconst (v := (-1 : Int32)) hx hb dX10_byteAt_21 (by decide) ?_
    obtain rfl := se1 hF
    exact J1 _ _ hH
  · replace hF := ifp c3 hF
    refine lv_aload_n hx hb dX10_byteAt_8 rfl (lv_at hl 0 rfl) ?_
    refine w_getr X hH hk0 fs_10_1 lk_10_7 dX10_byteAt_9 ?_
    refine lv_iload_n hx hb dX10_byteAt_12 rfl (lv_at hl 1 rfl) ?_
    obtain ⟨x4, h4, hF⟩ := ob hF
    refine w_bald X hH h4 (rt_M_10_1 hk0) dX10_byteAt_13 ?_
    refine lv_sipush (v := (255 : Int32)) hx hb dX10_byteAt_14 (by decide) ?_
    refine lv_iand hx hb dX10_byteAt_17 ?_
    refine lv_goto (tgt := 22) hx hb dX10_byteAt_18 (by decide) ?_
    obtain rfl := se1 hF
    exact J1 _ _ hH

theorem dX10_nextToken_0 : decode cX10_nextToken 0 = .ok (.aload_n 0, 1) := by decide +kernel
theorem dX10_nextToken_1 : decode cX10_nextToken 1 = .ok (.aload_n 0, 1) := by decide +kernel
theorem dX10_nextToken_2 : decode cX10_nextToken 2 = .ok (.getfield 99, 3) := by decide +kernel
theorem dX10_nextToken_5 : decode cX10_nextToken 5 = .ok (.putfield 102, 3) := by decide +kernel
theorem dX10_nextToken_8 : decode cX10_nextToken 8 = .ok (.aload_n 0, 1) := by decide +kernel
theorem dX10_nextToken_9 : decode cX10_nextToken 9 = .ok (.aload_n 0, 1) := by decide +kernel
theorem dX10_nextToken_10 : decode cX10_nextToken 10 = .ok (.getfield 102, 3) := by decide +kernel
theorem dX10_nextToken_13 : decode cX10_nextToken 13 = .ok (.invokevirtual 105, 3) := by decide +kernel
theorem dX10_nextToken_16 : decode cX10_nextToken 16 = .ok (.bipush 32, 2) := by decide +kernel
theorem dX10_nextToken_18 : decode cX10_nextToken 18 = .ok (.if_icmp .eq 16, 3) := by decide +kernel
theorem dX10_nextToken_21 : decode cX10_nextToken 21 = .ok (.aload_n 0, 1) := by decide +kernel
theorem dX10_nextToken_22 : decode cX10_nextToken 22 = .ok (.aload_n 0, 1) := by decide +kernel
theorem dX10_nextToken_23 : decode cX10_nextToken 23 = .ok (.getfield 102, 3) := by decide +kernel
theorem dX10_nextToken_26 : decode cX10_nextToken 26 = .ok (.invokevirtual 105, 3) := by decide +kernel
theorem dX10_nextToken_29 : decode cX10_nextToken 29 = .ok (.bipush 10, 2) := by decide +kernel
theorem dX10_nextToken_31 : decode cX10_nextToken 31 = .ok (.if_icmp .ne 16, 3) := by decide +kernel
theorem dX10_nextToken_34 : decode cX10_nextToken 34 = .ok (.aload_n 0, 1) := by decide +kernel
theorem dX10_nextToken_35 : decode cX10_nextToken 35 = .ok (.dup, 1) := by decide +kernel
theorem dX10_nextToken_36 : decode cX10_nextToken 36 = .ok (.getfield 102, 3) := by decide +kernel
theorem dX10_nextToken_39 : decode cX10_nextToken 39 = .ok (.iconst 1, 1) := by decide +kernel
theorem dX10_nextToken_40 : decode cX10_nextToken 40 = .ok (.iadd, 1) := by decide +kernel
theorem dX10_nextToken_41 : decode cX10_nextToken 41 = .ok (.putfield 102, 3) := by decide +kernel
theorem dX10_nextToken_44 : decode cX10_nextToken 44 = .ok (.goto (-36), 3) := by decide +kernel
theorem dX10_nextToken_47 : decode cX10_nextToken 47 = .ok (.aload_n 0, 1) := by decide +kernel
theorem dX10_nextToken_48 : decode cX10_nextToken 48 = .ok (.aload_n 0, 1) := by decide +kernel
theorem dX10_nextToken_49 : decode cX10_nextToken 49 = .ok (.getfield 102, 3) := by decide +kernel
theorem dX10_nextToken_52 : decode cX10_nextToken 52 = .ok (.invokevirtual 105, 3) := by decide +kernel
theorem dX10_nextToken_55 : decode cX10_nextToken 55 = .ok (.istore_n 1, 1) := by decide +kernel
theorem dX10_nextToken_56 : decode cX10_nextToken 56 = .ok (.aload_n 0, 1) := by decide +kernel
theorem dX10_nextToken_57 : decode cX10_nextToken 57 = .ok (.aload_n 0, 1) := by decide +kernel
theorem dX10_nextToken_58 : decode cX10_nextToken 58 = .ok (.getfield 102, 3) := by decide +kernel
theorem dX10_nextToken_61 : decode cX10_nextToken 61 = .ok (.iconst 1, 1) := by decide +kernel
theorem dX10_nextToken_62 : decode cX10_nextToken 62 = .ok (.iadd, 1) := by decide +kernel
theorem dX10_nextToken_63 : decode cX10_nextToken 63 = .ok (.putfield 99, 3) := by decide +kernel
theorem dX10_nextToken_66 : decode cX10_nextToken 66 = .ok (.aload_n 0, 1) := by decide +kernel
theorem dX10_nextToken_67 : decode cX10_nextToken 67 = .ok (.iconst 3, 1) := by decide +kernel
theorem dX10_nextToken_68 : decode cX10_nextToken 68 = .ok (.putfield 109, 3) := by decide +kernel
theorem dX10_nextToken_71 : decode cX10_nextToken 71 = .ok (.aload_n 0, 1) := by decide +kernel
theorem dX10_nextToken_72 : decode cX10_nextToken 72 = .ok (.lconst 0, 1) := by decide +kernel
theorem dX10_nextToken_73 : decode cX10_nextToken 73 = .ok (.putfield 112, 3) := by decide +kernel
theorem dX10_nextToken_76 : decode cX10_nextToken 76 = .ok (.iload_n 1, 1) := by decide +kernel
theorem dX10_nextToken_77 : decode cX10_nextToken 77 = .ok (.iconst (-1), 1) := by decide +kernel
theorem dX10_nextToken_78 : decode cX10_nextToken 78 = .ok (.if_icmp .ne 19, 3) := by decide +kernel
theorem dX10_nextToken_81 : decode cX10_nextToken 81 = .ok (.aload_n 0, 1) := by decide +kernel
theorem dX10_nextToken_82 : decode cX10_nextToken 82 = .ok (.aload_n 0, 1) := by decide +kernel
theorem dX10_nextToken_83 : decode cX10_nextToken 83 = .ok (.getfield 102, 3) := by decide +kernel
theorem dX10_nextToken_86 : decode cX10_nextToken 86 = .ok (.putfield 99, 3) := by decide +kernel
theorem dX10_nextToken_89 : decode cX10_nextToken 89 = .ok (.aload_n 0, 1) := by decide +kernel
theorem dX10_nextToken_90 : decode cX10_nextToken 90 = .ok (.iconst 0, 1) := by decide +kernel
theorem dX10_nextToken_91 : decode cX10_nextToken 91 = .ok (.putfield 109, 3) := by decide +kernel
theorem dX10_nextToken_94 : decode cX10_nextToken 94 = .ok (.goto 141, 3) := by decide +kernel
theorem dX10_nextToken_97 : decode cX10_nextToken 97 = .ok (.iload_n 1, 1) := by decide +kernel
theorem dX10_nextToken_98 : decode cX10_nextToken 98 = .ok (.bipush 59, 2) := by decide +kernel
theorem dX10_nextToken_100 : decode cX10_nextToken 100 = .ok (.if_icmp .ne 11, 3) := by decide +kernel
theorem dX10_nextToken_103 : decode cX10_nextToken 103 = .ok (.aload_n 0, 1) := by decide +kernel
theorem dX10_nextToken_104 : decode cX10_nextToken 104 = .ok (.iconst 2, 1) := by decide +kernel
theorem dX10_nextToken_105 : decode cX10_nextToken 105 = .ok (.putfield 109, 3) := by decide +kernel
theorem dX10_nextToken_108 : decode cX10_nextToken 108 = .ok (.goto 127, 3) := by decide +kernel
theorem dX10_nextToken_111 : decode cX10_nextToken 111 = .ok (.iload_n 1, 1) := by decide +kernel
theorem dX10_nextToken_112 : decode cX10_nextToken 112 = .ok (.i2l, 1) := by decide +kernel
theorem dX10_nextToken_113 : decode cX10_nextToken 113 = .ok (.ldc2_w 116, 3) := by decide +kernel
theorem dX10_nextToken_116 : decode cX10_nextToken 116 = .ok (.ldc2_w 118, 3) := by decide +kernel
theorem dX10_nextToken_119 : decode cX10_nextToken 119 = .ok (.invokestatic 120, 3) := by decide +kernel
theorem dX10_nextToken_122 : decode cX10_nextToken 122 = .ok (.ifCond .eq 113, 3) := by decide +kernel
theorem dX10_nextToken_125 : decode cX10_nextToken 125 = .ok (.aload_n 0, 1) := by decide +kernel
theorem dX10_nextToken_126 : decode cX10_nextToken 126 = .ok (.aload_n 0, 1) := by decide +kernel
theorem dX10_nextToken_127 : decode cX10_nextToken 127 = .ok (.getfield 102, 3) := by decide +kernel
theorem dX10_nextToken_130 : decode cX10_nextToken 130 = .ok (.putfield 99, 3) := by decide +kernel
theorem dX10_nextToken_133 : decode cX10_nextToken 133 = .ok (.aload_n 0, 1) := by decide +kernel
theorem dX10_nextToken_134 : decode cX10_nextToken 134 = .ok (.aload_n 0, 1) := by decide +kernel
theorem dX10_nextToken_135 : decode cX10_nextToken 135 = .ok (.getfield 99, 3) := by decide +kernel
theorem dX10_nextToken_138 : decode cX10_nextToken 138 = .ok (.invokevirtual 105, 3) := by decide +kernel
theorem dX10_nextToken_141 : decode cX10_nextToken 141 = .ok (.i2l, 1) := by decide +kernel
theorem dX10_nextToken_142 : decode cX10_nextToken 142 = .ok (.ldc2_w 116, 3) := by decide +kernel
theorem dX10_nextToken_145 : decode cX10_nextToken 145 = .ok (.ldc2_w 118, 3) := by decide +kernel
theorem dX10_nextToken_148 : decode cX10_nextToken 148 = .ok (.invokestatic 120, 3) := by decide +kernel
theorem dX10_nextToken_151 : decode cX10_nextToken 151 = .ok (.ifCond .eq 61, 3) := by decide +kernel
theorem dX10_nextToken_154 : decode cX10_nextToken 154 = .ok (.aload_n 0, 1) := by decide +kernel
theorem dX10_nextToken_155 : decode cX10_nextToken 155 = .ok (.aload_n 0, 1) := by decide +kernel
theorem dX10_nextToken_156 : decode cX10_nextToken 156 = .ok (.getfield 99, 3) := by decide +kernel
theorem dX10_nextToken_159 : decode cX10_nextToken 159 = .ok (.aload_n 0, 1) := by decide +kernel
theorem dX10_nextToken_160 : decode cX10_nextToken 160 = .ok (.getfield 102, 3) := by decide +kernel
theorem dX10_nextToken_163 : decode cX10_nextToken 163 = .ok (.isub, 1) := by decide +kernel
theorem dX10_nextToken_164 : decode cX10_nextToken 164 = .ok (.bipush 6, 2) := by decide +kernel
theorem dX10_nextToken_166 : decode cX10_nextToken 166 = .ok (.if_icmp .ge 26, 3) := by decide +kernel
theorem dX10_nextToken_169 : decode cX10_nextToken 169 = .ok (.aload_n 0, 1) := by decide +kernel
theorem dX10_nextToken_170 : decode cX10_nextToken 170 = .ok (.getfield 112, 3) := by decide +kernel
theorem dX10_nextToken_173 : decode cX10_nextToken 173 = .ok (.iconst 5, 1) := by decide +kernel
theorem dX10_nextToken_174 : decode cX10_nextToken 174 = .ok (.lshl, 1) := by decide +kernel
theorem dX10_nextToken_175 : decode cX10_nextToken 175 = .ok (.aload_n 0, 1) := by decide +kernel
theorem dX10_nextToken_176 : decode cX10_nextToken 176 = .ok (.aload_n 0, 1) := by decide +kernel
theorem dX10_nextToken_177 : decode cX10_nextToken 177 = .ok (.getfield 99, 3) := by decide +kernel
theorem dX10_nextToken_180 : decode cX10_nextToken 180 = .ok (.invokevirtual 105, 3) := by decide +kernel
theorem dX10_nextToken_183 : decode cX10_nextToken 183 = .ok (.i2l, 1) := by decide +kernel
theorem dX10_nextToken_184 : decode cX10_nextToken 184 = .ok (.ldc2_w 124, 3) := by decide +kernel
theorem dX10_nextToken_187 : decode cX10_nextToken 187 = .ok (.lsub, 1) := by decide +kernel
theorem dX10_nextToken_188 : decode cX10_nextToken 188 = .ok (.lor, 1) := by decide +kernel
theorem dX10_nextToken_189 : decode cX10_nextToken 189 = .ok (.goto 7, 3) := by decide +kernel
theorem dX10_nextToken_192 : decode cX10_nextToken 192 = .ok (.aload_n 0, 1) := by decide +kernel
theorem dX10_nextToken_193 : decode cX10_nextToken 193 = .ok (.getfield 112, 3) := by decide +kernel
theorem dX10_nextToken_196 : decode cX10_nextToken 196 = .ok (.putfield 112, 3) := by decide +kernel
theorem dX10_nextToken_199 : decode cX10_nextToken 199 = .ok (.aload_n 0, 1) := by decide +kernel
theorem dX10_nextToken_200 : decode cX10_nextToken 200 = .ok (.dup, 1) := by decide +kernel
theorem dX10_nextToken_201 : decode cX10_nextToken 201 = .ok (.getfield 99, 3) := by decide +kernel
theorem dX10_nextToken_204 : decode cX10_nextToken 204 = .ok (.iconst 1, 1) := by decide +kernel
theorem dX10_nextToken_205 : decode cX10_nextToken 205 = .ok (.iadd, 1) := by decide +kernel
theorem dX10_nextToken_206 : decode cX10_nextToken 206 = .ok (.putfield 99, 3) := by decide +kernel
theorem dX10_nextToken_209 : decode cX10_nextToken 209 = .ok (.goto (-76), 3) := by decide +kernel
theorem dX10_nextToken_212 : decode cX10_nextToken 212 = .ok (.aload_n 0, 1) := by decide +kernel
theorem dX10_nextToken_213 : decode cX10_nextToken 213 = .ok (.aload_n 0, 1) := by decide +kernel
theorem dX10_nextToken_214 : decode cX10_nextToken 214 = .ok (.getfield 99, 3) := by decide +kernel
theorem dX10_nextToken_217 : decode cX10_nextToken 217 = .ok (.aload_n 0, 1) := by decide +kernel
theorem dX10_nextToken_218 : decode cX10_nextToken 218 = .ok (.getfield 102, 3) := by decide +kernel
theorem dX10_nextToken_221 : decode cX10_nextToken 221 = .ok (.isub, 1) := by decide +kernel
theorem dX10_nextToken_222 : decode cX10_nextToken 222 = .ok (.bipush 6, 2) := by decide +kernel
theorem dX10_nextToken_224 : decode cX10_nextToken 224 = .ok (.if_icmp .le 7, 3) := by decide +kernel
theorem dX10_nextToken_227 : decode cX10_nextToken 227 = .ok (.iconst 3, 1) := by decide +kernel
theorem dX10_nextToken_228 : decode cX10_nextToken 228 = .ok (.goto 4, 3) := by decide +kernel
theorem dX10_nextToken_231 : decode cX10_nextToken 231 = .ok (.iconst 1, 1) := by decide +kernel
theorem dX10_nextToken_232 : decode cX10_nextToken 232 = .ok (.putfield 109, 3) := by decide +kernel
theorem dX10_nextToken_235 : decode cX10_nextToken 235 = .ok (.return_, 1) := by decide +kernel
set_option maxHeartbeats 4000000 in
set_option maxRecDepth 100000 in
theorem c_X10_nextToken {l : Launch} {g : Gh} {w : Wd} {k0 : Nat} {wz : Wd} (hF : f_X10_nextToken w k0 = some wz) (hk0 : zct zM k0 = 10) : Met l yX10_nextToken (Cond.code yX10_nextToken cX10_nextToken 2 none :: TT) (rmd 1) (Pcw zM g w [.ref (g.2.2 k0)]) (Qw zM g wz none) 0 0 (zA zM g) := by
  refine mt_start (by decide) (Nat.le_of_ble_eq_true rfl) ?_
  intro p e s m args below meth c H locs ls X hr hl hH
  have hx := X.1
  have hb := X.2.1
  have hml := X.2.2.1
  have hown := X.2.2.2.1
  have ht := X.2.2.2.2.1
  have hl : lv_has ls 2 [(0, .ref (g.2.2 (k0)))] := hl
  unfold f_X10_nextToken at hF
  refine lv_aload_n hx hb dX10_nextToken_0 rfl (lv_at hl 0 rfl) ?_
  refine lv_aload_n hx hb dX10_nextToken_1 rfl (lv_at hl 0 rfl) ?_
  refine w_geti X hH hk0 fs_10_5 lk_10_99 dX10_nextToken_2 ?_
  obtain ⟨w1, h1, hF⟩ := ob hF
  refine w_puti X hH h1 hk0 fs_10_4 nf_10_4 lk_10_102 dX10_nextToken_5 (fun H locs hH => ?_)
  obtain ⟨r3, hLr3, hF⟩ := ob hF
  have Jr3 : ∀ (H : Heap) (locs : List Loc) (ls : Array Slot), HW zM g r3 s.heap H locs → lv_has ls 2 [(0, .ref (g.2.2 (k0)))] → W p l e (rmd 1) s m args below meth c H locs 0 0 (MQ below (Qw zM g wz none) args s 0 0 (zA zM g)) (F0 m 47 ls []) := by
    intro H locs ls hH hl
    refine lv_aload_n hx hb dX10_nextToken_47 rfl (lv_at hl 0 rfl) ?_
    refine lv_aload_n hx hb dX10_nextToken_48 rfl (lv_at hl 0 rfl) ?_
    refine w_geti X hH hk0 fs_10_4 lk_10_102 dX10_nextToken_49 ?_
    obtain ⟨x10, h10, hF⟩ := ob hF
    refine w_callV (As := [.int ((r3.1 (k0) 4))]) (k := k0) (rest := []) (st1 := [.int (x10)]) X hH (c_X10_byteAt (l := l) (g := g) (w := r3) (k0 := k0) (v_k := (r3.1 (k0) 4)) h10 hk0) (Or.inl tw_5_230) ms_X10_byteAt im_X10_byteAt hk0 cn_10 ⟨Nat.le_of_ble_eq_true rfl, Nat.le_of_ble_eq_true rfl⟩ rfl rfl hl.1 (Nat.le_of_ble_eq_true rfl) dX10_nextToken_52 ⟨Nat.le_refl _, Nat.le_refl _⟩ rfl (fun H locs hH => ?_)
    refine lv_istore_n (lv' := [(1, .int (x10)), (0, .ref (g.2.2 (k0)))]) hx hb dX10_nextToken_55 rfl hl (by decide) rfl (fun ls hl => ?_)
    refine lv_aload_n hx hb dX10_nextToken_56 rfl (lv_at hl 1 rfl) ?_
    refine lv_aload_n hx hb dX10_nextToken_57 rfl (lv_at hl 1 rfl) ?_
    refine w_geti X hH hk0 fs_10_4 lk_10_102 dX10_nextToken_58 ?_
    refine lv_iconst (v := (1 : Int32)) hx hb dX10_nextToken_61 (by decide) ?_
    refine lv_iadd hx hb dX10_nextToken_62 ?_
    obtain ⟨w11, h11, hF⟩ := ob hF
    refine w_puti X hH h11 hk0 fs_10_5 nf_10_5 lk_10_99 dX10_nextToken_63 (fun H locs hH => ?_)
    refine lv_aload_n hx hb dX10_nextToken_66 rfl (lv_at hl 1 rfl) ?_
    refine lv_iconst (v := (3 : Int32)) hx hb dX10_nextToken_67 (by decide) ?_
    obtain ⟨w12, h12, hF⟩ := ob hF
    refine w_puti X hH h12 hk0 fs_10_6 nf_10_6 lk_10_109 dX10_nextToken_68 (fun H locs hH => ?_)
    refine lv_aload_n hx hb dX10_nextToken_71 rfl (lv_at hl 1 rfl) ?_
    refine lv_lconst (v := 0) hx hb dX10_nextToken_72 (by decide) ?_
    obtain ⟨w13, h13, hF⟩ := ob hF
    refine w_putl X hH h13 hk0 fs_10_7 nf_10_7 lk_10_112 dX10_nextToken_73 (fun H locs hH => ?_)
    obtain ⟨s14, hs14, hF⟩ := ob hF
    have Js14 : ∀ (H : Heap) (locs : List Loc) (ls : Array Slot), HW zM g s14 s.heap H locs → lv_has ls 2 [(0, .ref (g.2.2 (k0))), (1, .int (x10))] → W p l e (rmd 1) s m args below meth c H locs 0 0 (MQ below (Qw zM g wz none) args s 0 0 (zA zM g)) (F0 m 235 ls []) := by
      intro H locs ls hH hl
      obtain rfl := se1 hF
      exact w_vret X hH hr dX10_nextToken_235
    have hF := hs14
    refine lv_iload_n hx hb dX10_nextToken_76 rfl (lv_at hl 0 rfl) ?_
    refine lv_iconst (v := (-1 : Int32)) hx hb dX10_nextToken_77 (by decide) ?_
    refine w_ieq_f (tgt := 97) hx hb dX10_nextToken_78 (by decide) (fun c15 => ?_) (fun c15 => ?_)
    · replace hF := ifn c15 hF
      obtain ⟨s16, hs16, hF⟩ := ob hF
      have Js16 : ∀ (H : Heap) (locs : List Loc) (ls : Array Slot), HW zM g s16 s.heap H locs → lv_has ls 2 [(0, .ref (g.2.2 (k0))), (1, .int (x10))] → W p l e (rmd 1) s m args below meth c H locs 0 0 (MQ below (Qw zM g wz none) args s 0 0 (zA zM g)) (F0 m 235 ls []) := by
        intro H locs ls hH hl
        obtain rfl := se1 hF
        exact Js14 _ _ _ hH (lv_sub hl [0, 1] rfl)
      have hF := hs16
      refine lv_iload_n hx hb dX10_nextToken_97 rfl (lv_at hl 0 rfl) ?_
      refine lv_bipush (v := (59 : Int32)) hx hb dX10_nextToken_98 (by decide) ?_
      refine w_ieq_f (tgt := 111) hx hb dX10_nextToken_100 (by decide) (fun c17 => ?_) (fun c17 => ?_)
      · replace hF := ifn c17 hF
        obtain ⟨s18, hs18, hF⟩ := ob hF
        have Js18 : ∀ (H : Heap) (locs : List Loc) (ls : Array Slot), HW zM g s18 s.heap H locs → lv_has ls 2 [(0, .ref (g.2.2 (k0))), (1, .int (x10))] → W p l e (rmd 1) s m args below meth c H locs 0 0 (MQ below (Qw zM g wz none) args s 0 0 (zA zM g)) (F0 m 235 ls []) := by
          intro H locs ls hH hl
          obtain rfl := se1 hF
          exact Js16 _ _ _ hH (lv_sub hl [0, 1] rfl)
        have hF := hs18
        refine lv_iload_n hx hb dX10_nextToken_111 rfl (lv_at hl 0 rfl) ?_
        refine w_i2l hx hb dX10_nextToken_112 ?_
        refine lv_ldc2 (own := RX10) (v := (97 : Int64)) hx hb hown (ht _ tw_5_234) dX10_nextToken_113 ?_
        refine lv_ldc2 (own := RX10) (v := (122 : Int64)) hx hb hown (ht _ tw_5_235) dX10_nextToken_116 ?_
        refine w_callS (As := [.long ((x10).toInt64), .long ((97 : Int64)), .long ((122 : Int64))]) (rest := []) (st1 := [.int (bI ((f_X10_within ((x10).toInt64) ((97 : Int64)) ((122 : Int64)))))]) X hH (c_X10_within (l := l) (g := g) (w := w13) (v_v := (x10).toInt64) (v_low := (97 : Int64)) (v_high := (122 : Int64)) rfl) (Or.inl tw_5_223) ms_X10_within tw_5_224 ⟨Nat.le_of_ble_eq_true rfl, Nat.le_of_ble_eq_true rfl⟩ rfl rfl hl.1 (Nat.le_of_ble_eq_true rfl) dX10_nextToken_119 ⟨Nat.le_refl _, Nat.le_refl _⟩ rfl (fun H locs hH => ?_)
        refine w_b_f (tgt := 235) hx hb dX10_nextToken_122 (by decide) (fun c19 => ?_) (fun c19 => ?_)
        · replace hF := ifn c19 hF
          obtain rfl := se1 hF
          exact Js18 _ _ _ hH (lv_sub hl [1, 0] rfl)
        · replace hF := ifp c19 hF
          refine lv_aload_n hx hb dX10_nextToken_125 rfl (lv_at hl 1 rfl) ?_
          refine lv_aload_n hx hb dX10_nextToken_126 rfl (lv_at hl 1 rfl) ?_
          refine w_geti X hH hk0 fs_10_4 lk_10_102 dX10_nextToken_127 ?_
          obtain ⟨w20, h20, hF⟩ := ob hF
          refine w_puti X hH h20 hk0 fs_10_5 nf_10_5 lk_10_99 dX10_nextToken_130 (fun H locs hH => ?_)
          obtain ⟨r22, hLr22, hF⟩ := ob hF
          have Jr22 : ∀ (H : Heap) (locs : List Loc) (ls : Array Slot), HW zM g r22 s.heap H locs → lv_has ls 2 [(0, .ref (g.2.2 (k0))), (1, .int (x10))] → W p l e (rmd 1) s m args below meth c H locs 0 0 (MQ below (Qw zM g wz none) args s 0 0 (zA zM g)) (F0 m 212 ls []) := by
            intro H locs ls hH hl
            refine lv_aload_n hx hb dX10_nextToken_212 rfl (lv_at hl 0 rfl) ?_
            refine lv_aload_n hx hb dX10_nextToken_213 rfl (lv_at hl 0 rfl) ?_
            refine w_geti X hH hk0 fs_10_5 lk_10_99 dX10_nextToken_214 ?_
            refine lv_aload_n hx hb dX10_nextToken_217 rfl (lv_at hl 0 rfl) ?_
            refine w_geti X hH hk0 fs_10_4 lk_10_102 dX10_nextToken_218 ?_
            refine lv_isub hx hb dX10_nextToken_221 ?_
            refine lv_bipush (v := (6 : Int32)) hx hb dX10_nextToken_222 (by decide) ?_
            have J31 : ∀ (H : Heap) (locs : List Loc), HW zM g r22 s.heap H locs → W p l e (rmd 1) s m args below meth c H locs 0 0 (MQ below (Qw zM g wz none) args s 0 0 (zA zM g)) (F0 m 232 ls [.int ((if (6 : Int32) < ((r22.1 (k0) 5) - (r22.1 (k0) 4)) then (3 : Int32) else (1 : Int32))), .ref (g.2.2 (k0))]) := by
              intro H locs hH
              obtain ⟨w33, h33, hF⟩ := ob hF
              refine w_puti X hH h33 hk0 fs_10_6 nf_10_6 lk_10_109 dX10_nextToken_232 (fun H locs hH => ?_)
              obtain rfl := se1 hF
              exact Js18 _ _ _ hH (lv_sub hl [0, 1] rfl)
            refine w_igt_f (tgt := 231) hx hb dX10_nextToken_224 (by decide) (fun c32 => ?_) (fun c32 => ?_)
            · refine lv_iconst (v := (1 : Int32)) hx hb dX10_nextToken_231 (by decide) ?_
              exact w_in c32 (J31 _ _ hH)
            · refine lv_iconst (v := (3 : Int32)) hx hb dX10_nextToken_227 (by decide) ?_
              refine lv_goto (tgt := 232) hx hb dX10_nextToken_228 (by decide) ?_
              exact w_ip c32 (J31 _ _ hH)
          have Lr22 : ∀ (n : Nat) (s21 : Wd), lp (b_X10_nextToken_2 k0) n s21 = some r22 → ∀ (H : Heap) (locs : List Loc) (ls : Array Slot), HW zM g s21 s.heap H locs → lv_has ls 2 [(0, .ref (g.2.2 (k0))), (1, .int (x10))] → W p l e (rmd 1) s m args below meth c H locs 0 0 (MQ below (Qw zM g wz none) args s 0 0 (zA zM g)) (F0 m 133 ls []) := by
            intro n
            induction n with
            | zero => intro s21 hL; exact lp_0 hL
            | succ n ih =>
              intro s21 hL H locs ls hH hl
              obtain ⟨bb, hF, hL⟩ := lp_s hL
              unfold b_X10_nextToken_2 at hF
              refine lv_aload_n hx hb dX10_nextToken_133 rfl (lv_at hl 0 rfl) ?_
              refine lv_aload_n hx hb dX10_nextToken_134 rfl (lv_at hl 0 rfl) ?_
              refine w_geti X hH hk0 fs_10_5 lk_10_99 dX10_nextToken_135 ?_
              obtain ⟨x23, h23, hF⟩ := ob hF
              refine w_callV (As := [.int ((s21.1 (k0) 5))]) (k := k0) (rest := []) (st1 := [.int (x23)]) X hH (c_X10_byteAt (l := l) (g := g) (w := s21) (k0 := k0) (v_k := (s21.1 (k0) 5)) h23 hk0) (Or.inl tw_5_230) ms_X10_byteAt im_X10_byteAt hk0 cn_10 ⟨Nat.le_of_ble_eq_true rfl, Nat.le_of_ble_eq_true rfl⟩ rfl rfl hl.1 (Nat.le_of_ble_eq_true rfl) dX10_nextToken_138 ⟨Nat.le_refl _, Nat.le_refl _⟩ rfl (fun H locs hH => ?_)
              refine w_i2l hx hb dX10_nextToken_141 ?_
              refine lv_ldc2 (own := RX10) (v := (97 : Int64)) hx hb hown (ht _ tw_5_234) dX10_nextToken_142 ?_
              refine lv_ldc2 (own := RX10) (v := (122 : Int64)) hx hb hown (ht _ tw_5_235) dX10_nextToken_145 ?_
              refine w_callS (As := [.long ((x23).toInt64), .long ((97 : Int64)), .long ((122 : Int64))]) (rest := []) (st1 := [.int (bI ((f_X10_within ((x23).toInt64) ((97 : Int64)) ((122 : Int64)))))]) X hH (c_X10_within (l := l) (g := g) (w := s21) (v_v := (x23).toInt64) (v_low := (97 : Int64)) (v_high := (122 : Int64)) rfl) (Or.inl tw_5_223) ms_X10_within tw_5_224 ⟨Nat.le_of_ble_eq_true rfl, Nat.le_of_ble_eq_true rfl⟩ rfl rfl hl.1 (Nat.le_of_ble_eq_true rfl) dX10_nextToken_148 ⟨Nat.le_refl _, Nat.le_refl _⟩ rfl (fun H locs hH => ?_)
              refine w_b_f (tgt := 212) hx hb dX10_nextToken_151 (by decide) (fun c24 => ?_) (fun c24 => ?_)
              · replace hF := ifn c24 hF
                obtain rfl := se1 hF
                subst hL
                exact Jr22 _ _ _ hH (lv_sub hl [0, 1] rfl)
              · replace hF := ifp c24 hF
                refine lv_aload_n hx hb dX10_nextToken_154 rfl (lv_at hl 0 rfl) ?_
                obtain ⟨x26, hx26, hF⟩ := ob hF
                have J25 : ∀ (H : Heap) (locs : List Loc), HW zM g s21 s.heap H locs → W p l e (rmd 1) s m args below meth c H locs 0 0 (MQ below (Qw zM g wz none) args s 0 0 (zA zM g)) (F0 m 196 ls [.long (x26), .ref (g.2.2 (k0))]) := by
                  intro H locs hH
                  obtain ⟨w29, h29, hF⟩ := ob hF
                  refine w_putl X hH h29 hk0 fs_10_7 nf_10_7 lk_10_112 dX10_nextToken_196 (fun H locs hH => ?_)
                  refine lv_aload_n hx hb dX10_nextToken_199 rfl (lv_at hl 0 rfl) ?_
                  refine lv_dup hx hb dX10_nextToken_200 rfl ?_
                  refine w_geti X hH hk0 fs_10_5 lk_10_99 dX10_nextToken_201 ?_
                  refine lv_iconst (v := (1 : Int32)) hx hb dX10_nextToken_204 (by decide) ?_
                  refine lv_iadd hx hb dX10_nextToken_205 ?_
                  obtain ⟨w30, h30, hF⟩ := ob hF
                  refine w_puti X hH h30 hk0 fs_10_5 nf_10_5 lk_10_99 dX10_nextToken_206 (fun H locs hH => ?_)
                  refine lv_goto (tgt := 133) hx hb dX10_nextToken_209 (by decide) ?_
                  obtain rfl := se1 hF
                  exact ih _ hL _ _ _ hH (lv_sub hl [0, 1] rfl)
                have hF := hx26
                refine lv_aload_n hx hb dX10_nextToken_155 rfl (lv_at hl 0 rfl) ?_
                refine w_geti X hH hk0 fs_10_5 lk_10_99 dX10_nextToken_156 ?_
                refine lv_aload_n hx hb dX10_nextToken_159 rfl (lv_at hl 0 rfl) ?_
                refine w_geti X hH hk0 fs_10_4 lk_10_102 dX10_nextToken_160 ?_
                refine lv_isub hx hb dX10_nextToken_163 ?_
                refine lv_bipush (v := (6 : Int32)) hx hb dX10_nextToken_164 (by decide) ?_
                refine w_ilt_f (tgt := 192) hx hb dX10_nextToken_166 (by decide) (fun c27 => ?_) (fun c27 => ?_)
                · replace hF := ifn c27 hF
                  refine lv_aload_n hx hb dX10_nextToken_192 rfl (lv_at hl 0 rfl) ?_
                  refine w_getl X hH hk0 fs_10_7 lk_10_112 dX10_nextToken_193 ?_
                  obtain rfl := se1 hF
                  exact J25 _ _ hH
                · replace hF := ifp c27 hF
                  refine lv_aload_n hx hb dX10_nextToken_169 rfl (lv_at hl 0 rfl) ?_
                  refine w_getl X hH hk0 fs_10_7 lk_10_112 dX10_nextToken_170 ?_
                  refine lv_iconst (v := (5 : Int32)) hx hb dX10_nextToken_173 (by decide) ?_
                  refine w_lshl hx hb dX10_nextToken_174 ?_
                  refine lv_aload_n hx hb dX10_nextToken_175 rfl (lv_at hl 0 rfl) ?_
                  refine lv_aload_n hx hb dX10_nextToken_176 rfl (lv_at hl 0 rfl) ?_
                  refine w_geti X hH hk0 fs_10_5 lk_10_99 dX10_nextToken_177 ?_
                  obtain ⟨x28, h28, hF⟩ := ob hF
                  refine w_callV (As := [.int ((s21.1 (k0) 5))]) (k := k0) (rest := [.long ((jlshl ((s21.2.1 (k0) 7)) ((5 : Int32)))), .ref (g.2.2 (k0))]) (st1 := [.int (x28), .long ((jlshl ((s21.2.1 (k0) 7)) ((5 : Int32)))), .ref (g.2.2 (k0))]) X hH (c_X10_byteAt (l := l) (g := g) (w := s21) (k0 := k0) (v_k := (s21.1 (k0) 5)) h28 hk0) (Or.inl tw_5_230) ms_X10_byteAt im_X10_byteAt hk0 cn_10 ⟨Nat.le_of_ble_eq_true rfl, Nat.le_of_ble_eq_true rfl⟩ rfl rfl hl.1 (Nat.le_of_ble_eq_true rfl) dX10_nextToken_180 ⟨Nat.le_refl _, Nat.le_refl _⟩ rfl (fun H locs hH => ?_)
                  refine w_i2l hx hb dX10_nextToken_183 ?_
                  refine lv_ldc2 (own := RX10) (v := (96 : Int64)) hx hb hown (ht _ tw_5_236) dX10_nextToken_184 ?_
                  refine lv_lsub hx hb dX10_nextToken_187 ?_
                  refine lv_lor hx hb dX10_nextToken_188 ?_
                  refine lv_goto (tgt := 196) hx hb dX10_nextToken_189 (by decide) ?_
                  obtain rfl := se1 hF
                  exact J25 _ _ hH
          exact Lr22 NF _ hLr22 _ _ _ hH (lv_sub hl [1, 0] rfl)
      · replace hF := ifp c17 hF
        refine lv_aload_n hx hb dX10_nextToken_103 rfl (lv_at hl 1 rfl) ?_
        refine lv_iconst (v := (2 : Int32)) hx hb dX10_nextToken_104 (by decide) ?_
        obtain ⟨w34, h34, hF⟩ := ob hF
        refine w_puti X hH h34 hk0 fs_10_6 nf_10_6 lk_10_109 dX10_nextToken_105 (fun H locs hH => ?_)
        refine lv_goto (tgt := 235) hx hb dX10_nextToken_108 (by decide) ?_
        obtain rfl := se1 hF
        exact Js16 _ _ _ hH (lv_sub hl [1, 0] rfl)
    · replace hF := ifp c15 hF
      refine lv_aload_n hx hb dX10_nextToken_81 rfl (lv_at hl 1 rfl) ?_
      refine lv_aload_n hx hb dX10_nextToken_82 rfl (lv_at hl 1 rfl) ?_
      refine w_geti X hH hk0 fs_10_4 lk_10_102 dX10_nextToken_83 ?_
      obtain ⟨w35, h35, hF⟩ := ob hF
      refine w_puti X hH h35 hk0 fs_10_5 nf_10_5 lk_10_99 dX10_nextToken_86 (fun H locs hH => ?_)
      refine lv_aload_n hx hb dX10_nextToken_89 rfl (lv_at hl 1 rfl) ?_
      refine lv_iconst (v := (0 : Int32)) hx hb dX10_nextToken_90 (by decide) ?_
      obtain ⟨w36, h36, hF⟩ := ob hF
      refine w_puti X hH h36 hk0 fs_10_6 nf_10_6 lk_10_109 dX10_nextToken_91 (fun H locs hH => ?_)
      refine lv_goto (tgt := 235) hx hb dX10_nextToken_94 (by decide) ?_
      obtain rfl := se1 hF
      exact Js14 _ _ _ hH (lv_sub hl [1, 0] rfl)
  have Lr3 : ∀ (n : Nat) (s2 : Wd), lp (b_X10_nextToken_1 k0) n s2 = some r3 → ∀ (H : Heap) (locs : List Loc) (ls : Array Slot), HW zM g s2 s.heap H locs → lv_has ls 2 [(0, .ref (g.2.2 (k0)))] → W p l e (rmd 1) s m args below meth c H locs 0 0 (MQ below (Qw zM g wz none) args s 0 0 (zA zM g)) (F0 m 8 ls []) := by
    intro n
    induction n with
    | zero => intro s2 hL; exact lp_0 hL
    | succ n ih =>
      intro s2 hL H locs ls hH hl
      obtain ⟨bb, hF, hL⟩ := lp_s hL
      unfold b_X10_nextToken_1 at hF
      obtain ⟨b4, hb4, hF⟩ := ob hF
      have Jb4T : b4 = true → ∀ (H : Heap) (locs : List Loc), HW zM g s2 s.heap H locs → W p l e (rmd 1) s m args below meth c H locs 0 0 (MQ below (Qw zM g wz none) args s 0 0 (zA zM g)) (F0 m 34 ls []) := by
        intro hc H locs hH
        replace hF := ifp hc hF
        refine lv_aload_n hx hb dX10_nextToken_34 rfl (lv_at hl 0 rfl) ?_
        refine lv_dup hx hb dX10_nextToken_35 rfl ?_
        refine w_geti X hH hk0 fs_10_4 lk_10_102 dX10_nextToken_36 ?_
        refine lv_iconst (v := (1 : Int32)) hx hb dX10_nextToken_39 (by decide) ?_
        refine lv_iadd hx hb dX10_nextToken_40 ?_
        obtain ⟨w9, h9, hF⟩ := ob hF
        refine w_puti X hH h9 hk0 fs_10_4 nf_10_4 lk_10_102 dX10_nextToken_41 (fun H locs hH => ?_)
        refine lv_goto (tgt := 8) hx hb dX10_nextToken_44 (by decide) ?_
        obtain rfl := se1 hF
        exact ih _ hL _ _ _ hH (lv_sub hl [0] rfl)
      have Jb4F : ¬ (b4 = true) → ∀ (H : Heap) (locs : List Loc), HW zM g s2 s.heap H locs → W p l e (rmd 1) s m args below meth c H locs 0 0 (MQ below (Qw zM g wz none) args s 0 0 (zA zM g)) (F0 m 47 ls []) := by
        intro hc H locs hH
        replace hF := ifn hc hF
        obtain rfl := se1 hF
        subst hL
        exact Jr3 _ _ _ hH (lv_sub hl [0] rfl)
      have hF := hb4
      refine lv_aload_n hx hb dX10_nextToken_8 rfl (lv_at hl 0 rfl) ?_
      refine lv_aload_n hx hb dX10_nextToken_9 rfl (lv_at hl 0 rfl) ?_
      refine w_geti X hH hk0 fs_10_4 lk_10_102 dX10_nextToken_10 ?_
      obtain ⟨x6, h6, hF⟩ := ob hF
      refine w_callV (As := [.int ((s2.1 (k0) 4))]) (k := k0) (rest := []) (st1 := [.int (x6)]) X hH (c_X10_byteAt (l := l) (g := g) (w := s2) (k0 := k0) (v_k := (s2.1 (k0) 4)) h6 hk0) (Or.inl tw_5_230) ms_X10_byteAt im_X10_byteAt hk0 cn_10 ⟨Nat.le_of_ble_eq_true rfl, Nat.le_of_ble_eq_true rfl⟩ rfl rfl hl.1 (Nat.le_of_ble_eq_true rfl) dX10_nextToken_13 ⟨Nat.le_refl _, Nat.le_refl _⟩ rfl (fun H locs hH => ?_)
      refine lv_bipush (v := (32 : Int32)) hx hb dX10_nextToken_16 (by decide) ?_
      refine w_ieq_t (tgt := 34) hx hb dX10_nextToken_18 (by decide) (fun c5 => ?_) (fun c5 => ?_)
      · replace hF := ifp c5 hF
        obtain rfl := se1 hF
        exact Jb4T rfl _ _ hH
      · replace hF := ifn c5 hF
        refine lv_aload_n hx hb dX10_nextToken_21 rfl (lv_at hl 0 rfl) ?_
        refine lv_aload_n hx hb dX10_nextToken_22 rfl (lv_at hl 0 rfl) ?_
        refine w_geti X hH hk0 fs_10_4 lk_10_102 dX10_nextToken_23 ?_
        obtain ⟨x8, h8, hF⟩ := ob hF
        refine w_callV (As := [.int ((s2.1 (k0) 4))]) (k := k0) (rest := []) (st1 := [.int (x8)]) X hH (c_X10_byteAt (l := l) (g := g) (w := s2) (k0 := k0) (v_k := (s2.1 (k0) 4)) h8 hk0) (Or.inl tw_5_230) ms_X10_byteAt im_X10_byteAt hk0 cn_10 ⟨Nat.le_of_ble_eq_true rfl, Nat.le_of_ble_eq_true rfl⟩ rfl rfl hl.1 (Nat.le_of_ble_eq_true rfl) dX10_nextToken_26 ⟨Nat.le_refl _, Nat.le_refl _⟩ rfl (fun H locs hH => ?_)
        refine lv_bipush (v := (10 : Int32)) hx hb dX10_nextToken_29 (by decide) ?_
        refine w_ieq_f (tgt := 47) hx hb dX10_nextToken_31 (by decide) (fun c7 => ?_) (fun c7 => ?_)
        · replace hF := ifn c7 hF
          obtain rfl := se1 hF
          exact Jb4F Bool.false_ne_true _ _ hH
        · replace hF := ifp c7 hF
          obtain rfl := se1 hF
          exact Jb4T rfl _ _ hH
  exact Lr3 NF _ hLr3 _ _ _ hH (lv_sub hl [0] rfl)

theorem dX10_must_0 : decode cX10_must 0 = .ok (.aload_n 0, 1) := by decide +kernel
theorem dX10_must_1 : decode cX10_must 1 = .ok (.getfield 126, 3) := by decide +kernel
theorem dX10_must_4 : decode cX10_must 4 = .ok (.ifCond .ne 20, 3) := by decide +kernel
theorem dX10_must_7 : decode cX10_must 7 = .ok (.iload_n 1, 1) := by decide +kernel
theorem dX10_must_8 : decode cX10_must 8 = .ok (.ifCond .ne 16, 3) := by decide +kernel
theorem dX10_must_11 : decode cX10_must 11 = .ok (.aload_n 0, 1) := by decide +kernel
theorem dX10_must_12 : decode cX10_must 12 = .ok (.iload_n 2, 1) := by decide +kernel
theorem dX10_must_13 : decode cX10_must 13 = .ok (.putfield 126, 3) := by decide +kernel
theorem dX10_must_16 : decode cX10_must 16 = .ok (.aload_n 0, 1) := by decide +kernel
theorem dX10_must_17 : decode cX10_must 17 = .ok (.aload_n 0, 1) := by decide +kernel
theorem dX10_must_18 : decode cX10_must 18 = .ok (.getfield 102, 3) := by decide +kernel
theorem dX10_must_21 : decode cX10_must 21 = .ok (.putfield 129, 3) := by decide +kernel
theorem dX10_must_24 : decode cX10_must 24 = .ok (.aload_n 0, 1) := by decide +kernel
theorem dX10_must_25 : decode cX10_must 25 = .ok (.getfield 126, 3) := by decide +kernel
theorem dX10_must_28 : decode cX10_must 28 = .ok (.ifCond .ne 7, 3) := by decide +kernel
theorem dX10_must_31 : decode cX10_must 31 = .ok (.iconst 1, 1) := by decide +kernel
theorem dX10_must_32 : decode cX10_must 32 = .ok (.goto 4, 3) := by decide +kernel
theorem dX10_must_35 : decode cX10_must 35 = .ok (.iconst 0, 1) := by decide +kernel
theorem dX10_must_36 : decode cX10_must 36 = .ok (.ireturn, 1) := by decide +kernel
set_option maxHeartbeats 4000000 in
set_option maxRecDepth 100000 in
theorem c_X10_must {l : Launch} {g : Gh} {w : Wd} {k0 : Nat} {v_condition : Bool} {v_kind : Int32} {rz : Bool} {wz : Wd} (hF : f_X10_must w k0 v_condition v_kind = some (rz, wz)) (hk0 : zct zM k0 = 10) : Met l yX10_must (Cond.code yX10_must cX10_must 3 (some .boolean) :: TT) (rmd 0) (Pcw zM g w [.ref (g.2.2 k0), .int (bI (v_condition)), .int (v_kind)]) (Qw zM g wz (some (.int (bI (rz))))) 0 0 (zA zM g) := by
  refine mt_start (by decide) (Nat.le_of_ble_eq_true rfl) ?_
  intro p e s m args below meth c H locs ls X hr hl hH
  have hx := X.1
  have hb := X.2.1
  have hml := X.2.2.1
  have hown := X.2.2.2.1
  have ht := X.2.2.2.2.1
  have hl : lv_has ls 3 [(0, .ref (g.2.2 (k0))), (1, .int (bI (v_condition))), (2, .int (v_kind))] := hl
  unfold f_X10_must at hF
  obtain ⟨s1, hs1, hF⟩ := ob hF
  have Js1 : ∀ (H : Heap) (locs : List Loc) (ls : Array Slot), HW zM g s1 s.heap H locs → lv_has ls 3 [(0, .ref (g.2.2 (k0))), (1, .int (bI (v_condition))), (2, .int (v_kind))] → W p l e (rmd 0) s m args below meth c H locs 0 0 (MQ below (Qw zM g wz (some (.int (bI (rz))))) args s 0 0 (zA zM g)) (F0 m 24 ls []) := by
    intro H locs ls hH hl
    refine lv_aload_n hx hb dX10_must_24 rfl (lv_at hl 0 rfl) ?_
    refine w_geti X hH hk0 fs_10_8 lk_10_126 dX10_must_25 ?_
    have J7 : ∀ (H : Heap) (locs : List Loc), HW zM g s1 s.heap H locs → W p l e (rmd 0) s m args below meth c H locs 0 0 (MQ below (Qw zM g wz (some (.int (bI (rz))))) args s 0 0 (zA zM g)) (F0 m 36 ls [.int (bI ((decide ((s1.1 (k0) 8) = (0 : Int32)))))]) := by
      intro H locs hH
      obtain ⟨rfl, rfl⟩ := se2 hF
      exact w_zret X hH hr dX10_must_36
    refine w_zeq_f (tgt := 35) hx hb dX10_must_28 (by decide) (fun c8 => ?_) (fun c8 => ?_)
    · refine lv_iconst (v := (0 : Int32)) hx hb dX10_must_35 (by decide) ?_
      exact w_b0 c8 (J7 _ _ hH)
    · refine lv_iconst (v := (1 : Int32)) hx hb dX10_must_31 (by decide) ?_
      refine lv_goto (tgt := 36) hx hb dX10_must_32 (by decide) ?_
      exact w_b1 c8 (J7 _ _ hH)
  have hF := hs1
  refine lv_aload_n hx hb dX10_must_0 rfl (lv_at hl 0 rfl) ?_
  refine w_geti X hH hk0 fs_10_8 lk_10_126 dX10_must_1 ?_
  have J2T : ((w.1 (k0) 8) = (0 : Int32)) ∧ (¬ (v_condition = true)) → ∀ (H : Heap) (locs : List Loc), HW zM g w s.heap H locs → W p l e (rmd 0) s m args below meth c H locs 0 0 (MQ below (Qw zM g wz (some (.int (bI (rz))))) args s 0 0 (zA zM g)) (F0 m 11 ls []) := by
    intro hc H locs hH
    replace hF := ifp hc hF
    refine lv_aload_n hx hb dX10_must_11 rfl (lv_at hl 0 rfl) ?_
    refine lv_iload_n hx hb dX10_must_12 rfl (lv_at hl 2 rfl) ?_
    obtain ⟨w5, h5, hF⟩ := ob hF
    refine w_puti X hH h5 hk0 fs_10_8 nf_10_8 lk_10_126 dX10_must_13 (fun H locs hH => ?_)
    refine lv_aload_n hx hb dX10_must_16 rfl (lv_at hl 0 rfl) ?_
    refine lv_aload_n hx hb dX10_must_17 rfl (lv_at hl 0 rfl) ?_
    refine w_geti X hH hk0 fs_10_4 lk_10_102 dX10_must_18 ?_
    obtain ⟨w6, h6, hF⟩ := ob hF
    refine w_puti X hH h6 hk0 fs_10_9 nf_10_9 lk_10_129 dX10_must_21 (fun H locs hH => ?_)
    obtain rfl := se1 hF
    exact Js1 _ _ _ hH (lv_sub hl [0, 1, 2] rfl)
  have J2F : ¬ (((w.1 (k0) 8) = (0 : Int32)) ∧ (¬ (v_condition = true))) → ∀ (H : Heap) (locs : List Loc), HW zM g w s.heap H locs → W p l e (rmd 0) s m args below meth c H locs 0 0 (MQ below (Qw zM g wz (some (.int (bI (rz))))) args s 0 0 (zA zM g)) (F0 m 24 ls []) := by
    intro hc H locs hH
    replace hF := ifn hc hF
    obtain rfl := se1 hF
    exact Js1 _ _ _ hH (lv_sub hl [0, 1, 2] rfl)
  refine w_zeq_f (tgt := 24) hx hb dX10_must_4 (by decide) (fun c3 => ?_) (fun c3 => ?_)
  · exact J2F (fun z => c3 z.1) _ _ hH
  · refine lv_iload_n hx hb dX10_must_7 rfl (lv_at hl 1 rfl) ?_
    refine w_b_t (tgt := 24) hx hb dX10_must_8 (by decide) (fun c4 => ?_) (fun c4 => ?_)
    · exact J2F (fun z => (fun z => z c4) z.2) _ _ hH
    · exact J2T ⟨c3, c4⟩ _ _ hH

theorem dX10_coded_0 : decode cX10_coded 0 = .ok (.lconst 0, 1) := by decide +kernel
theorem dX10_coded_1 : decode cX10_coded 1 = .ok (.lstore_n 1, 1) := by decide +kernel
theorem dX10_coded_2 : decode cX10_coded 2 = .ok (.iconst 0, 1) := by decide +kernel
theorem dX10_coded_3 : decode cX10_coded 3 = .ok (.istore_n 3, 1) := by decide +kernel
theorem dX10_coded_4 : decode cX10_coded 4 = .ok (.iload_n 3, 1) := by decide +kernel
theorem dX10_coded_5 : decode cX10_coded 5 = .ok (.aload_n 0, 1) := by decide +kernel
theorem dX10_coded_6 : decode cX10_coded 6 = .ok (.invokevirtual 132, 3) := by decide +kernel
theorem dX10_coded_9 : decode cX10_coded 9 = .ok (.if_icmp .ge 24, 3) := by decide +kernel
theorem dX10_coded_12 : decode cX10_coded 12 = .ok (.lload_n 1, 1) := by decide +kernel
theorem dX10_coded_13 : decode cX10_coded 13 = .ok (.iconst 5, 1) := by decide +kernel
theorem dX10_coded_14 : decode cX10_coded 14 = .ok (.lshl, 1) := by decide +kernel
theorem dX10_coded_15 : decode cX10_coded 15 = .ok (.aload_n 0, 1) := by decide +kernel
theorem dX10_coded_16 : decode cX10_coded 16 = .ok (.iload_n 3, 1) := by decide +kernel
theorem dX10_coded_17 : decode cX10_coded 17 = .ok (.invokevirtual 137, 3) := by decide +kernel
theorem dX10_coded_20 : decode cX10_coded 20 = .ok (.i2l, 1) := by decide +kernel
theorem dX10_coded_21 : decode cX10_coded 21 = .ok (.ldc2_w 124, 3) := by decide +kernel
theorem dX10_coded_24 : decode cX10_coded 24 = .ok (.lsub, 1) := by decide +kernel
theorem dX10_coded_25 : decode cX10_coded 25 = .ok (.lor, 1) := by decide +kernel
theorem dX10_coded_26 : decode cX10_coded 26 = .ok (.lstore_n 1, 1) := by decide +kernel
theorem dX10_coded_27 : decode cX10_coded 27 = .ok (.iinc 3 1, 3) := by decide +kernel
theorem dX10_coded_30 : decode cX10_coded 30 = .ok (.goto (-26), 3) := by decide +kernel
theorem dX10_coded_33 : decode cX10_coded 33 = .ok (.lload_n 1, 1) := by decide +kernel
theorem dX10_coded_34 : decode cX10_coded 34 = .ok (.lreturn, 1) := by decide +kernel
set_option maxHeartbeats 4000000 in
set_option maxRecDepth 100000 in
theorem c_X10_coded {l : Launch} {g : Gh} {w : Wd} {v_w : Nat} {rz : Int64} (hF : f_X10_coded v_w = some rz) (hv_w : v_w < 6) : Met l yX10_coded (Cond.code yX10_coded cX10_coded 4 (some .long) :: TT) (rmd 4) (Pcw zM g w [.ref (g.2.2 (2000 + (v_w)))]) (Qw zM g w (some (.long (rz)))) 0 0 (zA zM g) := by
  refine mt_start (by decide) (Nat.le_of_ble_eq_true rfl) ?_
  intro p e s m args below meth c H locs ls X hr hl hH
  have hx := X.1
  have hb := X.2.1
  have hml := X.2.2.1
  have hown := X.2.2.2.1
  have ht := X.2.2.2.2.1
  have hl : lv_has ls 4 [(0, .ref (g.2.2 (2000 + (v_w))))] := hl
  unfold f_X10_coded at hF
  refine lv_lconst (v := 0) hx hb dX10_coded_0 (by decide) ?_
  refine lv_lstore_n (lv' := [(1, .long ((0 : Int64))), (0, .ref (g.2.2 (2000 + (v_w))))]) hx hb dX10_coded_1 rfl hl (by decide) rfl (fun ls hl => ?_)
  refine lv_iconst (v := (0 : Int32)) hx hb dX10_coded_2 (by decide) ?_
  refine lv_istore_n (lv' := [(3, .int ((0 : Int32))), (1, .long ((0 : Int64))), (0, .ref (g.2.2 (2000 + (v_w))))]) hx hb dX10_coded_3 rfl hl (by decide) rfl (fun ls hl => ?_)
  obtain ⟨r2, hLr2, hF⟩ := ob hF
  have Jr2 : ∀ (H : Heap) (locs : List Loc) (ls : Array Slot), HW zM g w s.heap H locs → lv_has ls 4 [(0, .ref (g.2.2 (2000 + (v_w)))), (1, .long (r2))] → W p l e (rmd 4) s m args below meth c H locs 0 0 (MQ below (Qw zM g w (some (.long (rz)))) args s 0 0 (zA zM g)) (F0 m 33 ls []) := by
    intro H locs ls hH hl
    refine lv_lload_n hx hb dX10_coded_33 rfl (lv_at hl 1 rfl) ?_
    obtain rfl := se1 hF
    exact w_lret X hH hr dX10_coded_34
  have Lr2 : ∀ (n : Nat) (s1 : Int64 × Int32), lp (b_X10_coded_1 v_w) n s1 = some r2 → ∀ (H : Heap) (locs : List Loc) (ls : Array Slot), HW zM g w s.heap H locs → lv_has ls 4 [(0, .ref (g.2.2 (2000 + (v_w)))), (1, .long (s1.1)), (3, .int (s1.2))] → W p l e (rmd 4) s m args below meth c H locs 0 0 (MQ below (Qw zM g w (some (.long (rz)))) args s 0 0 (zA zM g)) (F0 m 4 ls []) := by
    intro n
    induction n with
    | zero => intro s1 hL; exact lp_0 hL
    | succ n ih =>
      intro s1 hL H locs ls hH hl
      obtain ⟨bb, hF, hL⟩ := lp_s hL
      unfold b_X10_coded_1 at hF
      refine lv_iload_n hx hb dX10_coded_4 rfl (lv_at hl 2 rfl) ?_
      refine lv_aload_n hx hb dX10_coded_5 rfl (lv_at hl 0 rfl) ?_
      refine w_slength X hH hv_w (by decide) hl.1 (Nat.le_of_ble_eq_true rfl) dX10_coded_6 (fun H locs hH => ?_)
      refine w_ilt_f (tgt := 33) hx hb dX10_coded_9 (by decide) (fun c3 => ?_) (fun c3 => ?_)
      · replace hF := ifn c3 hF
        obtain rfl := se1 hF
        subst hL
        exact Jr2 _ _ _ hH (lv_sub hl [0, 1] rfl)
      · replace hF := ifp c3 hF
        refine lv_lload_n hx hb dX10_coded_12 rfl (lv_at hl 1 rfl) ?_
        refine lv_iconst (v := (5 : Int32)) hx hb dX10_coded_13 (by decide) ?_
        refine w_lshl hx hb dX10_coded_14 ?_
        refine lv_aload_n hx hb dX10_coded_15 rfl (lv_at hl 0 rfl) ?_
        refine lv_iload_n hx hb dX10_coded_16 rfl (lv_at hl 2 rfl) ?_
        obtain ⟨x4, h4, hF⟩ := ob hF
        refine w_scharAt X hH hv_w h4 (by decide) hl.1 (Nat.le_of_ble_eq_true rfl) dX10_coded_17 (fun H locs hH => ?_)
        refine w_i2l hx hb dX10_coded_20 ?_
        refine lv_ldc2 (own := RX10) (v := (96 : Int64)) hx hb hown (ht _ tw_5_236) dX10_coded_21 ?_
        refine lv_lsub hx hb dX10_coded_24 ?_
        refine lv_lor hx hb dX10_coded_25 ?_
        refine lv_lstore_n (lv' := [(1, .long (((jlshl (s1.1) ((5 : Int32))) ||| ((x4).toInt64 - (96 : Int64))))), (0, .ref (g.2.2 (2000 + (v_w)))), (3, .int (s1.2))]) hx hb dX10_coded_26 rfl hl (by decide) rfl (fun ls hl => ?_)
        refine lv_iinc (v := (s1.2 + (1 : Int32))) (lv' := [(3, .int ((s1.2 + (1 : Int32)))), (1, .long (((jlshl (s1.1) ((5 : Int32))) ||| ((x4).toInt64 - (96 : Int64))))), (0, .ref (g.2.2 (2000 + (v_w))))]) hx hb dX10_coded_27 hl (k := 2) rfl rfl (by decide) rfl (fun ls hl => ?_)
        refine lv_goto (tgt := 4) hx hb dX10_coded_30 (by decide) ?_
        obtain rfl := se1 hF
        exact ih _ hL _ _ _ hH (lv_sub hl [2, 1, 0] rfl)
  exact Lr2 NF _ hLr2 _ _ _ hH (lv_sub hl [2, 1, 0] rfl)

theorem dX10_is_0 : decode cX10_is 0 = .ok (.aload_n 0, 1) := by decide +kernel
theorem dX10_is_1 : decode cX10_is 1 = .ok (.getfield 126, 3) := by decide +kernel
theorem dX10_is_4 : decode cX10_is 4 = .ok (.ifCond .ne 27, 3) := by decide +kernel
theorem dX10_is_7 : decode cX10_is 7 = .ok (.aload_n 0, 1) := by decide +kernel
theorem dX10_is_8 : decode cX10_is 8 = .ok (.getfield 109, 3) := by decide +kernel
theorem dX10_is_11 : decode cX10_is 11 = .ok (.iconst 1, 1) := by decide +kernel
theorem dX10_is_12 : decode cX10_is 12 = .ok (.if_icmp .ne 19, 3) := by decide +kernel
theorem dX10_is_15 : decode cX10_is 15 = .ok (.aload_n 0, 1) := by decide +kernel
theorem dX10_is_16 : decode cX10_is 16 = .ok (.getfield 112, 3) := by decide +kernel
theorem dX10_is_19 : decode cX10_is 19 = .ok (.aload_n 1, 1) := by decide +kernel
theorem dX10_is_20 : decode cX10_is 20 = .ok (.invokestatic 141, 3) := by decide +kernel
theorem dX10_is_23 : decode cX10_is 23 = .ok (.lcmp, 1) := by decide +kernel
theorem dX10_is_24 : decode cX10_is 24 = .ok (.ifCond .ne 7, 3) := by decide +kernel
theorem dX10_is_27 : decode cX10_is 27 = .ok (.iconst 1, 1) := by decide +kernel
theorem dX10_is_28 : decode cX10_is 28 = .ok (.goto 4, 3) := by decide +kernel
theorem dX10_is_31 : decode cX10_is 31 = .ok (.iconst 0, 1) := by decide +kernel
theorem dX10_is_32 : decode cX10_is 32 = .ok (.ireturn, 1) := by decide +kernel
set_option maxHeartbeats 4000000 in
set_option maxRecDepth 100000 in
theorem c_X10_is {l : Launch} {g : Gh} {w : Wd} {k0 : Nat} {v_w : Nat} {rz : Bool} (hF : f_X10_is w k0 v_w = some rz) (hk0 : zct zM k0 = 10) (hv_w : v_w < 6) : Met l yX10_is (Cond.code yX10_is cX10_is 2 (some .boolean) :: TT) (rmd 5) (Pcw zM g w [.ref (g.2.2 k0), .ref (g.2.2 (2000 + (v_w)))]) (Qw zM g w (some (.int (bI (rz))))) 0 0 (zA zM g) := by
  refine mt_start (by decide) (Nat.le_of_ble_eq_true rfl) ?_
  intro p e s m args below meth c H locs ls X hr hl hH
  have hx := X.1
  have hb := X.2.1
  have hml := X.2.2.1
  have hown := X.2.2.2.1
  have ht := X.2.2.2.2.1
  have hl : lv_has ls 2 [(0, .ref (g.2.2 (k0))), (1, .ref (g.2.2 (2000 + (v_w))))] := hl
  unfold f_X10_is at hF
  obtain ⟨b2, hb2, hF⟩ := ob hF
  have J1 : ∀ (H : Heap) (locs : List Loc), HW zM g w s.heap H locs → W p l e (rmd 5) s m args below meth c H locs 0 0 (MQ below (Qw zM g w (some (.int (bI (rz))))) args s 0 0 (zA zM g)) (F0 m 32 ls [.int (bI (b2))]) := by
    intro H locs hH
    obtain rfl := se1 hF
    exact w_zret X hH hr dX10_is_32
  have hF := hb2
  refine lv_aload_n hx hb dX10_is_0 rfl (lv_at hl 0 rfl) ?_
  refine w_geti X hH hk0 fs_10_8 lk_10_126 dX10_is_1 ?_
  refine w_zeq_f (tgt := 31) hx hb dX10_is_4 (by decide) (fun c3 => ?_) (fun c3 => ?_)
  · replace hF := ifn c3 hF
    refine lv_iconst (v := (0 : Int32)) hx hb dX10_is_31 (by decide) ?_
    obtain rfl := se1 hF
    exact J1 _ _ hH
  · replace hF := ifp c3 hF
    refine lv_aload_n hx hb dX10_is_7 rfl (lv_at hl 0 rfl) ?_
    refine w_geti X hH hk0 fs_10_6 lk_10_109 dX10_is_8 ?_
    refine lv_iconst (v := (1 : Int32)) hx hb dX10_is_11 (by decide) ?_
    refine w_ieq_f (tgt := 31) hx hb dX10_is_12 (by decide) (fun c4 => ?_) (fun c4 => ?_)
    · replace hF := ifn c4 hF
      refine lv_iconst (v := (0 : Int32)) hx hb dX10_is_31 (by decide) ?_
      obtain rfl := se1 hF
      exact J1 _ _ hH
    · replace hF := ifp c4 hF
      refine lv_aload_n hx hb dX10_is_15 rfl (lv_at hl 0 rfl) ?_
      refine w_getl X hH hk0 fs_10_7 lk_10_112 dX10_is_16 ?_
      refine lv_aload_n hx hb dX10_is_19 rfl (lv_at hl 1 rfl) ?_
      obtain ⟨x6, h6, hF⟩ := ob hF
      refine w_callS (As := [.ref (g.2.2 (2000 + (v_w)))]) (rest := [.long ((w.2.1 (k0) 7))]) (st1 := [.long (x6), .long ((w.2.1 (k0) 7))]) X hH (c_X10_coded (l := l) (g := g) (w := w) (v_w := v_w) h6 hv_w) (Or.inl tw_6_6) ms_X10_coded tw_6_7 ⟨Nat.le_of_ble_eq_true rfl, Nat.le_of_ble_eq_true rfl⟩ rfl rfl hl.1 (Nat.le_of_ble_eq_true rfl) dX10_is_20 ⟨Nat.le_refl _, Nat.le_refl _⟩ rfl (fun H locs hH => ?_)
      refine w_leq_f (tgt := 31) hx hb dX10_is_23 dX10_is_24 (by decide) (fun c5 => ?_) (fun c5 => ?_)
      · replace hF := ifn c5 hF
        refine lv_iconst (v := (0 : Int32)) hx hb dX10_is_31 (by decide) ?_
        obtain rfl := se1 hF
        exact J1 _ _ hH
      · replace hF := ifp c5 hF
        refine lv_iconst (v := (1 : Int32)) hx hb dX10_is_27 (by decide) ?_
        refine lv_goto (tgt := 32) hx hb dX10_is_28 (by decide) ?_
        obtain rfl := se1 hF
        exact J1 _ _ hH

theorem dX10_keyword_0 : decode cX10_keyword 0 = .ok (.aload_n 0, 1) := by decide +kernel
theorem dX10_keyword_1 : decode cX10_keyword 1 = .ok (.ldc 145, 2) := by decide +kernel
theorem dX10_keyword_3 : decode cX10_keyword 3 = .ok (.invokevirtual 147, 3) := by decide +kernel
theorem dX10_keyword_6 : decode cX10_keyword 6 = .ok (.ifCond .eq 7, 3) := by decide +kernel
theorem dX10_keyword_9 : decode cX10_keyword 9 = .ok (.iconst 0, 1) := by decide +kernel
theorem dX10_keyword_10 : decode cX10_keyword 10 = .ok (.goto 69, 3) := by decide +kernel
theorem dX10_keyword_13 : decode cX10_keyword 13 = .ok (.aload_n 0, 1) := by decide +kernel
theorem dX10_keyword_14 : decode cX10_keyword 14 = .ok (.ldc 151, 2) := by decide +kernel
theorem dX10_keyword_16 : decode cX10_keyword 16 = .ok (.invokevirtual 147, 3) := by decide +kernel
theorem dX10_keyword_19 : decode cX10_keyword 19 = .ok (.ifCond .eq 7, 3) := by decide +kernel
theorem dX10_keyword_22 : decode cX10_keyword 22 = .ok (.iconst 1, 1) := by decide +kernel
theorem dX10_keyword_23 : decode cX10_keyword 23 = .ok (.goto 56, 3) := by decide +kernel
theorem dX10_keyword_26 : decode cX10_keyword 26 = .ok (.aload_n 0, 1) := by decide +kernel
theorem dX10_keyword_27 : decode cX10_keyword 27 = .ok (.ldc 153, 2) := by decide +kernel
theorem dX10_keyword_29 : decode cX10_keyword 29 = .ok (.invokevirtual 147, 3) := by decide +kernel
theorem dX10_keyword_32 : decode cX10_keyword 32 = .ok (.ifCond .eq 7, 3) := by decide +kernel
theorem dX10_keyword_35 : decode cX10_keyword 35 = .ok (.iconst 2, 1) := by decide +kernel
theorem dX10_keyword_36 : decode cX10_keyword 36 = .ok (.goto 43, 3) := by decide +kernel
theorem dX10_keyword_39 : decode cX10_keyword 39 = .ok (.aload_n 0, 1) := by decide +kernel
theorem dX10_keyword_40 : decode cX10_keyword 40 = .ok (.ldc 155, 2) := by decide +kernel
theorem dX10_keyword_42 : decode cX10_keyword 42 = .ok (.invokevirtual 147, 3) := by decide +kernel
theorem dX10_keyword_45 : decode cX10_keyword 45 = .ok (.ifCond .eq 7, 3) := by decide +kernel
theorem dX10_keyword_48 : decode cX10_keyword 48 = .ok (.iconst 3, 1) := by decide +kernel
theorem dX10_keyword_49 : decode cX10_keyword 49 = .ok (.goto 30, 3) := by decide +kernel
theorem dX10_keyword_52 : decode cX10_keyword 52 = .ok (.aload_n 0, 1) := by decide +kernel
theorem dX10_keyword_53 : decode cX10_keyword 53 = .ok (.ldc 157, 2) := by decide +kernel
theorem dX10_keyword_55 : decode cX10_keyword 55 = .ok (.invokevirtual 147, 3) := by decide +kernel
theorem dX10_keyword_58 : decode cX10_keyword 58 = .ok (.ifCond .eq 7, 3) := by decide +kernel
theorem dX10_keyword_61 : decode cX10_keyword 61 = .ok (.iconst 4, 1) := by decide +kernel
theorem dX10_keyword_62 : decode cX10_keyword 62 = .ok (.goto 17, 3) := by decide +kernel
theorem dX10_keyword_65 : decode cX10_keyword 65 = .ok (.aload_n 0, 1) := by decide +kernel
theorem dX10_keyword_66 : decode cX10_keyword 66 = .ok (.ldc 159, 2) := by decide +kernel
theorem dX10_keyword_68 : decode cX10_keyword 68 = .ok (.invokevirtual 147, 3) := by decide +kernel
theorem dX10_keyword_71 : decode cX10_keyword 71 = .ok (.ifCond .eq 7, 3) := by decide +kernel
theorem dX10_keyword_74 : decode cX10_keyword 74 = .ok (.iconst 5, 1) := by decide +kernel
theorem dX10_keyword_75 : decode cX10_keyword 75 = .ok (.goto 4, 3) := by decide +kernel
theorem dX10_keyword_78 : decode cX10_keyword 78 = .ok (.iconst (-1), 1) := by decide +kernel
theorem dX10_keyword_79 : decode cX10_keyword 79 = .ok (.ireturn, 1) := by decide +kernel
set_option maxHeartbeats 4000000 in
set_option maxRecDepth 100000 in
theorem c_X10_keyword {l : Launch} {g : Gh} {w : Wd} {k0 : Nat} {rz : Int32} (hF : f_X10_keyword w k0 = some rz) (hk0 : zct zM k0 = 10) : Met l yX10_keyword (Cond.code yX10_keyword cX10_keyword 1 (some .int) :: TT) (rmd 6) (Pcw zM g w [.ref (g.2.2 k0)]) (Qw zM g w (some (.int (rz)))) 0 0 (zA zM g) := by
  refine mt_start (by decide) (Nat.le_of_ble_eq_true rfl) ?_
  intro p e s m args below meth c H locs ls X hr hl hH
  have hx := X.1
  have hb := X.2.1
  have hml := X.2.2.1
  have hown := X.2.2.2.1
  have ht := X.2.2.2.2.1
  have hl : lv_has ls 1 [(0, .ref (g.2.2 (k0)))] := hl
  unfold f_X10_keyword at hF
  obtain ⟨x2, hx2, hF⟩ := ob hF
  have J1 : ∀ (H : Heap) (locs : List Loc), HW zM g w s.heap H locs → W p l e (rmd 6) s m args below meth c H locs 0 0 (MQ below (Qw zM g w (some (.int (rz)))) args s 0 0 (zA zM g)) (F0 m 79 ls [.int (x2)]) := by
    intro H locs hH
    obtain rfl := se1 hF
    exact w_iret X hH hr dX10_keyword_79
  have hF := hx2
  refine lv_aload_n hx hb dX10_keyword_0 rfl (lv_at hl 0 rfl) ?_
  refine w_ldcs X 0 (by decide) dX10_keyword_1 ?_
  obtain ⟨x3, h3, hF⟩ := ob hF
  refine w_callV (As := [.ref (g.2.2 (2000 + (0)))]) (k := k0) (rest := []) (st1 := [.int (bI (x3))]) X hH (c_X10_is (l := l) (g := g) (w := w) (k0 := k0) (v_w := 0) h3 hk0 (show 0 < 6 by decide)) (Or.inl tw_6_2) ms_X10_is im_X10_is hk0 cn_10 ⟨Nat.le_of_ble_eq_true rfl, Nat.le_of_ble_eq_true rfl⟩ rfl rfl hl.1 (Nat.le_of_ble_eq_true rfl) dX10_keyword_3 ⟨Nat.le_refl _, Nat.le_refl _⟩ rfl (fun H locs hH => ?_)
  refine w_b_f (tgt := 13) hx hb dX10_keyword_6 (by decide) (fun c4 => ?_) (fun c4 => ?_)
  · replace hF := ifn c4 hF
    obtain ⟨x6, hx6, hF⟩ := ob hF
    have J5 : ∀ (H : Heap) (locs : List Loc), HW zM g w s.heap H locs → W p l e (rmd 6) s m args below meth c H locs 0 0 (MQ below (Qw zM g w (some (.int (rz)))) args s 0 0 (zA zM g)) (F0 m 79 ls [.int (x6)]) := by
      intro H locs hH
      obtain rfl := se1 hF
      exact J1 _ _ hH
    have hF := hx6
    refine lv_aload_n hx hb dX10_keyword_13 rfl (lv_at hl 0 rfl) ?_
    refine w_ldcs X 1 (by decide) dX10_keyword_14 ?_
    obtain ⟨x7, h7, hF⟩ := ob hF
    refine w_callV (As := [.ref (g.2.2 (2000 + (1)))]) (k := k0) (rest := []) (st1 := [.int (bI (x7))]) X hH (c_X10_is (l := l) (g := g) (w := w) (k0 := k0) (v_w := 1) h7 hk0 (show 1 < 6 by decide)) (Or.inl tw_6_2) ms_X10_is im_X10_is hk0 cn_10 ⟨Nat.le_of_ble_eq_true rfl, Nat.le_of_ble_eq_true rfl⟩ rfl rfl hl.1 (Nat.le_of_ble_eq_true rfl) dX10_keyword_16 ⟨Nat.le_refl _, Nat.le_refl _⟩ rfl (fun H locs hH => ?_)
    refine w_b_f (tgt := 26) hx hb dX10_keyword_19 (by decide) (fun c8 => ?_) (fun c8 => ?_)
    · replace hF := ifn c8 hF
      obtain ⟨x10, hx10, hF⟩ := ob hF
      have J9 : ∀ (H : Heap) (locs : List Loc), HW zM g w s.heap H locs → W p l e (rmd 6) s m args below meth c H locs 0 0 (MQ below (Qw zM g w (some (.int (rz)))) args s 0 0 (zA zM g)) (F0 m 79 ls [.int (x10)]) := by
        intro H locs hH
        obtain rfl := se1 hF
        exact J5 _ _ hH
      have hF := hx10
      refine lv_aload_n hx hb dX10_keyword_26 rfl (lv_at hl 0 rfl) ?_
      refine w_ldcs X 2 (by decide) dX10_keyword_27 ?_
      obtain ⟨x11, h11, hF⟩ := ob hF
      refine w_callV (As := [.ref (g.2.2 (2000 + (2)))]) (k := k0) (rest := []) (st1 := [.int (bI (x11))]) X hH (c_X10_is (l := l) (g := g) (w := w) (k0 := k0) (v_w := 2) h11 hk0 (show 2 < 6 by decide)) (Or.inl tw_6_2) ms_X10_is im_X10_is hk0 cn_10 ⟨Nat.le_of_ble_eq_true rfl, Nat.le_of_ble_eq_true rfl⟩ rfl rfl hl.1 (Nat.le_of_ble_eq_true rfl) dX10_keyword_29 ⟨Nat.le_refl _, Nat.le_refl _⟩ rfl (fun H locs hH => ?_)
      refine w_b_f (tgt := 39) hx hb dX10_keyword_32 (by decide) (fun c12 => ?_) (fun c12 => ?_)
      · replace hF := ifn c12 hF
        obtain ⟨x14, hx14, hF⟩ := ob hF
        have J13 : ∀ (H : Heap) (locs : List Loc), HW zM g w s.heap H locs → W p l e (rmd 6) s m args below meth c H locs 0 0 (MQ below (Qw zM g w (some (.int (rz)))) args s 0 0 (zA zM g)) (F0 m 79 ls [.int (x14)]) := by
          intro H locs hH
          obtain rfl := se1 hF
          exact J9 _ _ hH
        have hF := hx14
        refine lv_aload_n hx hb dX10_keyword_39 rfl (lv_at hl 0 rfl) ?_
        refine w_ldcs X 3 (by decide) dX10_keyword_40 ?_
        obtain ⟨x15, h15, hF⟩ := ob hF
        refine w_callV (As := [.ref (g.2.2 (2000 + (3)))]) (k := k0) (rest := []) (st1 := [.int (bI (x15))]) X hH (c_X10_is (l := l) (g := g) (w := w) (k0 := k0) (v_w := 3) h15 hk0 (show 3 < 6 by decide)) (Or.inl tw_6_2) ms_X10_is im_X10_is hk0 cn_10 ⟨Nat.le_of_ble_eq_true rfl, Nat.le_of_ble_eq_true rfl⟩ rfl rfl hl.1 (Nat.le_of_ble_eq_true rfl) dX10_keyword_42 ⟨Nat.le_refl _, Nat.le_refl _⟩ rfl (fun H locs hH => ?_)
        refine w_b_f (tgt := 52) hx hb dX10_keyword_45 (by decide) (fun c16 => ?_) (fun c16 => ?_)
        · replace hF := ifn c16 hF
          obtain ⟨x18, hx18, hF⟩ := ob hF
          have J17 : ∀ (H : Heap) (locs : List Loc), HW zM g w s.heap H locs → W p l e (rmd 6) s m args below meth c H locs 0 0 (MQ below (Qw zM g w (some (.int (rz)))) args s 0 0 (zA zM g)) (F0 m 79 ls [.int (x18)]) := by
            intro H locs hH
            obtain rfl := se1 hF
            exact J13 _ _ hH
          have hF := hx18
          refine lv_aload_n hx hb dX10_keyword_52 rfl (lv_at hl 0 rfl) ?_
          refine w_ldcs X 4 (by decide) dX10_keyword_53 ?_
          obtain ⟨x19, h19, hF⟩ := ob hF
          refine w_callV (As := [.ref (g.2.2 (2000 + (4)))]) (k := k0) (rest := []) (st1 := [.int (bI (x19))]) X hH (c_X10_is (l := l) (g := g) (w := w) (k0 := k0) (v_w := 4) h19 hk0 (show 4 < 6 by decide)) (Or.inl tw_6_2) ms_X10_is im_X10_is hk0 cn_10 ⟨Nat.le_of_ble_eq_true rfl, Nat.le_of_ble_eq_true rfl⟩ rfl rfl hl.1 (Nat.le_of_ble_eq_true rfl) dX10_keyword_55 ⟨Nat.le_refl _, Nat.le_refl _⟩ rfl (fun H locs hH => ?_)
          refine w_b_f (tgt := 65) hx hb dX10_keyword_58 (by decide) (fun c20 => ?_) (fun c20 => ?_)
          · replace hF := ifn c20 hF
            refine lv_aload_n hx hb dX10_keyword_65 rfl (lv_at hl 0 rfl) ?_
            refine w_ldcs X 5 (by decide) dX10_keyword_66 ?_
            obtain ⟨x22, h22, hF⟩ := ob hF
            refine w_callV (As := [.ref (g.2.2 (2000 + (5)))]) (k := k0) (rest := []) (st1 := [.int (bI (x22))]) X hH (c_X10_is (l := l) (g := g) (w := w) (k0 := k0) (v_w := 5) h22 hk0 (show 5 < 6 by decide)) (Or.inl tw_6_2) ms_X10_is im_X10_is hk0 cn_10 ⟨Nat.le_of_ble_eq_true rfl, Nat.le_of_ble_eq_true rfl⟩ rfl rfl hl.1 (Nat.le_of_ble_eq_true rfl) dX10_keyword_68 ⟨Nat.le_refl _, Nat.le_refl _⟩ rfl (fun H locs hH => ?_)
            have J21 : ∀ (H : Heap) (locs : List Loc), HW zM g w s.heap H locs → W p l e (rmd 6) s m args below meth c H locs 0 0 (MQ below (Qw zM g w (some (.int (rz)))) args s 0 0 (zA zM g)) (F0 m 79 ls [.int ((if x22 = true then (5 : Int32) else (-1 : Int32)))]) := by
              intro H locs hH
              obtain rfl := se1 hF
              exact J17 _ _ hH
            refine w_b_f (tgt := 78) hx hb dX10_keyword_71 (by decide) (fun c23 => ?_) (fun c23 => ?_)
            · refine lv_iconst (v := (-1 : Int32)) hx hb dX10_keyword_78 (by decide) ?_
              exact w_in c23 (J21 _ _ hH)
            · refine lv_iconst (v := (5 : Int32)) hx hb dX10_keyword_74 (by decide) ?_
              refine lv_goto (tgt := 79) hx hb dX10_keyword_75 (by decide) ?_
              exact w_ip c23 (J21 _ _ hH)
          · replace hF := ifp c20 hF
            refine lv_iconst (v := (4 : Int32)) hx hb dX10_keyword_61 (by decide) ?_
            refine lv_goto (tgt := 79) hx hb dX10_keyword_62 (by decide) ?_
            obtain rfl := se1 hF
            exact J17 _ _ hH
        · replace hF := ifp c16 hF
          refine lv_iconst (v := (3 : Int32)) hx hb dX10_keyword_48 (by decide) ?_
          refine lv_goto (tgt := 79) hx hb dX10_keyword_49 (by decide) ?_
          obtain rfl := se1 hF
          exact J13 _ _ hH
      · replace hF := ifp c12 hF
        refine lv_iconst (v := (2 : Int32)) hx hb dX10_keyword_35 (by decide) ?_
        refine lv_goto (tgt := 79) hx hb dX10_keyword_36 (by decide) ?_
        obtain rfl := se1 hF
        exact J9 _ _ hH
    · replace hF := ifp c8 hF
      refine lv_iconst (v := (1 : Int32)) hx hb dX10_keyword_22 (by decide) ?_
      refine lv_goto (tgt := 79) hx hb dX10_keyword_23 (by decide) ?_
      obtain rfl := se1 hF
      exact J5 _ _ hH
  · replace hF := ifp c4 hF
    refine lv_iconst (v := (0 : Int32)) hx hb dX10_keyword_9 (by decide) ?_
    refine lv_goto (tgt := 79) hx hb dX10_keyword_10 (by decide) ?_
    obtain rfl := se1 hF
    exact J1 _ _ hH

theorem dX10_identifier_0 : decode cX10_identifier 0 = .ok (.aload_n 0, 1) := by decide +kernel
theorem dX10_identifier_1 : decode cX10_identifier 1 = .ok (.aload_n 0, 1) := by decide +kernel
theorem dX10_identifier_2 : decode cX10_identifier 2 = .ok (.getfield 109, 3) := by decide +kernel
theorem dX10_identifier_5 : decode cX10_identifier 5 = .ok (.iconst 1, 1) := by decide +kernel
theorem dX10_identifier_6 : decode cX10_identifier 6 = .ok (.if_icmp .ne 14, 3) := by decide +kernel
theorem dX10_identifier_9 : decode cX10_identifier 9 = .ok (.aload_n 0, 1) := by decide +kernel
theorem dX10_identifier_10 : decode cX10_identifier 10 = .ok (.invokevirtual 161, 3) := by decide +kernel
theorem dX10_identifier_13 : decode cX10_identifier 13 = .ok (.ifCond .ge 7, 3) := by decide +kernel
theorem dX10_identifier_16 : decode cX10_identifier 16 = .ok (.iconst 1, 1) := by decide +kernel
theorem dX10_identifier_17 : decode cX10_identifier 17 = .ok (.goto 4, 3) := by decide +kernel
theorem dX10_identifier_20 : decode cX10_identifier 20 = .ok (.iconst 0, 1) := by decide +kernel
theorem dX10_identifier_21 : decode cX10_identifier 21 = .ok (.iconst 1, 1) := by decide +kernel
theorem dX10_identifier_22 : decode cX10_identifier 22 = .ok (.invokevirtual 164, 3) := by decide +kernel
theorem dX10_identifier_25 : decode cX10_identifier 25 = .ok (.ifCond .ne 5, 3) := by decide +kernel
theorem dX10_identifier_28 : decode cX10_identifier 28 = .ok (.iconst 0, 1) := by decide +kernel
theorem dX10_identifier_29 : decode cX10_identifier 29 = .ok (.ireturn, 1) := by decide +kernel
theorem dX10_identifier_30 : decode cX10_identifier 30 = .ok (.aload_n 1, 1) := by decide +kernel
theorem dX10_identifier_31 : decode cX10_identifier 31 = .ok (.arraylength, 1) := by decide +kernel
theorem dX10_identifier_32 : decode cX10_identifier 32 = .ok (.iconst 2, 1) := by decide +kernel
theorem dX10_identifier_33 : decode cX10_identifier 33 = .ok (.idiv, 1) := by decide +kernel
theorem dX10_identifier_34 : decode cX10_identifier 34 = .ok (.istore 4, 2) := by decide +kernel
theorem dX10_identifier_36 : decode cX10_identifier 36 = .ok (.iconst 0, 1) := by decide +kernel
theorem dX10_identifier_37 : decode cX10_identifier 37 = .ok (.istore 5, 2) := by decide +kernel
theorem dX10_identifier_39 : decode cX10_identifier 39 = .ok (.iload 5, 2) := by decide +kernel
theorem dX10_identifier_41 : decode cX10_identifier 41 = .ok (.aload_n 2, 1) := by decide +kernel
theorem dX10_identifier_42 : decode cX10_identifier 42 = .ok (.iconst 1, 1) := by decide +kernel
theorem dX10_identifier_43 : decode cX10_identifier 43 = .ok (.iaload, 1) := by decide +kernel
theorem dX10_identifier_44 : decode cX10_identifier 44 = .ok (.if_icmp .ge 24, 3) := by decide +kernel
theorem dX10_identifier_47 : decode cX10_identifier 47 = .ok (.aload_n 1, 1) := by decide +kernel
theorem dX10_identifier_48 : decode cX10_identifier 48 = .ok (.iload 4, 2) := by decide +kernel
theorem dX10_identifier_50 : decode cX10_identifier 50 = .ok (.iload 5, 2) := by decide +kernel
theorem dX10_identifier_52 : decode cX10_identifier 52 = .ok (.iadd, 1) := by decide +kernel
theorem dX10_identifier_53 : decode cX10_identifier 53 = .ok (.laload, 1) := by decide +kernel
theorem dX10_identifier_54 : decode cX10_identifier 54 = .ok (.aload_n 0, 1) := by decide +kernel
theorem dX10_identifier_55 : decode cX10_identifier 55 = .ok (.getfield 112, 3) := by decide +kernel
theorem dX10_identifier_58 : decode cX10_identifier 58 = .ok (.lcmp, 1) := by decide +kernel
theorem dX10_identifier_59 : decode cX10_identifier 59 = .ok (.ifCond .eq 9, 3) := by decide +kernel
theorem dX10_identifier_62 : decode cX10_identifier 62 = .ok (.iinc 5 1, 3) := by decide +kernel
theorem dX10_identifier_65 : decode cX10_identifier 65 = .ok (.goto (-26), 3) := by decide +kernel
theorem dX10_identifier_68 : decode cX10_identifier 68 = .ok (.iload 5, 2) := by decide +kernel
theorem dX10_identifier_70 : decode cX10_identifier 70 = .ok (.aload_n 2, 1) := by decide +kernel
theorem dX10_identifier_71 : decode cX10_identifier 71 = .ok (.iconst 1, 1) := by decide +kernel
theorem dX10_identifier_72 : decode cX10_identifier 72 = .ok (.iaload, 1) := by decide +kernel
theorem dX10_identifier_73 : decode cX10_identifier 73 = .ok (.if_icmp .ne 43, 3) := by decide +kernel
theorem dX10_identifier_76 : decode cX10_identifier 76 = .ok (.aload_n 0, 1) := by decide +kernel
theorem dX10_identifier_77 : decode cX10_identifier 77 = .ok (.aload_n 2, 1) := by decide +kernel
theorem dX10_identifier_78 : decode cX10_identifier 78 = .ok (.iconst 1, 1) := by decide +kernel
theorem dX10_identifier_79 : decode cX10_identifier 79 = .ok (.iaload, 1) := by decide +kernel
theorem dX10_identifier_80 : decode cX10_identifier 80 = .ok (.iload_n 3, 1) := by decide +kernel
theorem dX10_identifier_81 : decode cX10_identifier 81 = .ok (.if_icmp .ge 7, 3) := by decide +kernel
theorem dX10_identifier_84 : decode cX10_identifier 84 = .ok (.iconst 1, 1) := by decide +kernel
theorem dX10_identifier_85 : decode cX10_identifier 85 = .ok (.goto 4, 3) := by decide +kernel
theorem dX10_identifier_88 : decode cX10_identifier 88 = .ok (.iconst 0, 1) := by decide +kernel
theorem dX10_identifier_89 : decode cX10_identifier 89 = .ok (.iconst 3, 1) := by decide +kernel
theorem dX10_identifier_90 : decode cX10_identifier 90 = .ok (.invokevirtual 164, 3) := by decide +kernel
theorem dX10_identifier_93 : decode cX10_identifier 93 = .ok (.ifCond .ne 5, 3) := by decide +kernel
theorem dX10_identifier_96 : decode cX10_identifier 96 = .ok (.iconst 0, 1) := by decide +kernel
theorem dX10_identifier_97 : decode cX10_identifier 97 = .ok (.ireturn, 1) := by decide +kernel
theorem dX10_identifier_98 : decode cX10_identifier 98 = .ok (.aload_n 1, 1) := by decide +kernel
theorem dX10_identifier_99 : decode cX10_identifier 99 = .ok (.iload 4, 2) := by decide +kernel
theorem dX10_identifier_101 : decode cX10_identifier 101 = .ok (.iload 5, 2) := by decide +kernel
theorem dX10_identifier_103 : decode cX10_identifier 103 = .ok (.iadd, 1) := by decide +kernel
theorem dX10_identifier_104 : decode cX10_identifier 104 = .ok (.aload_n 0, 1) := by decide +kernel
theorem dX10_identifier_105 : decode cX10_identifier 105 = .ok (.getfield 112, 3) := by decide +kernel
theorem dX10_identifier_108 : decode cX10_identifier 108 = .ok (.lastore, 1) := by decide +kernel
theorem dX10_identifier_109 : decode cX10_identifier 109 = .ok (.aload_n 2, 1) := by decide +kernel
theorem dX10_identifier_110 : decode cX10_identifier 110 = .ok (.iconst 1, 1) := by decide +kernel
theorem dX10_identifier_111 : decode cX10_identifier 111 = .ok (.dup2, 1) := by decide +kernel
theorem dX10_identifier_112 : decode cX10_identifier 112 = .ok (.iaload, 1) := by decide +kernel
theorem dX10_identifier_113 : decode cX10_identifier 113 = .ok (.iconst 1, 1) := by decide +kernel
theorem dX10_identifier_114 : decode cX10_identifier 114 = .ok (.iadd, 1) := by decide +kernel
theorem dX10_identifier_115 : decode cX10_identifier 115 = .ok (.iastore, 1) := by decide +kernel
theorem dX10_identifier_116 : decode cX10_identifier 116 = .ok (.aload_n 0, 1) := by decide +kernel
theorem dX10_identifier_117 : decode cX10_identifier 117 = .ok (.invokevirtual 168, 3) := by decide +kernel
theorem dX10_identifier_120 : decode cX10_identifier 120 = .ok (.iload 5, 2) := by decide +kernel
theorem dX10_identifier_122 : decode cX10_identifier 122 = .ok (.ireturn, 1) := by decide +kernel
set_option maxHeartbeats 4000000 in
set_option maxRecDepth 100000 in
theorem c_X10_identifier {l : Launch} {g : Gh} {w : Wd} {k0 : Nat} {v_names : Nat} {v_many : Nat} {v_most : Int32} {rz : Int32} {wz : Wd} (hF : f_X10_identifier w k0 v_names v_many v_most = some (rz, wz)) (hk0 : zct zM k0 = 10) (hv_names : zct zM v_names = 21) (hv_many : zct zM v_many = 20) : Met l yX10_identifier (Cond.code yX10_identifier cX10_identifier 6 (some .int) :: TT) (rmd 7) (Pcw zM g w [.ref (g.2.2 k0), .ref (g.2.2 (v_names)), .ref (g.2.2 (v_many)), .int (v_most)]) (Qw zM g wz (some (.int (rz)))) 0 0 (zA zM g) := by
  refine mt_start (by decide) (Nat.le_of_ble_eq_true rfl) ?_
  intro p e s m args below meth c H locs ls X hr hl hH
  have hx := X.1
  have hb := X.2.1
  have hml := X.2.2.1
  have hown := X.2.2.2.1
  have ht := X.2.2.2.2.1
  have hl : lv_has ls 6 [(0, .ref (g.2.2 (k0))), (1, .ref (g.2.2 (v_names))), (2, .ref (g.2.2 (v_many))), (3, .int (v_most))] := hl
  unfold f_X10_identifier at hF
  refine lv_aload_n hx hb dX10_identifier_0 rfl (lv_at hl 0 rfl) ?_
  obtain ⟨b2, hb2, hF⟩ := ob hF
  have J1 : ∀ (H : Heap) (locs : List Loc), HW zM g w s.heap H locs → W p l e (rmd 7) s m args below meth c H locs 0 0 (MQ below (Qw zM g wz (some (.int (rz)))) args s 0 0 (zA zM g)) (F0 m 21 ls [.int (bI (b2)), .ref (g.2.2 (k0))]) := by
    intro H locs hH
    refine lv_iconst (v := (1 : Int32)) hx hb dX10_identifier_21 (by decide) ?_
    obtain ⟨x6, h6, hF⟩ := ob hF
    refine w_callV (As := [.int (bI (b2)), .int ((1 : Int32))]) (k := k0) (rest := []) (st1 := [.int (bI (x6.1))]) X hH (c_X10_must (l := l) (g := g) (w := w) (k0 := k0) (v_condition := b2) (v_kind := (1 : Int32)) h6 hk0) (Or.inl tw_6_66) ms_X10_must im_X10_must hk0 cn_10 ⟨Nat.le_of_ble_eq_true rfl, Nat.le_of_ble_eq_true rfl⟩ rfl rfl hl.1 (Nat.le_of_ble_eq_true rfl) dX10_identifier_22 ⟨Nat.le_refl _, Nat.le_refl _⟩ rfl (fun H locs hH => ?_)
    refine w_b_t (tgt := 30) hx hb dX10_identifier_25 (by decide) (fun c7 => ?_) (fun c7 => ?_)
    · replace hF := ifn (fun z => z c7) hF
      refine lv_aload_n hx hb dX10_identifier_30 rfl (lv_at hl 1 rfl) ?_
      refine w_alen X hH hv_names (by decide) dX10_identifier_31 ?_
      refine lv_iconst (v := (2 : Int32)) hx hb dX10_identifier_32 (by decide) ?_
      refine w_idiv hx hb dX10_identifier_33 (by decide) ?_
      refine lv_istore (lv' := [(4, .int ((jdiv ((nI (zln zM (v_names)))) ((2 : Int32))))), (0, .ref (g.2.2 (k0))), (1, .ref (g.2.2 (v_names))), (2, .ref (g.2.2 (v_many))), (3, .int (v_most))]) hx hb dX10_identifier_34 hl (by decide) rfl (fun ls hl => ?_)
      refine lv_iconst (v := (0 : Int32)) hx hb dX10_identifier_36 (by decide) ?_
      refine lv_istore (lv' := [(5, .int ((0 : Int32))), (4, .int ((jdiv ((nI (zln zM (v_names)))) ((2 : Int32))))), (0, .ref (g.2.2 (k0))), (1, .ref (g.2.2 (v_names))), (2, .ref (g.2.2 (v_many))), (3, .int (v_most))]) hx hb dX10_identifier_37 hl (by decide) rfl (fun ls hl => ?_)
      obtain ⟨r9, hLr9, hF⟩ := ob hF
      have Jr9 : ∀ (H : Heap) (locs : List Loc) (ls : Array Slot), HW zM g x6.2 s.heap H locs → lv_has ls 6 [(0, .ref (g.2.2 (k0))), (1, .ref (g.2.2 (v_names))), (2, .ref (g.2.2 (v_many))), (3, .int (v_most)), (4, .int ((jdiv ((nI (zln zM (v_names)))) ((2 : Int32))))), (5, .int (r9))] → W p l e (rmd 7) s m args below meth c H locs 0 0 (MQ below (Qw zM g wz (some (.int (rz)))) args s 0 0 (zA zM g)) (F0 m 68 ls []) := by
        intro H locs ls hH hl
        obtain ⟨s15, hs15, hF⟩ := ob hF
        have Js15 : ∀ s15x, s15 = .inl s15x → ∀ (H : Heap) (locs : List Loc) (ls : Array Slot), HW zM g s15x s.heap H locs → lv_has ls 6 [(0, .ref (g.2.2 (k0))), (1, .ref (g.2.2 (v_names))), (2, .ref (g.2.2 (v_many))), (3, .int (v_most)), (4, .int ((jdiv ((nI (zln zM (v_names)))) ((2 : Int32))))), (5, .int (r9))] → W p l e (rmd 7) s m args below meth c H locs 0 0 (MQ below (Qw zM g wz (some (.int (rz)))) args s 0 0 (zA zM g)) (F0 m 116 ls []) := by
          intro s15x hrx H locs ls hH hl
          rw [hrx] at hF
          dsimp only at hF
          refine lv_aload_n hx hb dX10_identifier_116 rfl (lv_at hl 0 rfl) ?_
          obtain ⟨w26, h26, hF⟩ := ob hF
          refine w_callV (As := []) (k := k0) (rest := []) (st1 := []) X hH (c_X10_nextToken (l := l) (g := g) (w := s15x) (k0 := k0) h26 hk0) (Or.inl tw_5_226) ms_X10_nextToken im_X10_nextToken hk0 cn_10 ⟨Nat.le_of_ble_eq_true rfl, Nat.le_of_ble_eq_true rfl⟩ rfl rfl hl.1 (Nat.le_of_ble_eq_true rfl) dX10_identifier_117 ⟨Nat.le_refl _, Nat.le_refl _⟩ rfl (fun H locs hH => ?_)
          refine lv_iload hx hb dX10_identifier_120 (lv_at hl 5 rfl) ?_
          obtain ⟨rfl, rfl⟩ := se2 hF
          exact w_iret X hH hr dX10_identifier_122
        have hos15 := hF
        have hF := hs15
        refine lv_iload hx hb dX10_identifier_68 (lv_at hl 5 rfl) ?_
        refine lv_aload_n hx hb dX10_identifier_70 rfl (lv_at hl 2 rfl) ?_
        refine lv_iconst (v := (1 : Int32)) hx hb dX10_identifier_71 (by decide) ?_
        obtain ⟨x16, h16, hF⟩ := ob hF
        refine w_iald X hH h16 hv_many dX10_identifier_72 ?_
        refine w_ieq_f (tgt := 116) hx hb dX10_identifier_73 (by decide) (fun c17 => ?_) (fun c17 => ?_)
        · replace hF := ifn c17 hF
          obtain rfl := se1 hF
          exact Js15 _ rfl _ _ _ hH (lv_sub hl [0, 1, 2, 3, 4, 5] rfl)
        · replace hF := ifp c17 hF
          refine lv_aload_n hx hb dX10_identifier_76 rfl (lv_at hl 0 rfl) ?_
          refine lv_aload_n hx hb dX10_identifier_77 rfl (lv_at hl 2 rfl) ?_
          refine lv_iconst (v := (1 : Int32)) hx hb dX10_identifier_78 (by decide) ?_
          obtain ⟨x19, h19, hF⟩ := ob hF
          refine w_iald X hH h19 hv_many dX10_identifier_79 ?_
          refine lv_iload_n hx hb dX10_identifier_80 rfl (lv_at hl 3 rfl) ?_
          have J18 : ∀ (H : Heap) (locs : List Loc), HW zM g x6.2 s.heap H locs → W p l e (rmd 7) s m args below meth c H locs 0 0 (MQ below (Qw zM g wz (some (.int (rz)))) args s 0 0 (zA zM g)) (F0 m 89 ls [.int (bI ((decide (x19 < v_most)))), .ref (g.2.2 (k0))]) := by
            intro H locs hH
            refine lv_iconst (v := (3 : Int32)) hx hb dX10_identifier_89 (by decide) ?_
            obtain ⟨x21, h21, hF⟩ := ob hF
            refine w_callV (As := [.int (bI ((decide (x19 < v_most)))), .int ((3 : Int32))]) (k := k0) (rest := []) (st1 := [.int (bI (x21.1))]) X hH (c_X10_must (l := l) (g := g) (w := x6.2) (k0 := k0) (v_condition := (decide (x19 < v_most))) (v_kind := (3 : Int32)) h21 hk0) (Or.inl tw_6_66) ms_X10_must im_X10_must hk0 cn_10 ⟨Nat.le_of_ble_eq_true rfl, Nat.le_of_ble_eq_true rfl⟩ rfl rfl hl.1 (Nat.le_of_ble_eq_true rfl) dX10_identifier_90 ⟨Nat.le_refl _, Nat.le_refl _⟩ rfl (fun H locs hH => ?_)
            refine w_b_t (tgt := 98) hx hb dX10_identifier_93 (by decide) (fun c22 => ?_) (fun c22 => ?_)
            · replace hF := ifn (fun z => z c22) hF
              refine lv_aload_n hx hb dX10_identifier_98 rfl (lv_at hl 1 rfl) ?_
              refine lv_iload hx hb dX10_identifier_99 (lv_at hl 4 rfl) ?_
              refine lv_iload hx hb dX10_identifier_101 (lv_at hl 5 rfl) ?_
              refine lv_iadd hx hb dX10_identifier_103 ?_
              refine lv_aload_n hx hb dX10_identifier_104 rfl (lv_at hl 0 rfl) ?_
              refine w_getl X hH hk0 fs_10_7 lk_10_112 dX10_identifier_105 ?_
              obtain ⟨w23, h23, hF⟩ := ob hF
              refine w_last X hH h23 hv_names dX10_identifier_108 (fun H locs hH => ?_)
              refine lv_aload_n hx hb dX10_identifier_109 rfl (lv_at hl 2 rfl) ?_
              refine lv_iconst (v := (1 : Int32)) hx hb dX10_identifier_110 (by decide) ?_
              refine lv_dup2_11 hx hb dX10_identifier_111 rfl rfl ?_
              obtain ⟨x24, h24, hF⟩ := ob hF
              refine w_iald X hH h24 hv_many dX10_identifier_112 ?_
              refine lv_iconst (v := (1 : Int32)) hx hb dX10_identifier_113 (by decide) ?_
              refine lv_iadd hx hb dX10_identifier_114 ?_
              obtain ⟨w25, h25, hF⟩ := ob hF
              refine w_iast X hH h25 hv_many dX10_identifier_115 (fun H locs hH => ?_)
              obtain rfl := se1 hF
              exact Js15 _ rfl _ _ _ hH (lv_sub hl [0, 1, 2, 3, 4, 5] rfl)
            · replace hF := ifp c22 hF
              refine lv_iconst (v := (0 : Int32)) hx hb dX10_identifier_96 (by decide) ?_
              obtain rfl := se1 hF
              have hF := hos15
              obtain ⟨rfl, rfl⟩ := se2 hF
              exact w_iret X hH hr dX10_identifier_97
          refine w_ilt_f (tgt := 88) hx hb dX10_identifier_81 (by decide) (fun c20 => ?_) (fun c20 => ?_)
          · refine lv_iconst (v := (0 : Int32)) hx hb dX10_identifier_88 (by decide) ?_
            exact w_b0 c20 (J18 _ _ hH)
          · refine lv_iconst (v := (1 : Int32)) hx hb dX10_identifier_84 (by decide) ?_
            refine lv_goto (tgt := 89) hx hb dX10_identifier_85 (by decide) ?_
            exact w_b1 c20 (J18 _ _ hH)
      have Lr9 : ∀ (n : Nat) (s8 : Int32), lp (b_X10_identifier_1 x6 v_many v_names k0) n s8 = some r9 → ∀ (H : Heap) (locs : List Loc) (ls : Array Slot), HW zM g x6.2 s.heap H locs → lv_has ls 6 [(0, .ref (g.2.2 (k0))), (1, .ref (g.2.2 (v_names))), (2, .ref (g.2.2 (v_many))), (3, .int (v_most)), (4, .int ((jdiv ((nI (zln zM (v_names)))) ((2 : Int32))))), (5, .int (s8))] → W p l e (rmd 7) s m args below meth c H locs 0 0 (MQ below (Qw zM g wz (some (.int (rz)))) args s 0 0 (zA zM g)) (F0 m 39 ls []) := by
        intro n
        induction n with
        | zero => intro s8 hL; exact lp_0 hL
        | succ n ih =>
          intro s8 hL H locs ls hH hl
          obtain ⟨bb, hF, hL⟩ := lp_s hL
          unfold b_X10_identifier_1 at hF
          obtain ⟨b10, hb10, hF⟩ := ob hF
          have Jb10T : b10 = true → ∀ (H : Heap) (locs : List Loc), HW zM g x6.2 s.heap H locs → W p l e (rmd 7) s m args below meth c H locs 0 0 (MQ below (Qw zM g wz (some (.int (rz)))) args s 0 0 (zA zM g)) (F0 m 62 ls []) := by
            intro hc H locs hH
            replace hF := ifp hc hF
            refine lv_iinc (v := (s8 + (1 : Int32))) (lv' := [(5, .int ((s8 + (1 : Int32)))), (0, .ref (g.2.2 (k0))), (1, .ref (g.2.2 (v_names))), (2, .ref (g.2.2 (v_many))), (3, .int (v_most)), (4, .int ((jdiv ((nI (zln zM (v_names)))) ((2 : Int32)))))]) hx hb dX10_identifier_62 hl (k := 5) rfl rfl (by decide) rfl (fun ls hl => ?_)
            refine lv_goto (tgt := 39) hx hb dX10_identifier_65 (by decide) ?_
            obtain rfl := se1 hF
            exact ih _ hL _ _ _ hH (lv_sub hl [1, 2, 3, 4, 5, 0] rfl)
          have Jb10F : ¬ (b10 = true) → ∀ (H : Heap) (locs : List Loc), HW zM g x6.2 s.heap H locs → W p l e (rmd 7) s m args below meth c H locs 0 0 (MQ below (Qw zM g wz (some (.int (rz)))) args s 0 0 (zA zM g)) (F0 m 68 ls []) := by
            intro hc H locs hH
            replace hF := ifn hc hF
            obtain rfl := se1 hF
            subst hL
            exact Jr9 _ _ _ hH (lv_sub hl [0, 1, 2, 3, 4, 5] rfl)
          have hF := hb10
          refine lv_iload hx hb dX10_identifier_39 (lv_at hl 5 rfl) ?_
          refine lv_aload_n hx hb dX10_identifier_41 rfl (lv_at hl 2 rfl) ?_
          refine lv_iconst (v := (1 : Int32)) hx hb dX10_identifier_42 (by decide) ?_
          obtain ⟨x12, h12, hF⟩ := ob hF
          refine w_iald X hH h12 hv_many dX10_identifier_43 ?_
          refine w_ilt_f (tgt := 68) hx hb dX10_identifier_44 (by decide) (fun c11 => ?_) (fun c11 => ?_)
          · replace hF := ifn c11 hF
            obtain rfl := se1 hF
            exact Jb10F Bool.false_ne_true _ _ hH
          · replace hF := ifp c11 hF
            refine lv_aload_n hx hb dX10_identifier_47 rfl (lv_at hl 1 rfl) ?_
            refine lv_iload hx hb dX10_identifier_48 (lv_at hl 4 rfl) ?_
            refine lv_iload hx hb dX10_identifier_50 (lv_at hl 5 rfl) ?_
            refine lv_iadd hx hb dX10_identifier_52 ?_
            obtain ⟨x14, h14, hF⟩ := ob hF
            refine w_lald X hH h14 hv_names dX10_identifier_53 ?_
            refine lv_aload_n hx hb dX10_identifier_54 rfl (lv_at hl 0 rfl) ?_
            refine w_getl X hH hk0 fs_10_7 lk_10_112 dX10_identifier_55 ?_
            refine w_lne_f (tgt := 68) hx hb dX10_identifier_58 dX10_identifier_59 (by decide) (fun c13 => ?_) (fun c13 => ?_)
            · replace hF := ifn c13 hF
              obtain rfl := se1 hF
              exact Jb10F Bool.false_ne_true _ _ hH
            · replace hF := ifp c13 hF
              obtain rfl := se1 hF
              exact Jb10T rfl _ _ hH
      exact Lr9 NF _ hLr9 _ _ _ hH (lv_sub hl [2, 3, 4, 5, 1, 0] rfl)
    · replace hF := ifp c7 hF
      refine lv_iconst (v := (0 : Int32)) hx hb dX10_identifier_28 (by decide) ?_
      obtain ⟨rfl, rfl⟩ := se2 hF
      exact w_iret X hH hr dX10_identifier_29
  have hF := hb2
  refine lv_aload_n hx hb dX10_identifier_1 rfl (lv_at hl 0 rfl) ?_
  refine w_geti X hH hk0 fs_10_6 lk_10_109 dX10_identifier_2 ?_
  refine lv_iconst (v := (1 : Int32)) hx hb dX10_identifier_5 (by decide) ?_
  refine w_ieq_f (tgt := 20) hx hb dX10_identifier_6 (by decide) (fun c3 => ?_) (fun c3 => ?_)
  · replace hF := ifn c3 hF
    refine lv_iconst (v := (0 : Int32)) hx hb dX10_identifier_20 (by decide) ?_
    obtain rfl := se1 hF
    exact J1 _ _ hH
  · replace hF := ifp c3 hF
    refine lv_aload_n hx hb dX10_identifier_9 rfl (lv_at hl 0 rfl) ?_
    obtain ⟨x5, h5, hF⟩ := ob hF
    refine w_callV (As := []) (k := k0) (rest := [.ref (g.2.2 (k0))]) (st1 := [.int (x5), .ref (g.2.2 (k0))]) X hH (c_X10_keyword (l := l) (g := g) (w := w) (k0 := k0) h5 hk0) (Or.inl tw_5_237) ms_X10_keyword im_X10_keyword hk0 cn_10 ⟨Nat.le_of_ble_eq_true rfl, Nat.le_of_ble_eq_true rfl⟩ rfl rfl hl.1 (Nat.le_of_ble_eq_true rfl) dX10_identifier_10 ⟨Nat.le_refl _, Nat.le_refl _⟩ rfl (fun H locs hH => ?_)
    refine w_zlt_f (tgt := 20) hx hb dX10_identifier_13 (by decide) (fun c4 => ?_) (fun c4 => ?_)
    · replace hF := ifn c4 hF
      refine lv_iconst (v := (0 : Int32)) hx hb dX10_identifier_20 (by decide) ?_
      obtain rfl := se1 hF
      exact J1 _ _ hH
    · replace hF := ifp c4 hF
      refine lv_iconst (v := (1 : Int32)) hx hb dX10_identifier_16 (by decide) ?_
      refine lv_goto (tgt := 21) hx hb dX10_identifier_17 (by decide) ?_
      obtain rfl := se1 hF
      exact J1 _ _ hH

theorem dX10_variable_0 : decode cX10_variable 0 = .ok (.aload_n 0, 1) := by decide +kernel
theorem dX10_variable_1 : decode cX10_variable 1 = .ok (.aload_n 0, 1) := by decide +kernel
theorem dX10_variable_2 : decode cX10_variable 2 = .ok (.getfield 23, 3) := by decide +kernel
theorem dX10_variable_5 : decode cX10_variable 5 = .ok (.aload_n 0, 1) := by decide +kernel
theorem dX10_variable_6 : decode cX10_variable 6 = .ok (.getfield 13, 3) := by decide +kernel
theorem dX10_variable_9 : decode cX10_variable 9 = .ok (.bipush 16, 2) := by decide +kernel
theorem dX10_variable_11 : decode cX10_variable 11 = .ok (.invokevirtual 171, 3) := by decide +kernel
theorem dX10_variable_14 : decode cX10_variable 14 = .ok (.ireturn, 1) := by decide +kernel
set_option maxHeartbeats 4000000 in
set_option maxRecDepth 100000 in
theorem c_X10_variable {l : Launch} {g : Gh} {w : Wd} {k0 : Nat} {rz : Int32} {wz : Wd} (hF : f_X10_variable w k0 = some (rz, wz)) (hk0 : zct zM k0 = 10) : Met l yX10_variable (Cond.code yX10_variable cX10_variable 1 (some .int) :: TT) (rmd 8) (Pcw zM g w [.ref (g.2.2 k0)]) (Qw zM g wz (some (.int (rz)))) 0 0 (zA zM g) := by
  refine mt_start (by decide) (Nat.le_of_ble_eq_true rfl) ?_
  intro p e s m args below meth c H locs ls X hr hl hH
  have hx := X.1
  have hb := X.2.1
  have hml := X.2.2.1
  have hown := X.2.2.2.1
  have ht := X.2.2.2.2.1
  have hl : lv_has ls 1 [(0, .ref (g.2.2 (k0)))] := hl
  unfold f_X10_variable at hF
  refine lv_aload_n hx hb dX10_variable_0 rfl (lv_at hl 0 rfl) ?_
  refine lv_aload_n hx hb dX10_variable_1 rfl (lv_at hl 0 rfl) ?_
  refine w_getr X hH hk0 fs_10_13 lk_10_23 dX10_variable_2 ?_
  refine lv_aload_n hx hb dX10_variable_5 rfl (lv_at hl 0 rfl) ?_
  refine w_getr X hH hk0 fs_10_10 lk_10_13 dX10_variable_6 ?_
  refine lv_bipush (v := (16 : Int32)) hx hb dX10_variable_9 (by decide) ?_
  obtain ⟨x1, h1, hF⟩ := ob hF
  refine w_callV (As := [.ref (g.2.2 ((zrf zM (k0) 13))), .ref (g.2.2 ((zrf zM (k0) 10))), .int ((16 : Int32))]) (k := k0) (rest := []) (st1 := [.int (x1.1)]) X hH (c_X10_identifier (l := l) (g := g) (w := w) (k0 := k0) (v_names := (zrf zM (k0) 13)) (v_many := (zrf zM (k0) 10)) (v_most := (16 : Int32)) h1 hk0 (rt_M_10_13 hk0) (rt_M_10_10 hk0)) (Or.inl tw_6_74) ms_X10_identifier im_X10_identifier hk0 cn_10 ⟨Nat.le_of_ble_eq_true rfl, Nat.le_of_ble_eq_true rfl⟩ rfl rfl hl.1 (Nat.le_of_ble_eq_true rfl) dX10_variable_11 ⟨Nat.le_refl _, Nat.le_refl _⟩ rfl (fun H locs hH => ?_)
  obtain ⟨rfl, rfl⟩ := se2 hF
  exact w_iret X hH hr dX10_variable_14

theorem dX10_object_0 : decode cX10_object 0 = .ok (.aload_n 0, 1) := by decide +kernel
theorem dX10_object_1 : decode cX10_object 1 = .ok (.getfield 17, 3) := by decide +kernel
theorem dX10_object_4 : decode cX10_object 4 = .ok (.iconst 1, 1) := by decide +kernel
theorem dX10_object_5 : decode cX10_object 5 = .ok (.iaload, 1) := by decide +kernel
theorem dX10_object_6 : decode cX10_object 6 = .ok (.istore_n 1, 1) := by decide +kernel
theorem dX10_object_7 : decode cX10_object 7 = .ok (.aload_n 0, 1) := by decide +kernel
theorem dX10_object_8 : decode cX10_object 8 = .ok (.aload_n 0, 1) := by decide +kernel
theorem dX10_object_9 : decode cX10_object 9 = .ok (.getfield 27, 3) := by decide +kernel
theorem dX10_object_12 : decode cX10_object 12 = .ok (.aload_n 0, 1) := by decide +kernel
theorem dX10_object_13 : decode cX10_object 13 = .ok (.getfield 17, 3) := by decide +kernel
theorem dX10_object_16 : decode cX10_object 16 = .ok (.bipush 10, 2) := by decide +kernel
theorem dX10_object_18 : decode cX10_object 18 = .ok (.invokevirtual 171, 3) := by decide +kernel
theorem dX10_object_21 : decode cX10_object 21 = .ok (.istore_n 2, 1) := by decide +kernel
theorem dX10_object_22 : decode cX10_object 22 = .ok (.aload_n 0, 1) := by decide +kernel
theorem dX10_object_23 : decode cX10_object 23 = .ok (.getfield 17, 3) := by decide +kernel
theorem dX10_object_26 : decode cX10_object 26 = .ok (.iconst 1, 1) := by decide +kernel
theorem dX10_object_27 : decode cX10_object 27 = .ok (.iaload, 1) := by decide +kernel
theorem dX10_object_28 : decode cX10_object 28 = .ok (.iload_n 1, 1) := by decide +kernel
theorem dX10_object_29 : decode cX10_object 29 = .ok (.if_icmp .le 25, 3) := by decide +kernel
theorem dX10_object_32 : decode cX10_object 32 = .ok (.aload_n 0, 1) := by decide +kernel
theorem dX10_object_33 : decode cX10_object 33 = .ok (.getfield 33, 3) := by decide +kernel
theorem dX10_object_36 : decode cX10_object 36 = .ok (.bipush 10, 2) := by decide +kernel
theorem dX10_object_38 : decode cX10_object 38 = .ok (.iload_n 2, 1) := by decide +kernel
theorem dX10_object_39 : decode cX10_object 39 = .ok (.iadd, 1) := by decide +kernel
theorem dX10_object_40 : decode cX10_object 40 = .ok (.bipush (-2), 2) := by decide +kernel
theorem dX10_object_42 : decode cX10_object 42 = .ok (.iastore, 1) := by decide +kernel
theorem dX10_object_43 : decode cX10_object 43 = .ok (.aload_n 0, 1) := by decide +kernel
theorem dX10_object_44 : decode cX10_object 44 = .ok (.getfield 36, 3) := by decide +kernel
theorem dX10_object_47 : decode cX10_object 47 = .ok (.bipush 10, 2) := by decide +kernel
theorem dX10_object_49 : decode cX10_object 49 = .ok (.iload_n 2, 1) := by decide +kernel
theorem dX10_object_50 : decode cX10_object 50 = .ok (.iadd, 1) := by decide +kernel
theorem dX10_object_51 : decode cX10_object 51 = .ok (.bipush (-2), 2) := by decide +kernel
theorem dX10_object_53 : decode cX10_object 53 = .ok (.iastore, 1) := by decide +kernel
theorem dX10_object_54 : decode cX10_object 54 = .ok (.iload_n 2, 1) := by decide +kernel
theorem dX10_object_55 : decode cX10_object 55 = .ok (.ireturn, 1) := by decide +kernel
set_option maxHeartbeats 4000000 in
set_option maxRecDepth 100000 in
theorem c_X10_object {l : Launch} {g : Gh} {w : Wd} {k0 : Nat} {rz : Int32} {wz : Wd} (hF : f_X10_object w k0 = some (rz, wz)) (hk0 : zct zM k0 = 10) : Met l yX10_object (Cond.code yX10_object cX10_object 3 (some .int) :: TT) (rmd 8) (Pcw zM g w [.ref (g.2.2 k0)]) (Qw zM g wz (some (.int (rz)))) 0 0 (zA zM g) := by
  refine mt_start (by decide) (Nat.le_of_ble_eq_true rfl) ?_
  intro p e s m args below meth c H locs ls X hr hl hH
  have hx := X.1
  have hb := X.2.1
  have hml := X.2.2.1
  have hown := X.2.2.2.1
  have ht := X.2.2.2.2.1
  have hl : lv_has ls 3 [(0, .ref (g.2.2 (k0)))] := hl
  unfold f_X10_object at hF
  refine lv_aload_n hx hb dX10_object_0 rfl (lv_at hl 0 rfl) ?_
  refine w_getr X hH hk0 fs_10_11 lk_10_17 dX10_object_1 ?_
  refine lv_iconst (v := (1 : Int32)) hx hb dX10_object_4 (by decide) ?_
  obtain ⟨x1, h1, hF⟩ := ob hF
  refine w_iald X hH h1 (rt_M_10_11 hk0) dX10_object_5 ?_
  refine lv_istore_n (lv' := [(1, .int (x1)), (0, .ref (g.2.2 (k0)))]) hx hb dX10_object_6 rfl hl (by decide) rfl (fun ls hl => ?_)
  refine lv_aload_n hx hb dX10_object_7 rfl (lv_at hl 1 rfl) ?_
  refine lv_aload_n hx hb dX10_object_8 rfl (lv_at hl 1 rfl) ?_
  refine w_getr X hH hk0 fs_10_14 lk_10_27 dX10_object_9 ?_
  refine lv_aload_n hx hb dX10_object_12 rfl (lv_at hl 1 rfl) ?_
  refine w_getr X hH hk0 fs_10_11 lk_10_17 dX10_object_13 ?_
  refine lv_bipush (v := (10 : Int32)) hx hb dX10_object_16 (by decide) ?_
  obtain ⟨x2, h2, hF⟩ := ob hF
  refine w_callV (As := [.ref (g.2.2 ((zrf zM (k0) 14))), .ref (g.2.2 ((zrf zM (k0) 11))), .int ((10 : Int32))]) (k := k0) (rest := []) (st1 := [.int (x2.1)]) X hH (c_X10_identifier (l := l) (g := g) (w := w) (k0 := k0) (v_names := (zrf zM (k0) 14)) (v_many := (zrf zM (k0) 11)) (v_most := (10 : Int32)) h2 hk0 (rt_M_10_14 hk0) (rt_M_10_11 hk0)) (Or.inl tw_6_74) ms_X10_identifier im_X10_identifier hk0 cn_10 ⟨Nat.le_of_ble_eq_true rfl, Nat.le_of_ble_eq_true rfl⟩ rfl rfl hl.1 (Nat.le_of_ble_eq_true rfl) dX10_object_18 ⟨Nat.le_refl _, Nat.le_refl _⟩ rfl (fun H locs hH => ?_)
  refine lv_istore_n (lv' := [(2, .int (x2.1)), (1, .int (x1)), (0, .ref (g.2.2 (k0)))]) hx hb dX10_object_21 rfl hl (by decide) rfl (fun ls hl => ?_)
  obtain ⟨s3, hs3, hF⟩ := ob hF
  have Js3 : ∀ (H : Heap) (locs : List Loc) (ls : Array Slot), HW zM g s3 s.heap H locs → lv_has ls 3 [(0, .ref (g.2.2 (k0))), (1, .int (x1)), (2, .int (x2.1))] → W p l e (rmd 8) s m args below meth c H locs 0 0 (MQ below (Qw zM g wz (some (.int (rz)))) args s 0 0 (zA zM g)) (F0 m 54 ls []) := by
    intro H locs ls hH hl
    refine lv_iload_n hx hb dX10_object_54 rfl (lv_at hl 2 rfl) ?_
    obtain ⟨rfl, rfl⟩ := se2 hF
    exact w_iret X hH hr dX10_object_55
  have hF := hs3
  refine lv_aload_n hx hb dX10_object_22 rfl (lv_at hl 2 rfl) ?_
  refine w_getr X hH hk0 fs_10_11 lk_10_17 dX10_object_23 ?_
  refine lv_iconst (v := (1 : Int32)) hx hb dX10_object_26 (by decide) ?_
  obtain ⟨x4, h4, hF⟩ := ob hF
  refine w_iald X hH h4 (rt_M_10_11 hk0) dX10_object_27 ?_
  refine lv_iload_n hx hb dX10_object_28 rfl (lv_at hl 1 rfl) ?_
  refine w_igt_f (tgt := 54) hx hb dX10_object_29 (by decide) (fun c5 => ?_) (fun c5 => ?_)
  · replace hF := ifn c5 hF
    obtain rfl := se1 hF
    exact Js3 _ _ _ hH (lv_sub hl [2, 1, 0] rfl)
  · replace hF := ifp c5 hF
    refine lv_aload_n hx hb dX10_object_32 rfl (lv_at hl 2 rfl) ?_
    refine w_getr X hH hk0 fs_10_16 lk_10_33 dX10_object_33 ?_
    refine lv_bipush (v := (10 : Int32)) hx hb dX10_object_36 (by decide) ?_
    refine lv_iload_n hx hb dX10_object_38 rfl (lv_at hl 0 rfl) ?_
    refine lv_iadd hx hb dX10_object_39 ?_
    refine lv_bipush (v := (-2 : Int32)) hx hb dX10_object_40 (by decide) ?_
    obtain ⟨w6, h6, hF⟩ := ob hF
    refine w_iast X hH h6 (rt_M_10_16 hk0) dX10_object_42 (fun H locs hH => ?_)
    refine lv_aload_n hx hb dX10_object_43 rfl (lv_at hl 2 rfl) ?_
    refine w_getr X hH hk0 fs_10_17 lk_10_36 dX10_object_44 ?_
    refine lv_bipush (v := (10 : Int32)) hx hb dX10_object_47 (by decide) ?_
    refine lv_iload_n hx hb dX10_object_49 rfl (lv_at hl 0 rfl) ?_
    refine lv_iadd hx hb dX10_object_50 ?_
    refine lv_bipush (v := (-2 : Int32)) hx hb dX10_object_51 (by decide) ?_
    obtain ⟨w7, h7, hF⟩ := ob hF
    refine w_iast X hH h7 (rt_M_10_17 hk0) dX10_object_53 (fun H locs hH => ?_)
    obtain rfl := se1 hF
    exact Js3 _ _ _ hH (lv_sub hl [2, 1, 0] rfl)

theorem dX10_field_0 : decode cX10_field 0 = .ok (.aload_n 0, 1) := by decide +kernel
theorem dX10_field_1 : decode cX10_field 1 = .ok (.aload_n 0, 1) := by decide +kernel
theorem dX10_field_2 : decode cX10_field 2 = .ok (.getfield 30, 3) := by decide +kernel
theorem dX10_field_5 : decode cX10_field 5 = .ok (.aload_n 0, 1) := by decide +kernel
theorem dX10_field_6 : decode cX10_field 6 = .ok (.getfield 20, 3) := by decide +kernel
theorem dX10_field_9 : decode cX10_field 9 = .ok (.iconst 4, 1) := by decide +kernel
theorem dX10_field_10 : decode cX10_field 10 = .ok (.invokevirtual 171, 3) := by decide +kernel
theorem dX10_field_13 : decode cX10_field 13 = .ok (.ireturn, 1) := by decide +kernel
set_option maxHeartbeats 4000000 in
set_option maxRecDepth 100000 in
theorem c_X10_field {l : Launch} {g : Gh} {w : Wd} {k0 : Nat} {rz : Int32} {wz : Wd} (hF : f_X10_field w k0 = some (rz, wz)) (hk0 : zct zM k0 = 10) : Met l yX10_field (Cond.code yX10_field cX10_field 1 (some .int) :: TT) (rmd 8) (Pcw zM g w [.ref (g.2.2 k0)]) (Qw zM g wz (some (.int (rz)))) 0 0 (zA zM g) := by
  refine mt_start (by decide) (Nat.le_of_ble_eq_true rfl) ?_
  intro p e s m args below meth c H locs ls X hr hl hH
  have hx := X.1
  have hb := X.2.1
  have hml := X.2.2.1
  have hown := X.2.2.2.1
  have ht := X.2.2.2.2.1
  have hl : lv_has ls 1 [(0, .ref (g.2.2 (k0)))] := hl
  unfold f_X10_field at hF
  refine lv_aload_n hx hb dX10_field_0 rfl (lv_at hl 0 rfl) ?_
  refine lv_aload_n hx hb dX10_field_1 rfl (lv_at hl 0 rfl) ?_
  refine w_getr X hH hk0 fs_10_15 lk_10_30 dX10_field_2 ?_
  refine lv_aload_n hx hb dX10_field_5 rfl (lv_at hl 0 rfl) ?_
  refine w_getr X hH hk0 fs_10_12 lk_10_20 dX10_field_6 ?_
  refine lv_iconst (v := (4 : Int32)) hx hb dX10_field_9 (by decide) ?_
  obtain ⟨x1, h1, hF⟩ := ob hF
  refine w_callV (As := [.ref (g.2.2 ((zrf zM (k0) 15))), .ref (g.2.2 ((zrf zM (k0) 12))), .int ((4 : Int32))]) (k := k0) (rest := []) (st1 := [.int (x1.1)]) X hH (c_X10_identifier (l := l) (g := g) (w := w) (k0 := k0) (v_names := (zrf zM (k0) 15)) (v_many := (zrf zM (k0) 12)) (v_most := (4 : Int32)) h1 hk0 (rt_M_10_15 hk0) (rt_M_10_12 hk0)) (Or.inl tw_6_74) ms_X10_identifier im_X10_identifier hk0 cn_10 ⟨Nat.le_of_ble_eq_true rfl, Nat.le_of_ble_eq_true rfl⟩ rfl rfl hl.1 (Nat.le_of_ble_eq_true rfl) dX10_field_10 ⟨Nat.le_refl _, Nat.le_refl _⟩ rfl (fun H locs hH => ?_)
  obtain ⟨rfl, rfl⟩ := se2 hF
  exact w_iret X hH hr dX10_field_13

theorem dX10_function_0 : decode cX10_function 0 = .ok (.aload_n 0, 1) := by decide +kernel
theorem dX10_function_1 : decode cX10_function 1 = .ok (.invokevirtual 168, 3) := by decide +kernel
theorem dX10_function_4 : decode cX10_function 4 = .ok (.aload_n 0, 1) := by decide +kernel
theorem dX10_function_5 : decode cX10_function 5 = .ok (.getfield 109, 3) := by decide +kernel
theorem dX10_function_8 : decode cX10_function 8 = .ok (.iconst 1, 1) := by decide +kernel
theorem dX10_function_9 : decode cX10_function 9 = .ok (.if_icmp .ne 14, 3) := by decide +kernel
theorem dX10_function_12 : decode cX10_function 12 = .ok (.aload_n 0, 1) := by decide +kernel
theorem dX10_function_13 : decode cX10_function 13 = .ok (.invokevirtual 161, 3) := by decide +kernel
theorem dX10_function_16 : decode cX10_function 16 = .ok (.ifCond .ge 7, 3) := by decide +kernel
theorem dX10_function_19 : decode cX10_function 19 = .ok (.iconst 1, 1) := by decide +kernel
theorem dX10_function_20 : decode cX10_function 20 = .ok (.goto 4, 3) := by decide +kernel
theorem dX10_function_23 : decode cX10_function 23 = .ok (.iconst 0, 1) := by decide +kernel
theorem dX10_function_24 : decode cX10_function 24 = .ok (.istore_n 1, 1) := by decide +kernel
theorem dX10_function_25 : decode cX10_function 25 = .ok (.iconst 0, 1) := by decide +kernel
theorem dX10_function_26 : decode cX10_function 26 = .ok (.istore_n 2, 1) := by decide +kernel
theorem dX10_function_27 : decode cX10_function 27 = .ok (.iconst 0, 1) := by decide +kernel
theorem dX10_function_28 : decode cX10_function 28 = .ok (.istore_n 3, 1) := by decide +kernel
theorem dX10_function_29 : decode cX10_function 29 = .ok (.iload_n 3, 1) := by decide +kernel
theorem dX10_function_30 : decode cX10_function 30 = .ok (.aload_n 0, 1) := by decide +kernel
theorem dX10_function_31 : decode cX10_function 31 = .ok (.getfield 17, 3) := by decide +kernel
theorem dX10_function_34 : decode cX10_function 34 = .ok (.iconst 1, 1) := by decide +kernel
theorem dX10_function_35 : decode cX10_function 35 = .ok (.iaload, 1) := by decide +kernel
theorem dX10_function_36 : decode cX10_function 36 = .ok (.if_icmp .ge 48, 3) := by decide +kernel
theorem dX10_function_39 : decode cX10_function 39 = .ok (.iload_n 2, 1) := by decide +kernel
theorem dX10_function_40 : decode cX10_function 40 = .ok (.aload_n 0, 1) := by decide +kernel
theorem dX10_function_41 : decode cX10_function 41 = .ok (.getfield 27, 3) := by decide +kernel
theorem dX10_function_44 : decode cX10_function 44 = .ok (.bipush 10, 2) := by decide +kernel
theorem dX10_function_46 : decode cX10_function 46 = .ok (.iload_n 3, 1) := by decide +kernel
theorem dX10_function_47 : decode cX10_function 47 = .ok (.iadd, 1) := by decide +kernel
theorem dX10_function_48 : decode cX10_function 48 = .ok (.laload, 1) := by decide +kernel
theorem dX10_function_49 : decode cX10_function 49 = .ok (.aload_n 0, 1) := by decide +kernel
theorem dX10_function_50 : decode cX10_function 50 = .ok (.getfield 112, 3) := by decide +kernel
theorem dX10_function_53 : decode cX10_function 53 = .ok (.lcmp, 1) := by decide +kernel
theorem dX10_function_54 : decode cX10_function 54 = .ok (.ifCond .ne 21, 3) := by decide +kernel
theorem dX10_function_57 : decode cX10_function 57 = .ok (.aload_n 0, 1) := by decide +kernel
theorem dX10_function_58 : decode cX10_function 58 = .ok (.getfield 33, 3) := by decide +kernel
theorem dX10_function_61 : decode cX10_function 61 = .ok (.bipush 10, 2) := by decide +kernel
theorem dX10_function_63 : decode cX10_function 63 = .ok (.iload_n 3, 1) := by decide +kernel
theorem dX10_function_64 : decode cX10_function 64 = .ok (.iadd, 1) := by decide +kernel
theorem dX10_function_65 : decode cX10_function 65 = .ok (.iaload, 1) := by decide +kernel
theorem dX10_function_66 : decode cX10_function 66 = .ok (.bipush (-2), 2) := by decide +kernel
theorem dX10_function_68 : decode cX10_function 68 = .ok (.if_icmp .eq 7, 3) := by decide +kernel
theorem dX10_function_71 : decode cX10_function 71 = .ok (.iconst 1, 1) := by decide +kernel
theorem dX10_function_72 : decode cX10_function 72 = .ok (.goto 4, 3) := by decide +kernel
theorem dX10_function_75 : decode cX10_function 75 = .ok (.iconst 0, 1) := by decide +kernel
theorem dX10_function_76 : decode cX10_function 76 = .ok (.ior, 1) := by decide +kernel
theorem dX10_function_77 : decode cX10_function 77 = .ok (.istore_n 2, 1) := by decide +kernel
theorem dX10_function_78 : decode cX10_function 78 = .ok (.iinc 3 1, 3) := by decide +kernel
theorem dX10_function_81 : decode cX10_function 81 = .ok (.goto (-52), 3) := by decide +kernel
theorem dX10_function_84 : decode cX10_function 84 = .ok (.iload_n 1, 1) := by decide +kernel
theorem dX10_function_85 : decode cX10_function 85 = .ok (.ifCond .eq 21, 3) := by decide +kernel
theorem dX10_function_88 : decode cX10_function 88 = .ok (.aload_n 0, 1) := by decide +kernel
theorem dX10_function_89 : decode cX10_function 89 = .ok (.iload_n 2, 1) := by decide +kernel
theorem dX10_function_90 : decode cX10_function 90 = .ok (.ifCond .ne 7, 3) := by decide +kernel
theorem dX10_function_93 : decode cX10_function 93 = .ok (.iconst 1, 1) := by decide +kernel
theorem dX10_function_94 : decode cX10_function 94 = .ok (.goto 4, 3) := by decide +kernel
theorem dX10_function_97 : decode cX10_function 97 = .ok (.iconst 0, 1) := by decide +kernel
theorem dX10_function_98 : decode cX10_function 98 = .ok (.iconst 2, 1) := by decide +kernel
theorem dX10_function_99 : decode cX10_function 99 = .ok (.invokevirtual 164, 3) := by decide +kernel
theorem dX10_function_102 : decode cX10_function 102 = .ok (.ifCond .ne 4, 3) := by decide +kernel
theorem dX10_function_105 : decode cX10_function 105 = .ok (.return_, 1) := by decide +kernel
theorem dX10_function_106 : decode cX10_function 106 = .ok (.aload_n 0, 1) := by decide +kernel
theorem dX10_function_107 : decode cX10_function 107 = .ok (.invokevirtual 175, 3) := by decide +kernel
theorem dX10_function_110 : decode cX10_function 110 = .ok (.istore_n 3, 1) := by decide +kernel
theorem dX10_function_111 : decode cX10_function 111 = .ok (.aload_n 0, 1) := by decide +kernel
theorem dX10_function_112 : decode cX10_function 112 = .ok (.invokevirtual 178, 3) := by decide +kernel
theorem dX10_function_115 : decode cX10_function 115 = .ok (.istore 4, 2) := by decide +kernel
theorem dX10_function_117 : decode cX10_function 117 = .ok (.aload_n 0, 1) := by decide +kernel
theorem dX10_function_118 : decode cX10_function 118 = .ok (.invokevirtual 178, 3) := by decide +kernel
theorem dX10_function_121 : decode cX10_function 121 = .ok (.istore 5, 2) := by decide +kernel
theorem dX10_function_123 : decode cX10_function 123 = .ok (.aload_n 0, 1) := by decide +kernel
theorem dX10_function_124 : decode cX10_function 124 = .ok (.getfield 126, 3) := by decide +kernel
theorem dX10_function_127 : decode cX10_function 127 = .ok (.ifCond .eq 4, 3) := by decide +kernel
theorem dX10_function_130 : decode cX10_function 130 = .ok (.return_, 1) := by decide +kernel
theorem dX10_function_131 : decode cX10_function 131 = .ok (.aload_n 0, 1) := by decide +kernel
theorem dX10_function_132 : decode cX10_function 132 = .ok (.getfield 33, 3) := by decide +kernel
theorem dX10_function_135 : decode cX10_function 135 = .ok (.bipush 10, 2) := by decide +kernel
theorem dX10_function_137 : decode cX10_function 137 = .ok (.iload_n 3, 1) := by decide +kernel
theorem dX10_function_138 : decode cX10_function 138 = .ok (.iadd, 1) := by decide +kernel
theorem dX10_function_139 : decode cX10_function 139 = .ok (.iload 4, 2) := by decide +kernel
theorem dX10_function_141 : decode cX10_function 141 = .ok (.iastore, 1) := by decide +kernel
theorem dX10_function_142 : decode cX10_function 142 = .ok (.aload_n 0, 1) := by decide +kernel
theorem dX10_function_143 : decode cX10_function 143 = .ok (.getfield 36, 3) := by decide +kernel
theorem dX10_function_146 : decode cX10_function 146 = .ok (.bipush 10, 2) := by decide +kernel
theorem dX10_function_148 : decode cX10_function 148 = .ok (.iload_n 3, 1) := by decide +kernel
theorem dX10_function_149 : decode cX10_function 149 = .ok (.iadd, 1) := by decide +kernel
theorem dX10_function_150 : decode cX10_function 150 = .ok (.iload 5, 2) := by decide +kernel
theorem dX10_function_152 : decode cX10_function 152 = .ok (.iastore, 1) := by decide +kernel
theorem dX10_function_153 : decode cX10_function 153 = .ok (.return_, 1) := by decide +kernel
set_option maxHeartbeats 4000000 in
set_option maxRecDepth 100000 in
theorem c_X10_function {l : Launch} {g : Gh} {w : Wd} {k0 : Nat} {wz : Wd} (hF : f_X10_function w k0 = some wz) (hk0 : zct zM k0 = 10) : Met l yX10_function (Cond.code yX10_function cX10_function 6 none :: TT) (rmd 9) (Pcw zM g w [.ref (g.2.2 k0)]) (Qw zM g wz none) 0 0 (zA zM g) := by
  refine mt_start (by decide) (Nat.le_of_ble_eq_true rfl) ?_
  intro p e s m args below meth c H locs ls X hr hl hH
  have hx := X.1
  have hb := X.2.1
  have hml := X.2.2.1
  have hown := X.2.2.2.1
  have ht := X.2.2.2.2.1
  have hl : lv_has ls 6 [(0, .ref (g.2.2 (k0)))] := hl
  unfold f_X10_function at hF
  refine lv_aload_n hx hb dX10_function_0 rfl (lv_at hl 0 rfl) ?_
  obtain ⟨w1, h1, hF⟩ := ob hF
  refine w_callV (As := []) (k := k0) (rest := []) (st1 := []) X hH (c_X10_nextToken (l := l) (g := g) (w := w) (k0 := k0) h1 hk0) (Or.inl tw_5_226) ms_X10_nextToken im_X10_nextToken hk0 cn_10 ⟨Nat.le_of_ble_eq_true rfl, Nat.le_of_ble_eq_true rfl⟩ rfl rfl hl.1 (Nat.le_of_ble_eq_true rfl) dX10_function_1 ⟨Nat.le_refl _, Nat.le_refl _⟩ rfl (fun H locs hH => ?_)
  obtain ⟨b3, hb3, hF⟩ := ob hF
  have J2 : ∀ (H : Heap) (locs : List Loc), HW zM g w1 s.heap H locs → W p l e (rmd 9) s m args below meth c H locs 0 0 (MQ below (Qw zM g wz none) args s 0 0 (zA zM g)) (F0 m 24 ls [.int (bI (b3))]) := by
    intro H locs hH
    refine lv_istore_n (lv' := [(1, .int (bI (b3))), (0, .ref (g.2.2 (k0)))]) hx hb dX10_function_24 rfl hl (by decide) rfl (fun ls hl => ?_)
    refine lv_iconst (v := bI false) hx hb dX10_function_25 (by decide) ?_
    refine lv_istore_n (lv' := [(2, .int (bI (false))), (1, .int (bI (b3))), (0, .ref (g.2.2 (k0)))]) hx hb dX10_function_26 rfl hl (by decide) rfl (fun ls hl => ?_)
    refine lv_iconst (v := (0 : Int32)) hx hb dX10_function_27 (by decide) ?_
    refine lv_istore_n (lv' := [(3, .int ((0 : Int32))), (2, .int (bI (false))), (1, .int (bI (b3))), (0, .ref (g.2.2 (k0)))]) hx hb dX10_function_28 rfl hl (by decide) rfl (fun ls hl => ?_)
    obtain ⟨r8, hLr8, hF⟩ := ob hF
    have Jr8 : ∀ (H : Heap) (locs : List Loc) (ls : Array Slot), HW zM g w1 s.heap H locs → lv_has ls 6 [(0, .ref (g.2.2 (k0))), (1, .int (bI (b3))), (2, .int (bI (r8)))] → W p l e (rmd 9) s m args below meth c H locs 0 0 (MQ below (Qw zM g wz none) args s 0 0 (zA zM g)) (F0 m 84 ls []) := by
      intro H locs ls hH hl
      obtain ⟨b17, hb17, hF⟩ := ob hF
      have Jb17T : b17.1 = true → ∀ (H : Heap) (locs : List Loc), HW zM g b17.2 s.heap H locs → W p l e (rmd 9) s m args below meth c H locs 0 0 (MQ below (Qw zM g wz none) args s 0 0 (zA zM g)) (F0 m 105 ls []) := by
        intro hc H locs hH
        replace hF := ifp hc hF
        obtain rfl := se1 hF
        exact w_vret X hH hr dX10_function_105
      have Jb17F : ¬ (b17.1 = true) → ∀ (H : Heap) (locs : List Loc), HW zM g b17.2 s.heap H locs → W p l e (rmd 9) s m args below meth c H locs 0 0 (MQ below (Qw zM g wz none) args s 0 0 (zA zM g)) (F0 m 106 ls []) := by
        intro hc H locs hH
        replace hF := ifn hc hF
        refine lv_aload_n hx hb dX10_function_106 rfl (lv_at hl 0 rfl) ?_
        obtain ⟨x23, h23, hF⟩ := ob hF
        refine w_callV (As := []) (k := k0) (rest := []) (st1 := [.int (x23.1)]) X hH (c_X10_object (l := l) (g := g) (w := b17.2) (k0 := k0) h23 hk0) (Or.inl tw_6_70) ms_X10_object im_X10_object hk0 cn_10 ⟨Nat.le_of_ble_eq_true rfl, Nat.le_of_ble_eq_true rfl⟩ rfl rfl hl.1 (Nat.le_of_ble_eq_true rfl) dX10_function_107 ⟨Nat.le_refl _, Nat.le_refl _⟩ rfl (fun H locs hH => ?_)
        refine lv_istore_n (lv' := [(3, .int (x23.1)), (0, .ref (g.2.2 (k0))), (1, .int (bI (b3))), (2, .int (bI (r8)))]) hx hb dX10_function_110 rfl hl (by decide) rfl (fun ls hl => ?_)
        refine lv_aload_n hx hb dX10_function_111 rfl (lv_at hl 1 rfl) ?_
        obtain ⟨x24, h24, hF⟩ := ob hF
        refine w_callV (As := []) (k := k0) (rest := []) (st1 := [.int (x24.1)]) X hH (c_X10_variable (l := l) (g := g) (w := x23.2) (k0 := k0) h24 hk0) (Or.inl tw_6_78) ms_X10_variable im_X10_variable hk0 cn_10 ⟨Nat.le_of_ble_eq_true rfl, Nat.le_of_ble_eq_true rfl⟩ rfl rfl hl.1 (Nat.le_of_ble_eq_true rfl) dX10_function_112 ⟨Nat.le_refl _, Nat.le_refl _⟩ rfl (fun H locs hH => ?_)
        refine lv_istore (lv' := [(4, .int (x24.1)), (3, .int (x23.1)), (0, .ref (g.2.2 (k0))), (1, .int (bI (b3))), (2, .int (bI (r8)))]) hx hb dX10_function_115 hl (by decide) rfl (fun ls hl => ?_)
        refine lv_aload_n hx hb dX10_function_117 rfl (lv_at hl 2 rfl) ?_
        obtain ⟨x25, h25, hF⟩ := ob hF
        refine w_callV (As := []) (k := k0) (rest := []) (st1 := [.int (x25.1)]) X hH (c_X10_variable (l := l) (g := g) (w := x24.2) (k0 := k0) h25 hk0) (Or.inl tw_6_78) ms_X10_variable im_X10_variable hk0 cn_10 ⟨Nat.le_of_ble_eq_true rfl, Nat.le_of_ble_eq_true rfl⟩ rfl rfl hl.1 (Nat.le_of_ble_eq_true rfl) dX10_function_118 ⟨Nat.le_refl _, Nat.le_refl _⟩ rfl (fun H locs hH => ?_)
        refine lv_istore (lv' := [(5, .int (x25.1)), (4, .int (x24.1)), (3, .int (x23.1)), (0, .ref (g.2.2 (k0))), (1, .int (bI (b3))), (2, .int (bI (r8)))]) hx hb dX10_function_121 hl (by decide) rfl (fun ls hl => ?_)
        refine lv_aload_n hx hb dX10_function_123 rfl (lv_at hl 3 rfl) ?_
        refine w_geti X hH hk0 fs_10_8 lk_10_126 dX10_function_124 ?_
        refine w_zne_f (tgt := 131) hx hb dX10_function_127 (by decide) (fun c26 => ?_) (fun c26 => ?_)
        · replace hF := ifn c26 hF
          refine lv_aload_n hx hb dX10_function_131 rfl (lv_at hl 3 rfl) ?_
          refine w_getr X hH hk0 fs_10_16 lk_10_33 dX10_function_132 ?_
          refine lv_bipush (v := (10 : Int32)) hx hb dX10_function_135 (by decide) ?_
          refine lv_iload_n hx hb dX10_function_137 rfl (lv_at hl 2 rfl) ?_
          refine lv_iadd hx hb dX10_function_138 ?_
          refine lv_iload hx hb dX10_function_139 (lv_at hl 1 rfl) ?_
          obtain ⟨w27, h27, hF⟩ := ob hF
          refine w_iast X hH h27 (rt_M_10_16 hk0) dX10_function_141 (fun H locs hH => ?_)
          refine lv_aload_n hx hb dX10_function_142 rfl (lv_at hl 3 rfl) ?_
          refine w_getr X hH hk0 fs_10_17 lk_10_36 dX10_function_143 ?_
          refine lv_bipush (v := (10 : Int32)) hx hb dX10_function_146 (by decide) ?_
          refine lv_iload_n hx hb dX10_function_148 rfl (lv_at hl 2 rfl) ?_
          refine lv_iadd hx hb dX10_function_149 ?_
          refine lv_iload hx hb dX10_function_150 (lv_at hl 0 rfl) ?_
          obtain ⟨w28, h28, hF⟩ := ob hF
          refine w_iast X hH h28 (rt_M_10_17 hk0) dX10_function_152 (fun H locs hH => ?_)
          obtain rfl := se1 hF
          exact w_vret X hH hr dX10_function_153
        · replace hF := ifp c26 hF
          obtain rfl := se1 hF
          exact w_vret X hH hr dX10_function_130
      have hF := hb17
      refine lv_iload_n hx hb dX10_function_84 rfl (lv_at hl 1 rfl) ?_
      refine w_b_f (tgt := 106) hx hb dX10_function_85 (by decide) (fun c18 => ?_) (fun c18 => ?_)
      · replace hF := ifn c18 hF
        obtain rfl := se1 hF
        exact Jb17F Bool.false_ne_true _ _ hH
      · replace hF := ifp c18 hF
        refine lv_aload_n hx hb dX10_function_88 rfl (lv_at hl 0 rfl) ?_
        refine lv_iload_n hx hb dX10_function_89 rfl (lv_at hl 2 rfl) ?_
        have J20 : ∀ (H : Heap) (locs : List Loc), HW zM g w1 s.heap H locs → W p l e (rmd 9) s m args below meth c H locs 0 0 (MQ below (Qw zM g wz none) args s 0 0 (zA zM g)) (F0 m 98 ls [.int (bI ((decide (¬ (r8 = true))))), .ref (g.2.2 (k0))]) := by
          intro H locs hH
          refine lv_iconst (v := (2 : Int32)) hx hb dX10_function_98 (by decide) ?_
          obtain ⟨x22, h22, hF⟩ := ob hF
          refine w_callV (As := [.int (bI ((decide (¬ (r8 = true))))), .int ((2 : Int32))]) (k := k0) (rest := []) (st1 := [.int (bI (x22.1))]) X hH (c_X10_must (l := l) (g := g) (w := w1) (k0 := k0) (v_condition := (decide (¬ (r8 = true)))) (v_kind := (2 : Int32)) h22 hk0) (Or.inl tw_6_66) ms_X10_must im_X10_must hk0 cn_10 ⟨Nat.le_of_ble_eq_true rfl, Nat.le_of_ble_eq_true rfl⟩ rfl rfl hl.1 (Nat.le_of_ble_eq_true rfl) dX10_function_99 ⟨Nat.le_refl _, Nat.le_refl _⟩ rfl (fun H locs hH => ?_)
          refine w_b_t (tgt := 106) hx hb dX10_function_102 (by decide) (fun c19 => ?_) (fun c19 => ?_)
          · replace hF := ifp c19 hF
            obtain rfl := se1 hF
            exact Jb17F Bool.false_ne_true _ _ hH
          · replace hF := ifn c19 hF
            obtain rfl := se1 hF
            exact Jb17T rfl _ _ hH
        refine w_b_t (tgt := 97) hx hb dX10_function_90 (by decide) (fun c21 => ?_) (fun c21 => ?_)
        · refine lv_iconst (v := (0 : Int32)) hx hb dX10_function_97 (by decide) ?_
          exact w_b0 (fun z => z c21) (J20 _ _ hH)
        · refine lv_iconst (v := (1 : Int32)) hx hb dX10_function_93 (by decide) ?_
          refine lv_goto (tgt := 98) hx hb dX10_function_94 (by decide) ?_
          exact w_b1 c21 (J20 _ _ hH)
    have Lr8 : ∀ (n : Nat) (s7 : Bool × Int32), lp (b_X10_function_1 w1 k0) n s7 = some r8 → ∀ (H : Heap) (locs : List Loc) (ls : Array Slot), HW zM g w1 s.heap H locs → lv_has ls 6 [(0, .ref (g.2.2 (k0))), (1, .int (bI (b3))), (2, .int (bI (s7.1))), (3, .int (s7.2))] → W p l e (rmd 9) s m args below meth c H locs 0 0 (MQ below (Qw zM g wz none) args s 0 0 (zA zM g)) (F0 m 29 ls []) := by
      intro n
      induction n with
      | zero => intro s7 hL; exact lp_0 hL
      | succ n ih =>
        intro s7 hL H locs ls hH hl
        obtain ⟨bb, hF, hL⟩ := lp_s hL
        unfold b_X10_function_1 at hF
        refine lv_iload_n hx hb dX10_function_29 rfl (lv_at hl 3 rfl) ?_
        refine lv_aload_n hx hb dX10_function_30 rfl (lv_at hl 0 rfl) ?_
        refine w_getr X hH hk0 fs_10_11 lk_10_17 dX10_function_31 ?_
        refine lv_iconst (v := (1 : Int32)) hx hb dX10_function_34 (by decide) ?_
        obtain ⟨x9, h9, hF⟩ := ob hF
        refine w_iald X hH h9 (rt_M_10_11 hk0) dX10_function_35 ?_
        refine w_ilt_f (tgt := 84) hx hb dX10_function_36 (by decide) (fun c10 => ?_) (fun c10 => ?_)
        · replace hF := ifn c10 hF
          obtain rfl := se1 hF
          subst hL
          exact Jr8 _ _ _ hH (lv_sub hl [0, 1, 2] rfl)
        · replace hF := ifp c10 hF
          refine lv_iload_n hx hb dX10_function_39 rfl (lv_at hl 2 rfl) ?_
          obtain ⟨b12, hb12, hF⟩ := ob hF
          have J11 : ∀ (H : Heap) (locs : List Loc), HW zM g w1 s.heap H locs → W p l e (rmd 9) s m args below meth c H locs 0 0 (MQ below (Qw zM g wz none) args s 0 0 (zA zM g)) (F0 m 76 ls [.int (bI (b12)), .int (bI (s7.1))]) := by
            intro H locs hH
            refine w_bior hx hb dX10_function_76 ?_
            refine lv_istore_n (lv' := [(2, .int (bI ((s7.1 || b12)))), (0, .ref (g.2.2 (k0))), (1, .int (bI (b3))), (3, .int (s7.2))]) hx hb dX10_function_77 rfl hl (by decide) rfl (fun ls hl => ?_)
            refine lv_iinc (v := (s7.2 + (1 : Int32))) (lv' := [(3, .int ((s7.2 + (1 : Int32)))), (2, .int (bI ((s7.1 || b12)))), (0, .ref (g.2.2 (k0))), (1, .int (bI (b3)))]) hx hb dX10_function_78 hl (k := 3) rfl rfl (by decide) rfl (fun ls hl => ?_)
            refine lv_goto (tgt := 29) hx hb dX10_function_81 (by decide) ?_
            obtain rfl := se1 hF
            exact ih _ hL _ _ _ hH (lv_sub hl [2, 3, 1, 0] rfl)
          have hF := hb12
          refine lv_aload_n hx hb dX10_function_40 rfl (lv_at hl 0 rfl) ?_
          refine w_getr X hH hk0 fs_10_14 lk_10_27 dX10_function_41 ?_
          refine lv_bipush (v := (10 : Int32)) hx hb dX10_function_44 (by decide) ?_
          refine lv_iload_n hx hb dX10_function_46 rfl (lv_at hl 3 rfl) ?_
          refine lv_iadd hx hb dX10_function_47 ?_
          obtain ⟨x14, h14, hF⟩ := ob hF
          refine w_lald X hH h14 (rt_M_10_14 hk0) dX10_function_48 ?_
          refine lv_aload_n hx hb dX10_function_49 rfl (lv_at hl 0 rfl) ?_
          refine w_getl X hH hk0 fs_10_7 lk_10_112 dX10_function_50 ?_
          refine w_leq_f (tgt := 75) hx hb dX10_function_53 dX10_function_54 (by decide) (fun c13 => ?_) (fun c13 => ?_)
          · replace hF := ifn c13 hF
            refine lv_iconst (v := (0 : Int32)) hx hb dX10_function_75 (by decide) ?_
            obtain rfl := se1 hF
            exact J11 _ _ hH
          · replace hF := ifp c13 hF
            refine lv_aload_n hx hb dX10_function_57 rfl (lv_at hl 0 rfl) ?_
            refine w_getr X hH hk0 fs_10_16 lk_10_33 dX10_function_58 ?_
            refine lv_bipush (v := (10 : Int32)) hx hb dX10_function_61 (by decide) ?_
            refine lv_iload_n hx hb dX10_function_63 rfl (lv_at hl 3 rfl) ?_
            refine lv_iadd hx hb dX10_function_64 ?_
            obtain ⟨x16, h16, hF⟩ := ob hF
            refine w_iald X hH h16 (rt_M_10_16 hk0) dX10_function_65 ?_
            refine lv_bipush (v := (-2 : Int32)) hx hb dX10_function_66 (by decide) ?_
            refine w_ine_f (tgt := 75) hx hb dX10_function_68 (by decide) (fun c15 => ?_) (fun c15 => ?_)
            · replace hF := ifn c15 hF
              refine lv_iconst (v := (0 : Int32)) hx hb dX10_function_75 (by decide) ?_
              obtain rfl := se1 hF
              exact J11 _ _ hH
            · replace hF := ifp c15 hF
              refine lv_iconst (v := (1 : Int32)) hx hb dX10_function_71 (by decide) ?_
              refine lv_goto (tgt := 76) hx hb dX10_function_72 (by decide) ?_
              obtain rfl := se1 hF
              exact J11 _ _ hH
    exact Lr8 NF _ hLr8 _ _ _ hH (lv_sub hl [3, 2, 1, 0] rfl)
  have hF := hb3
  refine lv_aload_n hx hb dX10_function_4 rfl (lv_at hl 0 rfl) ?_
  refine w_geti X hH hk0 fs_10_6 lk_10_109 dX10_function_5 ?_
  refine lv_iconst (v := (1 : Int32)) hx hb dX10_function_8 (by decide) ?_
  refine w_ieq_f (tgt := 23) hx hb dX10_function_9 (by decide) (fun c4 => ?_) (fun c4 => ?_)
  · replace hF := ifn c4 hF
    refine lv_iconst (v := (0 : Int32)) hx hb dX10_function_23 (by decide) ?_
    obtain rfl := se1 hF
    exact J2 _ _ hH
  · replace hF := ifp c4 hF
    refine lv_aload_n hx hb dX10_function_12 rfl (lv_at hl 0 rfl) ?_
    obtain ⟨x6, h6, hF⟩ := ob hF
    refine w_callV (As := []) (k := k0) (rest := []) (st1 := [.int (x6)]) X hH (c_X10_keyword (l := l) (g := g) (w := w1) (k0 := k0) h6 hk0) (Or.inl tw_5_237) ms_X10_keyword im_X10_keyword hk0 cn_10 ⟨Nat.le_of_ble_eq_true rfl, Nat.le_of_ble_eq_true rfl⟩ rfl rfl hl.1 (Nat.le_of_ble_eq_true rfl) dX10_function_13 ⟨Nat.le_refl _, Nat.le_refl _⟩ rfl (fun H locs hH => ?_)
    refine w_zlt_f (tgt := 23) hx hb dX10_function_16 (by decide) (fun c5 => ?_) (fun c5 => ?_)
    · replace hF := ifn c5 hF
      refine lv_iconst (v := (0 : Int32)) hx hb dX10_function_23 (by decide) ?_
      obtain rfl := se1 hF
      exact J2 _ _ hH
    · replace hF := ifp c5 hF
      refine lv_iconst (v := (1 : Int32)) hx hb dX10_function_19 (by decide) ?_
      refine lv_goto (tgt := 24) hx hb dX10_function_20 (by decide) ?_
      obtain rfl := se1 hF
      exact J2 _ _ hH

theorem dX10_constraint_0 : decode cX10_constraint 0 = .ok (.aload_n 0, 1) := by decide +kernel
theorem dX10_constraint_1 : decode cX10_constraint 1 = .ok (.aload_n 0, 1) := by decide +kernel
theorem dX10_constraint_2 : decode cX10_constraint 2 = .ok (.getfield 42, 3) := by decide +kernel
theorem dX10_constraint_5 : decode cX10_constraint 5 = .ok (.iconst 0, 1) := by decide +kernel
theorem dX10_constraint_6 : decode cX10_constraint 6 = .ok (.iaload, 1) := by decide +kernel
theorem dX10_constraint_7 : decode cX10_constraint 7 = .ok (.bipush 30, 2) := by decide +kernel
theorem dX10_constraint_9 : decode cX10_constraint 9 = .ok (.if_icmp .ge 7, 3) := by decide +kernel
theorem dX10_constraint_12 : decode cX10_constraint 12 = .ok (.iconst 1, 1) := by decide +kernel
theorem dX10_constraint_13 : decode cX10_constraint 13 = .ok (.goto 4, 3) := by decide +kernel
theorem dX10_constraint_16 : decode cX10_constraint 16 = .ok (.iconst 0, 1) := by decide +kernel
theorem dX10_constraint_17 : decode cX10_constraint 17 = .ok (.iconst 3, 1) := by decide +kernel
theorem dX10_constraint_18 : decode cX10_constraint 18 = .ok (.invokevirtual 164, 3) := by decide +kernel
theorem dX10_constraint_21 : decode cX10_constraint 21 = .ok (.ifCond .ne 4, 3) := by decide +kernel
theorem dX10_constraint_24 : decode cX10_constraint 24 = .ok (.return_, 1) := by decide +kernel
theorem dX10_constraint_25 : decode cX10_constraint 25 = .ok (.aload_n 0, 1) := by decide +kernel
theorem dX10_constraint_26 : decode cX10_constraint 26 = .ok (.invokevirtual 168, 3) := by decide +kernel
theorem dX10_constraint_29 : decode cX10_constraint 29 = .ok (.iconst 2, 1) := by decide +kernel
theorem dX10_constraint_30 : decode cX10_constraint 30 = .ok (.iconst 4, 1) := by decide +kernel
theorem dX10_constraint_31 : decode cX10_constraint 31 = .ok (.aload_n 0, 1) := by decide +kernel
theorem dX10_constraint_32 : decode cX10_constraint 32 = .ok (.getfield 42, 3) := by decide +kernel
theorem dX10_constraint_35 : decode cX10_constraint 35 = .ok (.iconst 0, 1) := by decide +kernel
theorem dX10_constraint_36 : decode cX10_constraint 36 = .ok (.iaload, 1) := by decide +kernel
theorem dX10_constraint_37 : decode cX10_constraint 37 = .ok (.imul, 1) := by decide +kernel
theorem dX10_constraint_38 : decode cX10_constraint 38 = .ok (.iadd, 1) := by decide +kernel
theorem dX10_constraint_39 : decode cX10_constraint 39 = .ok (.istore_n 2, 1) := by decide +kernel
theorem dX10_constraint_40 : decode cX10_constraint 40 = .ok (.aload_n 0, 1) := by decide +kernel
theorem dX10_constraint_41 : decode cX10_constraint 41 = .ok (.getfield 42, 3) := by decide +kernel
theorem dX10_constraint_44 : decode cX10_constraint 44 = .ok (.iload_n 2, 1) := by decide +kernel
theorem dX10_constraint_45 : decode cX10_constraint 45 = .ok (.iload_n 1, 1) := by decide +kernel
theorem dX10_constraint_46 : decode cX10_constraint 46 = .ok (.iastore, 1) := by decide +kernel
theorem dX10_constraint_47 : decode cX10_constraint 47 = .ok (.aload_n 0, 1) := by decide +kernel
theorem dX10_constraint_48 : decode cX10_constraint 48 = .ok (.getfield 42, 3) := by decide +kernel
theorem dX10_constraint_51 : decode cX10_constraint 51 = .ok (.iload_n 2, 1) := by decide +kernel
theorem dX10_constraint_52 : decode cX10_constraint 52 = .ok (.iconst 1, 1) := by decide +kernel
theorem dX10_constraint_53 : decode cX10_constraint 53 = .ok (.iadd, 1) := by decide +kernel
theorem dX10_constraint_54 : decode cX10_constraint 54 = .ok (.aload_n 0, 1) := by decide +kernel
theorem dX10_constraint_55 : decode cX10_constraint 55 = .ok (.invokevirtual 178, 3) := by decide +kernel
theorem dX10_constraint_58 : decode cX10_constraint 58 = .ok (.iastore, 1) := by decide +kernel
theorem dX10_constraint_59 : decode cX10_constraint 59 = .ok (.aload_n 0, 1) := by decide +kernel
theorem dX10_constraint_60 : decode cX10_constraint 60 = .ok (.getfield 42, 3) := by decide +kernel
theorem dX10_constraint_63 : decode cX10_constraint 63 = .ok (.iload_n 2, 1) := by decide +kernel
theorem dX10_constraint_64 : decode cX10_constraint 64 = .ok (.iconst 2, 1) := by decide +kernel
theorem dX10_constraint_65 : decode cX10_constraint 65 = .ok (.iadd, 1) := by decide +kernel
theorem dX10_constraint_66 : decode cX10_constraint 66 = .ok (.iload_n 1, 1) := by decide +kernel
theorem dX10_constraint_67 : decode cX10_constraint 67 = .ok (.ifCond .ne 10, 3) := by decide +kernel
theorem dX10_constraint_70 : decode cX10_constraint 70 = .ok (.aload_n 0, 1) := by decide +kernel
theorem dX10_constraint_71 : decode cX10_constraint 71 = .ok (.invokevirtual 175, 3) := by decide +kernel
theorem dX10_constraint_74 : decode cX10_constraint 74 = .ok (.goto 19, 3) := by decide +kernel
theorem dX10_constraint_77 : decode cX10_constraint 77 = .ok (.iload_n 1, 1) := by decide +kernel
theorem dX10_constraint_78 : decode cX10_constraint 78 = .ok (.iconst 3, 1) := by decide +kernel
theorem dX10_constraint_79 : decode cX10_constraint 79 = .ok (.if_icmp .ne 10, 3) := by decide +kernel
theorem dX10_constraint_82 : decode cX10_constraint 82 = .ok (.aload_n 0, 1) := by decide +kernel
theorem dX10_constraint_83 : decode cX10_constraint 83 = .ok (.invokevirtual 181, 3) := by decide +kernel
theorem dX10_constraint_86 : decode cX10_constraint 86 = .ok (.goto 7, 3) := by decide +kernel
theorem dX10_constraint_89 : decode cX10_constraint 89 = .ok (.aload_n 0, 1) := by decide +kernel
theorem dX10_constraint_90 : decode cX10_constraint 90 = .ok (.invokevirtual 178, 3) := by decide +kernel
theorem dX10_constraint_93 : decode cX10_constraint 93 = .ok (.iastore, 1) := by decide +kernel
theorem dX10_constraint_94 : decode cX10_constraint 94 = .ok (.aload_n 0, 1) := by decide +kernel
theorem dX10_constraint_95 : decode cX10_constraint 95 = .ok (.getfield 42, 3) := by decide +kernel
theorem dX10_constraint_98 : decode cX10_constraint 98 = .ok (.iload_n 2, 1) := by decide +kernel
theorem dX10_constraint_99 : decode cX10_constraint 99 = .ok (.iconst 3, 1) := by decide +kernel
theorem dX10_constraint_100 : decode cX10_constraint 100 = .ok (.iadd, 1) := by decide +kernel
theorem dX10_constraint_101 : decode cX10_constraint 101 = .ok (.iload_n 1, 1) := by decide +kernel
theorem dX10_constraint_102 : decode cX10_constraint 102 = .ok (.iconst 2, 1) := by decide +kernel
theorem dX10_constraint_103 : decode cX10_constraint 103 = .ok (.if_icmp .ne 10, 3) := by decide +kernel
theorem dX10_constraint_106 : decode cX10_constraint 106 = .ok (.aload_n 0, 1) := by decide +kernel
theorem dX10_constraint_107 : decode cX10_constraint 107 = .ok (.invokevirtual 181, 3) := by decide +kernel
theorem dX10_constraint_110 : decode cX10_constraint 110 = .ok (.goto 22, 3) := by decide +kernel
theorem dX10_constraint_113 : decode cX10_constraint 113 = .ok (.iload_n 1, 1) := by decide +kernel
theorem dX10_constraint_114 : decode cX10_constraint 114 = .ok (.iconst 3, 1) := by decide +kernel
theorem dX10_constraint_115 : decode cX10_constraint 115 = .ok (.if_icmp .eq 8, 3) := by decide +kernel
theorem dX10_constraint_118 : decode cX10_constraint 118 = .ok (.iload_n 1, 1) := by decide +kernel
theorem dX10_constraint_119 : decode cX10_constraint 119 = .ok (.iconst 4, 1) := by decide +kernel
theorem dX10_constraint_120 : decode cX10_constraint 120 = .ok (.if_icmp .ne 10, 3) := by decide +kernel
theorem dX10_constraint_123 : decode cX10_constraint 123 = .ok (.aload_n 0, 1) := by decide +kernel
theorem dX10_constraint_124 : decode cX10_constraint 124 = .ok (.invokevirtual 178, 3) := by decide +kernel
theorem dX10_constraint_127 : decode cX10_constraint 127 = .ok (.goto 5, 3) := by decide +kernel
theorem dX10_constraint_130 : decode cX10_constraint 130 = .ok (.bipush (-2), 2) := by decide +kernel
theorem dX10_constraint_132 : decode cX10_constraint 132 = .ok (.iastore, 1) := by decide +kernel
theorem dX10_constraint_133 : decode cX10_constraint 133 = .ok (.aload_n 0, 1) := by decide +kernel
theorem dX10_constraint_134 : decode cX10_constraint 134 = .ok (.getfield 42, 3) := by decide +kernel
theorem dX10_constraint_137 : decode cX10_constraint 137 = .ok (.iconst 0, 1) := by decide +kernel
theorem dX10_constraint_138 : decode cX10_constraint 138 = .ok (.dup2, 1) := by decide +kernel
theorem dX10_constraint_139 : decode cX10_constraint 139 = .ok (.iaload, 1) := by decide +kernel
theorem dX10_constraint_140 : decode cX10_constraint 140 = .ok (.iconst 1, 1) := by decide +kernel
theorem dX10_constraint_141 : decode cX10_constraint 141 = .ok (.iadd, 1) := by decide +kernel
theorem dX10_constraint_142 : decode cX10_constraint 142 = .ok (.iastore, 1) := by decide +kernel
theorem dX10_constraint_143 : decode cX10_constraint 143 = .ok (.return_, 1) := by decide +kernel
set_option maxHeartbeats 4000000 in
set_option maxRecDepth 100000 in
theorem c_X10_constraint {l : Launch} {g : Gh} {w : Wd} {k0 : Nat} {v_kind : Int32} {wz : Wd} (hF : f_X10_constraint w k0 v_kind = some wz) (hk0 : zct zM k0 = 10) : Met l yX10_constraint (Cond.code yX10_constraint cX10_constraint 3 none :: TT) (rmd 9) (Pcw zM g w [.ref (g.2.2 k0), .int (v_kind)]) (Qw zM g wz none) 0 0 (zA zM g) := by
  refine mt_start (by decide) (Nat.le_of_ble_eq_true rfl) ?_
  intro p e s m args below meth c H locs ls X hr hl hH
  have hx := X.1
  have hb := X.2.1
  have hml := X.2.2.1
  have hown := X.2.2.2.1
  have ht := X.2.2.2.2.1
  have hl : lv_has ls 3 [(0, .ref (g.2.2 (k0))), (1, .int (v_kind))] := hl
  unfold f_X10_constraint at hF
  refine lv_aload_n hx hb dX10_constraint_0 rfl (lv_at hl 0 rfl) ?_
  refine lv_aload_n hx hb dX10_constraint_1 rfl (lv_at hl 0 rfl) ?_
  refine w_getr X hH hk0 fs_10_19 lk_10_42 dX10_constraint_2 ?_
  refine lv_iconst (v := (0 : Int32)) hx hb dX10_constraint_5 (by decide) ?_
  obtain ⟨x2, h2, hF⟩ := ob hF
  refine w_iald X hH h2 (rt_M_10_19 hk0) dX10_constraint_6 ?_
  refine lv_bipush (v := (30 : Int32)) hx hb dX10_constraint_7 (by decide) ?_
  have J1 : ∀ (H : Heap) (locs : List Loc), HW zM g w s.heap H locs → W p l e (rmd 9) s m args below meth c H locs 0 0 (MQ below (Qw zM g wz none) args s 0 0 (zA zM g)) (F0 m 17 ls [.int (bI ((decide (x2 < (30 : Int32))))), .ref (g.2.2 (k0))]) := by
    intro H locs hH
    refine lv_iconst (v := (3 : Int32)) hx hb dX10_constraint_17 (by decide) ?_
    obtain ⟨x4, h4, hF⟩ := ob hF
    refine w_callV (As := [.int (bI ((decide (x2 < (30 : Int32))))), .int ((3 : Int32))]) (k := k0) (rest := []) (st1 := [.int (bI (x4.1))]) X hH (c_X10_must (l := l) (g := g) (w := w) (k0 := k0) (v_condition := (decide (x2 < (30 : Int32)))) (v_kind := (3 : Int32)) h4 hk0) (Or.inl tw_6_66) ms_X10_must im_X10_must hk0 cn_10 ⟨Nat.le_of_ble_eq_true rfl, Nat.le_of_ble_eq_true rfl⟩ rfl rfl hl.1 (Nat.le_of_ble_eq_true rfl) dX10_constraint_18 ⟨Nat.le_refl _, Nat.le_refl _⟩ rfl (fun H locs hH => ?_)
    refine w_b_t (tgt := 25) hx hb dX10_constraint_21 (by decide) (fun c5 => ?_) (fun c5 => ?_)
    · replace hF := ifn (fun z => z c5) hF
      refine lv_aload_n hx hb dX10_constraint_25 rfl (lv_at hl 0 rfl) ?_
      obtain ⟨w6, h6, hF⟩ := ob hF
      refine w_callV (As := []) (k := k0) (rest := []) (st1 := []) X hH (c_X10_nextToken (l := l) (g := g) (w := x4.2) (k0 := k0) h6 hk0) (Or.inl tw_5_226) ms_X10_nextToken im_X10_nextToken hk0 cn_10 ⟨Nat.le_of_ble_eq_true rfl, Nat.le_of_ble_eq_true rfl⟩ rfl rfl hl.1 (Nat.le_of_ble_eq_true rfl) dX10_constraint_26 ⟨Nat.le_refl _, Nat.le_refl _⟩ rfl (fun H locs hH => ?_)
      refine lv_iconst (v := (2 : Int32)) hx hb dX10_constraint_29 (by decide) ?_
      refine lv_iconst (v := (4 : Int32)) hx hb dX10_constraint_30 (by decide) ?_
      refine lv_aload_n hx hb dX10_constraint_31 rfl (lv_at hl 0 rfl) ?_
      refine w_getr X hH hk0 fs_10_19 lk_10_42 dX10_constraint_32 ?_
      refine lv_iconst (v := (0 : Int32)) hx hb dX10_constraint_35 (by decide) ?_
      obtain ⟨x7, h7, hF⟩ := ob hF
      refine w_iald X hH h7 (rt_M_10_19 hk0) dX10_constraint_36 ?_
      refine lv_imul hx hb dX10_constraint_37 ?_
      refine lv_iadd hx hb dX10_constraint_38 ?_
      refine lv_istore_n (lv' := [(2, .int (((2 : Int32) + ((4 : Int32) * x7)))), (0, .ref (g.2.2 (k0))), (1, .int (v_kind))]) hx hb dX10_constraint_39 rfl hl (by decide) rfl (fun ls hl => ?_)
      refine lv_aload_n hx hb dX10_constraint_40 rfl (lv_at hl 1 rfl) ?_
      refine w_getr X hH hk0 fs_10_19 lk_10_42 dX10_constraint_41 ?_
      refine lv_iload_n hx hb dX10_constraint_44 rfl (lv_at hl 0 rfl) ?_
      refine lv_iload_n hx hb dX10_constraint_45 rfl (lv_at hl 2 rfl) ?_
      obtain ⟨w8, h8, hF⟩ := ob hF
      refine w_iast X hH h8 (rt_M_10_19 hk0) dX10_constraint_46 (fun H locs hH => ?_)
      refine lv_aload_n hx hb dX10_constraint_47 rfl (lv_at hl 1 rfl) ?_
      refine w_getr X hH hk0 fs_10_19 lk_10_42 dX10_constraint_48 ?_
      refine lv_iload_n hx hb dX10_constraint_51 rfl (lv_at hl 0 rfl) ?_
      refine lv_iconst (v := (1 : Int32)) hx hb dX10_constraint_52 (by decide) ?_
      refine lv_iadd hx hb dX10_constraint_53 ?_
      refine lv_aload_n hx hb dX10_constraint_54 rfl (lv_at hl 1 rfl) ?_
      obtain ⟨x9, h9, hF⟩ := ob hF
      refine w_callV (As := []) (k := k0) (rest := [.int ((((2 : Int32) + ((4 : Int32) * x7)) + (1 : Int32))), .ref (g.2.2 ((zrf zM (k0) 19)))]) (st1 := [.int (x9.1), .int ((((2 : Int32) + ((4 : Int32) * x7)) + (1 : Int32))), .ref (g.2.2 ((zrf zM (k0) 19)))]) X hH (c_X10_variable (l := l) (g := g) (w := w8) (k0 := k0) h9 hk0) (Or.inl tw_6_78) ms_X10_variable im_X10_variable hk0 cn_10 ⟨Nat.le_of_ble_eq_true rfl, Nat.le_of_ble_eq_true rfl⟩ rfl rfl hl.1 (Nat.le_of_ble_eq_true rfl) dX10_constraint_55 ⟨Nat.le_refl _, Nat.le_refl _⟩ rfl (fun H locs hH => ?_)
      obtain ⟨w10, h10, hF⟩ := ob hF
      refine w_iast X hH h10 (rt_M_10_19 hk0) dX10_constraint_58 (fun H locs hH => ?_)
      refine lv_aload_n hx hb dX10_constraint_59 rfl (lv_at hl 1 rfl) ?_
      refine w_getr X hH hk0 fs_10_19 lk_10_42 dX10_constraint_60 ?_
      refine lv_iload_n hx hb dX10_constraint_63 rfl (lv_at hl 0 rfl) ?_
      refine lv_iconst (v := (2 : Int32)) hx hb dX10_constraint_64 (by decide) ?_
      refine lv_iadd hx hb dX10_constraint_65 ?_
      obtain ⟨x12, hx12, hF⟩ := ob hF
      have J11 : ∀ (H : Heap) (locs : List Loc), HW zM g x12.2 s.heap H locs → W p l e (rmd 9) s m args below meth c H locs 0 0 (MQ below (Qw zM g wz none) args s 0 0 (zA zM g)) (F0 m 93 ls [.int (x12.1), .int ((((2 : Int32) + ((4 : Int32) * x7)) + (2 : Int32))), .ref (g.2.2 ((zrf zM (k0) 19)))]) := by
        intro H locs hH
        obtain ⟨w20, h20, hF⟩ := ob hF
        refine w_iast X hH h20 (rt_M_10_19 hk0) dX10_constraint_93 (fun H locs hH => ?_)
        refine lv_aload_n hx hb dX10_constraint_94 rfl (lv_at hl 1 rfl) ?_
        refine w_getr X hH hk0 fs_10_19 lk_10_42 dX10_constraint_95 ?_
        refine lv_iload_n hx hb dX10_constraint_98 rfl (lv_at hl 0 rfl) ?_
        refine lv_iconst (v := (3 : Int32)) hx hb dX10_constraint_99 (by decide) ?_
        refine lv_iadd hx hb dX10_constraint_100 ?_
        obtain ⟨x22, hx22, hF⟩ := ob hF
        have J21 : ∀ (H : Heap) (locs : List Loc), HW zM g x22.2 s.heap H locs → W p l e (rmd 9) s m args below meth c H locs 0 0 (MQ below (Qw zM g wz none) args s 0 0 (zA zM g)) (F0 m 132 ls [.int (x22.1), .int ((((2 : Int32) + ((4 : Int32) * x7)) + (3 : Int32))), .ref (g.2.2 ((zrf zM (k0) 19)))]) := by
          intro H locs hH
          obtain ⟨w31, h31, hF⟩ := ob hF
          refine w_iast X hH h31 (rt_M_10_19 hk0) dX10_constraint_132 (fun H locs hH => ?_)
          refine lv_aload_n hx hb dX10_constraint_133 rfl (lv_at hl 1 rfl) ?_
          refine w_getr X hH hk0 fs_10_19 lk_10_42 dX10_constraint_134 ?_
          refine lv_iconst (v := (0 : Int32)) hx hb dX10_constraint_137 (by decide) ?_
          refine lv_dup2_11 hx hb dX10_constraint_138 rfl rfl ?_
          obtain ⟨x32, h32, hF⟩ := ob hF
          refine w_iald X hH h32 (rt_M_10_19 hk0) dX10_constraint_139 ?_
          refine lv_iconst (v := (1 : Int32)) hx hb dX10_constraint_140 (by decide) ?_
          refine lv_iadd hx hb dX10_constraint_141 ?_
          obtain ⟨w33, h33, hF⟩ := ob hF
          refine w_iast X hH h33 (rt_M_10_19 hk0) dX10_constraint_142 (fun H locs hH => ?_)
          obtain rfl := se1 hF
          exact w_vret X hH hr dX10_constraint_143
        have hF := hx22
        refine lv_iload_n hx hb dX10_constraint_101 rfl (lv_at hl 2 rfl) ?_
        refine lv_iconst (v := (2 : Int32)) hx hb dX10_constraint_102 (by decide) ?_
        refine w_ieq_f (tgt := 113) hx hb dX10_constraint_103 (by decide) (fun c23 => ?_) (fun c23 => ?_)
        · replace hF := ifn c23 hF
          obtain ⟨x25, hx25, hF⟩ := ob hF
          have J24 : ∀ (H : Heap) (locs : List Loc), HW zM g x25.2 s.heap H locs → W p l e (rmd 9) s m args below meth c H locs 0 0 (MQ below (Qw zM g wz none) args s 0 0 (zA zM g)) (F0 m 132 ls [.int (x25.1), .int ((((2 : Int32) + ((4 : Int32) * x7)) + (3 : Int32))), .ref (g.2.2 ((zrf zM (k0) 19)))]) := by
            intro H locs hH
            obtain rfl := se1 hF
            exact J21 _ _ hH
          have hF := hx25
          refine lv_iload_n hx hb dX10_constraint_113 rfl (lv_at hl 2 rfl) ?_
          refine lv_iconst (v := (3 : Int32)) hx hb dX10_constraint_114 (by decide) ?_
          have J26T : (v_kind = (3 : Int32)) ∨ (v_kind = (4 : Int32)) → ∀ (H : Heap) (locs : List Loc), HW zM g w20 s.heap H locs → W p l e (rmd 9) s m args below meth c H locs 0 0 (MQ below (Qw zM g wz none) args s 0 0 (zA zM g)) (F0 m 123 ls [.int ((((2 : Int32) + ((4 : Int32) * x7)) + (3 : Int32))), .ref (g.2.2 ((zrf zM (k0) 19)))]) := by
            intro hc H locs hH
            replace hF := ifp hc hF
            refine lv_aload_n hx hb dX10_constraint_123 rfl (lv_at hl 1 rfl) ?_
            obtain ⟨x29, h29, hF⟩ := ob hF
            refine w_callV (As := []) (k := k0) (rest := [.int ((((2 : Int32) + ((4 : Int32) * x7)) + (3 : Int32))), .ref (g.2.2 ((zrf zM (k0) 19)))]) (st1 := [.int (x29.1), .int ((((2 : Int32) + ((4 : Int32) * x7)) + (3 : Int32))), .ref (g.2.2 ((zrf zM (k0) 19)))]) X hH (c_X10_variable (l := l) (g := g) (w := w20) (k0 := k0) h29 hk0) (Or.inl tw_6_78) ms_X10_variable im_X10_variable hk0 cn_10 ⟨Nat.le_of_ble_eq_true rfl, Nat.le_of_ble_eq_true rfl⟩ rfl rfl hl.1 (Nat.le_of_ble_eq_true rfl) dX10_constraint_124 ⟨Nat.le_refl _, Nat.le_refl _⟩ rfl (fun H locs hH => ?_)
            refine lv_goto (tgt := 132) hx hb dX10_constraint_127 (by decide) ?_
            obtain rfl := se1 hF
            exact J24 _ _ hH
          have J26F : ¬ ((v_kind = (3 : Int32)) ∨ (v_kind = (4 : Int32))) → ∀ (H : Heap) (locs : List Loc), HW zM g w20 s.heap H locs → W p l e (rmd 9) s m args below meth c H locs 0 0 (MQ below (Qw zM g wz none) args s 0 0 (zA zM g)) (F0 m 130 ls [.int ((((2 : Int32) + ((4 : Int32) * x7)) + (3 : Int32))), .ref (g.2.2 ((zrf zM (k0) 19)))]) := by
            intro hc H locs hH
            replace hF := ifn hc hF
            refine lv_bipush (v := (-2 : Int32)) hx hb dX10_constraint_130 (by decide) ?_
            obtain rfl := se1 hF
            exact J24 _ _ hH
          refine w_ieq_t (tgt := 123) hx hb dX10_constraint_115 (by decide) (fun c27 => ?_) (fun c27 => ?_)
          · exact J26T (Or.inl c27) _ _ hH
          · refine lv_iload_n hx hb dX10_constraint_118 rfl (lv_at hl 2 rfl) ?_
            refine lv_iconst (v := (4 : Int32)) hx hb dX10_constraint_119 (by decide) ?_
            refine w_ieq_f (tgt := 130) hx hb dX10_constraint_120 (by decide) (fun c28 => ?_) (fun c28 => ?_)
            · exact J26F (fun z => z.elim c27 c28) _ _ hH
            · exact J26T (Or.inr c28) _ _ hH
        · replace hF := ifp c23 hF
          refine lv_aload_n hx hb dX10_constraint_106 rfl (lv_at hl 1 rfl) ?_
          obtain ⟨x30, h30, hF⟩ := ob hF
          refine w_callV (As := []) (k := k0) (rest := [.int ((((2 : Int32) + ((4 : Int32) * x7)) + (3 : Int32))), .ref (g.2.2 ((zrf zM (k0) 19)))]) (st1 := [.int (x30.1), .int ((((2 : Int32) + ((4 : Int32) * x7)) + (3 : Int32))), .ref (g.2.2 ((zrf zM (k0) 19)))]) X hH (c_X10_field (l := l) (g := g) (w := w20) (k0 := k0) h30 hk0) (Or.inl tw_6_86) ms_X10_field im_X10_field hk0 cn_10 ⟨Nat.le_of_ble_eq_true rfl, Nat.le_of_ble_eq_true rfl⟩ rfl rfl hl.1 (Nat.le_of_ble_eq_true rfl) dX10_constraint_107 ⟨Nat.le_refl _, Nat.le_refl _⟩ rfl (fun H locs hH => ?_)
          refine lv_goto (tgt := 132) hx hb dX10_constraint_110 (by decide) ?_
          obtain rfl := se1 hF
          exact J21 _ _ hH
      have hF := hx12
      refine lv_iload_n hx hb dX10_constraint_66 rfl (lv_at hl 2 rfl) ?_
      refine w_zeq_f (tgt := 77) hx hb dX10_constraint_67 (by decide) (fun c13 => ?_) (fun c13 => ?_)
      · replace hF := ifn c13 hF
        obtain ⟨x15, hx15, hF⟩ := ob hF
        have J14 : ∀ (H : Heap) (locs : List Loc), HW zM g x15.2 s.heap H locs → W p l e (rmd 9) s m args below meth c H locs 0 0 (MQ below (Qw zM g wz none) args s 0 0 (zA zM g)) (F0 m 93 ls [.int (x15.1), .int ((((2 : Int32) + ((4 : Int32) * x7)) + (2 : Int32))), .ref (g.2.2 ((zrf zM (k0) 19)))]) := by
          intro H locs hH
          obtain rfl := se1 hF
          exact J11 _ _ hH
        have hF := hx15
        refine lv_iload_n hx hb dX10_constraint_77 rfl (lv_at hl 2 rfl) ?_
        refine lv_iconst (v := (3 : Int32)) hx hb dX10_constraint_78 (by decide) ?_
        refine w_ieq_f (tgt := 89) hx hb dX10_constraint_79 (by decide) (fun c16 => ?_) (fun c16 => ?_)
        · replace hF := ifn c16 hF
          refine lv_aload_n hx hb dX10_constraint_89 rfl (lv_at hl 1 rfl) ?_
          obtain ⟨x17, h17, hF⟩ := ob hF
          refine w_callV (As := []) (k := k0) (rest := [.int ((((2 : Int32) + ((4 : Int32) * x7)) + (2 : Int32))), .ref (g.2.2 ((zrf zM (k0) 19)))]) (st1 := [.int (x17.1), .int ((((2 : Int32) + ((4 : Int32) * x7)) + (2 : Int32))), .ref (g.2.2 ((zrf zM (k0) 19)))]) X hH (c_X10_variable (l := l) (g := g) (w := w10) (k0 := k0) h17 hk0) (Or.inl tw_6_78) ms_X10_variable im_X10_variable hk0 cn_10 ⟨Nat.le_of_ble_eq_true rfl, Nat.le_of_ble_eq_true rfl⟩ rfl rfl hl.1 (Nat.le_of_ble_eq_true rfl) dX10_constraint_90 ⟨Nat.le_refl _, Nat.le_refl _⟩ rfl (fun H locs hH => ?_)
          obtain rfl := se1 hF
          exact J14 _ _ hH
        · replace hF := ifp c16 hF
          refine lv_aload_n hx hb dX10_constraint_82 rfl (lv_at hl 1 rfl) ?_
          obtain ⟨x18, h18, hF⟩ := ob hF
          refine w_callV (As := []) (k := k0) (rest := [.int ((((2 : Int32) + ((4 : Int32) * x7)) + (2 : Int32))), .ref (g.2.2 ((zrf zM (k0) 19)))]) (st1 := [.int (x18.1), .int ((((2 : Int32) + ((4 : Int32) * x7)) + (2 : Int32))), .ref (g.2.2 ((zrf zM (k0) 19)))]) X hH (c_X10_field (l := l) (g := g) (w := w10) (k0 := k0) h18 hk0) (Or.inl tw_6_86) ms_X10_field im_X10_field hk0 cn_10 ⟨Nat.le_of_ble_eq_true rfl, Nat.le_of_ble_eq_true rfl⟩ rfl rfl hl.1 (Nat.le_of_ble_eq_true rfl) dX10_constraint_83 ⟨Nat.le_refl _, Nat.le_refl _⟩ rfl (fun H locs hH => ?_)
          refine lv_goto (tgt := 93) hx hb dX10_constraint_86 (by decide) ?_
          obtain rfl := se1 hF
          exact J14 _ _ hH
      · replace hF := ifp c13 hF
        refine lv_aload_n hx hb dX10_constraint_70 rfl (lv_at hl 1 rfl) ?_
        obtain ⟨x19, h19, hF⟩ := ob hF
        refine w_callV (As := []) (k := k0) (rest := [.int ((((2 : Int32) + ((4 : Int32) * x7)) + (2 : Int32))), .ref (g.2.2 ((zrf zM (k0) 19)))]) (st1 := [.int (x19.1), .int ((((2 : Int32) + ((4 : Int32) * x7)) + (2 : Int32))), .ref (g.2.2 ((zrf zM (k0) 19)))]) X hH (c_X10_object (l := l) (g := g) (w := w10) (k0 := k0) h19 hk0) (Or.inl tw_6_70) ms_X10_object im_X10_object hk0 cn_10 ⟨Nat.le_of_ble_eq_true rfl, Nat.le_of_ble_eq_true rfl⟩ rfl rfl hl.1 (Nat.le_of_ble_eq_true rfl) dX10_constraint_71 ⟨Nat.le_refl _, Nat.le_refl _⟩ rfl (fun H locs hH => ?_)
        refine lv_goto (tgt := 93) hx hb dX10_constraint_74 (by decide) ?_
        obtain rfl := se1 hF
        exact J11 _ _ hH
    · replace hF := ifp c5 hF
      obtain rfl := se1 hF
      exact w_vret X hH hr dX10_constraint_24
  refine w_ilt_f (tgt := 16) hx hb dX10_constraint_9 (by decide) (fun c3 => ?_) (fun c3 => ?_)
  · refine lv_iconst (v := (0 : Int32)) hx hb dX10_constraint_16 (by decide) ?_
    exact w_b0 c3 (J1 _ _ hH)
  · refine lv_iconst (v := (1 : Int32)) hx hb dX10_constraint_12 (by decide) ?_
    refine lv_goto (tgt := 17) hx hb dX10_constraint_13 (by decide) ?_
    exact w_b1 c3 (J1 _ _ hH)

theorem dX10_allOf_0 : decode cX10_allOf 0 = .ok (.iconst 1, 1) := by decide +kernel
theorem dX10_allOf_1 : decode cX10_allOf 1 = .ok (.iload_n 0, 1) := by decide +kernel
theorem dX10_allOf_2 : decode cX10_allOf 2 = .ok (.ishl, 1) := by decide +kernel
theorem dX10_allOf_3 : decode cX10_allOf 3 = .ok (.iconst 1, 1) := by decide +kernel
theorem dX10_allOf_4 : decode cX10_allOf 4 = .ok (.isub, 1) := by decide +kernel
theorem dX10_allOf_5 : decode cX10_allOf 5 = .ok (.ireturn, 1) := by decide +kernel
set_option maxHeartbeats 4000000 in
set_option maxRecDepth 100000 in
theorem c_X10_allOf {l : Launch} {g : Gh} {w : Wd} {v_n : Int32} {rz : Int32} (hF : f_X10_allOf v_n = rz)  : Met l yX10_allOf (Cond.code yX10_allOf cX10_allOf 1 (some .int) :: TT) (rmd 0) (Pcw zM g w [.int (v_n)]) (Qw zM g w (some (.int (rz)))) 0 0 (zA zM g) := by
  refine mt_start (by decide) (Nat.le_of_ble_eq_true rfl) ?_
  intro p e s m args below meth c H locs ls X hr hl hH
  have hx := X.1
  have hb := X.2.1
  have hml := X.2.2.1
  have hown := X.2.2.2.1
  have ht := X.2.2.2.2.1
  have hl : lv_has ls 1 [(0, .int (v_n))] := hl
  unfold f_X10_allOf at hF
  refine lv_iconst (v := (1 : Int32)) hx hb dX10_allOf_0 (by decide) ?_
  refine lv_iload_n hx hb dX10_allOf_1 rfl (lv_at hl 0 rfl) ?_
  refine w_ishl hx hb dX10_allOf_2 ?_
  refine lv_iconst (v := (1 : Int32)) hx hb dX10_allOf_3 (by decide) ?_
  refine lv_isub hx hb dX10_allOf_4 ?_
  subst hF
  exact w_iret X hH hr dX10_allOf_5

theorem dX10_adoptNames_0 : decode cX10_adoptNames 0 = .ok (.iconst 0, 1) := by decide +kernel
theorem dX10_adoptNames_1 : decode cX10_adoptNames 1 = .ok (.istore_n 1, 1) := by decide +kernel
theorem dX10_adoptNames_2 : decode cX10_adoptNames 2 = .ok (.iload_n 1, 1) := by decide +kernel
theorem dX10_adoptNames_3 : decode cX10_adoptNames 3 = .ok (.aload_n 0, 1) := by decide +kernel
theorem dX10_adoptNames_4 : decode cX10_adoptNames 4 = .ok (.arraylength, 1) := by decide +kernel
theorem dX10_adoptNames_5 : decode cX10_adoptNames 5 = .ok (.iconst 2, 1) := by decide +kernel
theorem dX10_adoptNames_6 : decode cX10_adoptNames 6 = .ok (.idiv, 1) := by decide +kernel
theorem dX10_adoptNames_7 : decode cX10_adoptNames 7 = .ok (.if_icmp .ge 20, 3) := by decide +kernel
theorem dX10_adoptNames_10 : decode cX10_adoptNames 10 = .ok (.aload_n 0, 1) := by decide +kernel
theorem dX10_adoptNames_11 : decode cX10_adoptNames 11 = .ok (.iload_n 1, 1) := by decide +kernel
theorem dX10_adoptNames_12 : decode cX10_adoptNames 12 = .ok (.aload_n 0, 1) := by decide +kernel
theorem dX10_adoptNames_13 : decode cX10_adoptNames 13 = .ok (.aload_n 0, 1) := by decide +kernel
theorem dX10_adoptNames_14 : decode cX10_adoptNames 14 = .ok (.arraylength, 1) := by decide +kernel
theorem dX10_adoptNames_15 : decode cX10_adoptNames 15 = .ok (.iconst 2, 1) := by decide +kernel
theorem dX10_adoptNames_16 : decode cX10_adoptNames 16 = .ok (.idiv, 1) := by decide +kernel
theorem dX10_adoptNames_17 : decode cX10_adoptNames 17 = .ok (.iload_n 1, 1) := by decide +kernel
theorem dX10_adoptNames_18 : decode cX10_adoptNames 18 = .ok (.iadd, 1) := by decide +kernel
theorem dX10_adoptNames_19 : decode cX10_adoptNames 19 = .ok (.laload, 1) := by decide +kernel
theorem dX10_adoptNames_20 : decode cX10_adoptNames 20 = .ok (.lastore, 1) := by decide +kernel
theorem dX10_adoptNames_21 : decode cX10_adoptNames 21 = .ok (.iinc 1 1, 3) := by decide +kernel
theorem dX10_adoptNames_24 : decode cX10_adoptNames 24 = .ok (.goto (-22), 3) := by decide +kernel
theorem dX10_adoptNames_27 : decode cX10_adoptNames 27 = .ok (.return_, 1) := by decide +kernel
set_option maxHeartbeats 4000000 in
set_option maxRecDepth 100000 in
theorem c_X10_adoptNames {l : Launch} {g : Gh} {w : Wd} {v_names : Nat} {wz : Wd} (hF : f_X10_adoptNames w v_names = some wz) (hv_names : zct zM v_names = 21) : Met l yX10_adoptNames (Cond.code yX10_adoptNames cX10_adoptNames 2 none :: TT) (rmd 0) (Pcw zM g w [.ref (g.2.2 (v_names))]) (Qw zM g wz none) 0 0 (zA zM g) := by
  refine mt_start (by decide) (Nat.le_of_ble_eq_true rfl) ?_
  intro p e s m args below meth c H locs ls X hr hl hH
  have hx := X.1
  have hb := X.2.1
  have hml := X.2.2.1
  have hown := X.2.2.2.1
  have ht := X.2.2.2.2.1
  have hl : lv_has ls 2 [(0, .ref (g.2.2 (v_names)))] := hl
  unfold f_X10_adoptNames at hF
  refine lv_iconst (v := (0 : Int32)) hx hb dX10_adoptNames_0 (by decide) ?_
  refine lv_istore_n (lv' := [(1, .int ((0 : Int32))), (0, .ref (g.2.2 (v_names)))]) hx hb dX10_adoptNames_1 rfl hl (by decide) rfl (fun ls hl => ?_)
  obtain ⟨r2, hLr2, hF⟩ := ob hF
  have Jr2 : ∀ (H : Heap) (locs : List Loc) (ls : Array Slot), HW zM g r2 s.heap H locs → lv_has ls 2 [(0, .ref (g.2.2 (v_names)))] → W p l e (rmd 0) s m args below meth c H locs 0 0 (MQ below (Qw zM g wz none) args s 0 0 (zA zM g)) (F0 m 27 ls []) := by
    intro H locs ls hH hl
    obtain rfl := se1 hF
    exact w_vret X hH hr dX10_adoptNames_27
  have Lr2 : ∀ (n : Nat) (s1 : Int32 × Wd), lp (b_X10_adoptNames_1 v_names) n s1 = some r2 → ∀ (H : Heap) (locs : List Loc) (ls : Array Slot), HW zM g s1.2 s.heap H locs → lv_has ls 2 [(0, .ref (g.2.2 (v_names))), (1, .int (s1.1))] → W p l e (rmd 0) s m args below meth c H locs 0 0 (MQ below (Qw zM g wz none) args s 0 0 (zA zM g)) (F0 m 2 ls []) := by
    intro n
    induction n with
    | zero => intro s1 hL; exact lp_0 hL
    | succ n ih =>
      intro s1 hL H locs ls hH hl
      obtain ⟨bb, hF, hL⟩ := lp_s hL
      unfold b_X10_adoptNames_1 at hF
      refine lv_iload_n hx hb dX10_adoptNames_2 rfl (lv_at hl 1 rfl) ?_
      refine lv_aload_n hx hb dX10_adoptNames_3 rfl (lv_at hl 0 rfl) ?_
      refine w_alen X hH hv_names (by decide) dX10_adoptNames_4 ?_
      refine lv_iconst (v := (2 : Int32)) hx hb dX10_adoptNames_5 (by decide) ?_
      refine w_idiv hx hb dX10_adoptNames_6 (by decide) ?_
      refine w_ilt_f (tgt := 27) hx hb dX10_adoptNames_7 (by decide) (fun c3 => ?_) (fun c3 => ?_)
      · replace hF := ifn c3 hF
        obtain rfl := se1 hF
        subst hL
        exact Jr2 _ _ _ hH (lv_sub hl [0] rfl)
      · replace hF := ifp c3 hF
        refine lv_aload_n hx hb dX10_adoptNames_10 rfl (lv_at hl 0 rfl) ?_
        refine lv_iload_n hx hb dX10_adoptNames_11 rfl (lv_at hl 1 rfl) ?_
        refine lv_aload_n hx hb dX10_adoptNames_12 rfl (lv_at hl 0 rfl) ?_
        refine lv_aload_n hx hb dX10_adoptNames_13 rfl (lv_at hl 0 rfl) ?_
        refine w_alen X hH hv_names (by decide) dX10_adoptNames_14 ?_
        refine lv_iconst (v := (2 : Int32)) hx hb dX10_adoptNames_15 (by decide) ?_
        refine w_idiv hx hb dX10_adoptNames_16 (by decide) ?_
        refine lv_iload_n hx hb dX10_adoptNames_17 rfl (lv_at hl 1 rfl) ?_
        refine lv_iadd hx hb dX10_adoptNames_18 ?_
        obtain ⟨x4, h4, hF⟩ := ob hF
        refine w_lald X hH h4 hv_names dX10_adoptNames_19 ?_
        obtain ⟨w5, h5, hF⟩ := ob hF
        refine w_last X hH h5 hv_names dX10_adoptNames_20 (fun H locs hH => ?_)
        refine lv_iinc (v := (s1.1 + (1 : Int32))) (lv' := [(1, .int ((s1.1 + (1 : Int32)))), (0, .ref (g.2.2 (v_names)))]) hx hb dX10_adoptNames_21 hl (k := 1) rfl rfl (by decide) rfl (fun ls hl => ?_)
        refine lv_goto (tgt := 2) hx hb dX10_adoptNames_24 (by decide) ?_
        obtain rfl := se1 hF
        exact ih _ hL _ _ _ hH (lv_sub hl [1, 0] rfl)
  exact Lr2 NF _ hLr2 _ _ _ hH (lv_sub hl [1, 0] rfl)

theorem dX10_adopt_0 : decode cX10_adopt 0 = .ok (.aload_n 0, 1) := by decide +kernel
theorem dX10_adopt_1 : decode cX10_adopt 1 = .ok (.getfield 13, 3) := by decide +kernel
theorem dX10_adopt_4 : decode cX10_adopt 4 = .ok (.iconst 0, 1) := by decide +kernel
theorem dX10_adopt_5 : decode cX10_adopt 5 = .ok (.aload_n 0, 1) := by decide +kernel
theorem dX10_adopt_6 : decode cX10_adopt 6 = .ok (.getfield 13, 3) := by decide +kernel
theorem dX10_adopt_9 : decode cX10_adopt 9 = .ok (.iconst 1, 1) := by decide +kernel
theorem dX10_adopt_10 : decode cX10_adopt 10 = .ok (.iaload, 1) := by decide +kernel
theorem dX10_adopt_11 : decode cX10_adopt 11 = .ok (.iastore, 1) := by decide +kernel
theorem dX10_adopt_12 : decode cX10_adopt 12 = .ok (.aload_n 0, 1) := by decide +kernel
theorem dX10_adopt_13 : decode cX10_adopt 13 = .ok (.getfield 17, 3) := by decide +kernel
theorem dX10_adopt_16 : decode cX10_adopt 16 = .ok (.iconst 0, 1) := by decide +kernel
theorem dX10_adopt_17 : decode cX10_adopt 17 = .ok (.aload_n 0, 1) := by decide +kernel
theorem dX10_adopt_18 : decode cX10_adopt 18 = .ok (.getfield 17, 3) := by decide +kernel
theorem dX10_adopt_21 : decode cX10_adopt 21 = .ok (.iconst 1, 1) := by decide +kernel
theorem dX10_adopt_22 : decode cX10_adopt 22 = .ok (.iaload, 1) := by decide +kernel
theorem dX10_adopt_23 : decode cX10_adopt 23 = .ok (.iastore, 1) := by decide +kernel
theorem dX10_adopt_24 : decode cX10_adopt 24 = .ok (.aload_n 0, 1) := by decide +kernel
theorem dX10_adopt_25 : decode cX10_adopt 25 = .ok (.getfield 20, 3) := by decide +kernel
theorem dX10_adopt_28 : decode cX10_adopt 28 = .ok (.iconst 0, 1) := by decide +kernel
theorem dX10_adopt_29 : decode cX10_adopt 29 = .ok (.aload_n 0, 1) := by decide +kernel
theorem dX10_adopt_30 : decode cX10_adopt 30 = .ok (.getfield 20, 3) := by decide +kernel
theorem dX10_adopt_33 : decode cX10_adopt 33 = .ok (.iconst 1, 1) := by decide +kernel
theorem dX10_adopt_34 : decode cX10_adopt 34 = .ok (.iaload, 1) := by decide +kernel
theorem dX10_adopt_35 : decode cX10_adopt 35 = .ok (.iastore, 1) := by decide +kernel
theorem dX10_adopt_36 : decode cX10_adopt 36 = .ok (.aload_n 0, 1) := by decide +kernel
theorem dX10_adopt_37 : decode cX10_adopt 37 = .ok (.getfield 23, 3) := by decide +kernel
theorem dX10_adopt_40 : decode cX10_adopt 40 = .ok (.invokestatic 196, 3) := by decide +kernel
theorem dX10_adopt_43 : decode cX10_adopt 43 = .ok (.aload_n 0, 1) := by decide +kernel
theorem dX10_adopt_44 : decode cX10_adopt 44 = .ok (.getfield 27, 3) := by decide +kernel
theorem dX10_adopt_47 : decode cX10_adopt 47 = .ok (.invokestatic 196, 3) := by decide +kernel
theorem dX10_adopt_50 : decode cX10_adopt 50 = .ok (.aload_n 0, 1) := by decide +kernel
theorem dX10_adopt_51 : decode cX10_adopt 51 = .ok (.getfield 30, 3) := by decide +kernel
theorem dX10_adopt_54 : decode cX10_adopt 54 = .ok (.invokestatic 196, 3) := by decide +kernel
theorem dX10_adopt_57 : decode cX10_adopt 57 = .ok (.iconst 0, 1) := by decide +kernel
theorem dX10_adopt_58 : decode cX10_adopt 58 = .ok (.istore_n 1, 1) := by decide +kernel
theorem dX10_adopt_59 : decode cX10_adopt 59 = .ok (.iload_n 1, 1) := by decide +kernel
theorem dX10_adopt_60 : decode cX10_adopt 60 = .ok (.bipush 10, 2) := by decide +kernel
theorem dX10_adopt_62 : decode cX10_adopt 62 = .ok (.if_icmp .ge 39, 3) := by decide +kernel
theorem dX10_adopt_65 : decode cX10_adopt 65 = .ok (.aload_n 0, 1) := by decide +kernel
theorem dX10_adopt_66 : decode cX10_adopt 66 = .ok (.getfield 33, 3) := by decide +kernel
theorem dX10_adopt_69 : decode cX10_adopt 69 = .ok (.iload_n 1, 1) := by decide +kernel
theorem dX10_adopt_70 : decode cX10_adopt 70 = .ok (.aload_n 0, 1) := by decide +kernel
theorem dX10_adopt_71 : decode cX10_adopt 71 = .ok (.getfield 33, 3) := by decide +kernel
theorem dX10_adopt_74 : decode cX10_adopt 74 = .ok (.bipush 10, 2) := by decide +kernel
theorem dX10_adopt_76 : decode cX10_adopt 76 = .ok (.iload_n 1, 1) := by decide +kernel
theorem dX10_adopt_77 : decode cX10_adopt 77 = .ok (.iadd, 1) := by decide +kernel
theorem dX10_adopt_78 : decode cX10_adopt 78 = .ok (.iaload, 1) := by decide +kernel
theorem dX10_adopt_79 : decode cX10_adopt 79 = .ok (.iastore, 1) := by decide +kernel
theorem dX10_adopt_80 : decode cX10_adopt 80 = .ok (.aload_n 0, 1) := by decide +kernel
theorem dX10_adopt_81 : decode cX10_adopt 81 = .ok (.getfield 36, 3) := by decide +kernel
theorem dX10_adopt_84 : decode cX10_adopt 84 = .ok (.iload_n 1, 1) := by decide +kernel
theorem dX10_adopt_85 : decode cX10_adopt 85 = .ok (.aload_n 0, 1) := by decide +kernel
theorem dX10_adopt_86 : decode cX10_adopt 86 = .ok (.getfield 36, 3) := by decide +kernel
theorem dX10_adopt_89 : decode cX10_adopt 89 = .ok (.bipush 10, 2) := by decide +kernel
theorem dX10_adopt_91 : decode cX10_adopt 91 = .ok (.iload_n 1, 1) := by decide +kernel
theorem dX10_adopt_92 : decode cX10_adopt 92 = .ok (.iadd, 1) := by decide +kernel
theorem dX10_adopt_93 : decode cX10_adopt 93 = .ok (.iaload, 1) := by decide +kernel
theorem dX10_adopt_94 : decode cX10_adopt 94 = .ok (.iastore, 1) := by decide +kernel
theorem dX10_adopt_95 : decode cX10_adopt 95 = .ok (.iinc 1 1, 3) := by decide +kernel
theorem dX10_adopt_98 : decode cX10_adopt 98 = .ok (.goto (-39), 3) := by decide +kernel
theorem dX10_adopt_101 : decode cX10_adopt 101 = .ok (.iconst 0, 1) := by decide +kernel
theorem dX10_adopt_102 : decode cX10_adopt 102 = .ok (.istore_n 1, 1) := by decide +kernel
theorem dX10_adopt_103 : decode cX10_adopt 103 = .ok (.iload_n 1, 1) := by decide +kernel
theorem dX10_adopt_104 : decode cX10_adopt 104 = .ok (.bipush 122, 2) := by decide +kernel
theorem dX10_adopt_106 : decode cX10_adopt 106 = .ok (.if_icmp .ge 21, 3) := by decide +kernel
theorem dX10_adopt_109 : decode cX10_adopt 109 = .ok (.aload_n 0, 1) := by decide +kernel
theorem dX10_adopt_110 : decode cX10_adopt 110 = .ok (.getfield 39, 3) := by decide +kernel
theorem dX10_adopt_113 : decode cX10_adopt 113 = .ok (.iload_n 1, 1) := by decide +kernel
theorem dX10_adopt_114 : decode cX10_adopt 114 = .ok (.aload_n 0, 1) := by decide +kernel
theorem dX10_adopt_115 : decode cX10_adopt 115 = .ok (.getfield 42, 3) := by decide +kernel
theorem dX10_adopt_118 : decode cX10_adopt 118 = .ok (.iload_n 1, 1) := by decide +kernel
theorem dX10_adopt_119 : decode cX10_adopt 119 = .ok (.iaload, 1) := by decide +kernel
theorem dX10_adopt_120 : decode cX10_adopt 120 = .ok (.iastore, 1) := by decide +kernel
theorem dX10_adopt_121 : decode cX10_adopt 121 = .ok (.iinc 1 1, 3) := by decide +kernel
theorem dX10_adopt_124 : decode cX10_adopt 124 = .ok (.goto (-21), 3) := by decide +kernel
theorem dX10_adopt_127 : decode cX10_adopt 127 = .ok (.aload_n 0, 1) := by decide +kernel
theorem dX10_adopt_128 : decode cX10_adopt 128 = .ok (.iconst 0, 1) := by decide +kernel
theorem dX10_adopt_129 : decode cX10_adopt 129 = .ok (.putfield 200, 3) := by decide +kernel
theorem dX10_adopt_132 : decode cX10_adopt 132 = .ok (.aload_n 0, 1) := by decide +kernel
theorem dX10_adopt_133 : decode cX10_adopt 133 = .ok (.getfield 51, 3) := by decide +kernel
theorem dX10_adopt_136 : decode cX10_adopt 136 = .ok (.iconst 0, 1) := by decide +kernel
theorem dX10_adopt_137 : decode cX10_adopt 137 = .ok (.iconst 0, 1) := by decide +kernel
theorem dX10_adopt_138 : decode cX10_adopt 138 = .ok (.bastore, 1) := by decide +kernel
theorem dX10_adopt_139 : decode cX10_adopt 139 = .ok (.aload_n 0, 1) := by decide +kernel
theorem dX10_adopt_140 : decode cX10_adopt 140 = .ok (.getfield 51, 3) := by decide +kernel
theorem dX10_adopt_143 : decode cX10_adopt 143 = .ok (.iconst 1, 1) := by decide +kernel
theorem dX10_adopt_144 : decode cX10_adopt 144 = .ok (.iconst 0, 1) := by decide +kernel
theorem dX10_adopt_145 : decode cX10_adopt 145 = .ok (.bastore, 1) := by decide +kernel
theorem dX10_adopt_146 : decode cX10_adopt 146 = .ok (.return_, 1) := by decide +kernel
set_option maxHeartbeats 4000000 in
set_option maxRecDepth 100000 in
theorem c_X10_adopt {l : Launch} {g : Gh} {w : Wd} {k0 : Nat} {wz : Wd} (hF : f_X10_adopt w k0 = some wz) (hk0 : zct zM k0 = 10) : Met l yX10_adopt (Cond.code yX10_adopt cX10_adopt 2 none :: TT) (rmd 1) (Pcw zM g w [.ref (g.2.2 k0)]) (Qw zM g wz none) 0 0 (zA zM g) := by
  refine mt_start (by decide) (Nat.le_of_ble_eq_true rfl) ?_
  intro p e s m args below meth c H locs ls X hr hl hH
  have hx := X.1
  have hb := X.2.1
  have hml := X.2.2.1
  have hown := X.2.2.2.1
  have ht := X.2.2.2.2.1
  have hl : lv_has ls 2 [(0, .ref (g.2.2 (k0)))] := hl
  unfold f_X10_adopt at hF
  refine lv_aload_n hx hb dX10_adopt_0 rfl (lv_at hl 0 rfl) ?_
  refine w_getr X hH hk0 fs_10_10 lk_10_13 dX10_adopt_1 ?_
  refine lv_iconst (v := (0 : Int32)) hx hb dX10_adopt_4 (by decide) ?_
  refine lv_aload_n hx hb dX10_adopt_5 rfl (lv_at hl 0 rfl) ?_
  refine w_getr X hH hk0 fs_10_10 lk_10_13 dX10_adopt_6 ?_
  refine lv_iconst (v := (1 : Int32)) hx hb dX10_adopt_9 (by decide) ?_
  obtain ⟨x1, h1, hF⟩ := ob hF
  refine w_iald X hH h1 (rt_M_10_10 hk0) dX10_adopt_10 ?_
  obtain ⟨w2, h2, hF⟩ := ob hF
  refine w_iast X hH h2 (rt_M_10_10 hk0) dX10_adopt_11 (fun H locs hH => ?_)
  refine lv_aload_n hx hb dX10_adopt_12 rfl (lv_at hl 0 rfl) ?_
  refine w_getr X hH hk0 fs_10_11 lk_10_17 dX10_adopt_13 ?_
  refine lv_iconst (v := (0 : Int32)) hx hb dX10_adopt_16 (by decide) ?_
  refine lv_aload_n hx hb dX10_adopt_17 rfl (lv_at hl 0 rfl) ?_
  refine w_getr X hH hk0 fs_10_11 lk_10_17 dX10_adopt_18 ?_
  refine lv_iconst (v := (1 : Int32)) hx hb dX10_adopt_21 (by decide) ?_
  obtain ⟨x3, h3, hF⟩ := ob hF
  refine w_iald X hH h3 (rt_M_10_11 hk0) dX10_adopt_22 ?_
  obtain ⟨w4, h4, hF⟩ := ob hF
  refine w_iast X hH h4 (rt_M_10_11 hk0) dX10_adopt_23 (fun H locs hH => ?_)
  refine lv_aload_n hx hb dX10_adopt_24 rfl (lv_at hl 0 rfl) ?_
  refine w_getr X hH hk0 fs_10_12 lk_10_20 dX10_adopt_25 ?_
  refine lv_iconst (v := (0 : Int32)) hx hb dX10_adopt_28 (by decide) ?_
  refine lv_aload_n hx hb dX10_adopt_29 rfl (lv_at hl 0 rfl) ?_
  refine w_getr X hH hk0 fs_10_12 lk_10_20 dX10_adopt_30 ?_
  refine lv_iconst (v := (1 : Int32)) hx hb dX10_adopt_33 (by decide) ?_
  obtain ⟨x5, h5, hF⟩ := ob hF
  refine w_iald X hH h5 (rt_M_10_12 hk0) dX10_adopt_34 ?_
  obtain ⟨w6, h6, hF⟩ := ob hF
  refine w_iast X hH h6 (rt_M_10_12 hk0) dX10_adopt_35 (fun H locs hH => ?_)
  refine lv_aload_n hx hb dX10_adopt_36 rfl (lv_at hl 0 rfl) ?_
  refine w_getr X hH hk0 fs_10_13 lk_10_23 dX10_adopt_37 ?_
  obtain ⟨w7, h7, hF⟩ := ob hF
  refine w_callS (As := [.ref (g.2.2 ((zrf zM (k0) 13)))]) (rest := []) (st1 := []) X hH (c_X10_adoptNames (l := l) (g := g) (w := w6) (v_names := (zrf zM (k0) 13)) h7 (rt_M_10_13 hk0)) (Or.inl tw_6_97) ms_X10_adoptNames tw_6_98 ⟨Nat.le_of_ble_eq_true rfl, Nat.le_of_ble_eq_true rfl⟩ rfl rfl hl.1 (Nat.le_of_ble_eq_true rfl) dX10_adopt_40 ⟨Nat.le_refl _, Nat.le_refl _⟩ rfl (fun H locs hH => ?_)
  refine lv_aload_n hx hb dX10_adopt_43 rfl (lv_at hl 0 rfl) ?_
  refine w_getr X hH hk0 fs_10_14 lk_10_27 dX10_adopt_44 ?_
  obtain ⟨w8, h8, hF⟩ := ob hF
  refine w_callS (As := [.ref (g.2.2 ((zrf zM (k0) 14)))]) (rest := []) (st1 := []) X hH (c_X10_adoptNames (l := l) (g := g) (w := w7) (v_names := (zrf zM (k0) 14)) h8 (rt_M_10_14 hk0)) (Or.inl tw_6_97) ms_X10_adoptNames tw_6_98 ⟨Nat.le_of_ble_eq_true rfl, Nat.le_of_ble_eq_true rfl⟩ rfl rfl hl.1 (Nat.le_of_ble_eq_true rfl) dX10_adopt_47 ⟨Nat.le_refl _, Nat.le_refl _⟩ rfl (fun H locs hH => ?_)
  refine lv_aload_n hx hb dX10_adopt_50 rfl (lv_at hl 0 rfl) ?_
  refine w_getr X hH hk0 fs_10_15 lk_10_30 dX10_adopt_51 ?_
  obtain ⟨w9, h9, hF⟩ := ob hF
  refine w_callS (As := [.ref (g.2.2 ((zrf zM (k0) 15)))]) (rest := []) (st1 := []) X hH (c_X10_adoptNames (l := l) (g := g) (w := w8) (v_names := (zrf zM (k0) 15)) h9 (rt_M_10_15 hk0)) (Or.inl tw_6_97) ms_X10_adoptNames tw_6_98 ⟨Nat.le_of_ble_eq_true rfl, Nat.le_of_ble_eq_true rfl⟩ rfl rfl hl.1 (Nat.le_of_ble_eq_true rfl) dX10_adopt_54 ⟨Nat.le_refl _, Nat.le_refl _⟩ rfl (fun H locs hH => ?_)
  refine lv_iconst (v := (0 : Int32)) hx hb dX10_adopt_57 (by decide) ?_
  refine lv_istore_n (lv' := [(1, .int ((0 : Int32))), (0, .ref (g.2.2 (k0)))]) hx hb dX10_adopt_58 rfl hl (by decide) rfl (fun ls hl => ?_)
  obtain ⟨r11, hLr11, hF⟩ := ob hF
  have Jr11 : ∀ (H : Heap) (locs : List Loc) (ls : Array Slot), HW zM g r11 s.heap H locs → lv_has ls 2 [(0, .ref (g.2.2 (k0)))] → W p l e (rmd 1) s m args below meth c H locs 0 0 (MQ below (Qw zM g wz none) args s 0 0 (zA zM g)) (F0 m 101 ls []) := by
    intro H locs ls hH hl
    refine lv_iconst (v := (0 : Int32)) hx hb dX10_adopt_101 (by decide) ?_
    refine lv_istore_n (lv' := [(1, .int ((0 : Int32))), (0, .ref (g.2.2 (k0)))]) hx hb dX10_adopt_102 rfl hl (by decide) rfl (fun ls hl => ?_)
    obtain ⟨r18, hLr18, hF⟩ := ob hF
    have Jr18 : ∀ (H : Heap) (locs : List Loc) (ls : Array Slot), HW zM g r18 s.heap H locs → lv_has ls 2 [(0, .ref (g.2.2 (k0)))] → W p l e (rmd 1) s m args below meth c H locs 0 0 (MQ below (Qw zM g wz none) args s 0 0 (zA zM g)) (F0 m 127 ls []) := by
      intro H locs ls hH hl
      refine lv_aload_n hx hb dX10_adopt_127 rfl (lv_at hl 0 rfl) ?_
      refine lv_iconst (v := (0 : Int32)) hx hb dX10_adopt_128 (by decide) ?_
      obtain ⟨w22, h22, hF⟩ := ob hF
      refine w_puti X hH h22 hk0 fs_10_21 nf_10_21 lk_10_200 dX10_adopt_129 (fun H locs hH => ?_)
      refine lv_aload_n hx hb dX10_adopt_132 rfl (lv_at hl 0 rfl) ?_
      refine w_getr X hH hk0 fs_10_23 lk_10_51 dX10_adopt_133 ?_
      refine lv_iconst (v := (0 : Int32)) hx hb dX10_adopt_136 (by decide) ?_
      refine lv_iconst (v := bI false) hx hb dX10_adopt_137 (by decide) ?_
      obtain ⟨w23, h23, hF⟩ := ob hF
      refine w_zast X hH h23 (rt_M_10_23 hk0) dX10_adopt_138 (fun H locs hH => ?_)
      refine lv_aload_n hx hb dX10_adopt_139 rfl (lv_at hl 0 rfl) ?_
      refine w_getr X hH hk0 fs_10_23 lk_10_51 dX10_adopt_140 ?_
      refine lv_iconst (v := (1 : Int32)) hx hb dX10_adopt_143 (by decide) ?_
      refine lv_iconst (v := bI false) hx hb dX10_adopt_144 (by decide) ?_
      obtain ⟨w24, h24, hF⟩ := ob hF
      refine w_zast X hH h24 (rt_M_10_23 hk0) dX10_adopt_145 (fun H locs hH => ?_)
      obtain rfl := se1 hF
      exact w_vret X hH hr dX10_adopt_146
    have Lr18 : ∀ (n : Nat) (s17 : Int32 × Wd), lp (b_X10_adopt_2 k0) n s17 = some r18 → ∀ (H : Heap) (locs : List Loc) (ls : Array Slot), HW zM g s17.2 s.heap H locs → lv_has ls 2 [(0, .ref (g.2.2 (k0))), (1, .int (s17.1))] → W p l e (rmd 1) s m args below meth c H locs 0 0 (MQ below (Qw zM g wz none) args s 0 0 (zA zM g)) (F0 m 103 ls []) := by
      intro n
      induction n with
      | zero => intro s17 hL; exact lp_0 hL
      | succ n ih =>
        intro s17 hL H locs ls hH hl
        obtain ⟨bb, hF, hL⟩ := lp_s hL
        unfold b_X10_adopt_2 at hF
        refine lv_iload_n hx hb dX10_adopt_103 rfl (lv_at hl 1 rfl) ?_
        refine lv_bipush (v := (122 : Int32)) hx hb dX10_adopt_104 (by decide) ?_
        refine w_ilt_f (tgt := 127) hx hb dX10_adopt_106 (by decide) (fun c19 => ?_) (fun c19 => ?_)
        · replace hF := ifn c19 hF
          obtain rfl := se1 hF
          subst hL
          exact Jr18 _ _ _ hH (lv_sub hl [0] rfl)
        · replace hF := ifp c19 hF
          refine lv_aload_n hx hb dX10_adopt_109 rfl (lv_at hl 0 rfl) ?_
          refine w_getr X hH hk0 fs_10_18 lk_10_39 dX10_adopt_110 ?_
          refine lv_iload_n hx hb dX10_adopt_113 rfl (lv_at hl 1 rfl) ?_
          refine lv_aload_n hx hb dX10_adopt_114 rfl (lv_at hl 0 rfl) ?_
          refine w_getr X hH hk0 fs_10_19 lk_10_42 dX10_adopt_115 ?_
          refine lv_iload_n hx hb dX10_adopt_118 rfl (lv_at hl 1 rfl) ?_
          obtain ⟨x20, h20, hF⟩ := ob hF
          refine w_iald X hH h20 (rt_M_10_19 hk0) dX10_adopt_119 ?_
          obtain ⟨w21, h21, hF⟩ := ob hF
          refine w_iast X hH h21 (rt_M_10_18 hk0) dX10_adopt_120 (fun H locs hH => ?_)
          refine lv_iinc (v := (s17.1 + (1 : Int32))) (lv' := [(1, .int ((s17.1 + (1 : Int32)))), (0, .ref (g.2.2 (k0)))]) hx hb dX10_adopt_121 hl (k := 1) rfl rfl (by decide) rfl (fun ls hl => ?_)
          refine lv_goto (tgt := 103) hx hb dX10_adopt_124 (by decide) ?_
          obtain rfl := se1 hF
          exact ih _ hL _ _ _ hH (lv_sub hl [1, 0] rfl)
    exact Lr18 NF _ hLr18 _ _ _ hH (lv_sub hl [1, 0] rfl)
  have Lr11 : ∀ (n : Nat) (s10 : Int32 × Wd), lp (b_X10_adopt_1 k0) n s10 = some r11 → ∀ (H : Heap) (locs : List Loc) (ls : Array Slot), HW zM g s10.2 s.heap H locs → lv_has ls 2 [(0, .ref (g.2.2 (k0))), (1, .int (s10.1))] → W p l e (rmd 1) s m args below meth c H locs 0 0 (MQ below (Qw zM g wz none) args s 0 0 (zA zM g)) (F0 m 59 ls []) := by
    intro n
    induction n with
    | zero => intro s10 hL; exact lp_0 hL
    | succ n ih =>
      intro s10 hL H locs ls hH hl
      obtain ⟨bb, hF, hL⟩ := lp_s hL
      unfold b_X10_adopt_1 at hF
      refine lv_iload_n hx hb dX10_adopt_59 rfl (lv_at hl 1 rfl) ?_
      refine lv_bipush (v := (10 : Int32)) hx hb dX10_adopt_60 (by decide) ?_
      refine w_ilt_f (tgt := 101) hx hb dX10_adopt_62 (by decide) (fun c12 => ?_) (fun c12 => ?_)
      · replace hF := ifn c12 hF
        obtain rfl := se1 hF
        subst hL
        exact Jr11 _ _ _ hH (lv_sub hl [0] rfl)
      · replace hF := ifp c12 hF
        refine lv_aload_n hx hb dX10_adopt_65 rfl (lv_at hl 0 rfl) ?_
        refine w_getr X hH hk0 fs_10_16 lk_10_33 dX10_adopt_66 ?_
        refine lv_iload_n hx hb dX10_adopt_69 rfl (lv_at hl 1 rfl) ?_
        refine lv_aload_n hx hb dX10_adopt_70 rfl (lv_at hl 0 rfl) ?_
        refine w_getr X hH hk0 fs_10_16 lk_10_33 dX10_adopt_71 ?_
        refine lv_bipush (v := (10 : Int32)) hx hb dX10_adopt_74 (by decide) ?_
        refine lv_iload_n hx hb dX10_adopt_76 rfl (lv_at hl 1 rfl) ?_
        refine lv_iadd hx hb dX10_adopt_77 ?_
        obtain ⟨x13, h13, hF⟩ := ob hF
        refine w_iald X hH h13 (rt_M_10_16 hk0) dX10_adopt_78 ?_
        obtain ⟨w14, h14, hF⟩ := ob hF
        refine w_iast X hH h14 (rt_M_10_16 hk0) dX10_adopt_79 (fun H locs hH => ?_)
        refine lv_aload_n hx hb dX10_adopt_80 rfl (lv_at hl 0 rfl) ?_
        refine w_getr X hH hk0 fs_10_17 lk_10_36 dX10_adopt_81 ?_
        refine lv_iload_n hx hb dX10_adopt_84 rfl (lv_at hl 1 rfl) ?_
        refine lv_aload_n hx hb dX10_adopt_85 rfl (lv_at hl 0 rfl) ?_
        refine w_getr X hH hk0 fs_10_17 lk_10_36 dX10_adopt_86 ?_
        refine lv_bipush (v := (10 : Int32)) hx hb dX10_adopt_89 (by decide) ?_
        refine lv_iload_n hx hb dX10_adopt_91 rfl (lv_at hl 1 rfl) ?_
        refine lv_iadd hx hb dX10_adopt_92 ?_
        obtain ⟨x15, h15, hF⟩ := ob hF
        refine w_iald X hH h15 (rt_M_10_17 hk0) dX10_adopt_93 ?_
        obtain ⟨w16, h16, hF⟩ := ob hF
        refine w_iast X hH h16 (rt_M_10_17 hk0) dX10_adopt_94 (fun H locs hH => ?_)
        refine lv_iinc (v := (s10.1 + (1 : Int32))) (lv' := [(1, .int ((s10.1 + (1 : Int32)))), (0, .ref (g.2.2 (k0)))]) hx hb dX10_adopt_95 hl (k := 1) rfl rfl (by decide) rfl (fun ls hl => ?_)
        refine lv_goto (tgt := 59) hx hb dX10_adopt_98 (by decide) ?_
        obtain rfl := se1 hF
        exact ih _ hL _ _ _ hH (lv_sub hl [1, 0] rfl)
  exact Lr11 NF _ hLr11 _ _ _ hH (lv_sub hl [1, 0] rfl)

theorem dX10_isEnabled_0 : decode cX10_isEnabled 0 = .ok (.aload_n 0, 1) := by decide +kernel
theorem dX10_isEnabled_1 : decode cX10_isEnabled 1 = .ok (.getfield 39, 3) := by decide +kernel
theorem dX10_isEnabled_4 : decode cX10_isEnabled 4 = .ok (.iconst 1, 1) := by decide +kernel
theorem dX10_isEnabled_5 : decode cX10_isEnabled 5 = .ok (.iaload, 1) := by decide +kernel
theorem dX10_isEnabled_6 : decode cX10_isEnabled 6 = .ok (.iload_n 1, 1) := by decide +kernel
theorem dX10_isEnabled_7 : decode cX10_isEnabled 7 = .ok (.invokestatic 210, 3) := by decide +kernel
theorem dX10_isEnabled_10 : decode cX10_isEnabled 10 = .ok (.ireturn, 1) := by decide +kernel
set_option maxHeartbeats 4000000 in
set_option maxRecDepth 100000 in
theorem c_X10_isEnabled {l : Launch} {g : Gh} {w : Wd} {k0 : Nat} {v_c : Int32} {rz : Bool} (hF : f_X10_isEnabled w k0 v_c = some rz) (hk0 : zct zM k0 = 10) : Met l yX10_isEnabled (Cond.code yX10_isEnabled cX10_isEnabled 2 (some .boolean) :: TT) (rmd 1) (Pcw zM g w [.ref (g.2.2 k0), .int (v_c)]) (Qw zM g w (some (.int (bI (rz))))) 0 0 (zA zM g) := by
  refine mt_start (by decide) (Nat.le_of_ble_eq_true rfl) ?_
  intro p e s m args below meth c H locs ls X hr hl hH
  have hx := X.1
  have hb := X.2.1
  have hml := X.2.2.1
  have hown := X.2.2.2.1
  have ht := X.2.2.2.2.1
  have hl : lv_has ls 2 [(0, .ref (g.2.2 (k0))), (1, .int (v_c))] := hl
  unfold f_X10_isEnabled at hF
  refine lv_aload_n hx hb dX10_isEnabled_0 rfl (lv_at hl 0 rfl) ?_
  refine w_getr X hH hk0 fs_10_18 lk_10_39 dX10_isEnabled_1 ?_
  refine lv_iconst (v := (1 : Int32)) hx hb dX10_isEnabled_4 (by decide) ?_
  obtain ⟨x1, h1, hF⟩ := ob hF
  refine w_iald X hH h1 (rt_M_10_18 hk0) dX10_isEnabled_5 ?_
  refine lv_iload_n hx hb dX10_isEnabled_6 rfl (lv_at hl 1 rfl) ?_
  refine w_callS (As := [.int (x1), .int (v_c)]) (rest := []) (st1 := [.int (bI ((f_X10_has (x1) (v_c))))]) X hH (c_X10_has (l := l) (g := g) (w := w) (v_set := x1) (v_k := v_c) rfl) (Or.inl tw_5_41) ms_X10_has tw_5_42 ⟨Nat.le_of_ble_eq_true rfl, Nat.le_of_ble_eq_true rfl⟩ rfl rfl hl.1 (Nat.le_of_ble_eq_true rfl) dX10_isEnabled_7 ⟨Nat.le_refl _, Nat.le_refl _⟩ rfl (fun H locs hH => ?_)
  obtain rfl := se1 hF
  exact w_zret X hH hr dX10_isEnabled_10
