theorem dX10_undo_0 : decode cX10_undo 0 = .ok (.aload_n 0, 1) := by decide +kernel
theorem dX10_undo_1 : decode cX10_undo 1 = .ok (.iconst 0, 1) := by decide +kernel
theorem dX10_undo_2 : decode cX10_undo 2 = .ok (.putfield 85, 3) := by decide +kernel
theorem dX10_undo_5 : decode cX10_undo 5 = .ok (.aload_n 0, 1) := by decide +kernel
theorem dX10_undo_6 : decode cX10_undo 6 = .ok (.getfield 200, 3) := by decide +kernel
theorem dX10_undo_9 : decode cX10_undo 9 = .ok (.ifCond .ne 6, 3) := by decide +kernel
theorem dX10_undo_12 : decode cX10_undo 12 = .ok (.bipush (-2), 2) := by decide +kernel
theorem dX10_undo_14 : decode cX10_undo 14 = .ok (.ireturn, 1) := by decide +kernel
theorem dX10_undo_15 : decode cX10_undo 15 = .ok (.aload_n 0, 1) := by decide +kernel
theorem dX10_undo_16 : decode cX10_undo 16 = .ok (.dup, 1) := by decide +kernel
theorem dX10_undo_17 : decode cX10_undo 17 = .ok (.getfield 200, 3) := by decide +kernel
theorem dX10_undo_20 : decode cX10_undo 20 = .ok (.iconst 1, 1) := by decide +kernel
theorem dX10_undo_21 : decode cX10_undo 21 = .ok (.isub, 1) := by decide +kernel
theorem dX10_undo_22 : decode cX10_undo 22 = .ok (.putfield 200, 3) := by decide +kernel
theorem dX10_undo_25 : decode cX10_undo 25 = .ok (.iconst 0, 1) := by decide +kernel
theorem dX10_undo_26 : decode cX10_undo 26 = .ok (.istore_n 1, 1) := by decide +kernel
theorem dX10_undo_27 : decode cX10_undo 27 = .ok (.iload_n 1, 1) := by decide +kernel
theorem dX10_undo_28 : decode cX10_undo 28 = .ok (.bipush 122, 2) := by decide +kernel
theorem dX10_undo_30 : decode cX10_undo 30 = .ok (.if_icmp .ge 29, 3) := by decide +kernel
theorem dX10_undo_33 : decode cX10_undo 33 = .ok (.aload_n 0, 1) := by decide +kernel
theorem dX10_undo_34 : decode cX10_undo 34 = .ok (.getfield 39, 3) := by decide +kernel
theorem dX10_undo_37 : decode cX10_undo 37 = .ok (.iload_n 1, 1) := by decide +kernel
theorem dX10_undo_38 : decode cX10_undo 38 = .ok (.aload_n 0, 1) := by decide +kernel
theorem dX10_undo_39 : decode cX10_undo 39 = .ok (.getfield 45, 3) := by decide +kernel
theorem dX10_undo_42 : decode cX10_undo 42 = .ok (.bipush 122, 2) := by decide +kernel
theorem dX10_undo_44 : decode cX10_undo 44 = .ok (.aload_n 0, 1) := by decide +kernel
theorem dX10_undo_45 : decode cX10_undo 45 = .ok (.getfield 200, 3) := by decide +kernel
theorem dX10_undo_48 : decode cX10_undo 48 = .ok (.imul, 1) := by decide +kernel
theorem dX10_undo_49 : decode cX10_undo 49 = .ok (.iload_n 1, 1) := by decide +kernel
theorem dX10_undo_50 : decode cX10_undo 50 = .ok (.iadd, 1) := by decide +kernel
theorem dX10_undo_51 : decode cX10_undo 51 = .ok (.iaload, 1) := by decide +kernel
theorem dX10_undo_52 : decode cX10_undo 52 = .ok (.iastore, 1) := by decide +kernel
theorem dX10_undo_53 : decode cX10_undo 53 = .ok (.iinc 1 1, 3) := by decide +kernel
theorem dX10_undo_56 : decode cX10_undo 56 = .ok (.goto (-29), 3) := by decide +kernel
theorem dX10_undo_59 : decode cX10_undo 59 = .ok (.aload_n 0, 1) := by decide +kernel
theorem dX10_undo_60 : decode cX10_undo 60 = .ok (.invokevirtual 82, 3) := by decide +kernel
theorem dX10_undo_63 : decode cX10_undo 63 = .ok (.aload_n 0, 1) := by decide +kernel
theorem dX10_undo_64 : decode cX10_undo 64 = .ok (.getfield 200, 3) := by decide +kernel
theorem dX10_undo_67 : decode cX10_undo 67 = .ok (.ireturn, 1) := by decide +kernel
set_option maxHeartbeats 4000000 in
set_option maxRecDepth 100000 in
theorem c_X10_undo {l : Launch} {g : Gh} {w : Wd} {k0 : Nat} {rz : Int32} {wz : Wd} (hF : f_X10_undo w k0 = some (rz, wz)) (hk0 : zct zM k0 = 10) : Met l yX10_undo (Cond.code yX10_undo cX10_undo 2 (some .int) :: TT) (rmd 3) (Pcw zM g w [.ref (g.2.2 k0)]) (Qw zM g wz (some (.int (rz)))) 0 0 (zA zM g) := by
  refine mt_start (by decide) (Nat.le_of_ble_eq_true rfl) ?_
  intro p e s m args below meth c H locs ls X hr hl hH
  have hx := X.1
  have hb := X.2.1
  have hml := X.2.2.1
  have hown := X.2.2.2.1
  have ht := X.2.2.2.2.1
  have hl : lv_has ls 2 [(0, .ref (g.2.2 (k0)))] := hl
  unfold f_X10_undo at hF
  refine lv_aload_n hx hb dX10_undo_0 rfl (lv_at hl 0 rfl) ?_
  refine lv_iconst (v := (0 : Int32)) hx hb dX10_undo_1 (by decide) ?_
  obtain ⟨w1, h1, hF⟩ := ob hF
  refine w_puti X hH h1 hk0 fs_10_0 nf_10_0 lk_10_85 dX10_undo_2 (fun H locs hH => ?_)
  refine lv_aload_n hx hb dX10_undo_5 rfl (lv_at hl 0 rfl) ?_
  refine w_geti X hH hk0 fs_10_21 lk_10_200 dX10_undo_6 ?_
  refine w_zeq_f (tgt := 15) hx hb dX10_undo_9 (by decide) (fun c2 => ?_) (fun c2 => ?_)
  · replace hF := ifn c2 hF
    refine lv_aload_n hx hb dX10_undo_15 rfl (lv_at hl 0 rfl) ?_
    refine lv_dup hx hb dX10_undo_16 rfl ?_
    refine w_geti X hH hk0 fs_10_21 lk_10_200 dX10_undo_17 ?_
    refine lv_iconst (v := (1 : Int32)) hx hb dX10_undo_20 (by decide) ?_
    refine lv_isub hx hb dX10_undo_21 ?_
    obtain ⟨w3, h3, hF⟩ := ob hF
    refine w_puti X hH h3 hk0 fs_10_21 nf_10_21 lk_10_200 dX10_undo_22 (fun H locs hH => ?_)
    refine lv_iconst (v := (0 : Int32)) hx hb dX10_undo_25 (by decide) ?_
    refine lv_istore_n (lv' := [(1, .int ((0 : Int32))), (0, .ref (g.2.2 (k0)))]) hx hb dX10_undo_26 rfl hl (by decide) rfl (fun ls hl => ?_)
    obtain ⟨r5, hLr5, hF⟩ := ob hF
    have Jr5 : ∀ (H : Heap) (locs : List Loc) (ls : Array Slot), HW zM g r5 s.heap H locs → lv_has ls 2 [(0, .ref (g.2.2 (k0)))] → W p l e (rmd 3) s m args below meth c H locs 0 0 (MQ below (Qw zM g wz (some (.int (rz)))) args s 0 0 (zA zM g)) (F0 m 59 ls []) := by
      intro H locs ls hH hl
      refine lv_aload_n hx hb dX10_undo_59 rfl (lv_at hl 0 rfl) ?_
      obtain ⟨w9, h9, hF⟩ := ob hF
      refine w_callV (As := []) (k := k0) (rest := []) (st1 := []) X hH (c_X10_solve (l := l) (g := g) (w := r5) (k0 := k0) h9 hk0) (Or.inl tw_5_33) ms_X10_solve im_X10_solve hk0 cn_10 ⟨Nat.le_of_ble_eq_true rfl, Nat.le_of_ble_eq_true rfl⟩ rfl rfl hl.1 (Nat.le_of_ble_eq_true rfl) dX10_undo_60 ⟨Nat.le_refl _, Nat.le_refl _⟩ rfl (fun H locs hH => ?_)
      refine lv_aload_n hx hb dX10_undo_63 rfl (lv_at hl 0 rfl) ?_
      refine w_geti X hH hk0 fs_10_21 lk_10_200 dX10_undo_64 ?_
      obtain ⟨rfl, rfl⟩ := se2 hF
      exact w_iret X hH hr dX10_undo_67
    have Lr5 : ∀ (n : Nat) (s4 : Int32 × Wd), lp (b_X10_undo_1 k0) n s4 = some r5 → ∀ (H : Heap) (locs : List Loc) (ls : Array Slot), HW zM g s4.2 s.heap H locs → lv_has ls 2 [(0, .ref (g.2.2 (k0))), (1, .int (s4.1))] → W p l e (rmd 3) s m args below meth c H locs 0 0 (MQ below (Qw zM g wz (some (.int (rz)))) args s 0 0 (zA zM g)) (F0 m 27 ls []) := by
      intro n
      induction n with
      | zero => intro s4 hL; exact lp_0 hL
      | succ n ih =>
        intro s4 hL H locs ls hH hl
        obtain ⟨bb, hF, hL⟩ := lp_s hL
        unfold b_X10_undo_1 at hF
        refine lv_iload_n hx hb dX10_undo_27 rfl (lv_at hl 1 rfl) ?_
        refine lv_bipush (v := (122 : Int32)) hx hb dX10_undo_28 (by decide) ?_
        refine w_ilt_f (tgt := 59) hx hb dX10_undo_30 (by decide) (fun c6 => ?_) (fun c6 => ?_)
        · replace hF := ifn c6 hF
          obtain rfl := se1 hF
          subst hL
          exact Jr5 _ _ _ hH (lv_sub hl [0] rfl)
        · replace hF := ifp c6 hF
          refine lv_aload_n hx hb dX10_undo_33 rfl (lv_at hl 0 rfl) ?_
          refine w_getr X hH hk0 fs_10_18 lk_10_39 dX10_undo_34 ?_
          refine lv_iload_n hx hb dX10_undo_37 rfl (lv_at hl 1 rfl) ?_
          refine lv_aload_n hx hb dX10_undo_38 rfl (lv_at hl 0 rfl) ?_
          refine w_getr X hH hk0 fs_10_20 lk_10_45 dX10_undo_39 ?_
          refine lv_bipush (v := (122 : Int32)) hx hb dX10_undo_42 (by decide) ?_
          refine lv_aload_n hx hb dX10_undo_44 rfl (lv_at hl 0 rfl) ?_
          refine w_geti X hH hk0 fs_10_21 lk_10_200 dX10_undo_45 ?_
          refine lv_imul hx hb dX10_undo_48 ?_
          refine lv_iload_n hx hb dX10_undo_49 rfl (lv_at hl 1 rfl) ?_
          refine lv_iadd hx hb dX10_undo_50 ?_
          obtain ⟨x7, h7, hF⟩ := ob hF
          refine w_iald X hH h7 (rt_M_10_20 hk0) dX10_undo_51 ?_
          obtain ⟨w8, h8, hF⟩ := ob hF
          refine w_iast X hH h8 (rt_M_10_18 hk0) dX10_undo_52 (fun H locs hH => ?_)
          refine lv_iinc (v := (s4.1 + (1 : Int32))) (lv' := [(1, .int ((s4.1 + (1 : Int32)))), (0, .ref (g.2.2 (k0)))]) hx hb dX10_undo_53 hl (k := 1) rfl rfl (by decide) rfl (fun ls hl => ?_)
          refine lv_goto (tgt := 27) hx hb dX10_undo_56 (by decide) ?_
          obtain rfl := se1 hF
          exact ih _ hL _ _ _ hH (lv_sub hl [1, 0] rfl)
    exact Lr5 NF _ hLr5 _ _ _ hH (lv_sub hl [1, 0] rfl)
  · replace hF := ifp c2 hF
    refine lv_bipush (v := (-2 : Int32)) hx hb dX10_undo_12 (by decide) ?_
    obtain ⟨rfl, rfl⟩ := se2 hF
    exact w_iret X hH hr dX10_undo_14

theorem dX10_undoDepth_0 : decode cX10_undoDepth 0 = .ok (.aload_n 0, 1) := by decide +kernel
theorem dX10_undoDepth_1 : decode cX10_undoDepth 1 = .ok (.iconst 0, 1) := by decide +kernel
theorem dX10_undoDepth_2 : decode cX10_undoDepth 2 = .ok (.putfield 85, 3) := by decide +kernel
theorem dX10_undoDepth_5 : decode cX10_undoDepth 5 = .ok (.aload_n 0, 1) := by decide +kernel
theorem dX10_undoDepth_6 : decode cX10_undoDepth 6 = .ok (.getfield 200, 3) := by decide +kernel
theorem dX10_undoDepth_9 : decode cX10_undoDepth 9 = .ok (.ireturn, 1) := by decide +kernel
set_option maxHeartbeats 4000000 in
set_option maxRecDepth 100000 in
theorem c_X10_undoDepth {l : Launch} {g : Gh} {w : Wd} {k0 : Nat} {rz : Int32} {wz : Wd} (hF : f_X10_undoDepth w k0 = some (rz, wz)) (hk0 : zct zM k0 = 10) : Met l yX10_undoDepth (Cond.code yX10_undoDepth cX10_undoDepth 1 (some .int) :: TT) (rmd 0) (Pcw zM g w [.ref (g.2.2 k0)]) (Qw zM g wz (some (.int (rz)))) 0 0 (zA zM g) := by
  refine mt_start (by decide) (Nat.le_of_ble_eq_true rfl) ?_
  intro p e s m args below meth c H locs ls X hr hl hH
  have hx := X.1
  have hb := X.2.1
  have hml := X.2.2.1
  have hown := X.2.2.2.1
  have ht := X.2.2.2.2.1
  have hl : lv_has ls 1 [(0, .ref (g.2.2 (k0)))] := hl
  unfold f_X10_undoDepth at hF
  refine lv_aload_n hx hb dX10_undoDepth_0 rfl (lv_at hl 0 rfl) ?_
  refine lv_iconst (v := (0 : Int32)) hx hb dX10_undoDepth_1 (by decide) ?_
  obtain ⟨w1, h1, hF⟩ := ob hF
  refine w_puti X hH h1 hk0 fs_10_0 nf_10_0 lk_10_85 dX10_undoDepth_2 (fun H locs hH => ?_)
  refine lv_aload_n hx hb dX10_undoDepth_5 rfl (lv_at hl 0 rfl) ?_
  refine w_geti X hH hk0 fs_10_21 lk_10_200 dX10_undoDepth_6 ?_
  obtain ⟨rfl, rfl⟩ := se2 hF
  exact w_iret X hH hr dX10_undoDepth_9

theorem dX10_saveSnapshot_0 : decode cX10_saveSnapshot 0 = .ok (.aload_n 0, 1) := by decide +kernel
theorem dX10_saveSnapshot_1 : decode cX10_saveSnapshot 1 = .ok (.iconst 0, 1) := by decide +kernel
theorem dX10_saveSnapshot_2 : decode cX10_saveSnapshot 2 = .ok (.putfield 85, 3) := by decide +kernel
theorem dX10_saveSnapshot_5 : decode cX10_saveSnapshot 5 = .ok (.iload_n 1, 1) := by decide +kernel
theorem dX10_saveSnapshot_6 : decode cX10_saveSnapshot 6 = .ok (.i2l, 1) := by decide +kernel
theorem dX10_saveSnapshot_7 : decode cX10_saveSnapshot 7 = .ok (.lconst 0, 1) := by decide +kernel
theorem dX10_saveSnapshot_8 : decode cX10_saveSnapshot 8 = .ok (.lconst 1, 1) := by decide +kernel
theorem dX10_saveSnapshot_9 : decode cX10_saveSnapshot 9 = .ok (.invokestatic 120, 3) := by decide +kernel
theorem dX10_saveSnapshot_12 : decode cX10_saveSnapshot 12 = .ok (.ifCond .ne 5, 3) := by decide +kernel
theorem dX10_saveSnapshot_15 : decode cX10_saveSnapshot 15 = .ok (.iconst 0, 1) := by decide +kernel
theorem dX10_saveSnapshot_16 : decode cX10_saveSnapshot 16 = .ok (.ireturn, 1) := by decide +kernel
theorem dX10_saveSnapshot_17 : decode cX10_saveSnapshot 17 = .ok (.iconst 0, 1) := by decide +kernel
theorem dX10_saveSnapshot_18 : decode cX10_saveSnapshot 18 = .ok (.istore_n 2, 1) := by decide +kernel
theorem dX10_saveSnapshot_19 : decode cX10_saveSnapshot 19 = .ok (.iload_n 2, 1) := by decide +kernel
theorem dX10_saveSnapshot_20 : decode cX10_saveSnapshot 20 = .ok (.bipush 122, 2) := by decide +kernel
theorem dX10_saveSnapshot_22 : decode cX10_saveSnapshot 22 = .ok (.if_icmp .ge 26, 3) := by decide +kernel
theorem dX10_saveSnapshot_25 : decode cX10_saveSnapshot 25 = .ok (.aload_n 0, 1) := by decide +kernel
theorem dX10_saveSnapshot_26 : decode cX10_saveSnapshot 26 = .ok (.getfield 48, 3) := by decide +kernel
theorem dX10_saveSnapshot_29 : decode cX10_saveSnapshot 29 = .ok (.bipush 122, 2) := by decide +kernel
theorem dX10_saveSnapshot_31 : decode cX10_saveSnapshot 31 = .ok (.iload_n 1, 1) := by decide +kernel
theorem dX10_saveSnapshot_32 : decode cX10_saveSnapshot 32 = .ok (.imul, 1) := by decide +kernel
theorem dX10_saveSnapshot_33 : decode cX10_saveSnapshot 33 = .ok (.iload_n 2, 1) := by decide +kernel
theorem dX10_saveSnapshot_34 : decode cX10_saveSnapshot 34 = .ok (.iadd, 1) := by decide +kernel
theorem dX10_saveSnapshot_35 : decode cX10_saveSnapshot 35 = .ok (.aload_n 0, 1) := by decide +kernel
theorem dX10_saveSnapshot_36 : decode cX10_saveSnapshot 36 = .ok (.getfield 39, 3) := by decide +kernel
theorem dX10_saveSnapshot_39 : decode cX10_saveSnapshot 39 = .ok (.iload_n 2, 1) := by decide +kernel
theorem dX10_saveSnapshot_40 : decode cX10_saveSnapshot 40 = .ok (.iaload, 1) := by decide +kernel
theorem dX10_saveSnapshot_41 : decode cX10_saveSnapshot 41 = .ok (.iastore, 1) := by decide +kernel
theorem dX10_saveSnapshot_42 : decode cX10_saveSnapshot 42 = .ok (.iinc 2 1, 3) := by decide +kernel
theorem dX10_saveSnapshot_45 : decode cX10_saveSnapshot 45 = .ok (.goto (-26), 3) := by decide +kernel
theorem dX10_saveSnapshot_48 : decode cX10_saveSnapshot 48 = .ok (.aload_n 0, 1) := by decide +kernel
theorem dX10_saveSnapshot_49 : decode cX10_saveSnapshot 49 = .ok (.getfield 51, 3) := by decide +kernel
theorem dX10_saveSnapshot_52 : decode cX10_saveSnapshot 52 = .ok (.iload_n 1, 1) := by decide +kernel
theorem dX10_saveSnapshot_53 : decode cX10_saveSnapshot 53 = .ok (.iconst 1, 1) := by decide +kernel
theorem dX10_saveSnapshot_54 : decode cX10_saveSnapshot 54 = .ok (.bastore, 1) := by decide +kernel
theorem dX10_saveSnapshot_55 : decode cX10_saveSnapshot 55 = .ok (.iconst 1, 1) := by decide +kernel
theorem dX10_saveSnapshot_56 : decode cX10_saveSnapshot 56 = .ok (.ireturn, 1) := by decide +kernel
set_option maxHeartbeats 4000000 in
set_option maxRecDepth 100000 in
theorem c_X10_saveSnapshot {l : Launch} {g : Gh} {w : Wd} {k0 : Nat} {v_slot : Int32} {rz : Bool} {wz : Wd} (hF : f_X10_saveSnapshot w k0 v_slot = some (rz, wz)) (hk0 : zct zM k0 = 10) : Met l yX10_saveSnapshot (Cond.code yX10_saveSnapshot cX10_saveSnapshot 3 (some .boolean) :: TT) (rmd 1) (Pcw zM g w [.ref (g.2.2 k0), .int (v_slot)]) (Qw zM g wz (some (.int (bI (rz))))) 0 0 (zA zM g) := by
  refine mt_start (by decide) (Nat.le_of_ble_eq_true rfl) ?_
  intro p e s m args below meth c H locs ls X hr hl hH
  have hx := X.1
  have hb := X.2.1
  have hml := X.2.2.1
  have hown := X.2.2.2.1
  have ht := X.2.2.2.2.1
  have hl : lv_has ls 3 [(0, .ref (g.2.2 (k0))), (1, .int (v_slot))] := hl
  unfold f_X10_saveSnapshot at hF
  refine lv_aload_n hx hb dX10_saveSnapshot_0 rfl (lv_at hl 0 rfl) ?_
  refine lv_iconst (v := (0 : Int32)) hx hb dX10_saveSnapshot_1 (by decide) ?_
  obtain ⟨w1, h1, hF⟩ := ob hF
  refine w_puti X hH h1 hk0 fs_10_0 nf_10_0 lk_10_85 dX10_saveSnapshot_2 (fun H locs hH => ?_)
  refine lv_iload_n hx hb dX10_saveSnapshot_5 rfl (lv_at hl 1 rfl) ?_
  refine w_i2l hx hb dX10_saveSnapshot_6 ?_
  refine lv_lconst (v := 0) hx hb dX10_saveSnapshot_7 (by decide) ?_
  refine lv_lconst (v := 1) hx hb dX10_saveSnapshot_8 (by decide) ?_
  refine w_callS (As := [.long ((v_slot).toInt64), .long ((0 : Int64)), .long ((1 : Int64))]) (rest := []) (st1 := [.int (bI ((f_X10_within ((v_slot).toInt64) ((0 : Int64)) ((1 : Int64)))))]) X hH (c_X10_within (l := l) (g := g) (w := w1) (v_v := (v_slot).toInt64) (v_low := (0 : Int64)) (v_high := (1 : Int64)) rfl) (Or.inl tw_5_223) ms_X10_within tw_5_224 ⟨Nat.le_of_ble_eq_true rfl, Nat.le_of_ble_eq_true rfl⟩ rfl rfl hl.1 (Nat.le_of_ble_eq_true rfl) dX10_saveSnapshot_9 ⟨Nat.le_refl _, Nat.le_refl _⟩ rfl (fun H locs hH => ?_)
  refine w_b_t (tgt := 17) hx hb dX10_saveSnapshot_12 (by decide) (fun c2 => ?_) (fun c2 => ?_)
  · replace hF := ifn (fun z => z c2) hF
    refine lv_iconst (v := (0 : Int32)) hx hb dX10_saveSnapshot_17 (by decide) ?_
    refine lv_istore_n (lv' := [(2, .int ((0 : Int32))), (0, .ref (g.2.2 (k0))), (1, .int (v_slot))]) hx hb dX10_saveSnapshot_18 rfl hl (by decide) rfl (fun ls hl => ?_)
    obtain ⟨r4, hLr4, hF⟩ := ob hF
    have Jr4 : ∀ (H : Heap) (locs : List Loc) (ls : Array Slot), HW zM g r4 s.heap H locs → lv_has ls 3 [(0, .ref (g.2.2 (k0))), (1, .int (v_slot))] → W p l e (rmd 1) s m args below meth c H locs 0 0 (MQ below (Qw zM g wz (some (.int (bI (rz))))) args s 0 0 (zA zM g)) (F0 m 48 ls []) := by
      intro H locs ls hH hl
      refine lv_aload_n hx hb dX10_saveSnapshot_48 rfl (lv_at hl 0 rfl) ?_
      refine w_getr X hH hk0 fs_10_23 lk_10_51 dX10_saveSnapshot_49 ?_
      refine lv_iload_n hx hb dX10_saveSnapshot_52 rfl (lv_at hl 1 rfl) ?_
      refine lv_iconst (v := bI true) hx hb dX10_saveSnapshot_53 (by decide) ?_
      obtain ⟨w8, h8, hF⟩ := ob hF
      refine w_zast X hH h8 (rt_M_10_23 hk0) dX10_saveSnapshot_54 (fun H locs hH => ?_)
      refine lv_iconst (v := bI true) hx hb dX10_saveSnapshot_55 (by decide) ?_
      obtain ⟨rfl, rfl⟩ := se2 hF
      exact w_zret X hH hr dX10_saveSnapshot_56
    have Lr4 : ∀ (n : Nat) (s3 : Int32 × Wd), lp (b_X10_saveSnapshot_1 k0 v_slot) n s3 = some r4 → ∀ (H : Heap) (locs : List Loc) (ls : Array Slot), HW zM g s3.2 s.heap H locs → lv_has ls 3 [(0, .ref (g.2.2 (k0))), (1, .int (v_slot)), (2, .int (s3.1))] → W p l e (rmd 1) s m args below meth c H locs 0 0 (MQ below (Qw zM g wz (some (.int (bI (rz))))) args s 0 0 (zA zM g)) (F0 m 19 ls []) := by
      intro n
      induction n with
      | zero => intro s3 hL; exact lp_0 hL
      | succ n ih =>
        intro s3 hL H locs ls hH hl
        obtain ⟨bb, hF, hL⟩ := lp_s hL
        unfold b_X10_saveSnapshot_1 at hF
        refine lv_iload_n hx hb dX10_saveSnapshot_19 rfl (lv_at hl 2 rfl) ?_
        refine lv_bipush (v := (122 : Int32)) hx hb dX10_saveSnapshot_20 (by decide) ?_
        refine w_ilt_f (tgt := 48) hx hb dX10_saveSnapshot_22 (by decide) (fun c5 => ?_) (fun c5 => ?_)
        · replace hF := ifn c5 hF
          obtain rfl := se1 hF
          subst hL
          exact Jr4 _ _ _ hH (lv_sub hl [0, 1] rfl)
        · replace hF := ifp c5 hF
          refine lv_aload_n hx hb dX10_saveSnapshot_25 rfl (lv_at hl 0 rfl) ?_
          refine w_getr X hH hk0 fs_10_22 lk_10_48 dX10_saveSnapshot_26 ?_
          refine lv_bipush (v := (122 : Int32)) hx hb dX10_saveSnapshot_29 (by decide) ?_
          refine lv_iload_n hx hb dX10_saveSnapshot_31 rfl (lv_at hl 1 rfl) ?_
          refine lv_imul hx hb dX10_saveSnapshot_32 ?_
          refine lv_iload_n hx hb dX10_saveSnapshot_33 rfl (lv_at hl 2 rfl) ?_
          refine lv_iadd hx hb dX10_saveSnapshot_34 ?_
          refine lv_aload_n hx hb dX10_saveSnapshot_35 rfl (lv_at hl 0 rfl) ?_
          refine w_getr X hH hk0 fs_10_18 lk_10_39 dX10_saveSnapshot_36 ?_
          refine lv_iload_n hx hb dX10_saveSnapshot_39 rfl (lv_at hl 2 rfl) ?_
          obtain ⟨x6, h6, hF⟩ := ob hF
          refine w_iald X hH h6 (rt_M_10_18 hk0) dX10_saveSnapshot_40 ?_
          obtain ⟨w7, h7, hF⟩ := ob hF
          refine w_iast X hH h7 (rt_M_10_22 hk0) dX10_saveSnapshot_41 (fun H locs hH => ?_)
          refine lv_iinc (v := (s3.1 + (1 : Int32))) (lv' := [(2, .int ((s3.1 + (1 : Int32)))), (0, .ref (g.2.2 (k0))), (1, .int (v_slot))]) hx hb dX10_saveSnapshot_42 hl (k := 2) rfl rfl (by decide) rfl (fun ls hl => ?_)
          refine lv_goto (tgt := 19) hx hb dX10_saveSnapshot_45 (by decide) ?_
          obtain rfl := se1 hF
          exact ih _ hL _ _ _ hH (lv_sub hl [1, 2, 0] rfl)
    exact Lr4 NF _ hLr4 _ _ _ hH (lv_sub hl [1, 2, 0] rfl)
  · replace hF := ifp c2 hF
    refine lv_iconst (v := bI false) hx hb dX10_saveSnapshot_15 (by decide) ?_
    obtain ⟨rfl, rfl⟩ := se2 hF
    exact w_zret X hH hr dX10_saveSnapshot_16

theorem dX10_restoreSnapshot_0 : decode cX10_restoreSnapshot 0 = .ok (.aload_n 0, 1) := by decide +kernel
theorem dX10_restoreSnapshot_1 : decode cX10_restoreSnapshot 1 = .ok (.iconst 0, 1) := by decide +kernel
theorem dX10_restoreSnapshot_2 : decode cX10_restoreSnapshot 2 = .ok (.putfield 85, 3) := by decide +kernel
theorem dX10_restoreSnapshot_5 : decode cX10_restoreSnapshot 5 = .ok (.iload_n 1, 1) := by decide +kernel
theorem dX10_restoreSnapshot_6 : decode cX10_restoreSnapshot 6 = .ok (.i2l, 1) := by decide +kernel
theorem dX10_restoreSnapshot_7 : decode cX10_restoreSnapshot 7 = .ok (.lconst 0, 1) := by decide +kernel
theorem dX10_restoreSnapshot_8 : decode cX10_restoreSnapshot 8 = .ok (.lconst 1, 1) := by decide +kernel
theorem dX10_restoreSnapshot_9 : decode cX10_restoreSnapshot 9 = .ok (.invokestatic 120, 3) := by decide +kernel
theorem dX10_restoreSnapshot_12 : decode cX10_restoreSnapshot 12 = .ok (.ifCond .eq 12, 3) := by decide +kernel
theorem dX10_restoreSnapshot_15 : decode cX10_restoreSnapshot 15 = .ok (.aload_n 0, 1) := by decide +kernel
theorem dX10_restoreSnapshot_16 : decode cX10_restoreSnapshot 16 = .ok (.getfield 51, 3) := by decide +kernel
theorem dX10_restoreSnapshot_19 : decode cX10_restoreSnapshot 19 = .ok (.iload_n 1, 1) := by decide +kernel
theorem dX10_restoreSnapshot_20 : decode cX10_restoreSnapshot 20 = .ok (.baload, 1) := by decide +kernel
theorem dX10_restoreSnapshot_21 : decode cX10_restoreSnapshot 21 = .ok (.ifCond .ne 5, 3) := by decide +kernel
theorem dX10_restoreSnapshot_24 : decode cX10_restoreSnapshot 24 = .ok (.iconst 0, 1) := by decide +kernel
theorem dX10_restoreSnapshot_25 : decode cX10_restoreSnapshot 25 = .ok (.ireturn, 1) := by decide +kernel
theorem dX10_restoreSnapshot_26 : decode cX10_restoreSnapshot 26 = .ok (.iconst 0, 1) := by decide +kernel
theorem dX10_restoreSnapshot_27 : decode cX10_restoreSnapshot 27 = .ok (.istore_n 2, 1) := by decide +kernel
theorem dX10_restoreSnapshot_28 : decode cX10_restoreSnapshot 28 = .ok (.iload_n 2, 1) := by decide +kernel
theorem dX10_restoreSnapshot_29 : decode cX10_restoreSnapshot 29 = .ok (.bipush 122, 2) := by decide +kernel
theorem dX10_restoreSnapshot_31 : decode cX10_restoreSnapshot 31 = .ok (.if_icmp .ge 26, 3) := by decide +kernel
theorem dX10_restoreSnapshot_34 : decode cX10_restoreSnapshot 34 = .ok (.aload_n 0, 1) := by decide +kernel
theorem dX10_restoreSnapshot_35 : decode cX10_restoreSnapshot 35 = .ok (.getfield 39, 3) := by decide +kernel
theorem dX10_restoreSnapshot_38 : decode cX10_restoreSnapshot 38 = .ok (.iload_n 2, 1) := by decide +kernel
theorem dX10_restoreSnapshot_39 : decode cX10_restoreSnapshot 39 = .ok (.aload_n 0, 1) := by decide +kernel
theorem dX10_restoreSnapshot_40 : decode cX10_restoreSnapshot 40 = .ok (.getfield 48, 3) := by decide +kernel
theorem dX10_restoreSnapshot_43 : decode cX10_restoreSnapshot 43 = .ok (.bipush 122, 2) := by decide +kernel
theorem dX10_restoreSnapshot_45 : decode cX10_restoreSnapshot 45 = .ok (.iload_n 1, 1) := by decide +kernel
theorem dX10_restoreSnapshot_46 : decode cX10_restoreSnapshot 46 = .ok (.imul, 1) := by decide +kernel
theorem dX10_restoreSnapshot_47 : decode cX10_restoreSnapshot 47 = .ok (.iload_n 2, 1) := by decide +kernel
theorem dX10_restoreSnapshot_48 : decode cX10_restoreSnapshot 48 = .ok (.iadd, 1) := by decide +kernel
theorem dX10_restoreSnapshot_49 : decode cX10_restoreSnapshot 49 = .ok (.iaload, 1) := by decide +kernel
theorem dX10_restoreSnapshot_50 : decode cX10_restoreSnapshot 50 = .ok (.iastore, 1) := by decide +kernel
theorem dX10_restoreSnapshot_51 : decode cX10_restoreSnapshot 51 = .ok (.iinc 2 1, 3) := by decide +kernel
theorem dX10_restoreSnapshot_54 : decode cX10_restoreSnapshot 54 = .ok (.goto (-26), 3) := by decide +kernel
theorem dX10_restoreSnapshot_57 : decode cX10_restoreSnapshot 57 = .ok (.aload_n 0, 1) := by decide +kernel
theorem dX10_restoreSnapshot_58 : decode cX10_restoreSnapshot 58 = .ok (.iconst 0, 1) := by decide +kernel
theorem dX10_restoreSnapshot_59 : decode cX10_restoreSnapshot 59 = .ok (.putfield 200, 3) := by decide +kernel
theorem dX10_restoreSnapshot_62 : decode cX10_restoreSnapshot 62 = .ok (.aload_n 0, 1) := by decide +kernel
theorem dX10_restoreSnapshot_63 : decode cX10_restoreSnapshot 63 = .ok (.invokevirtual 82, 3) := by decide +kernel
theorem dX10_restoreSnapshot_66 : decode cX10_restoreSnapshot 66 = .ok (.iconst 1, 1) := by decide +kernel
theorem dX10_restoreSnapshot_67 : decode cX10_restoreSnapshot 67 = .ok (.ireturn, 1) := by decide +kernel
set_option maxHeartbeats 4000000 in
set_option maxRecDepth 100000 in
theorem c_X10_restoreSnapshot {l : Launch} {g : Gh} {w : Wd} {k0 : Nat} {v_slot : Int32} {rz : Bool} {wz : Wd} (hF : f_X10_restoreSnapshot w k0 v_slot = some (rz, wz)) (hk0 : zct zM k0 = 10) : Met l yX10_restoreSnapshot (Cond.code yX10_restoreSnapshot cX10_restoreSnapshot 3 (some .boolean) :: TT) (rmd 3) (Pcw zM g w [.ref (g.2.2 k0), .int (v_slot)]) (Qw zM g wz (some (.int (bI (rz))))) 0 0 (zA zM g) := by
  refine mt_start (by decide) (Nat.le_of_ble_eq_true rfl) ?_
  intro p e s m args below meth c H locs ls X hr hl hH
  have hx := X.1
  have hb := X.2.1
  have hml := X.2.2.1
  have hown := X.2.2.2.1
  have ht := X.2.2.2.2.1
  have hl : lv_has ls 3 [(0, .ref (g.2.2 (k0))), (1, .int (v_slot))] := hl
  unfold f_X10_restoreSnapshot at hF
  refine lv_aload_n hx hb dX10_restoreSnapshot_0 rfl (lv_at hl 0 rfl) ?_
  refine lv_iconst (v := (0 : Int32)) hx hb dX10_restoreSnapshot_1 (by decide) ?_
  obtain ⟨w1, h1, hF⟩ := ob hF
  refine w_puti X hH h1 hk0 fs_10_0 nf_10_0 lk_10_85 dX10_restoreSnapshot_2 (fun H locs hH => ?_)
  obtain ⟨b2, hb2, hF⟩ := ob hF
  have Jb2T : b2 = true → ∀ (H : Heap) (locs : List Loc), HW zM g w1 s.heap H locs → W p l e (rmd 3) s m args below meth c H locs 0 0 (MQ below (Qw zM g wz (some (.int (bI (rz))))) args s 0 0 (zA zM g)) (F0 m 24 ls []) := by
    intro hc H locs hH
    replace hF := ifp hc hF
    refine lv_iconst (v := bI false) hx hb dX10_restoreSnapshot_24 (by decide) ?_
    obtain ⟨rfl, rfl⟩ := se2 hF
    exact w_zret X hH hr dX10_restoreSnapshot_25
  have Jb2F : ¬ (b2 = true) → ∀ (H : Heap) (locs : List Loc), HW zM g w1 s.heap H locs → W p l e (rmd 3) s m args below meth c H locs 0 0 (MQ below (Qw zM g wz (some (.int (bI (rz))))) args s 0 0 (zA zM g)) (F0 m 26 ls []) := by
    intro hc H locs hH
    replace hF := ifn hc hF
    refine lv_iconst (v := (0 : Int32)) hx hb dX10_restoreSnapshot_26 (by decide) ?_
    refine lv_istore_n (lv' := [(2, .int ((0 : Int32))), (0, .ref (g.2.2 (k0))), (1, .int (v_slot))]) hx hb dX10_restoreSnapshot_27 rfl hl (by decide) rfl (fun ls hl => ?_)
    obtain ⟨r7, hLr7, hF⟩ := ob hF
    have Jr7 : ∀ (H : Heap) (locs : List Loc) (ls : Array Slot), HW zM g r7 s.heap H locs → lv_has ls 3 [(0, .ref (g.2.2 (k0))), (1, .int (v_slot))] → W p l e (rmd 3) s m args below meth c H locs 0 0 (MQ below (Qw zM g wz (some (.int (bI (rz))))) args s 0 0 (zA zM g)) (F0 m 57 ls []) := by
      intro H locs ls hH hl
      refine lv_aload_n hx hb dX10_restoreSnapshot_57 rfl (lv_at hl 0 rfl) ?_
      refine lv_iconst (v := (0 : Int32)) hx hb dX10_restoreSnapshot_58 (by decide) ?_
      obtain ⟨w11, h11, hF⟩ := ob hF
      refine w_puti X hH h11 hk0 fs_10_21 nf_10_21 lk_10_200 dX10_restoreSnapshot_59 (fun H locs hH => ?_)
      refine lv_aload_n hx hb dX10_restoreSnapshot_62 rfl (lv_at hl 0 rfl) ?_
      obtain ⟨w12, h12, hF⟩ := ob hF
      refine w_callV (As := []) (k := k0) (rest := []) (st1 := []) X hH (c_X10_solve (l := l) (g := g) (w := w11) (k0 := k0) h12 hk0) (Or.inl tw_5_33) ms_X10_solve im_X10_solve hk0 cn_10 ⟨Nat.le_of_ble_eq_true rfl, Nat.le_of_ble_eq_true rfl⟩ rfl rfl hl.1 (Nat.le_of_ble_eq_true rfl) dX10_restoreSnapshot_63 ⟨Nat.le_refl _, Nat.le_refl _⟩ rfl (fun H locs hH => ?_)
      refine lv_iconst (v := bI true) hx hb dX10_restoreSnapshot_66 (by decide) ?_
      obtain ⟨rfl, rfl⟩ := se2 hF
      exact w_zret X hH hr dX10_restoreSnapshot_67
    have Lr7 : ∀ (n : Nat) (s6 : Int32 × Wd), lp (b_X10_restoreSnapshot_1 k0 v_slot) n s6 = some r7 → ∀ (H : Heap) (locs : List Loc) (ls : Array Slot), HW zM g s6.2 s.heap H locs → lv_has ls 3 [(0, .ref (g.2.2 (k0))), (1, .int (v_slot)), (2, .int (s6.1))] → W p l e (rmd 3) s m args below meth c H locs 0 0 (MQ below (Qw zM g wz (some (.int (bI (rz))))) args s 0 0 (zA zM g)) (F0 m 28 ls []) := by
      intro n
      induction n with
      | zero => intro s6 hL; exact lp_0 hL
      | succ n ih =>
        intro s6 hL H locs ls hH hl
        obtain ⟨bb, hF, hL⟩ := lp_s hL
        unfold b_X10_restoreSnapshot_1 at hF
        refine lv_iload_n hx hb dX10_restoreSnapshot_28 rfl (lv_at hl 2 rfl) ?_
        refine lv_bipush (v := (122 : Int32)) hx hb dX10_restoreSnapshot_29 (by decide) ?_
        refine w_ilt_f (tgt := 57) hx hb dX10_restoreSnapshot_31 (by decide) (fun c8 => ?_) (fun c8 => ?_)
        · replace hF := ifn c8 hF
          obtain rfl := se1 hF
          subst hL
          exact Jr7 _ _ _ hH (lv_sub hl [0, 1] rfl)
        · replace hF := ifp c8 hF
          refine lv_aload_n hx hb dX10_restoreSnapshot_34 rfl (lv_at hl 0 rfl) ?_
          refine w_getr X hH hk0 fs_10_18 lk_10_39 dX10_restoreSnapshot_35 ?_
          refine lv_iload_n hx hb dX10_restoreSnapshot_38 rfl (lv_at hl 2 rfl) ?_
          refine lv_aload_n hx hb dX10_restoreSnapshot_39 rfl (lv_at hl 0 rfl) ?_
          refine w_getr X hH hk0 fs_10_22 lk_10_48 dX10_restoreSnapshot_40 ?_
          refine lv_bipush (v := (122 : Int32)) hx hb dX10_restoreSnapshot_43 (by decide) ?_
          refine lv_iload_n hx hb dX10_restoreSnapshot_45 rfl (lv_at hl 1 rfl) ?_
          refine lv_imul hx hb dX10_restoreSnapshot_46 ?_
          refine lv_iload_n hx hb dX10_restoreSnapshot_47 rfl (lv_at hl 2 rfl) ?_
          refine lv_iadd hx hb dX10_restoreSnapshot_48 ?_
          obtain ⟨x9, h9, hF⟩ := ob hF
          refine w_iald X hH h9 (rt_M_10_22 hk0) dX10_restoreSnapshot_49 ?_
          obtain ⟨w10, h10, hF⟩ := ob hF
          refine w_iast X hH h10 (rt_M_10_18 hk0) dX10_restoreSnapshot_50 (fun H locs hH => ?_)
          refine lv_iinc (v := (s6.1 + (1 : Int32))) (lv' := [(2, .int ((s6.1 + (1 : Int32)))), (0, .ref (g.2.2 (k0))), (1, .int (v_slot))]) hx hb dX10_restoreSnapshot_51 hl (k := 2) rfl rfl (by decide) rfl (fun ls hl => ?_)
          refine lv_goto (tgt := 28) hx hb dX10_restoreSnapshot_54 (by decide) ?_
          obtain rfl := se1 hF
          exact ih _ hL _ _ _ hH (lv_sub hl [1, 2, 0] rfl)
    exact Lr7 NF _ hLr7 _ _ _ hH (lv_sub hl [1, 2, 0] rfl)
  have hF := hb2
  refine lv_iload_n hx hb dX10_restoreSnapshot_5 rfl (lv_at hl 1 rfl) ?_
  refine w_i2l hx hb dX10_restoreSnapshot_6 ?_
  refine lv_lconst (v := 0) hx hb dX10_restoreSnapshot_7 (by decide) ?_
  refine lv_lconst (v := 1) hx hb dX10_restoreSnapshot_8 (by decide) ?_
  refine w_callS (As := [.long ((v_slot).toInt64), .long ((0 : Int64)), .long ((1 : Int64))]) (rest := []) (st1 := [.int (bI ((f_X10_within ((v_slot).toInt64) ((0 : Int64)) ((1 : Int64)))))]) X hH (c_X10_within (l := l) (g := g) (w := w1) (v_v := (v_slot).toInt64) (v_low := (0 : Int64)) (v_high := (1 : Int64)) rfl) (Or.inl tw_5_223) ms_X10_within tw_5_224 ⟨Nat.le_of_ble_eq_true rfl, Nat.le_of_ble_eq_true rfl⟩ rfl rfl hl.1 (Nat.le_of_ble_eq_true rfl) dX10_restoreSnapshot_9 ⟨Nat.le_refl _, Nat.le_refl _⟩ rfl (fun H locs hH => ?_)
  refine w_b_f (tgt := 24) hx hb dX10_restoreSnapshot_12 (by decide) (fun c3 => ?_) (fun c3 => ?_)
  · replace hF := ifn c3 hF
    obtain rfl := se1 hF
    exact Jb2T rfl _ _ hH
  · replace hF := ifp c3 hF
    refine lv_aload_n hx hb dX10_restoreSnapshot_15 rfl (lv_at hl 0 rfl) ?_
    refine w_getr X hH hk0 fs_10_23 lk_10_51 dX10_restoreSnapshot_16 ?_
    refine lv_iload_n hx hb dX10_restoreSnapshot_19 rfl (lv_at hl 1 rfl) ?_
    obtain ⟨x5, h5, hF⟩ := ob hF
    refine w_zald X hH h5 (rt_M_10_23 hk0) dX10_restoreSnapshot_20 ?_
    refine w_b_t (tgt := 26) hx hb dX10_restoreSnapshot_21 (by decide) (fun c4 => ?_) (fun c4 => ?_)
    · replace hF := ifp c4 hF
      obtain rfl := se1 hF
      exact Jb2F Bool.false_ne_true _ _ hH
    · replace hF := ifn c4 hF
      obtain rfl := se1 hF
      exact Jb2T rfl _ _ hH
