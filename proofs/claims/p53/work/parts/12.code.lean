theorem dX1_countEdges_0 : decode cX1_countEdges 0 = .ok (.iconst 0, 1) := by decide +kernel
theorem dX1_countEdges_1 : decode cX1_countEdges 1 = .ok (.istore_n 1, 1) := by decide +kernel
theorem dX1_countEdges_2 : decode cX1_countEdges 2 = .ok (.iconst 0, 1) := by decide +kernel
theorem dX1_countEdges_3 : decode cX1_countEdges 3 = .ok (.istore_n 2, 1) := by decide +kernel
theorem dX1_countEdges_4 : decode cX1_countEdges 4 = .ok (.iload_n 2, 1) := by decide +kernel
theorem dX1_countEdges_5 : decode cX1_countEdges 5 = .ok (.bipush 56, 2) := by decide +kernel
theorem dX1_countEdges_7 : decode cX1_countEdges 7 = .ok (.if_icmp .ge 21, 3) := by decide +kernel
theorem dX1_countEdges_10 : decode cX1_countEdges 10 = .ok (.iload_n 1, 1) := by decide +kernel
theorem dX1_countEdges_11 : decode cX1_countEdges 11 = .ok (.aload_n 0, 1) := by decide +kernel
theorem dX1_countEdges_12 : decode cX1_countEdges 12 = .ok (.getfield 9, 3) := by decide +kernel
theorem dX1_countEdges_15 : decode cX1_countEdges 15 = .ok (.iload_n 2, 1) := by decide +kernel
theorem dX1_countEdges_16 : decode cX1_countEdges 16 = .ok (.laload, 1) := by decide +kernel
theorem dX1_countEdges_17 : decode cX1_countEdges 17 = .ok (.invokestatic 105, 3) := by decide +kernel
theorem dX1_countEdges_20 : decode cX1_countEdges 20 = .ok (.iadd, 1) := by decide +kernel
theorem dX1_countEdges_21 : decode cX1_countEdges 21 = .ok (.istore_n 1, 1) := by decide +kernel
theorem dX1_countEdges_22 : decode cX1_countEdges 22 = .ok (.iinc 2 1, 3) := by decide +kernel
theorem dX1_countEdges_25 : decode cX1_countEdges 25 = .ok (.goto (-21), 3) := by decide +kernel
theorem dX1_countEdges_28 : decode cX1_countEdges 28 = .ok (.iload_n 1, 1) := by decide +kernel
theorem dX1_countEdges_29 : decode cX1_countEdges 29 = .ok (.ireturn, 1) := by decide +kernel
set_option maxHeartbeats 4000000 in
set_option maxRecDepth 100000 in
theorem c_X1_countEdges {l : Launch} {g : Gh} {w : Wd} {k0 : Nat} {rz : Int32} (hF : f_X1_countEdges w k0 = some rz) (hk0 : zct zC k0 = 1) : Met l yX1_countEdges (Cond.code yX1_countEdges cX1_countEdges 3 (some .int) :: TT) (rmd 1) (Pcw zC g w [.ref (g.2.2 k0)]) (Qw zC g w (some (.int (rz)))) 0 0 (zA zC g) := by
  refine mt_start (by decide) (Nat.le_of_ble_eq_true rfl) ?_
  intro p e s m args below meth c H locs ls X hr hl hH
  have hx := X.1
  have hb := X.2.1
  have hml := X.2.2.1
  have hown := X.2.2.2.1
  have ht := X.2.2.2.2.1
  have hl : lv_has ls 3 [(0, .ref (g.2.2 (k0)))] := hl
  unfold f_X1_countEdges at hF
  refine lv_iconst (v := (0 : Int32)) hx hb dX1_countEdges_0 (by decide) ?_
  refine lv_istore_n (lv' := [(1, .int ((0 : Int32))), (0, .ref (g.2.2 (k0)))]) hx hb dX1_countEdges_1 rfl hl (by decide) rfl (fun ls hl => ?_)
  refine lv_iconst (v := (0 : Int32)) hx hb dX1_countEdges_2 (by decide) ?_
  refine lv_istore_n (lv' := [(2, .int ((0 : Int32))), (1, .int ((0 : Int32))), (0, .ref (g.2.2 (k0)))]) hx hb dX1_countEdges_3 rfl hl (by decide) rfl (fun ls hl => ?_)
  obtain ⟨r2, hLr2, hF⟩ := ob hF
  have Jr2 : ∀ (H : Heap) (locs : List Loc) (ls : Array Slot), HW zC g w s.heap H locs → lv_has ls 3 [(0, .ref (g.2.2 (k0))), (1, .int (r2))] → W p l e (rmd 1) s m args below meth c H locs 0 0 (MQ below (Qw zC g w (some (.int (rz)))) args s 0 0 (zA zC g)) (F0 m 28 ls []) := by
    intro H locs ls hH hl
    refine lv_iload_n hx hb dX1_countEdges_28 rfl (lv_at hl 1 rfl) ?_
    obtain rfl := se1 hF
    exact w_iret X hH hr dX1_countEdges_29
  have Lr2 : ∀ (n : Nat) (s1 : Int32 × Int32), lp (b_X1_countEdges_1 w k0) n s1 = some r2 → ∀ (H : Heap) (locs : List Loc) (ls : Array Slot), HW zC g w s.heap H locs → lv_has ls 3 [(0, .ref (g.2.2 (k0))), (1, .int (s1.1)), (2, .int (s1.2))] → W p l e (rmd 1) s m args below meth c H locs 0 0 (MQ below (Qw zC g w (some (.int (rz)))) args s 0 0 (zA zC g)) (F0 m 4 ls []) := by
    intro n
    induction n with
    | zero => intro s1 hL; exact lp_0 hL
    | succ n ih =>
      intro s1 hL H locs ls hH hl
      obtain ⟨bb, hF, hL⟩ := lp_s hL
      unfold b_X1_countEdges_1 at hF
      refine lv_iload_n hx hb dX1_countEdges_4 rfl (lv_at hl 2 rfl) ?_
      refine lv_bipush (v := (56 : Int32)) hx hb dX1_countEdges_5 (by decide) ?_
      refine w_ilt_f (tgt := 28) hx hb dX1_countEdges_7 (by decide) (fun c3 => ?_) (fun c3 => ?_)
      · replace hF := ifn c3 hF
        obtain rfl := se1 hF
        subst hL
        exact Jr2 _ _ _ hH (lv_sub hl [0, 1] rfl)
      · replace hF := ifp c3 hF
        refine lv_iload_n hx hb dX1_countEdges_10 rfl (lv_at hl 1 rfl) ?_
        refine lv_aload_n hx hb dX1_countEdges_11 rfl (lv_at hl 0 rfl) ?_
        refine w_getr X hH hk0 fs_1_0 lk_1_9 dX1_countEdges_12 ?_
        refine lv_iload_n hx hb dX1_countEdges_15 rfl (lv_at hl 2 rfl) ?_
        obtain ⟨x4, h4, hF⟩ := ob hF
        refine w_lald X hH h4 (rt_C_1_0 hk0) dX1_countEdges_16 ?_
        refine w_callS (As := [.long (x4)]) (rest := [.int (s1.1)]) (st1 := [.int ((f_J13_bitCount (x4))), .int (s1.1)]) X hH (c_J13_bitCount (l := l) (g := g) (w := w) (v_i := x4) rfl) (Or.inl tw_3_102) ms_J13_bitCount tw_3_103 ⟨Nat.le_of_ble_eq_true rfl, Nat.le_of_ble_eq_true rfl⟩ rfl rfl hl.1 (Nat.le_of_ble_eq_true rfl) dX1_countEdges_17 ⟨Nat.le_refl _, Nat.le_refl _⟩ rfl (fun H locs hH => ?_)
        refine lv_iadd hx hb dX1_countEdges_20 ?_
        refine lv_istore_n (lv' := [(1, .int ((s1.1 + (f_J13_bitCount (x4))))), (0, .ref (g.2.2 (k0))), (2, .int (s1.2))]) hx hb dX1_countEdges_21 rfl hl (by decide) rfl (fun ls hl => ?_)
        refine lv_iinc (v := (s1.2 + (1 : Int32))) (lv' := [(2, .int ((s1.2 + (1 : Int32)))), (1, .int ((s1.1 + (f_J13_bitCount (x4))))), (0, .ref (g.2.2 (k0)))]) hx hb dX1_countEdges_22 hl (k := 2) rfl rfl (by decide) rfl (fun ls hl => ?_)
        refine lv_goto (tgt := 4) hx hb dX1_countEdges_25 (by decide) ?_
        obtain rfl := se1 hF
        exact ih _ hL _ _ _ hH (lv_sub hl [2, 1, 0] rfl)
  exact Lr2 NF _ hLr2 _ _ _ hH (lv_sub hl [2, 1, 0] rfl)

theorem dJ7_fill_d0a16_0 : decode cJ7_fill_d0a16 0 = .ok (.iconst 0, 1) := by decide +kernel
theorem dJ7_fill_d0a16_1 : decode cJ7_fill_d0a16 1 = .ok (.istore_n 3, 1) := by decide +kernel
theorem dJ7_fill_d0a16_2 : decode cJ7_fill_d0a16 2 = .ok (.aload_n 0, 1) := by decide +kernel
theorem dJ7_fill_d0a16_3 : decode cJ7_fill_d0a16 3 = .ok (.arraylength, 1) := by decide +kernel
theorem dJ7_fill_d0a16_4 : decode cJ7_fill_d0a16 4 = .ok (.istore 4, 2) := by decide +kernel
theorem dJ7_fill_d0a16_6 : decode cJ7_fill_d0a16 6 = .ok (.iload_n 3, 1) := by decide +kernel
theorem dJ7_fill_d0a16_7 : decode cJ7_fill_d0a16 7 = .ok (.iload 4, 2) := by decide +kernel
theorem dJ7_fill_d0a16_9 : decode cJ7_fill_d0a16 9 = .ok (.if_icmp .ge 13, 3) := by decide +kernel
theorem dJ7_fill_d0a16_12 : decode cJ7_fill_d0a16 12 = .ok (.aload_n 0, 1) := by decide +kernel
theorem dJ7_fill_d0a16_13 : decode cJ7_fill_d0a16 13 = .ok (.iload_n 3, 1) := by decide +kernel
theorem dJ7_fill_d0a16_14 : decode cJ7_fill_d0a16 14 = .ok (.lload_n 1, 1) := by decide +kernel
theorem dJ7_fill_d0a16_15 : decode cJ7_fill_d0a16 15 = .ok (.lastore, 1) := by decide +kernel
theorem dJ7_fill_d0a16_16 : decode cJ7_fill_d0a16 16 = .ok (.iinc 3 1, 3) := by decide +kernel
theorem dJ7_fill_d0a16_19 : decode cJ7_fill_d0a16 19 = .ok (.goto (-13), 3) := by decide +kernel
theorem dJ7_fill_d0a16_22 : decode cJ7_fill_d0a16 22 = .ok (.return_, 1) := by decide +kernel
set_option maxHeartbeats 4000000 in
set_option maxRecDepth 100000 in
theorem c_J7_fillL {l : Launch} {g : Gh} {w : Wd} {v_a : Nat} {v_val : Int64} {wz : Wd} (hF : f_J7_fillL w v_a v_val = some wz) (hv_a : zct zC v_a = 21) : Met l yJ7_fill_d0a16 (Cond.code yJ7_fill_d0a16 cJ7_fill_d0a16 5 none :: TT) (rmd 0) (Pcw zC g w [.ref (g.2.2 (v_a)), .long (v_val)]) (Qw zC g wz none) 0 0 (zA zC g) := by
  refine mt_start (by decide) (Nat.le_of_ble_eq_true rfl) ?_
  intro p e s m args below meth c H locs ls X hr hl hH
  have hx := X.1
  have hb := X.2.1
  have hml := X.2.2.1
  have hown := X.2.2.2.1
  have ht := X.2.2.2.2.1
  have hl : lv_has ls 5 [(0, .ref (g.2.2 (v_a))), (1, .long (v_val))] := hl
  unfold f_J7_fillL at hF
  refine lv_iconst (v := (0 : Int32)) hx hb dJ7_fill_d0a16_0 (by decide) ?_
  refine lv_istore_n (lv' := [(3, .int ((0 : Int32))), (0, .ref (g.2.2 (v_a))), (1, .long (v_val))]) hx hb dJ7_fill_d0a16_1 rfl hl (by decide) rfl (fun ls hl => ?_)
  refine lv_aload_n hx hb dJ7_fill_d0a16_2 rfl (lv_at hl 1 rfl) ?_
  refine w_alen X hH hv_a (by decide) dJ7_fill_d0a16_3 ?_
  refine lv_istore (lv' := [(4, .int ((nI (zln zC (v_a))))), (3, .int ((0 : Int32))), (0, .ref (g.2.2 (v_a))), (1, .long (v_val))]) hx hb dJ7_fill_d0a16_4 hl (by decide) rfl (fun ls hl => ?_)
  obtain ⟨r2, hLr2, hF⟩ := ob hF
  have Jr2 : ∀ (H : Heap) (locs : List Loc) (ls : Array Slot), HW zC g r2 s.heap H locs → lv_has ls 5 [(0, .ref (g.2.2 (v_a))), (1, .long (v_val))] → W p l e (rmd 0) s m args below meth c H locs 0 0 (MQ below (Qw zC g wz none) args s 0 0 (zA zC g)) (F0 m 22 ls []) := by
    intro H locs ls hH hl
    obtain rfl := se1 hF
    exact w_vret X hH hr dJ7_fill_d0a16_22
  have Lr2 : ∀ (n : Nat) (s1 : Int32 × Wd), lp (b_J7_fillL_1 v_a v_val) n s1 = some r2 → ∀ (H : Heap) (locs : List Loc) (ls : Array Slot), HW zC g s1.2 s.heap H locs → lv_has ls 5 [(0, .ref (g.2.2 (v_a))), (1, .long (v_val)), (3, .int (s1.1)), (4, .int ((nI (zln zC (v_a)))))] → W p l e (rmd 0) s m args below meth c H locs 0 0 (MQ below (Qw zC g wz none) args s 0 0 (zA zC g)) (F0 m 6 ls []) := by
    intro n
    induction n with
    | zero => intro s1 hL; exact lp_0 hL
    | succ n ih =>
      intro s1 hL H locs ls hH hl
      obtain ⟨bb, hF, hL⟩ := lp_s hL
      unfold b_J7_fillL_1 at hF
      refine lv_iload_n hx hb dJ7_fill_d0a16_6 rfl (lv_at hl 2 rfl) ?_
      refine lv_iload hx hb dJ7_fill_d0a16_7 (lv_at hl 3 rfl) ?_
      refine w_ilt_f (tgt := 22) hx hb dJ7_fill_d0a16_9 (by decide) (fun c3 => ?_) (fun c3 => ?_)
      · replace hF := ifn c3 hF
        obtain rfl := se1 hF
        subst hL
        exact Jr2 _ _ _ hH (lv_sub hl [0, 1] rfl)
      · replace hF := ifp c3 hF
        refine lv_aload_n hx hb dJ7_fill_d0a16_12 rfl (lv_at hl 0 rfl) ?_
        refine lv_iload_n hx hb dJ7_fill_d0a16_13 rfl (lv_at hl 2 rfl) ?_
        refine lv_lload_n hx hb dJ7_fill_d0a16_14 rfl (lv_at hl 1 rfl) ?_
        obtain ⟨w4, h4, hF⟩ := ob hF
        refine w_last X hH h4 hv_a dJ7_fill_d0a16_15 (fun H locs hH => ?_)
        refine lv_iinc (v := (s1.1 + (1 : Int32))) (lv' := [(3, .int ((s1.1 + (1 : Int32)))), (0, .ref (g.2.2 (v_a))), (1, .long (v_val)), (4, .int ((nI (zln zC (v_a)))))]) hx hb dJ7_fill_d0a16_16 hl (k := 2) rfl rfl (by decide) rfl (fun ls hl => ?_)
        refine lv_goto (tgt := 6) hx hb dJ7_fill_d0a16_19 (by decide) ?_
        obtain rfl := se1 hF
        exact ih _ hL _ _ _ hH (lv_sub hl [1, 2, 0, 3] rfl)
  exact Lr2 NF _ hLr2 _ _ _ hH (lv_sub hl [2, 3, 1, 0] rfl)

theorem dX1_addEdges_0 : decode cX1_addEdges 0 = .ok (.iconst 0, 1) := by decide +kernel
theorem dX1_addEdges_1 : decode cX1_addEdges 1 = .ok (.istore 4, 2) := by decide +kernel
theorem dX1_addEdges_3 : decode cX1_addEdges 3 = .ok (.iload 4, 2) := by decide +kernel
theorem dX1_addEdges_5 : decode cX1_addEdges 5 = .ok (.bipush 10, 2) := by decide +kernel
theorem dX1_addEdges_7 : decode cX1_addEdges 7 = .ok (.if_icmp .ge 80, 3) := by decide +kernel
theorem dX1_addEdges_10 : decode cX1_addEdges 10 = .ok (.iload_n 3, 1) := by decide +kernel
theorem dX1_addEdges_11 : decode cX1_addEdges 11 = .ok (.iload 4, 2) := by decide +kernel
theorem dX1_addEdges_13 : decode cX1_addEdges 13 = .ok (.invokestatic 71, 3) := by decide +kernel
theorem dX1_addEdges_16 : decode cX1_addEdges 16 = .ok (.ifCond .eq 65, 3) := by decide +kernel
theorem dX1_addEdges_19 : decode cX1_addEdges 19 = .ok (.iconst 0, 1) := by decide +kernel
theorem dX1_addEdges_20 : decode cX1_addEdges 20 = .ok (.istore 5, 2) := by decide +kernel
theorem dX1_addEdges_22 : decode cX1_addEdges 22 = .ok (.iload 5, 2) := by decide +kernel
theorem dX1_addEdges_24 : decode cX1_addEdges 24 = .ok (.aload_n 1, 1) := by decide +kernel
theorem dX1_addEdges_25 : decode cX1_addEdges 25 = .ok (.iload_n 2, 1) := by decide +kernel
theorem dX1_addEdges_26 : decode cX1_addEdges 26 = .ok (.invokevirtual 75, 3) := by decide +kernel
theorem dX1_addEdges_29 : decode cX1_addEdges 29 = .ok (.if_icmp .ge 52, 3) := by decide +kernel
theorem dX1_addEdges_32 : decode cX1_addEdges 32 = .ok (.aload_n 1, 1) := by decide +kernel
theorem dX1_addEdges_33 : decode cX1_addEdges 33 = .ok (.iload_n 2, 1) := by decide +kernel
theorem dX1_addEdges_34 : decode cX1_addEdges 34 = .ok (.iload 4, 2) := by decide +kernel
theorem dX1_addEdges_36 : decode cX1_addEdges 36 = .ok (.iload 5, 2) := by decide +kernel
theorem dX1_addEdges_38 : decode cX1_addEdges 38 = .ok (.invokevirtual 79, 3) := by decide +kernel
theorem dX1_addEdges_41 : decode cX1_addEdges 41 = .ok (.istore 6, 2) := by decide +kernel
theorem dX1_addEdges_43 : decode cX1_addEdges 43 = .ok (.aload_n 1, 1) := by decide +kernel
theorem dX1_addEdges_44 : decode cX1_addEdges 44 = .ok (.iload_n 2, 1) := by decide +kernel
theorem dX1_addEdges_45 : decode cX1_addEdges 45 = .ok (.iload 4, 2) := by decide +kernel
theorem dX1_addEdges_47 : decode cX1_addEdges 47 = .ok (.iload 5, 2) := by decide +kernel
theorem dX1_addEdges_49 : decode cX1_addEdges 49 = .ok (.invokevirtual 83, 3) := by decide +kernel
theorem dX1_addEdges_52 : decode cX1_addEdges 52 = .ok (.istore 7, 2) := by decide +kernel
theorem dX1_addEdges_54 : decode cX1_addEdges 54 = .ok (.iload 6, 2) := by decide +kernel
theorem dX1_addEdges_56 : decode cX1_addEdges 56 = .ok (.iload 7, 2) := by decide +kernel
theorem dX1_addEdges_58 : decode cX1_addEdges 58 = .ok (.if_icmp .eq 17, 3) := by decide +kernel
theorem dX1_addEdges_61 : decode cX1_addEdges 61 = .ok (.aload_n 0, 1) := by decide +kernel
theorem dX1_addEdges_62 : decode cX1_addEdges 62 = .ok (.getfield 9, 3) := by decide +kernel
theorem dX1_addEdges_65 : decode cX1_addEdges 65 = .ok (.iload 6, 2) := by decide +kernel
theorem dX1_addEdges_67 : decode cX1_addEdges 67 = .ok (.dup2, 1) := by decide +kernel
theorem dX1_addEdges_68 : decode cX1_addEdges 68 = .ok (.laload, 1) := by decide +kernel
theorem dX1_addEdges_69 : decode cX1_addEdges 69 = .ok (.lconst 1, 1) := by decide +kernel
theorem dX1_addEdges_70 : decode cX1_addEdges 70 = .ok (.iload 7, 2) := by decide +kernel
theorem dX1_addEdges_72 : decode cX1_addEdges 72 = .ok (.lshl, 1) := by decide +kernel
theorem dX1_addEdges_73 : decode cX1_addEdges 73 = .ok (.lor, 1) := by decide +kernel
theorem dX1_addEdges_74 : decode cX1_addEdges 74 = .ok (.lastore, 1) := by decide +kernel
theorem dX1_addEdges_75 : decode cX1_addEdges 75 = .ok (.iinc 5 1, 3) := by decide +kernel
theorem dX1_addEdges_78 : decode cX1_addEdges 78 = .ok (.goto (-56), 3) := by decide +kernel
theorem dX1_addEdges_81 : decode cX1_addEdges 81 = .ok (.iinc 4 1, 3) := by decide +kernel
theorem dX1_addEdges_84 : decode cX1_addEdges 84 = .ok (.goto (-81), 3) := by decide +kernel
theorem dX1_addEdges_87 : decode cX1_addEdges 87 = .ok (.return_, 1) := by decide +kernel
set_option maxHeartbeats 4000000 in
set_option maxRecDepth 100000 in
theorem c_X1_addEdges {l : Launch} {g : Gh} {w : Wd} {k0 : Nat} {v_program : Nat} {v_constraint : Int32} {v_viaSet : Int32} {wz : Wd} (hF : f_X1_addEdges w k0 v_program v_constraint v_viaSet = some wz) (hk0 : zct zC k0 = 1) (hv_program : zct zC v_program = 6) : Met l yX1_addEdges (Cond.code yX1_addEdges cX1_addEdges 8 none :: TT) (rmd 2) (Pcw zC g w [.ref (g.2.2 k0), .ref (g.2.2 (v_program)), .int (v_constraint), .int (v_viaSet)]) (Qw zC g wz none) 0 0 (zA zC g) := by
  refine mt_start (by decide) (Nat.le_of_ble_eq_true rfl) ?_
  intro p e s m args below meth c H locs ls X hr hl hH
  have hx := X.1
  have hb := X.2.1
  have hml := X.2.2.1
  have hown := X.2.2.2.1
  have ht := X.2.2.2.2.1
  have hl : lv_has ls 8 [(0, .ref (g.2.2 (k0))), (1, .ref (g.2.2 (v_program))), (2, .int (v_constraint)), (3, .int (v_viaSet))] := hl
  unfold f_X1_addEdges at hF
  refine lv_iconst (v := (0 : Int32)) hx hb dX1_addEdges_0 (by decide) ?_
  refine lv_istore (lv' := [(4, .int ((0 : Int32))), (0, .ref (g.2.2 (k0))), (1, .ref (g.2.2 (v_program))), (2, .int (v_constraint)), (3, .int (v_viaSet))]) hx hb dX1_addEdges_1 hl (by decide) rfl (fun ls hl => ?_)
  obtain ⟨r2, hLr2, hF⟩ := ob hF
  have Jr2 : ∀ (H : Heap) (locs : List Loc) (ls : Array Slot), HW zC g r2 s.heap H locs → lv_has ls 8 [(0, .ref (g.2.2 (k0))), (1, .ref (g.2.2 (v_program))), (2, .int (v_constraint)), (3, .int (v_viaSet))] → W p l e (rmd 2) s m args below meth c H locs 0 0 (MQ below (Qw zC g wz none) args s 0 0 (zA zC g)) (F0 m 87 ls []) := by
    intro H locs ls hH hl
    obtain rfl := se1 hF
    exact w_vret X hH hr dX1_addEdges_87
  have Lr2 : ∀ (n : Nat) (s1 : Int32 × Wd), lp (b_X1_addEdges_1 v_viaSet v_program v_constraint k0) n s1 = some r2 → ∀ (H : Heap) (locs : List Loc) (ls : Array Slot), HW zC g s1.2 s.heap H locs → lv_has ls 8 [(0, .ref (g.2.2 (k0))), (1, .ref (g.2.2 (v_program))), (2, .int (v_constraint)), (3, .int (v_viaSet)), (4, .int (s1.1))] → W p l e (rmd 2) s m args below meth c H locs 0 0 (MQ below (Qw zC g wz none) args s 0 0 (zA zC g)) (F0 m 3 ls []) := by
    intro n
    induction n with
    | zero => intro s1 hL; exact lp_0 hL
    | succ n ih =>
      intro s1 hL H locs ls hH hl
      obtain ⟨bb, hF, hL⟩ := lp_s hL
      unfold b_X1_addEdges_1 at hF
      refine lv_iload hx hb dX1_addEdges_3 (lv_at hl 4 rfl) ?_
      refine lv_bipush (v := (10 : Int32)) hx hb dX1_addEdges_5 (by decide) ?_
      refine w_ilt_f (tgt := 87) hx hb dX1_addEdges_7 (by decide) (fun c3 => ?_) (fun c3 => ?_)
      · replace hF := ifn c3 hF
        obtain rfl := se1 hF
        subst hL
        exact Jr2 _ _ _ hH (lv_sub hl [0, 1, 2, 3] rfl)
      · replace hF := ifp c3 hF
        obtain ⟨s4, hs4, hF⟩ := ob hF
        have Js4 : ∀ (H : Heap) (locs : List Loc) (ls : Array Slot), HW zC g s4 s.heap H locs → lv_has ls 8 [(0, .ref (g.2.2 (k0))), (1, .ref (g.2.2 (v_program))), (2, .int (v_constraint)), (3, .int (v_viaSet)), (4, .int (s1.1))] → W p l e (rmd 2) s m args below meth c H locs 0 0 (MQ below (Qw zC g wz none) args s 0 0 (zA zC g)) (F0 m 81 ls []) := by
          intro H locs ls hH hl
          refine lv_iinc (v := (s1.1 + (1 : Int32))) (lv' := [(4, .int ((s1.1 + (1 : Int32)))), (0, .ref (g.2.2 (k0))), (1, .ref (g.2.2 (v_program))), (2, .int (v_constraint)), (3, .int (v_viaSet))]) hx hb dX1_addEdges_81 hl (k := 4) rfl rfl (by decide) rfl (fun ls hl => ?_)
          refine lv_goto (tgt := 3) hx hb dX1_addEdges_84 (by decide) ?_
          obtain rfl := se1 hF
          exact ih _ hL _ _ _ hH (lv_sub hl [1, 2, 3, 4, 0] rfl)
        have hF := hs4
        refine lv_iload_n hx hb dX1_addEdges_10 rfl (lv_at hl 3 rfl) ?_
        refine lv_iload hx hb dX1_addEdges_11 (lv_at hl 4 rfl) ?_
        refine w_callS (As := [.int (v_viaSet), .int (s1.1)]) (rest := []) (st1 := [.int (bI ((f_X9_contains (v_viaSet) (s1.1))))]) X hH (c_X9_contains (l := l) (g := g) (w := s1.2) (v_set := v_viaSet) (v_number := s1.1) rfl) (Or.inr ⟨_, tw_3_60⟩) ms_X9_contains tw_2_147 ⟨Nat.le_of_ble_eq_true rfl, Nat.le_of_ble_eq_true rfl⟩ rfl rfl hl.1 (Nat.le_of_ble_eq_true rfl) dX1_addEdges_13 ⟨Nat.le_refl _, Nat.le_refl _⟩ rfl (fun H locs hH => ?_)
        refine w_b_f (tgt := 81) hx hb dX1_addEdges_16 (by decide) (fun c5 => ?_) (fun c5 => ?_)
        · replace hF := ifn c5 hF
          obtain rfl := se1 hF
          exact Js4 _ _ _ hH (lv_sub hl [0, 1, 2, 3, 4] rfl)
        · replace hF := ifp c5 hF
          refine lv_iconst (v := (0 : Int32)) hx hb dX1_addEdges_19 (by decide) ?_
          refine lv_istore (lv' := [(5, .int ((0 : Int32))), (0, .ref (g.2.2 (k0))), (1, .ref (g.2.2 (v_program))), (2, .int (v_constraint)), (3, .int (v_viaSet)), (4, .int (s1.1))]) hx hb dX1_addEdges_20 hl (by decide) rfl (fun ls hl => ?_)
          obtain ⟨r7, hLr7, hF⟩ := ob hF
          have Jr7 : ∀ (H : Heap) (locs : List Loc) (ls : Array Slot), HW zC g r7 s.heap H locs → lv_has ls 8 [(0, .ref (g.2.2 (k0))), (1, .ref (g.2.2 (v_program))), (2, .int (v_constraint)), (3, .int (v_viaSet)), (4, .int (s1.1))] → W p l e (rmd 2) s m args below meth c H locs 0 0 (MQ below (Qw zC g wz none) args s 0 0 (zA zC g)) (F0 m 81 ls []) := by
            intro H locs ls hH hl
            obtain rfl := se1 hF
            exact Js4 _ _ _ hH (lv_sub hl [0, 1, 2, 3, 4] rfl)
          have Lr7 : ∀ (n : Nat) (s6 : Int32 × Wd), lp (b_X1_addEdges_2 v_program v_constraint s1 k0) n s6 = some r7 → ∀ (H : Heap) (locs : List Loc) (ls : Array Slot), HW zC g s6.2 s.heap H locs → lv_has ls 8 [(0, .ref (g.2.2 (k0))), (1, .ref (g.2.2 (v_program))), (2, .int (v_constraint)), (3, .int (v_viaSet)), (4, .int (s1.1)), (5, .int (s6.1))] → W p l e (rmd 2) s m args below meth c H locs 0 0 (MQ below (Qw zC g wz none) args s 0 0 (zA zC g)) (F0 m 22 ls []) := by
            intro n
            induction n with
            | zero => intro s6 hL; exact lp_0 hL
            | succ n ih =>
              intro s6 hL H locs ls hH hl
              obtain ⟨bb, hF, hL⟩ := lp_s hL
              unfold b_X1_addEdges_2 at hF
              refine lv_iload hx hb dX1_addEdges_22 (lv_at hl 5 rfl) ?_
              refine lv_aload_n hx hb dX1_addEdges_24 rfl (lv_at hl 1 rfl) ?_
              refine lv_iload_n hx hb dX1_addEdges_25 rfl (lv_at hl 2 rfl) ?_
              obtain ⟨x8, h8, hF⟩ := ob hF
              refine w_callV (As := [.int (v_constraint)]) (k := v_program) (rest := [.int (s6.1)]) (st1 := [.int (x8), .int (s6.1)]) X hH (c_X6_flowCount (l := l) (g := g) (w := s6.2) (k0 := v_program) (v_constraint := v_constraint) h8 hv_program) (Or.inr ⟨_, tw_3_61⟩) ms_X6_flowCount im_X6_flowCount hv_program cn_6 ⟨Nat.le_of_ble_eq_true rfl, Nat.le_of_ble_eq_true rfl⟩ rfl rfl hl.1 (Nat.le_of_ble_eq_true rfl) dX1_addEdges_26 ⟨Nat.le_refl _, Nat.le_refl _⟩ rfl (fun H locs hH => ?_)
              refine w_ilt_f (tgt := 81) hx hb dX1_addEdges_29 (by decide) (fun c9 => ?_) (fun c9 => ?_)
              · replace hF := ifn c9 hF
                obtain rfl := se1 hF
                subst hL
                exact Jr7 _ _ _ hH (lv_sub hl [0, 1, 2, 3, 4] rfl)
              · replace hF := ifp c9 hF
                refine lv_aload_n hx hb dX1_addEdges_32 rfl (lv_at hl 1 rfl) ?_
                refine lv_iload_n hx hb dX1_addEdges_33 rfl (lv_at hl 2 rfl) ?_
                refine lv_iload hx hb dX1_addEdges_34 (lv_at hl 4 rfl) ?_
                refine lv_iload hx hb dX1_addEdges_36 (lv_at hl 5 rfl) ?_
                obtain ⟨x10, h10, hF⟩ := ob hF
                refine w_callV (As := [.int (v_constraint), .int (s1.1), .int (s6.1)]) (k := v_program) (rest := []) (st1 := [.int (x10)]) X hH (c_X6_flowSource (l := l) (g := g) (w := s6.2) (k0 := v_program) (v_constraint := v_constraint) (v_via := s1.1) (v_flow := s6.1) h10 hv_program) (Or.inr ⟨_, tw_3_62⟩) ms_X6_flowSource im_X6_flowSource hv_program cn_6 ⟨Nat.le_of_ble_eq_true rfl, Nat.le_of_ble_eq_true rfl⟩ rfl rfl hl.1 (Nat.le_of_ble_eq_true rfl) dX1_addEdges_38 ⟨Nat.le_refl _, Nat.le_refl _⟩ rfl (fun H locs hH => ?_)
                refine lv_istore (lv' := [(6, .int (x10)), (0, .ref (g.2.2 (k0))), (1, .ref (g.2.2 (v_program))), (2, .int (v_constraint)), (3, .int (v_viaSet)), (4, .int (s1.1)), (5, .int (s6.1))]) hx hb dX1_addEdges_41 hl (by decide) rfl (fun ls hl => ?_)
                refine lv_aload_n hx hb dX1_addEdges_43 rfl (lv_at hl 2 rfl) ?_
                refine lv_iload_n hx hb dX1_addEdges_44 rfl (lv_at hl 3 rfl) ?_
                refine lv_iload hx hb dX1_addEdges_45 (lv_at hl 5 rfl) ?_
                refine lv_iload hx hb dX1_addEdges_47 (lv_at hl 6 rfl) ?_
                obtain ⟨x11, h11, hF⟩ := ob hF
                refine w_callV (As := [.int (v_constraint), .int (s1.1), .int (s6.1)]) (k := v_program) (rest := []) (st1 := [.int (x11)]) X hH (c_X6_flowTarget (l := l) (g := g) (w := s6.2) (k0 := v_program) (v_constraint := v_constraint) (v_via := s1.1) (v_flow := s6.1) h11 hv_program) (Or.inr ⟨_, tw_3_63⟩) ms_X6_flowTarget im_X6_flowTarget hv_program cn_6 ⟨Nat.le_of_ble_eq_true rfl, Nat.le_of_ble_eq_true rfl⟩ rfl rfl hl.1 (Nat.le_of_ble_eq_true rfl) dX1_addEdges_49 ⟨Nat.le_refl _, Nat.le_refl _⟩ rfl (fun H locs hH => ?_)
                refine lv_istore (lv' := [(7, .int (x11)), (6, .int (x10)), (0, .ref (g.2.2 (k0))), (1, .ref (g.2.2 (v_program))), (2, .int (v_constraint)), (3, .int (v_viaSet)), (4, .int (s1.1)), (5, .int (s6.1))]) hx hb dX1_addEdges_52 hl (by decide) rfl (fun ls hl => ?_)
                obtain ⟨s12, hs12, hF⟩ := ob hF
                have Js12 : ∀ (H : Heap) (locs : List Loc) (ls : Array Slot), HW zC g s12 s.heap H locs → lv_has ls 8 [(0, .ref (g.2.2 (k0))), (1, .ref (g.2.2 (v_program))), (2, .int (v_constraint)), (3, .int (v_viaSet)), (4, .int (s1.1)), (5, .int (s6.1)), (6, .int (x10)), (7, .int (x11))] → W p l e (rmd 2) s m args below meth c H locs 0 0 (MQ below (Qw zC g wz none) args s 0 0 (zA zC g)) (F0 m 75 ls []) := by
                  intro H locs ls hH hl
                  refine lv_iinc (v := (s6.1 + (1 : Int32))) (lv' := [(5, .int ((s6.1 + (1 : Int32)))), (0, .ref (g.2.2 (k0))), (1, .ref (g.2.2 (v_program))), (2, .int (v_constraint)), (3, .int (v_viaSet)), (4, .int (s1.1)), (6, .int (x10)), (7, .int (x11))]) hx hb dX1_addEdges_75 hl (k := 5) rfl rfl (by decide) rfl (fun ls hl => ?_)
                  refine lv_goto (tgt := 22) hx hb dX1_addEdges_78 (by decide) ?_
                  obtain rfl := se1 hF
                  exact ih _ hL _ _ _ hH (lv_sub hl [1, 2, 3, 4, 5, 0] rfl)
                have hF := hs12
                refine lv_iload hx hb dX1_addEdges_54 (lv_at hl 1 rfl) ?_
                refine lv_iload hx hb dX1_addEdges_56 (lv_at hl 0 rfl) ?_
                refine w_ine_f (tgt := 75) hx hb dX1_addEdges_58 (by decide) (fun c13 => ?_) (fun c13 => ?_)
                · replace hF := ifn c13 hF
                  obtain rfl := se1 hF
                  exact Js12 _ _ _ hH (lv_sub hl [2, 3, 4, 5, 6, 7, 1, 0] rfl)
                · replace hF := ifp c13 hF
                  refine lv_aload_n hx hb dX1_addEdges_61 rfl (lv_at hl 2 rfl) ?_
                  refine w_getr X hH hk0 fs_1_0 lk_1_9 dX1_addEdges_62 ?_
                  refine lv_iload hx hb dX1_addEdges_65 (lv_at hl 1 rfl) ?_
                  refine lv_dup2_11 hx hb dX1_addEdges_67 rfl rfl ?_
                  obtain ⟨x14, h14, hF⟩ := ob hF
                  refine w_lald X hH h14 (rt_C_1_0 hk0) dX1_addEdges_68 ?_
                  refine lv_lconst (v := 1) hx hb dX1_addEdges_69 (by decide) ?_
                  refine lv_iload hx hb dX1_addEdges_70 (lv_at hl 0 rfl) ?_
                  refine w_lshl hx hb dX1_addEdges_72 ?_
                  refine lv_lor hx hb dX1_addEdges_73 ?_
                  obtain ⟨w15, h15, hF⟩ := ob hF
                  refine w_last X hH h15 (rt_C_1_0 hk0) dX1_addEdges_74 (fun H locs hH => ?_)
                  obtain rfl := se1 hF
                  exact Js12 _ _ _ hH (lv_sub hl [2, 3, 4, 5, 6, 7, 1, 0] rfl)
          exact Lr7 NF _ hLr7 _ _ _ hH (lv_sub hl [1, 2, 3, 4, 5, 0] rfl)
  exact Lr2 NF _ hLr2 _ _ _ hH (lv_sub hl [1, 2, 3, 4, 0] rfl)

theorem dX1_findExisting_0 : decode cX1_findExisting 0 = .ok (.aload_n 0, 1) := by decide +kernel
theorem dX1_findExisting_1 : decode cX1_findExisting 1 = .ok (.lconst 0, 1) := by decide +kernel
theorem dX1_findExisting_2 : decode cX1_findExisting 2 = .ok (.putfield 21, 3) := by decide +kernel
theorem dX1_findExisting_5 : decode cX1_findExisting 5 = .ok (.iconst 0, 1) := by decide +kernel
theorem dX1_findExisting_6 : decode cX1_findExisting 6 = .ok (.istore_n 2, 1) := by decide +kernel
theorem dX1_findExisting_7 : decode cX1_findExisting 7 = .ok (.iload_n 2, 1) := by decide +kernel
theorem dX1_findExisting_8 : decode cX1_findExisting 8 = .ok (.bipush 56, 2) := by decide +kernel
theorem dX1_findExisting_10 : decode cX1_findExisting 10 = .ok (.if_icmp .ge 33, 3) := by decide +kernel
theorem dX1_findExisting_13 : decode cX1_findExisting 13 = .ok (.aload_n 1, 1) := by decide +kernel
theorem dX1_findExisting_14 : decode cX1_findExisting 14 = .ok (.iload_n 2, 1) := by decide +kernel
theorem dX1_findExisting_15 : decode cX1_findExisting 15 = .ok (.invokestatic 86, 3) := by decide +kernel
theorem dX1_findExisting_18 : decode cX1_findExisting 18 = .ok (.invokevirtual 89, 3) := by decide +kernel
theorem dX1_findExisting_21 : decode cX1_findExisting 21 = .ok (.iload_n 2, 1) := by decide +kernel
theorem dX1_findExisting_22 : decode cX1_findExisting 22 = .ok (.if_icmp .ne 15, 3) := by decide +kernel
theorem dX1_findExisting_25 : decode cX1_findExisting 25 = .ok (.aload_n 0, 1) := by decide +kernel
theorem dX1_findExisting_26 : decode cX1_findExisting 26 = .ok (.dup, 1) := by decide +kernel
theorem dX1_findExisting_27 : decode cX1_findExisting 27 = .ok (.getfield 21, 3) := by decide +kernel
theorem dX1_findExisting_30 : decode cX1_findExisting 30 = .ok (.lconst 1, 1) := by decide +kernel
theorem dX1_findExisting_31 : decode cX1_findExisting 31 = .ok (.iload_n 2, 1) := by decide +kernel
theorem dX1_findExisting_32 : decode cX1_findExisting 32 = .ok (.lshl, 1) := by decide +kernel
theorem dX1_findExisting_33 : decode cX1_findExisting 33 = .ok (.lor, 1) := by decide +kernel
theorem dX1_findExisting_34 : decode cX1_findExisting 34 = .ok (.putfield 21, 3) := by decide +kernel
theorem dX1_findExisting_37 : decode cX1_findExisting 37 = .ok (.iinc 2 1, 3) := by decide +kernel
theorem dX1_findExisting_40 : decode cX1_findExisting 40 = .ok (.goto (-33), 3) := by decide +kernel
theorem dX1_findExisting_43 : decode cX1_findExisting 43 = .ok (.return_, 1) := by decide +kernel
set_option maxHeartbeats 4000000 in
set_option maxRecDepth 100000 in
theorem c_X1_findExisting {l : Launch} {g : Gh} {w : Wd} {k0 : Nat} {v_program : Nat} {wz : Wd} (hF : f_X1_findExisting w k0 v_program = some wz) (hk0 : zct zC k0 = 1) (hv_program : zct zC v_program = 6) : Met l yX1_findExisting (Cond.code yX1_findExisting cX1_findExisting 3 none :: TT) (rmd 2) (Pcw zC g w [.ref (g.2.2 k0), .ref (g.2.2 (v_program))]) (Qw zC g wz none) 0 0 (zA zC g) := by
  refine mt_start (by decide) (Nat.le_of_ble_eq_true rfl) ?_
  intro p e s m args below meth c H locs ls X hr hl hH
  have hx := X.1
  have hb := X.2.1
  have hml := X.2.2.1
  have hown := X.2.2.2.1
  have ht := X.2.2.2.2.1
  have hl : lv_has ls 3 [(0, .ref (g.2.2 (k0))), (1, .ref (g.2.2 (v_program)))] := hl
  unfold f_X1_findExisting at hF
  refine lv_aload_n hx hb dX1_findExisting_0 rfl (lv_at hl 0 rfl) ?_
  refine lv_lconst (v := 0) hx hb dX1_findExisting_1 (by decide) ?_
  obtain ⟨w1, h1, hF⟩ := ob hF
  refine w_putl X hH h1 hk0 fs_1_3 nf_1_3 lk_1_21 dX1_findExisting_2 (fun H locs hH => ?_)
  refine lv_iconst (v := (0 : Int32)) hx hb dX1_findExisting_5 (by decide) ?_
  refine lv_istore_n (lv' := [(2, .int ((0 : Int32))), (0, .ref (g.2.2 (k0))), (1, .ref (g.2.2 (v_program)))]) hx hb dX1_findExisting_6 rfl hl (by decide) rfl (fun ls hl => ?_)
  obtain ⟨r3, hLr3, hF⟩ := ob hF
  have Jr3 : ∀ (H : Heap) (locs : List Loc) (ls : Array Slot), HW zC g r3 s.heap H locs → lv_has ls 3 [(0, .ref (g.2.2 (k0))), (1, .ref (g.2.2 (v_program)))] → W p l e (rmd 2) s m args below meth c H locs 0 0 (MQ below (Qw zC g wz none) args s 0 0 (zA zC g)) (F0 m 43 ls []) := by
    intro H locs ls hH hl
    obtain rfl := se1 hF
    exact w_vret X hH hr dX1_findExisting_43
  have Lr3 : ∀ (n : Nat) (s2 : Int32 × Wd), lp (b_X1_findExisting_1 v_program k0) n s2 = some r3 → ∀ (H : Heap) (locs : List Loc) (ls : Array Slot), HW zC g s2.2 s.heap H locs → lv_has ls 3 [(0, .ref (g.2.2 (k0))), (1, .ref (g.2.2 (v_program))), (2, .int (s2.1))] → W p l e (rmd 2) s m args below meth c H locs 0 0 (MQ below (Qw zC g wz none) args s 0 0 (zA zC g)) (F0 m 7 ls []) := by
    intro n
    induction n with
    | zero => intro s2 hL; exact lp_0 hL
    | succ n ih =>
      intro s2 hL H locs ls hH hl
      obtain ⟨bb, hF, hL⟩ := lp_s hL
      unfold b_X1_findExisting_1 at hF
      refine lv_iload_n hx hb dX1_findExisting_7 rfl (lv_at hl 2 rfl) ?_
      refine lv_bipush (v := (56 : Int32)) hx hb dX1_findExisting_8 (by decide) ?_
      refine w_ilt_f (tgt := 43) hx hb dX1_findExisting_10 (by decide) (fun c4 => ?_) (fun c4 => ?_)
      · replace hF := ifn c4 hF
        obtain rfl := se1 hF
        subst hL
        exact Jr3 _ _ _ hH (lv_sub hl [0, 1] rfl)
      · replace hF := ifp c4 hF
        obtain ⟨s5, hs5, hF⟩ := ob hF
        have Js5 : ∀ (H : Heap) (locs : List Loc) (ls : Array Slot), HW zC g s5 s.heap H locs → lv_has ls 3 [(0, .ref (g.2.2 (k0))), (1, .ref (g.2.2 (v_program))), (2, .int (s2.1))] → W p l e (rmd 2) s m args below meth c H locs 0 0 (MQ below (Qw zC g wz none) args s 0 0 (zA zC g)) (F0 m 37 ls []) := by
          intro H locs ls hH hl
          refine lv_iinc (v := (s2.1 + (1 : Int32))) (lv' := [(2, .int ((s2.1 + (1 : Int32)))), (0, .ref (g.2.2 (k0))), (1, .ref (g.2.2 (v_program)))]) hx hb dX1_findExisting_37 hl (k := 2) rfl rfl (by decide) rfl (fun ls hl => ?_)
          refine lv_goto (tgt := 7) hx hb dX1_findExisting_40 (by decide) ?_
          obtain rfl := se1 hF
          exact ih _ hL _ _ _ hH (lv_sub hl [1, 2, 0] rfl)
        have hF := hs5
        refine lv_aload_n hx hb dX1_findExisting_13 rfl (lv_at hl 1 rfl) ?_
        refine lv_iload_n hx hb dX1_findExisting_14 rfl (lv_at hl 2 rfl) ?_
        refine w_callS (As := [.int (s2.1)]) (rest := [.ref (g.2.2 (v_program))]) (st1 := [.int ((f_X9_locationOf (s2.1))), .ref (g.2.2 (v_program))]) X hH (c_X9_locationOf (l := l) (g := g) (w := s2.2) (v_slot := s2.1) rfl) (Or.inr ⟨_, tw_3_68⟩) ms_X9_locationOf tw_3_69 ⟨Nat.le_of_ble_eq_true rfl, Nat.le_of_ble_eq_true rfl⟩ rfl rfl hl.1 (Nat.le_of_ble_eq_true rfl) dX1_findExisting_15 ⟨Nat.le_refl _, Nat.le_refl _⟩ rfl (fun H locs hH => ?_)
        refine w_callV (As := [.int ((f_X9_locationOf (s2.1)))]) (k := v_program) (rest := []) (st1 := [.int ((f_X6_slotAt s2.2 (v_program) ((f_X9_locationOf (s2.1)))))]) X hH (c_X6_slotAt (l := l) (g := g) (w := s2.2) (k0 := v_program) (v_location := (f_X9_locationOf (s2.1))) rfl hv_program) (Or.inr ⟨_, tw_3_71⟩) ms_X6_slotAt im_X6_slotAt hv_program cn_6 ⟨Nat.le_of_ble_eq_true rfl, Nat.le_of_ble_eq_true rfl⟩ rfl rfl hl.1 (Nat.le_of_ble_eq_true rfl) dX1_findExisting_18 ⟨Nat.le_refl _, Nat.le_refl _⟩ rfl (fun H locs hH => ?_)
        refine lv_iload_n hx hb dX1_findExisting_21 rfl (lv_at hl 2 rfl) ?_
        refine w_ieq_f (tgt := 37) hx hb dX1_findExisting_22 (by decide) (fun c6 => ?_) (fun c6 => ?_)
        · replace hF := ifn c6 hF
          obtain rfl := se1 hF
          exact Js5 _ _ _ hH (lv_sub hl [0, 1, 2] rfl)
        · replace hF := ifp c6 hF
          refine lv_aload_n hx hb dX1_findExisting_25 rfl (lv_at hl 0 rfl) ?_
          refine lv_dup hx hb dX1_findExisting_26 rfl ?_
          refine w_getl X hH hk0 fs_1_3 lk_1_21 dX1_findExisting_27 ?_
          refine lv_lconst (v := 1) hx hb dX1_findExisting_30 (by decide) ?_
          refine lv_iload_n hx hb dX1_findExisting_31 rfl (lv_at hl 2 rfl) ?_
          refine w_lshl hx hb dX1_findExisting_32 ?_
          refine lv_lor hx hb dX1_findExisting_33 ?_
          obtain ⟨w7, h7, hF⟩ := ob hF
          refine w_putl X hH h7 hk0 fs_1_3 nf_1_3 lk_1_21 dX1_findExisting_34 (fun H locs hH => ?_)
          obtain rfl := se1 hF
          exact Js5 _ _ _ hH (lv_sub hl [0, 1, 2] rfl)
  exact Lr3 NF _ hLr3 _ _ _ hH (lv_sub hl [1, 2, 0] rfl)

theorem dX9_holds_0 : decode cX9_holds 0 = .ok (.lload_n 0, 1) := by decide +kernel
theorem dX9_holds_1 : decode cX9_holds 1 = .ok (.iload_n 2, 1) := by decide +kernel
theorem dX9_holds_2 : decode cX9_holds 2 = .ok (.lushr, 1) := by decide +kernel
theorem dX9_holds_3 : decode cX9_holds 3 = .ok (.lconst 1, 1) := by decide +kernel
theorem dX9_holds_4 : decode cX9_holds 4 = .ok (.land, 1) := by decide +kernel
theorem dX9_holds_5 : decode cX9_holds 5 = .ok (.lconst 0, 1) := by decide +kernel
theorem dX9_holds_6 : decode cX9_holds 6 = .ok (.lcmp, 1) := by decide +kernel
theorem dX9_holds_7 : decode cX9_holds 7 = .ok (.ifCond .eq 7, 3) := by decide +kernel
theorem dX9_holds_10 : decode cX9_holds 10 = .ok (.iconst 1, 1) := by decide +kernel
theorem dX9_holds_11 : decode cX9_holds 11 = .ok (.goto 4, 3) := by decide +kernel
theorem dX9_holds_14 : decode cX9_holds 14 = .ok (.iconst 0, 1) := by decide +kernel
theorem dX9_holds_15 : decode cX9_holds 15 = .ok (.ireturn, 1) := by decide +kernel
set_option maxHeartbeats 4000000 in
set_option maxRecDepth 100000 in
theorem c_X9_holds {l : Launch} {g : Gh} {w : Wd} {v_set : Int64} {v_slot : Int32} {rz : Bool} (hF : f_X9_holds v_set v_slot = rz)  : Met l yX9_holds (Cond.code yX9_holds cX9_holds 3 (some .boolean) :: TT) (rmd 0) (Pcw zC g w [.long (v_set), .int (v_slot)]) (Qw zC g w (some (.int (bI (rz))))) 0 0 (zA zC g) := by
  refine mt_start (by decide) (Nat.le_of_ble_eq_true rfl) ?_
  intro p e s m args below meth c H locs ls X hr hl hH
  have hx := X.1
  have hb := X.2.1
  have hml := X.2.2.1
  have hown := X.2.2.2.1
  have ht := X.2.2.2.2.1
  have hl : lv_has ls 3 [(0, .long (v_set)), (2, .int (v_slot))] := hl
  unfold f_X9_holds at hF
  refine lv_lload_n hx hb dX9_holds_0 rfl (lv_at hl 0 rfl) ?_
  refine lv_iload_n hx hb dX9_holds_1 rfl (lv_at hl 1 rfl) ?_
  refine w_lushr hx hb dX9_holds_2 ?_
  refine lv_lconst (v := 1) hx hb dX9_holds_3 (by decide) ?_
  refine lv_land hx hb dX9_holds_4 ?_
  refine lv_lconst (v := 0) hx hb dX9_holds_5 (by decide) ?_
  have J1 : ∀ (H : Heap) (locs : List Loc), HW zC g w s.heap H locs → W p l e (rmd 0) s m args below meth c H locs 0 0 (MQ below (Qw zC g w (some (.int (bI (rz))))) args s 0 0 (zA zC g)) (F0 m 15 ls [.int (bI ((decide (¬ (((jlushr (v_set) (v_slot)) &&& (1 : Int64)) = (0 : Int64))))))]) := by
    intro H locs hH
    subst hF
    exact w_zret X hH hr dX9_holds_15
  refine w_lne_f (tgt := 14) hx hb dX9_holds_6 dX9_holds_7 (by decide) (fun c2 => ?_) (fun c2 => ?_)
  · refine lv_iconst (v := (0 : Int32)) hx hb dX9_holds_14 (by decide) ?_
    exact w_b0 c2 (J1 _ _ hH)
  · refine lv_iconst (v := (1 : Int32)) hx hb dX9_holds_10 (by decide) ?_
    refine lv_goto (tgt := 15) hx hb dX9_holds_11 (by decide) ?_
    exact w_b1 c2 (J1 _ _ hH)

theorem dX1_findReached_0 : decode cX1_findReached 0 = .ok (.iconst 0, 1) := by decide +kernel
theorem dX1_findReached_1 : decode cX1_findReached 1 = .ok (.istore_n 1, 1) := by decide +kernel
theorem dX1_findReached_2 : decode cX1_findReached 2 = .ok (.iload_n 1, 1) := by decide +kernel
theorem dX1_findReached_3 : decode cX1_findReached 3 = .ok (.bipush 56, 2) := by decide +kernel
theorem dX1_findReached_5 : decode cX1_findReached 5 = .ok (.if_icmp .ge 25, 3) := by decide +kernel
theorem dX1_findReached_8 : decode cX1_findReached 8 = .ok (.aload_n 0, 1) := by decide +kernel
theorem dX1_findReached_9 : decode cX1_findReached 9 = .ok (.getfield 15, 3) := by decide +kernel
theorem dX1_findReached_12 : decode cX1_findReached 12 = .ok (.iload_n 1, 1) := by decide +kernel
theorem dX1_findReached_13 : decode cX1_findReached 13 = .ok (.aload_n 0, 1) := by decide +kernel
theorem dX1_findReached_14 : decode cX1_findReached 14 = .ok (.getfield 9, 3) := by decide +kernel
theorem dX1_findReached_17 : decode cX1_findReached 17 = .ok (.iload_n 1, 1) := by decide +kernel
theorem dX1_findReached_18 : decode cX1_findReached 18 = .ok (.laload, 1) := by decide +kernel
theorem dX1_findReached_19 : decode cX1_findReached 19 = .ok (.lconst 1, 1) := by decide +kernel
theorem dX1_findReached_20 : decode cX1_findReached 20 = .ok (.iload_n 1, 1) := by decide +kernel
theorem dX1_findReached_21 : decode cX1_findReached 21 = .ok (.lshl, 1) := by decide +kernel
theorem dX1_findReached_22 : decode cX1_findReached 22 = .ok (.lor, 1) := by decide +kernel
theorem dX1_findReached_23 : decode cX1_findReached 23 = .ok (.lastore, 1) := by decide +kernel
theorem dX1_findReached_24 : decode cX1_findReached 24 = .ok (.iinc 1 1, 3) := by decide +kernel
theorem dX1_findReached_27 : decode cX1_findReached 27 = .ok (.goto (-25), 3) := by decide +kernel
theorem dX1_findReached_30 : decode cX1_findReached 30 = .ok (.iconst 0, 1) := by decide +kernel
theorem dX1_findReached_31 : decode cX1_findReached 31 = .ok (.istore_n 1, 1) := by decide +kernel
theorem dX1_findReached_32 : decode cX1_findReached 32 = .ok (.iload_n 1, 1) := by decide +kernel
theorem dX1_findReached_33 : decode cX1_findReached 33 = .ok (.bipush 56, 2) := by decide +kernel
theorem dX1_findReached_35 : decode cX1_findReached 35 = .ok (.if_icmp .ge 51, 3) := by decide +kernel
theorem dX1_findReached_38 : decode cX1_findReached 38 = .ok (.iconst 0, 1) := by decide +kernel
theorem dX1_findReached_39 : decode cX1_findReached 39 = .ok (.istore_n 2, 1) := by decide +kernel
theorem dX1_findReached_40 : decode cX1_findReached 40 = .ok (.iload_n 2, 1) := by decide +kernel
theorem dX1_findReached_41 : decode cX1_findReached 41 = .ok (.bipush 56, 2) := by decide +kernel
theorem dX1_findReached_43 : decode cX1_findReached 43 = .ok (.if_icmp .ge 37, 3) := by decide +kernel
theorem dX1_findReached_46 : decode cX1_findReached 46 = .ok (.aload_n 0, 1) := by decide +kernel
theorem dX1_findReached_47 : decode cX1_findReached 47 = .ok (.getfield 15, 3) := by decide +kernel
theorem dX1_findReached_50 : decode cX1_findReached 50 = .ok (.iload_n 2, 1) := by decide +kernel
theorem dX1_findReached_51 : decode cX1_findReached 51 = .ok (.laload, 1) := by decide +kernel
theorem dX1_findReached_52 : decode cX1_findReached 52 = .ok (.iload_n 1, 1) := by decide +kernel
theorem dX1_findReached_53 : decode cX1_findReached 53 = .ok (.invokestatic 92, 3) := by decide +kernel
theorem dX1_findReached_56 : decode cX1_findReached 56 = .ok (.ifCond .eq 18, 3) := by decide +kernel
theorem dX1_findReached_59 : decode cX1_findReached 59 = .ok (.aload_n 0, 1) := by decide +kernel
theorem dX1_findReached_60 : decode cX1_findReached 60 = .ok (.getfield 15, 3) := by decide +kernel
theorem dX1_findReached_63 : decode cX1_findReached 63 = .ok (.iload_n 2, 1) := by decide +kernel
theorem dX1_findReached_64 : decode cX1_findReached 64 = .ok (.dup2, 1) := by decide +kernel
theorem dX1_findReached_65 : decode cX1_findReached 65 = .ok (.laload, 1) := by decide +kernel
theorem dX1_findReached_66 : decode cX1_findReached 66 = .ok (.aload_n 0, 1) := by decide +kernel
theorem dX1_findReached_67 : decode cX1_findReached 67 = .ok (.getfield 15, 3) := by decide +kernel
theorem dX1_findReached_70 : decode cX1_findReached 70 = .ok (.iload_n 1, 1) := by decide +kernel
theorem dX1_findReached_71 : decode cX1_findReached 71 = .ok (.laload, 1) := by decide +kernel
theorem dX1_findReached_72 : decode cX1_findReached 72 = .ok (.lor, 1) := by decide +kernel
theorem dX1_findReached_73 : decode cX1_findReached 73 = .ok (.lastore, 1) := by decide +kernel
theorem dX1_findReached_74 : decode cX1_findReached 74 = .ok (.iinc 2 1, 3) := by decide +kernel
theorem dX1_findReached_77 : decode cX1_findReached 77 = .ok (.goto (-37), 3) := by decide +kernel
theorem dX1_findReached_80 : decode cX1_findReached 80 = .ok (.iinc 1 1, 3) := by decide +kernel
theorem dX1_findReached_83 : decode cX1_findReached 83 = .ok (.goto (-51), 3) := by decide +kernel
theorem dX1_findReached_86 : decode cX1_findReached 86 = .ok (.return_, 1) := by decide +kernel
set_option maxHeartbeats 4000000 in
set_option maxRecDepth 100000 in
theorem c_X1_findReached {l : Launch} {g : Gh} {w : Wd} {k0 : Nat} {wz : Wd} (hF : f_X1_findReached w k0 = some wz) (hk0 : zct zC k0 = 1) : Met l yX1_findReached (Cond.code yX1_findReached cX1_findReached 3 none :: TT) (rmd 1) (Pcw zC g w [.ref (g.2.2 k0)]) (Qw zC g wz none) 0 0 (zA zC g) := by
  refine mt_start (by decide) (Nat.le_of_ble_eq_true rfl) ?_
  intro p e s m args below meth c H locs ls X hr hl hH
  have hx := X.1
  have hb := X.2.1
  have hml := X.2.2.1
  have hown := X.2.2.2.1
  have ht := X.2.2.2.2.1
  have hl : lv_has ls 3 [(0, .ref (g.2.2 (k0)))] := hl
  unfold f_X1_findReached at hF
  refine lv_iconst (v := (0 : Int32)) hx hb dX1_findReached_0 (by decide) ?_
  refine lv_istore_n (lv' := [(1, .int ((0 : Int32))), (0, .ref (g.2.2 (k0)))]) hx hb dX1_findReached_1 rfl hl (by decide) rfl (fun ls hl => ?_)
  obtain ⟨r2, hLr2, hF⟩ := ob hF
  have Jr2 : ∀ (H : Heap) (locs : List Loc) (ls : Array Slot), HW zC g r2 s.heap H locs → lv_has ls 3 [(0, .ref (g.2.2 (k0)))] → W p l e (rmd 1) s m args below meth c H locs 0 0 (MQ below (Qw zC g wz none) args s 0 0 (zA zC g)) (F0 m 30 ls []) := by
    intro H locs ls hH hl
    refine lv_iconst (v := (0 : Int32)) hx hb dX1_findReached_30 (by decide) ?_
    refine lv_istore_n (lv' := [(1, .int ((0 : Int32))), (0, .ref (g.2.2 (k0)))]) hx hb dX1_findReached_31 rfl hl (by decide) rfl (fun ls hl => ?_)
    obtain ⟨r7, hLr7, hF⟩ := ob hF
    have Jr7 : ∀ (H : Heap) (locs : List Loc) (ls : Array Slot), HW zC g r7 s.heap H locs → lv_has ls 3 [(0, .ref (g.2.2 (k0)))] → W p l e (rmd 1) s m args below meth c H locs 0 0 (MQ below (Qw zC g wz none) args s 0 0 (zA zC g)) (F0 m 86 ls []) := by
      intro H locs ls hH hl
      obtain rfl := se1 hF
      exact w_vret X hH hr dX1_findReached_86
    have Lr7 : ∀ (n : Nat) (s6 : Int32 × Wd), lp (b_X1_findReached_2 k0) n s6 = some r7 → ∀ (H : Heap) (locs : List Loc) (ls : Array Slot), HW zC g s6.2 s.heap H locs → lv_has ls 3 [(0, .ref (g.2.2 (k0))), (1, .int (s6.1))] → W p l e (rmd 1) s m args below meth c H locs 0 0 (MQ below (Qw zC g wz none) args s 0 0 (zA zC g)) (F0 m 32 ls []) := by
      intro n
      induction n with
      | zero => intro s6 hL; exact lp_0 hL
      | succ n ih =>
        intro s6 hL H locs ls hH hl
        obtain ⟨bb, hF, hL⟩ := lp_s hL
        unfold b_X1_findReached_2 at hF
        refine lv_iload_n hx hb dX1_findReached_32 rfl (lv_at hl 1 rfl) ?_
        refine lv_bipush (v := (56 : Int32)) hx hb dX1_findReached_33 (by decide) ?_
        refine w_ilt_f (tgt := 86) hx hb dX1_findReached_35 (by decide) (fun c8 => ?_) (fun c8 => ?_)
        · replace hF := ifn c8 hF
          obtain rfl := se1 hF
          subst hL
          exact Jr7 _ _ _ hH (lv_sub hl [0] rfl)
        · replace hF := ifp c8 hF
          refine lv_iconst (v := (0 : Int32)) hx hb dX1_findReached_38 (by decide) ?_
          refine lv_istore_n (lv' := [(2, .int ((0 : Int32))), (0, .ref (g.2.2 (k0))), (1, .int (s6.1))]) hx hb dX1_findReached_39 rfl hl (by decide) rfl (fun ls hl => ?_)
          obtain ⟨r10, hLr10, hF⟩ := ob hF
          have Jr10 : ∀ (H : Heap) (locs : List Loc) (ls : Array Slot), HW zC g r10 s.heap H locs → lv_has ls 3 [(0, .ref (g.2.2 (k0))), (1, .int (s6.1))] → W p l e (rmd 1) s m args below meth c H locs 0 0 (MQ below (Qw zC g wz none) args s 0 0 (zA zC g)) (F0 m 80 ls []) := by
            intro H locs ls hH hl
            refine lv_iinc (v := (s6.1 + (1 : Int32))) (lv' := [(1, .int ((s6.1 + (1 : Int32)))), (0, .ref (g.2.2 (k0)))]) hx hb dX1_findReached_80 hl (k := 1) rfl rfl (by decide) rfl (fun ls hl => ?_)
            refine lv_goto (tgt := 32) hx hb dX1_findReached_83 (by decide) ?_
            obtain rfl := se1 hF
            exact ih _ hL _ _ _ hH (lv_sub hl [1, 0] rfl)
          have Lr10 : ∀ (n : Nat) (s9 : Int32 × Wd), lp (b_X1_findReached_3 k0 s6) n s9 = some r10 → ∀ (H : Heap) (locs : List Loc) (ls : Array Slot), HW zC g s9.2 s.heap H locs → lv_has ls 3 [(0, .ref (g.2.2 (k0))), (1, .int (s6.1)), (2, .int (s9.1))] → W p l e (rmd 1) s m args below meth c H locs 0 0 (MQ below (Qw zC g wz none) args s 0 0 (zA zC g)) (F0 m 40 ls []) := by
            intro n
            induction n with
            | zero => intro s9 hL; exact lp_0 hL
            | succ n ih =>
              intro s9 hL H locs ls hH hl
              obtain ⟨bb, hF, hL⟩ := lp_s hL
              unfold b_X1_findReached_3 at hF
              refine lv_iload_n hx hb dX1_findReached_40 rfl (lv_at hl 2 rfl) ?_
              refine lv_bipush (v := (56 : Int32)) hx hb dX1_findReached_41 (by decide) ?_
              refine w_ilt_f (tgt := 80) hx hb dX1_findReached_43 (by decide) (fun c11 => ?_) (fun c11 => ?_)
              · replace hF := ifn c11 hF
                obtain rfl := se1 hF
                subst hL
                exact Jr10 _ _ _ hH (lv_sub hl [0, 1] rfl)
              · replace hF := ifp c11 hF
                obtain ⟨s12, hs12, hF⟩ := ob hF
                have Js12 : ∀ (H : Heap) (locs : List Loc) (ls : Array Slot), HW zC g s12 s.heap H locs → lv_has ls 3 [(0, .ref (g.2.2 (k0))), (1, .int (s6.1)), (2, .int (s9.1))] → W p l e (rmd 1) s m args below meth c H locs 0 0 (MQ below (Qw zC g wz none) args s 0 0 (zA zC g)) (F0 m 74 ls []) := by
                  intro H locs ls hH hl
                  refine lv_iinc (v := (s9.1 + (1 : Int32))) (lv' := [(2, .int ((s9.1 + (1 : Int32)))), (0, .ref (g.2.2 (k0))), (1, .int (s6.1))]) hx hb dX1_findReached_74 hl (k := 2) rfl rfl (by decide) rfl (fun ls hl => ?_)
                  refine lv_goto (tgt := 40) hx hb dX1_findReached_77 (by decide) ?_
                  obtain rfl := se1 hF
                  exact ih _ hL _ _ _ hH (lv_sub hl [1, 2, 0] rfl)
                have hF := hs12
                refine lv_aload_n hx hb dX1_findReached_46 rfl (lv_at hl 0 rfl) ?_
                refine w_getr X hH hk0 fs_1_1 lk_1_15 dX1_findReached_47 ?_
                refine lv_iload_n hx hb dX1_findReached_50 rfl (lv_at hl 2 rfl) ?_
                obtain ⟨x13, h13, hF⟩ := ob hF
                refine w_lald X hH h13 (rt_C_1_1 hk0) dX1_findReached_51 ?_
                refine lv_iload_n hx hb dX1_findReached_52 rfl (lv_at hl 1 rfl) ?_
                refine w_callS (As := [.long (x13), .int (s6.1)]) (rest := []) (st1 := [.int (bI ((f_X9_holds (x13) (s6.1))))]) X hH (c_X9_holds (l := l) (g := g) (w := s9.2) (v_set := x13) (v_slot := s6.1) rfl) (Or.inr ⟨_, tw_3_76⟩) ms_X9_holds tw_3_77 ⟨Nat.le_of_ble_eq_true rfl, Nat.le_of_ble_eq_true rfl⟩ rfl rfl hl.1 (Nat.le_of_ble_eq_true rfl) dX1_findReached_53 ⟨Nat.le_refl _, Nat.le_refl _⟩ rfl (fun H locs hH => ?_)
                refine w_b_f (tgt := 74) hx hb dX1_findReached_56 (by decide) (fun c14 => ?_) (fun c14 => ?_)
                · replace hF := ifn c14 hF
                  obtain rfl := se1 hF
                  exact Js12 _ _ _ hH (lv_sub hl [0, 1, 2] rfl)
                · replace hF := ifp c14 hF
                  refine lv_aload_n hx hb dX1_findReached_59 rfl (lv_at hl 0 rfl) ?_
                  refine w_getr X hH hk0 fs_1_1 lk_1_15 dX1_findReached_60 ?_
                  refine lv_iload_n hx hb dX1_findReached_63 rfl (lv_at hl 2 rfl) ?_
                  refine lv_dup2_11 hx hb dX1_findReached_64 rfl rfl ?_
                  obtain ⟨x15, h15, hF⟩ := ob hF
                  refine w_lald X hH h15 (rt_C_1_1 hk0) dX1_findReached_65 ?_
                  refine lv_aload_n hx hb dX1_findReached_66 rfl (lv_at hl 0 rfl) ?_
                  refine w_getr X hH hk0 fs_1_1 lk_1_15 dX1_findReached_67 ?_
                  refine lv_iload_n hx hb dX1_findReached_70 rfl (lv_at hl 1 rfl) ?_
                  obtain ⟨x16, h16, hF⟩ := ob hF
                  refine w_lald X hH h16 (rt_C_1_1 hk0) dX1_findReached_71 ?_
                  refine lv_lor hx hb dX1_findReached_72 ?_
                  obtain ⟨w17, h17, hF⟩ := ob hF
                  refine w_last X hH h17 (rt_C_1_1 hk0) dX1_findReached_73 (fun H locs hH => ?_)
                  obtain rfl := se1 hF
                  exact Js12 _ _ _ hH (lv_sub hl [0, 1, 2] rfl)
          exact Lr10 NF _ hLr10 _ _ _ hH (lv_sub hl [1, 2, 0] rfl)
    exact Lr7 NF _ hLr7 _ _ _ hH (lv_sub hl [1, 0] rfl)
  have Lr2 : ∀ (n : Nat) (s1 : Int32 × Wd), lp (b_X1_findReached_1 k0) n s1 = some r2 → ∀ (H : Heap) (locs : List Loc) (ls : Array Slot), HW zC g s1.2 s.heap H locs → lv_has ls 3 [(0, .ref (g.2.2 (k0))), (1, .int (s1.1))] → W p l e (rmd 1) s m args below meth c H locs 0 0 (MQ below (Qw zC g wz none) args s 0 0 (zA zC g)) (F0 m 2 ls []) := by
    intro n
    induction n with
    | zero => intro s1 hL; exact lp_0 hL
    | succ n ih =>
      intro s1 hL H locs ls hH hl
      obtain ⟨bb, hF, hL⟩ := lp_s hL
      unfold b_X1_findReached_1 at hF
      refine lv_iload_n hx hb dX1_findReached_2 rfl (lv_at hl 1 rfl) ?_
      refine lv_bipush (v := (56 : Int32)) hx hb dX1_findReached_3 (by decide) ?_
      refine w_ilt_f (tgt := 30) hx hb dX1_findReached_5 (by decide) (fun c3 => ?_) (fun c3 => ?_)
      · replace hF := ifn c3 hF
        obtain rfl := se1 hF
        subst hL
        exact Jr2 _ _ _ hH (lv_sub hl [0] rfl)
      · replace hF := ifp c3 hF
        refine lv_aload_n hx hb dX1_findReached_8 rfl (lv_at hl 0 rfl) ?_
        refine w_getr X hH hk0 fs_1_1 lk_1_15 dX1_findReached_9 ?_
        refine lv_iload_n hx hb dX1_findReached_12 rfl (lv_at hl 1 rfl) ?_
        refine lv_aload_n hx hb dX1_findReached_13 rfl (lv_at hl 0 rfl) ?_
        refine w_getr X hH hk0 fs_1_0 lk_1_9 dX1_findReached_14 ?_
        refine lv_iload_n hx hb dX1_findReached_17 rfl (lv_at hl 1 rfl) ?_
        obtain ⟨x4, h4, hF⟩ := ob hF
        refine w_lald X hH h4 (rt_C_1_0 hk0) dX1_findReached_18 ?_
        refine lv_lconst (v := 1) hx hb dX1_findReached_19 (by decide) ?_
        refine lv_iload_n hx hb dX1_findReached_20 rfl (lv_at hl 1 rfl) ?_
        refine w_lshl hx hb dX1_findReached_21 ?_
        refine lv_lor hx hb dX1_findReached_22 ?_
        obtain ⟨w5, h5, hF⟩ := ob hF
        refine w_last X hH h5 (rt_C_1_1 hk0) dX1_findReached_23 (fun H locs hH => ?_)
        refine lv_iinc (v := (s1.1 + (1 : Int32))) (lv' := [(1, .int ((s1.1 + (1 : Int32)))), (0, .ref (g.2.2 (k0)))]) hx hb dX1_findReached_24 hl (k := 1) rfl rfl (by decide) rfl (fun ls hl => ?_)
        refine lv_goto (tgt := 2) hx hb dX1_findReached_27 (by decide) ?_
        obtain rfl := se1 hF
        exact ih _ hL _ _ _ hH (lv_sub hl [1, 0] rfl)
  exact Lr2 NF _ hLr2 _ _ _ hH (lv_sub hl [1, 0] rfl)

theorem dX1_findComponents_0 : decode cX1_findComponents 0 = .ok (.iconst 0, 1) := by decide +kernel
theorem dX1_findComponents_1 : decode cX1_findComponents 1 = .ok (.istore_n 1, 1) := by decide +kernel
theorem dX1_findComponents_2 : decode cX1_findComponents 2 = .ok (.iload_n 1, 1) := by decide +kernel
theorem dX1_findComponents_3 : decode cX1_findComponents 3 = .ok (.bipush 56, 2) := by decide +kernel
theorem dX1_findComponents_5 : decode cX1_findComponents 5 = .ok (.if_icmp .ge 69, 3) := by decide +kernel
theorem dX1_findComponents_8 : decode cX1_findComponents 8 = .ok (.lconst 0, 1) := by decide +kernel
theorem dX1_findComponents_9 : decode cX1_findComponents 9 = .ok (.lstore_n 2, 1) := by decide +kernel
theorem dX1_findComponents_10 : decode cX1_findComponents 10 = .ok (.iconst 0, 1) := by decide +kernel
theorem dX1_findComponents_11 : decode cX1_findComponents 11 = .ok (.istore 4, 2) := by decide +kernel
theorem dX1_findComponents_13 : decode cX1_findComponents 13 = .ok (.iload 4, 2) := by decide +kernel
theorem dX1_findComponents_15 : decode cX1_findComponents 15 = .ok (.bipush 56, 2) := by decide +kernel
theorem dX1_findComponents_17 : decode cX1_findComponents 17 = .ok (.if_icmp .ge 44, 3) := by decide +kernel
theorem dX1_findComponents_20 : decode cX1_findComponents 20 = .ok (.aload_n 0, 1) := by decide +kernel
theorem dX1_findComponents_21 : decode cX1_findComponents 21 = .ok (.getfield 15, 3) := by decide +kernel
theorem dX1_findComponents_24 : decode cX1_findComponents 24 = .ok (.iload_n 1, 1) := by decide +kernel
theorem dX1_findComponents_25 : decode cX1_findComponents 25 = .ok (.laload, 1) := by decide +kernel
theorem dX1_findComponents_26 : decode cX1_findComponents 26 = .ok (.iload 4, 2) := by decide +kernel
theorem dX1_findComponents_28 : decode cX1_findComponents 28 = .ok (.invokestatic 92, 3) := by decide +kernel
theorem dX1_findComponents_31 : decode cX1_findComponents 31 = .ok (.ifCond .eq 24, 3) := by decide +kernel
theorem dX1_findComponents_34 : decode cX1_findComponents 34 = .ok (.aload_n 0, 1) := by decide +kernel
theorem dX1_findComponents_35 : decode cX1_findComponents 35 = .ok (.getfield 15, 3) := by decide +kernel
theorem dX1_findComponents_38 : decode cX1_findComponents 38 = .ok (.iload 4, 2) := by decide +kernel
theorem dX1_findComponents_40 : decode cX1_findComponents 40 = .ok (.laload, 1) := by decide +kernel
theorem dX1_findComponents_41 : decode cX1_findComponents 41 = .ok (.iload_n 1, 1) := by decide +kernel
theorem dX1_findComponents_42 : decode cX1_findComponents 42 = .ok (.invokestatic 92, 3) := by decide +kernel
theorem dX1_findComponents_45 : decode cX1_findComponents 45 = .ok (.ifCond .eq 10, 3) := by decide +kernel
theorem dX1_findComponents_48 : decode cX1_findComponents 48 = .ok (.lload_n 2, 1) := by decide +kernel
theorem dX1_findComponents_49 : decode cX1_findComponents 49 = .ok (.lconst 1, 1) := by decide +kernel
theorem dX1_findComponents_50 : decode cX1_findComponents 50 = .ok (.iload 4, 2) := by decide +kernel
theorem dX1_findComponents_52 : decode cX1_findComponents 52 = .ok (.lshl, 1) := by decide +kernel
theorem dX1_findComponents_53 : decode cX1_findComponents 53 = .ok (.lor, 1) := by decide +kernel
theorem dX1_findComponents_54 : decode cX1_findComponents 54 = .ok (.lstore_n 2, 1) := by decide +kernel
theorem dX1_findComponents_55 : decode cX1_findComponents 55 = .ok (.iinc 4 1, 3) := by decide +kernel
theorem dX1_findComponents_58 : decode cX1_findComponents 58 = .ok (.goto (-45), 3) := by decide +kernel
theorem dX1_findComponents_61 : decode cX1_findComponents 61 = .ok (.aload_n 0, 1) := by decide +kernel
theorem dX1_findComponents_62 : decode cX1_findComponents 62 = .ok (.getfield 18, 3) := by decide +kernel
theorem dX1_findComponents_65 : decode cX1_findComponents 65 = .ok (.iload_n 1, 1) := by decide +kernel
theorem dX1_findComponents_66 : decode cX1_findComponents 66 = .ok (.lload_n 2, 1) := by decide +kernel
theorem dX1_findComponents_67 : decode cX1_findComponents 67 = .ok (.lastore, 1) := by decide +kernel
theorem dX1_findComponents_68 : decode cX1_findComponents 68 = .ok (.iinc 1 1, 3) := by decide +kernel
theorem dX1_findComponents_71 : decode cX1_findComponents 71 = .ok (.goto (-69), 3) := by decide +kernel
theorem dX1_findComponents_74 : decode cX1_findComponents 74 = .ok (.return_, 1) := by decide +kernel
set_option maxHeartbeats 4000000 in
set_option maxRecDepth 100000 in
theorem c_X1_findComponents {l : Launch} {g : Gh} {w : Wd} {k0 : Nat} {wz : Wd} (hF : f_X1_findComponents w k0 = some wz) (hk0 : zct zC k0 = 1) : Met l yX1_findComponents (Cond.code yX1_findComponents cX1_findComponents 5 none :: TT) (rmd 1) (Pcw zC g w [.ref (g.2.2 k0)]) (Qw zC g wz none) 0 0 (zA zC g) := by
  refine mt_start (by decide) (Nat.le_of_ble_eq_true rfl) ?_
  intro p e s m args below meth c H locs ls X hr hl hH
  have hx := X.1
  have hb := X.2.1
  have hml := X.2.2.1
  have hown := X.2.2.2.1
  have ht := X.2.2.2.2.1
  have hl : lv_has ls 5 [(0, .ref (g.2.2 (k0)))] := hl
  unfold f_X1_findComponents at hF
  refine lv_iconst (v := (0 : Int32)) hx hb dX1_findComponents_0 (by decide) ?_
  refine lv_istore_n (lv' := [(1, .int ((0 : Int32))), (0, .ref (g.2.2 (k0)))]) hx hb dX1_findComponents_1 rfl hl (by decide) rfl (fun ls hl => ?_)
  obtain ⟨r2, hLr2, hF⟩ := ob hF
  have Jr2 : ∀ (H : Heap) (locs : List Loc) (ls : Array Slot), HW zC g r2 s.heap H locs → lv_has ls 5 [(0, .ref (g.2.2 (k0)))] → W p l e (rmd 1) s m args below meth c H locs 0 0 (MQ below (Qw zC g wz none) args s 0 0 (zA zC g)) (F0 m 74 ls []) := by
    intro H locs ls hH hl
    obtain rfl := se1 hF
    exact w_vret X hH hr dX1_findComponents_74
  have Lr2 : ∀ (n : Nat) (s1 : Int32 × Wd), lp (b_X1_findComponents_1 k0) n s1 = some r2 → ∀ (H : Heap) (locs : List Loc) (ls : Array Slot), HW zC g s1.2 s.heap H locs → lv_has ls 5 [(0, .ref (g.2.2 (k0))), (1, .int (s1.1))] → W p l e (rmd 1) s m args below meth c H locs 0 0 (MQ below (Qw zC g wz none) args s 0 0 (zA zC g)) (F0 m 2 ls []) := by
    intro n
    induction n with
    | zero => intro s1 hL; exact lp_0 hL
    | succ n ih =>
      intro s1 hL H locs ls hH hl
      obtain ⟨bb, hF, hL⟩ := lp_s hL
      unfold b_X1_findComponents_1 at hF
      refine lv_iload_n hx hb dX1_findComponents_2 rfl (lv_at hl 1 rfl) ?_
      refine lv_bipush (v := (56 : Int32)) hx hb dX1_findComponents_3 (by decide) ?_
      refine w_ilt_f (tgt := 74) hx hb dX1_findComponents_5 (by decide) (fun c3 => ?_) (fun c3 => ?_)
      · replace hF := ifn c3 hF
        obtain rfl := se1 hF
        subst hL
        exact Jr2 _ _ _ hH (lv_sub hl [0] rfl)
      · replace hF := ifp c3 hF
        refine lv_lconst (v := 0) hx hb dX1_findComponents_8 (by decide) ?_
        refine lv_lstore_n (lv' := [(2, .long ((0 : Int64))), (0, .ref (g.2.2 (k0))), (1, .int (s1.1))]) hx hb dX1_findComponents_9 rfl hl (by decide) rfl (fun ls hl => ?_)
        refine lv_iconst (v := (0 : Int32)) hx hb dX1_findComponents_10 (by decide) ?_
        refine lv_istore (lv' := [(4, .int ((0 : Int32))), (2, .long ((0 : Int64))), (0, .ref (g.2.2 (k0))), (1, .int (s1.1))]) hx hb dX1_findComponents_11 hl (by decide) rfl (fun ls hl => ?_)
        obtain ⟨r5, hLr5, hF⟩ := ob hF
        have Jr5 : ∀ (H : Heap) (locs : List Loc) (ls : Array Slot), HW zC g s1.2 s.heap H locs → lv_has ls 5 [(0, .ref (g.2.2 (k0))), (1, .int (s1.1)), (2, .long (r5))] → W p l e (rmd 1) s m args below meth c H locs 0 0 (MQ below (Qw zC g wz none) args s 0 0 (zA zC g)) (F0 m 61 ls []) := by
          intro H locs ls hH hl
          refine lv_aload_n hx hb dX1_findComponents_61 rfl (lv_at hl 0 rfl) ?_
          refine w_getr X hH hk0 fs_1_2 lk_1_18 dX1_findComponents_62 ?_
          refine lv_iload_n hx hb dX1_findComponents_65 rfl (lv_at hl 1 rfl) ?_
          refine lv_lload_n hx hb dX1_findComponents_66 rfl (lv_at hl 2 rfl) ?_
          obtain ⟨w13, h13, hF⟩ := ob hF
          refine w_last X hH h13 (rt_C_1_2 hk0) dX1_findComponents_67 (fun H locs hH => ?_)
          refine lv_iinc (v := (s1.1 + (1 : Int32))) (lv' := [(1, .int ((s1.1 + (1 : Int32)))), (0, .ref (g.2.2 (k0))), (2, .long (r5))]) hx hb dX1_findComponents_68 hl (k := 1) rfl rfl (by decide) rfl (fun ls hl => ?_)
          refine lv_goto (tgt := 2) hx hb dX1_findComponents_71 (by decide) ?_
          obtain rfl := se1 hF
          exact ih _ hL _ _ _ hH (lv_sub hl [1, 0] rfl)
        have Lr5 : ∀ (n : Nat) (s4 : Int64 × Int32), lp (b_X1_findComponents_2 s1 k0) n s4 = some r5 → ∀ (H : Heap) (locs : List Loc) (ls : Array Slot), HW zC g s1.2 s.heap H locs → lv_has ls 5 [(0, .ref (g.2.2 (k0))), (1, .int (s1.1)), (2, .long (s4.1)), (4, .int (s4.2))] → W p l e (rmd 1) s m args below meth c H locs 0 0 (MQ below (Qw zC g wz none) args s 0 0 (zA zC g)) (F0 m 13 ls []) := by
          intro n
          induction n with
          | zero => intro s4 hL; exact lp_0 hL
          | succ n ih =>
            intro s4 hL H locs ls hH hl
            obtain ⟨bb, hF, hL⟩ := lp_s hL
            unfold b_X1_findComponents_2 at hF
            refine lv_iload hx hb dX1_findComponents_13 (lv_at hl 3 rfl) ?_
            refine lv_bipush (v := (56 : Int32)) hx hb dX1_findComponents_15 (by decide) ?_
            refine w_ilt_f (tgt := 61) hx hb dX1_findComponents_17 (by decide) (fun c6 => ?_) (fun c6 => ?_)
            · replace hF := ifn c6 hF
              obtain rfl := se1 hF
              subst hL
              exact Jr5 _ _ _ hH (lv_sub hl [0, 1, 2] rfl)
            · replace hF := ifp c6 hF
              obtain ⟨s7, hs7, hF⟩ := ob hF
              have Js7 : ∀ (H : Heap) (locs : List Loc) (ls : Array Slot), HW zC g s1.2 s.heap H locs → lv_has ls 5 [(0, .ref (g.2.2 (k0))), (1, .int (s1.1)), (2, .long (s7)), (4, .int (s4.2))] → W p l e (rmd 1) s m args below meth c H locs 0 0 (MQ below (Qw zC g wz none) args s 0 0 (zA zC g)) (F0 m 55 ls []) := by
                intro H locs ls hH hl
                refine lv_iinc (v := (s4.2 + (1 : Int32))) (lv' := [(4, .int ((s4.2 + (1 : Int32)))), (0, .ref (g.2.2 (k0))), (1, .int (s1.1)), (2, .long (s7))]) hx hb dX1_findComponents_55 hl (k := 3) rfl rfl (by decide) rfl (fun ls hl => ?_)
                refine lv_goto (tgt := 13) hx hb dX1_findComponents_58 (by decide) ?_
                obtain rfl := se1 hF
                exact ih _ hL _ _ _ hH (lv_sub hl [1, 2, 3, 0] rfl)
              have hF := hs7
              obtain ⟨b8, hb8, hF⟩ := ob hF
              have Jb8T : b8 = true → ∀ (H : Heap) (locs : List Loc), HW zC g s1.2 s.heap H locs → W p l e (rmd 1) s m args below meth c H locs 0 0 (MQ below (Qw zC g wz none) args s 0 0 (zA zC g)) (F0 m 48 ls []) := by
                intro hc H locs hH
                replace hF := ifp hc hF
                refine lv_lload_n hx hb dX1_findComponents_48 rfl (lv_at hl 2 rfl) ?_
                refine lv_lconst (v := 1) hx hb dX1_findComponents_49 (by decide) ?_
                refine lv_iload hx hb dX1_findComponents_50 (lv_at hl 3 rfl) ?_
                refine w_lshl hx hb dX1_findComponents_52 ?_
                refine lv_lor hx hb dX1_findComponents_53 ?_
                refine lv_lstore_n (lv' := [(2, .long ((s4.1 ||| (jlshl ((1 : Int64)) (s4.2))))), (0, .ref (g.2.2 (k0))), (1, .int (s1.1)), (4, .int (s4.2))]) hx hb dX1_findComponents_54 rfl hl (by decide) rfl (fun ls hl => ?_)
                obtain rfl := se1 hF
                exact Js7 _ _ _ hH (lv_sub hl [1, 2, 0, 3] rfl)
              have Jb8F : ¬ (b8 = true) → ∀ (H : Heap) (locs : List Loc), HW zC g s1.2 s.heap H locs → W p l e (rmd 1) s m args below meth c H locs 0 0 (MQ below (Qw zC g wz none) args s 0 0 (zA zC g)) (F0 m 55 ls []) := by
                intro hc H locs hH
                replace hF := ifn hc hF
                obtain rfl := se1 hF
                exact Js7 _ _ _ hH (lv_sub hl [0, 1, 2, 3] rfl)
              have hF := hb8
              refine lv_aload_n hx hb dX1_findComponents_20 rfl (lv_at hl 0 rfl) ?_
              refine w_getr X hH hk0 fs_1_1 lk_1_15 dX1_findComponents_21 ?_
              refine lv_iload_n hx hb dX1_findComponents_24 rfl (lv_at hl 1 rfl) ?_
              obtain ⟨x10, h10, hF⟩ := ob hF
              refine w_lald X hH h10 (rt_C_1_1 hk0) dX1_findComponents_25 ?_
              refine lv_iload hx hb dX1_findComponents_26 (lv_at hl 3 rfl) ?_
              refine w_callS (As := [.long (x10), .int (s4.2)]) (rest := []) (st1 := [.int (bI ((f_X9_holds (x10) (s4.2))))]) X hH (c_X9_holds (l := l) (g := g) (w := s1.2) (v_set := x10) (v_slot := s4.2) rfl) (Or.inr ⟨_, tw_3_76⟩) ms_X9_holds tw_3_77 ⟨Nat.le_of_ble_eq_true rfl, Nat.le_of_ble_eq_true rfl⟩ rfl rfl hl.1 (Nat.le_of_ble_eq_true rfl) dX1_findComponents_28 ⟨Nat.le_refl _, Nat.le_refl _⟩ rfl (fun H locs hH => ?_)
              refine w_b_f (tgt := 55) hx hb dX1_findComponents_31 (by decide) (fun c9 => ?_) (fun c9 => ?_)
              · replace hF := ifn c9 hF
                obtain rfl := se1 hF
                exact Jb8F Bool.false_ne_true _ _ hH
              · replace hF := ifp c9 hF
                refine lv_aload_n hx hb dX1_findComponents_34 rfl (lv_at hl 0 rfl) ?_
                refine w_getr X hH hk0 fs_1_1 lk_1_15 dX1_findComponents_35 ?_
                refine lv_iload hx hb dX1_findComponents_38 (lv_at hl 3 rfl) ?_
                obtain ⟨x12, h12, hF⟩ := ob hF
                refine w_lald X hH h12 (rt_C_1_1 hk0) dX1_findComponents_40 ?_
                refine lv_iload_n hx hb dX1_findComponents_41 rfl (lv_at hl 1 rfl) ?_
                refine w_callS (As := [.long (x12), .int (s1.1)]) (rest := []) (st1 := [.int (bI ((f_X9_holds (x12) (s1.1))))]) X hH (c_X9_holds (l := l) (g := g) (w := s1.2) (v_set := x12) (v_slot := s1.1) rfl) (Or.inr ⟨_, tw_3_76⟩) ms_X9_holds tw_3_77 ⟨Nat.le_of_ble_eq_true rfl, Nat.le_of_ble_eq_true rfl⟩ rfl rfl hl.1 (Nat.le_of_ble_eq_true rfl) dX1_findComponents_42 ⟨Nat.le_refl _, Nat.le_refl _⟩ rfl (fun H locs hH => ?_)
                refine w_b_f (tgt := 55) hx hb dX1_findComponents_45 (by decide) (fun c11 => ?_) (fun c11 => ?_)
                · replace hF := ifn c11 hF
                  obtain rfl := se1 hF
                  exact Jb8F Bool.false_ne_true _ _ hH
                · replace hF := ifp c11 hF
                  obtain rfl := se1 hF
                  exact Jb8T rfl _ _ hH
        exact Lr5 NF _ hLr5 _ _ _ hH (lv_sub hl [2, 3, 1, 0] rfl)
  exact Lr2 NF _ hLr2 _ _ _ hH (lv_sub hl [1, 0] rfl)

theorem dX1_build_0 : decode cX1_build 0 = .ok (.aload_n 0, 1) := by decide +kernel
theorem dX1_build_1 : decode cX1_build 1 = .ok (.getfield 9, 3) := by decide +kernel
theorem dX1_build_4 : decode cX1_build 4 = .ok (.lconst 0, 1) := by decide +kernel
theorem dX1_build_5 : decode cX1_build 5 = .ok (.invokestatic 25, 3) := by decide +kernel
theorem dX1_build_8 : decode cX1_build 8 = .ok (.iconst 0, 1) := by decide +kernel
theorem dX1_build_9 : decode cX1_build 9 = .ok (.istore_n 3, 1) := by decide +kernel
theorem dX1_build_10 : decode cX1_build 10 = .ok (.iload_n 3, 1) := by decide +kernel
theorem dX1_build_11 : decode cX1_build 11 = .ok (.aload_n 1, 1) := by decide +kernel
theorem dX1_build_12 : decode cX1_build 12 = .ok (.getfield 31, 3) := by decide +kernel
theorem dX1_build_15 : decode cX1_build 15 = .ok (.getfield 37, 3) := by decide +kernel
theorem dX1_build_18 : decode cX1_build 18 = .ok (.if_icmp .ge 35, 3) := by decide +kernel
theorem dX1_build_21 : decode cX1_build 21 = .ok (.aload_n 1, 1) := by decide +kernel
theorem dX1_build_22 : decode cX1_build 22 = .ok (.getfield 31, 3) := by decide +kernel
theorem dX1_build_25 : decode cX1_build 25 = .ok (.iload_n 3, 1) := by decide +kernel
theorem dX1_build_26 : decode cX1_build 26 = .ok (.invokevirtual 43, 3) := by decide +kernel
theorem dX1_build_29 : decode cX1_build 29 = .ok (.ifCond .eq 18, 3) := by decide +kernel
theorem dX1_build_32 : decode cX1_build 32 = .ok (.aload_n 0, 1) := by decide +kernel
theorem dX1_build_33 : decode cX1_build 33 = .ok (.aload_n 1, 1) := by decide +kernel
theorem dX1_build_34 : decode cX1_build 34 = .ok (.iload_n 3, 1) := by decide +kernel
theorem dX1_build_35 : decode cX1_build 35 = .ok (.aload_n 1, 1) := by decide +kernel
theorem dX1_build_36 : decode cX1_build 36 = .ok (.aload_n 2, 1) := by decide +kernel
theorem dX1_build_37 : decode cX1_build 37 = .ok (.getfield 47, 3) := by decide +kernel
theorem dX1_build_40 : decode cX1_build 40 = .ok (.iload_n 3, 1) := by decide +kernel
theorem dX1_build_41 : decode cX1_build 41 = .ok (.invokevirtual 53, 3) := by decide +kernel
theorem dX1_build_44 : decode cX1_build 44 = .ok (.invokevirtual 57, 3) := by decide +kernel
theorem dX1_build_47 : decode cX1_build 47 = .ok (.iinc 3 1, 3) := by decide +kernel
theorem dX1_build_50 : decode cX1_build 50 = .ok (.goto (-40), 3) := by decide +kernel
theorem dX1_build_53 : decode cX1_build 53 = .ok (.aload_n 0, 1) := by decide +kernel
theorem dX1_build_54 : decode cX1_build 54 = .ok (.aload_n 1, 1) := by decide +kernel
theorem dX1_build_55 : decode cX1_build 55 = .ok (.invokevirtual 61, 3) := by decide +kernel
theorem dX1_build_58 : decode cX1_build 58 = .ok (.aload_n 0, 1) := by decide +kernel
theorem dX1_build_59 : decode cX1_build 59 = .ok (.invokevirtual 65, 3) := by decide +kernel
theorem dX1_build_62 : decode cX1_build 62 = .ok (.aload_n 0, 1) := by decide +kernel
theorem dX1_build_63 : decode cX1_build 63 = .ok (.invokevirtual 68, 3) := by decide +kernel
theorem dX1_build_66 : decode cX1_build 66 = .ok (.return_, 1) := by decide +kernel
set_option maxHeartbeats 4000000 in
set_option maxRecDepth 100000 in
theorem c_X1_build {l : Launch} {g : Gh} {w : Wd} {k0 : Nat} {v_program : Nat} {v_solution : Nat} {wz : Wd} (hF : f_X1_build w k0 v_program v_solution = some wz) (hk0 : zct zC k0 = 1) (hv_program : zct zC v_program = 6) (hv_solution : zct zC v_solution = 7) : Met l yX1_build (Cond.code yX1_build cX1_build 4 none :: TT) (rmd 3) (Pcw zC g w [.ref (g.2.2 k0), .ref (g.2.2 (v_program)), .ref (g.2.2 (v_solution))]) (Qw zC g wz none) 0 0 (zA zC g) := by
  refine mt_start (by decide) (Nat.le_of_ble_eq_true rfl) ?_
  intro p e s m args below meth c H locs ls X hr hl hH
  have hx := X.1
  have hb := X.2.1
  have hml := X.2.2.1
  have hown := X.2.2.2.1
  have ht := X.2.2.2.2.1
  have hl : lv_has ls 4 [(0, .ref (g.2.2 (k0))), (1, .ref (g.2.2 (v_program))), (2, .ref (g.2.2 (v_solution)))] := hl
  unfold f_X1_build at hF
  refine lv_aload_n hx hb dX1_build_0 rfl (lv_at hl 0 rfl) ?_
  refine w_getr X hH hk0 fs_1_0 lk_1_9 dX1_build_1 ?_
  refine lv_lconst (v := 0) hx hb dX1_build_4 (by decide) ?_
  obtain ⟨w1, h1, hF⟩ := ob hF
  refine w_callS (As := [.ref (g.2.2 ((zrf zC (k0) 0))), .long ((0 : Int64))]) (rest := []) (st1 := []) X hH (c_J7_fillL (l := l) (g := g) (w := w) (v_a := (zrf zC (k0) 0)) (v_val := (0 : Int64)) h1 (rt_C_1_0 hk0)) (Or.inl tw_3_51) ms_J7_fillL tw_3_52 ⟨Nat.le_of_ble_eq_true rfl, Nat.le_of_ble_eq_true rfl⟩ rfl rfl hl.1 (Nat.le_of_ble_eq_true rfl) dX1_build_5 ⟨Nat.le_refl _, Nat.le_refl _⟩ rfl (fun H locs hH => ?_)
  refine lv_iconst (v := (0 : Int32)) hx hb dX1_build_8 (by decide) ?_
  refine lv_istore_n (lv' := [(3, .int ((0 : Int32))), (0, .ref (g.2.2 (k0))), (1, .ref (g.2.2 (v_program))), (2, .ref (g.2.2 (v_solution)))]) hx hb dX1_build_9 rfl hl (by decide) rfl (fun ls hl => ?_)
  obtain ⟨r3, hLr3, hF⟩ := ob hF
  have Jr3 : ∀ (H : Heap) (locs : List Loc) (ls : Array Slot), HW zC g r3 s.heap H locs → lv_has ls 4 [(0, .ref (g.2.2 (k0))), (1, .ref (g.2.2 (v_program))), (2, .ref (g.2.2 (v_solution)))] → W p l e (rmd 3) s m args below meth c H locs 0 0 (MQ below (Qw zC g wz none) args s 0 0 (zA zC g)) (F0 m 53 ls []) := by
    intro H locs ls hH hl
    refine lv_aload_n hx hb dX1_build_53 rfl (lv_at hl 0 rfl) ?_
    refine lv_aload_n hx hb dX1_build_54 rfl (lv_at hl 1 rfl) ?_
    obtain ⟨w9, h9, hF⟩ := ob hF
    refine w_callV (As := [.ref (g.2.2 (v_program))]) (k := k0) (rest := []) (st1 := []) X hH (c_X1_findExisting (l := l) (g := g) (w := r3) (k0 := k0) (v_program := v_program) h9 hk0 hv_program) (Or.inl tw_3_64) ms_X1_findExisting im_X1_findExisting hk0 cn_1 ⟨Nat.le_of_ble_eq_true rfl, Nat.le_of_ble_eq_true rfl⟩ rfl rfl hl.1 (Nat.le_of_ble_eq_true rfl) dX1_build_55 ⟨Nat.le_refl _, Nat.le_refl _⟩ rfl (fun H locs hH => ?_)
    refine lv_aload_n hx hb dX1_build_58 rfl (lv_at hl 0 rfl) ?_
    obtain ⟨w10, h10, hF⟩ := ob hF
    refine w_callV (As := []) (k := k0) (rest := []) (st1 := []) X hH (c_X1_findReached (l := l) (g := g) (w := w9) (k0 := k0) h10 hk0) (Or.inl tw_3_72) ms_X1_findReached im_X1_findReached hk0 cn_1 ⟨Nat.le_of_ble_eq_true rfl, Nat.le_of_ble_eq_true rfl⟩ rfl rfl hl.1 (Nat.le_of_ble_eq_true rfl) dX1_build_59 ⟨Nat.le_refl _, Nat.le_refl _⟩ rfl (fun H locs hH => ?_)
    refine lv_aload_n hx hb dX1_build_62 rfl (lv_at hl 0 rfl) ?_
    obtain ⟨w11, h11, hF⟩ := ob hF
    refine w_callV (As := []) (k := k0) (rest := []) (st1 := []) X hH (c_X1_findComponents (l := l) (g := g) (w := w10) (k0 := k0) h11 hk0) (Or.inl tw_3_79) ms_X1_findComponents im_X1_findComponents hk0 cn_1 ⟨Nat.le_of_ble_eq_true rfl, Nat.le_of_ble_eq_true rfl⟩ rfl rfl hl.1 (Nat.le_of_ble_eq_true rfl) dX1_build_63 ⟨Nat.le_refl _, Nat.le_refl _⟩ rfl (fun H locs hH => ?_)
    obtain rfl := se1 hF
    exact w_vret X hH hr dX1_build_66
  have Lr3 : ∀ (n : Nat) (s2 : Int32 × Wd), lp (b_X1_build_1 v_program v_solution k0) n s2 = some r3 → ∀ (H : Heap) (locs : List Loc) (ls : Array Slot), HW zC g s2.2 s.heap H locs → lv_has ls 4 [(0, .ref (g.2.2 (k0))), (1, .ref (g.2.2 (v_program))), (2, .ref (g.2.2 (v_solution))), (3, .int (s2.1))] → W p l e (rmd 3) s m args below meth c H locs 0 0 (MQ below (Qw zC g wz none) args s 0 0 (zA zC g)) (F0 m 10 ls []) := by
    intro n
    induction n with
    | zero => intro s2 hL; exact lp_0 hL
    | succ n ih =>
      intro s2 hL H locs ls hH hl
      obtain ⟨bb, hF, hL⟩ := lp_s hL
      unfold b_X1_build_1 at hF
      refine lv_iload_n hx hb dX1_build_10 rfl (lv_at hl 3 rfl) ?_
      refine lv_aload_n hx hb dX1_build_11 rfl (lv_at hl 1 rfl) ?_
      refine w_getr X hH hv_program fs_6_6 lk_1_31 dX1_build_12 ?_
      refine w_geti X hH (rt_C_6_6 hv_program) fs_0_4 lk_1_37 dX1_build_15 ?_
      refine w_ilt_f (tgt := 53) hx hb dX1_build_18 (by decide) (fun c4 => ?_) (fun c4 => ?_)
      · replace hF := ifn c4 hF
        obtain rfl := se1 hF
        subst hL
        exact Jr3 _ _ _ hH (lv_sub hl [0, 1, 2] rfl)
      · replace hF := ifp c4 hF
        obtain ⟨s5, hs5, hF⟩ := ob hF
        have Js5 : ∀ (H : Heap) (locs : List Loc) (ls : Array Slot), HW zC g s5 s.heap H locs → lv_has ls 4 [(0, .ref (g.2.2 (k0))), (1, .ref (g.2.2 (v_program))), (2, .ref (g.2.2 (v_solution))), (3, .int (s2.1))] → W p l e (rmd 3) s m args below meth c H locs 0 0 (MQ below (Qw zC g wz none) args s 0 0 (zA zC g)) (F0 m 47 ls []) := by
          intro H locs ls hH hl
          refine lv_iinc (v := (s2.1 + (1 : Int32))) (lv' := [(3, .int ((s2.1 + (1 : Int32)))), (0, .ref (g.2.2 (k0))), (1, .ref (g.2.2 (v_program))), (2, .ref (g.2.2 (v_solution)))]) hx hb dX1_build_47 hl (k := 3) rfl rfl (by decide) rfl (fun ls hl => ?_)
          refine lv_goto (tgt := 10) hx hb dX1_build_50 (by decide) ?_
          obtain rfl := se1 hF
          exact ih _ hL _ _ _ hH (lv_sub hl [1, 2, 3, 0] rfl)
        have hF := hs5
        refine lv_aload_n hx hb dX1_build_21 rfl (lv_at hl 1 rfl) ?_
        refine w_getr X hH hv_program fs_6_6 lk_1_31 dX1_build_22 ?_
        refine lv_iload_n hx hb dX1_build_25 rfl (lv_at hl 3 rfl) ?_
        refine w_callV (As := [.int (s2.1)]) (k := (zrf zC (v_program) 6)) (rest := []) (st1 := [.int (bI ((f_X0_isEnabled s2.2 ((zrf zC (v_program) 6)) (s2.1))))]) X hH (c_X0_isEnabled (l := l) (g := g) (w := s2.2) (k0 := (zrf zC (v_program) 6)) (v_constraint := s2.1) rfl (rt_C_6_6 hv_program)) (Or.inr ⟨_, tw_3_54⟩) ms_X0_isEnabled im_X0_isEnabled (rt_C_6_6 hv_program) cn_0 ⟨Nat.le_of_ble_eq_true rfl, Nat.le_of_ble_eq_true rfl⟩ rfl rfl hl.1 (Nat.le_of_ble_eq_true rfl) dX1_build_26 ⟨Nat.le_refl _, Nat.le_refl _⟩ rfl (fun H locs hH => ?_)
        refine w_b_f (tgt := 47) hx hb dX1_build_29 (by decide) (fun c6 => ?_) (fun c6 => ?_)
        · replace hF := ifn c6 hF
          obtain rfl := se1 hF
          exact Js5 _ _ _ hH (lv_sub hl [0, 1, 2, 3] rfl)
        · replace hF := ifp c6 hF
          refine lv_aload_n hx hb dX1_build_32 rfl (lv_at hl 0 rfl) ?_
          refine lv_aload_n hx hb dX1_build_33 rfl (lv_at hl 1 rfl) ?_
          refine lv_iload_n hx hb dX1_build_34 rfl (lv_at hl 3 rfl) ?_
          refine lv_aload_n hx hb dX1_build_35 rfl (lv_at hl 1 rfl) ?_
          refine lv_aload_n hx hb dX1_build_36 rfl (lv_at hl 2 rfl) ?_
          refine w_getr X hH hv_solution fs_7_0 lk_1_47 dX1_build_37 ?_
          refine lv_iload_n hx hb dX1_build_40 rfl (lv_at hl 3 rfl) ?_
          obtain ⟨x7, h7, hF⟩ := ob hF
          refine w_callV (As := [.ref (g.2.2 ((zrf zC (v_solution) 0))), .int (s2.1)]) (k := v_program) (rest := [.int (s2.1), .ref (g.2.2 (v_program)), .ref (g.2.2 (k0))]) (st1 := [.int (x7), .int (s2.1), .ref (g.2.2 (v_program)), .ref (g.2.2 (k0))]) X hH (c_X6_viasIn (l := l) (g := g) (w := s2.2) (k0 := v_program) (v_sets := (zrf zC (v_solution) 0)) (v_constraint := s2.1) h7 hv_program (rt_C_7_0 hv_solution)) (Or.inr ⟨_, tw_3_55⟩) ms_X6_viasIn im_X6_viasIn hv_program cn_6 ⟨Nat.le_of_ble_eq_true rfl, Nat.le_of_ble_eq_true rfl⟩ rfl rfl hl.1 (Nat.le_of_ble_eq_true rfl) dX1_build_41 ⟨Nat.le_refl _, Nat.le_refl _⟩ rfl (fun H locs hH => ?_)
          obtain ⟨w8, h8, hF⟩ := ob hF
          refine w_callV (As := [.ref (g.2.2 (v_program)), .int (s2.1), .int (x7)]) (k := k0) (rest := []) (st1 := []) X hH (c_X1_addEdges (l := l) (g := g) (w := s2.2) (k0 := k0) (v_program := v_program) (v_constraint := s2.1) (v_viaSet := x7) h8 hk0 hv_program) (Or.inl tw_3_56) ms_X1_addEdges im_X1_addEdges hk0 cn_1 ⟨Nat.le_of_ble_eq_true rfl, Nat.le_of_ble_eq_true rfl⟩ rfl rfl hl.1 (Nat.le_of_ble_eq_true rfl) dX1_build_44 ⟨Nat.le_refl _, Nat.le_refl _⟩ rfl (fun H locs hH => ?_)
          obtain rfl := se1 hF
          exact Js5 _ _ _ hH (lv_sub hl [0, 1, 2, 3] rfl)
  exact Lr3 NF _ hLr3 _ _ _ hH (lv_sub hl [1, 2, 3, 0] rfl)

theorem dX9_graphed_0 : decode cX9_graphed 0 = .ok (.aload_n 0, 1) := by decide +kernel
theorem dX9_graphed_1 : decode cX9_graphed 1 = .ok (.getfield 65, 3) := by decide +kernel
theorem dX9_graphed_4 : decode cX9_graphed 4 = .ok (.ifCond .eq 23, 3) := by decide +kernel
theorem dX9_graphed_7 : decode cX9_graphed 7 = .ok (.aload_n 0, 1) := by decide +kernel
theorem dX9_graphed_8 : decode cX9_graphed 8 = .ok (.getfield 54, 3) := by decide +kernel
theorem dX9_graphed_11 : decode cX9_graphed 11 = .ok (.aload_n 0, 1) := by decide +kernel
theorem dX9_graphed_12 : decode cX9_graphed 12 = .ok (.getfield 19, 3) := by decide +kernel
theorem dX9_graphed_15 : decode cX9_graphed 15 = .ok (.aload_n 0, 1) := by decide +kernel
theorem dX9_graphed_16 : decode cX9_graphed 16 = .ok (.getfield 47, 3) := by decide +kernel
theorem dX9_graphed_19 : decode cX9_graphed 19 = .ok (.invokevirtual 309, 3) := by decide +kernel
theorem dX9_graphed_22 : decode cX9_graphed 22 = .ok (.aload_n 0, 1) := by decide +kernel
theorem dX9_graphed_23 : decode cX9_graphed 23 = .ok (.iconst 0, 1) := by decide +kernel
theorem dX9_graphed_24 : decode cX9_graphed 24 = .ok (.putfield 65, 3) := by decide +kernel
theorem dX9_graphed_27 : decode cX9_graphed 27 = .ok (.aload_n 0, 1) := by decide +kernel
theorem dX9_graphed_28 : decode cX9_graphed 28 = .ok (.getfield 54, 3) := by decide +kernel
theorem dX9_graphed_31 : decode cX9_graphed 31 = .ok (.areturn, 1) := by decide +kernel
set_option maxHeartbeats 4000000 in
set_option maxRecDepth 100000 in
theorem c_X9_graphed {l : Launch} {g : Gh} {w : Wd} {k0 : Nat} {rz : Nat} {wz : Wd} (hF : f_X9_graphed w k0 = some (rz, wz)) (hk0 : zct zC k0 = 9) : Met l yX9_graphed (Cond.code yX9_graphed cX9_graphed 1 (some (.object "PointsToSolver$CopyGraph")) :: TT) (rmd 4) (Pcw zC g w [.ref (g.2.2 k0)]) (Qw zC g wz (some (.ref (g.2.2 (rz))))) 0 0 (zA zC g) := by
  refine mt_start (by decide) (Nat.le_of_ble_eq_true rfl) ?_
  intro p e s m args below meth c H locs ls X hr hl hH
  have hx := X.1
  have hb := X.2.1
  have hml := X.2.2.1
  have hown := X.2.2.2.1
  have ht := X.2.2.2.2.1
  have hl : lv_has ls 1 [(0, .ref (g.2.2 (k0)))] := hl
  unfold f_X9_graphed at hF
  obtain ⟨s1, hs1, hF⟩ := ob hF
  have Js1 : ∀ (H : Heap) (locs : List Loc) (ls : Array Slot), HW zC g s1 s.heap H locs → lv_has ls 1 [(0, .ref (g.2.2 (k0)))] → W p l e (rmd 4) s m args below meth c H locs 0 0 (MQ below (Qw zC g wz (some (.ref (g.2.2 (rz))))) args s 0 0 (zA zC g)) (F0 m 27 ls []) := by
    intro H locs ls hH hl
    refine lv_aload_n hx hb dX9_graphed_27 rfl (lv_at hl 0 rfl) ?_
    refine w_getr X hH hk0 fs_9_7 lk_9_54 dX9_graphed_28 ?_
    obtain ⟨rfl, rfl⟩ := se2 hF
    exact w_aret X hH hr dX9_graphed_31
  have hF := hs1
  refine lv_aload_n hx hb dX9_graphed_0 rfl (lv_at hl 0 rfl) ?_
  obtain ⟨x2, h2, hF⟩ := ob hF
  refine w_getz X hH h2 hk0 fs_9_9 lk_9_65 dX9_graphed_1 ?_
  refine w_b_f (tgt := 27) hx hb dX9_graphed_4 (by decide) (fun c3 => ?_) (fun c3 => ?_)
  · replace hF := ifn c3 hF
    obtain rfl := se1 hF
    exact Js1 _ _ _ hH (lv_sub hl [0] rfl)
  · replace hF := ifp c3 hF
    refine lv_aload_n hx hb dX9_graphed_7 rfl (lv_at hl 0 rfl) ?_
    refine w_getr X hH hk0 fs_9_7 lk_9_54 dX9_graphed_8 ?_
    refine lv_aload_n hx hb dX9_graphed_11 rfl (lv_at hl 0 rfl) ?_
    obtain ⟨x4, h4, hF⟩ := ob hF
    refine w_getd X hH h4 hk0 fs_9_1 lk_9_19 dX9_graphed_12 (fun q4 => ?_)
    refine lv_aload_n hx hb dX9_graphed_15 rfl (lv_at hl 0 rfl) ?_
    refine w_getr X hH hk0 fs_9_6 lk_9_47 dX9_graphed_16 ?_
    obtain ⟨w5, h5, hF⟩ := ob hF
    refine w_callV (As := [.ref (g.2.2 (x4)), .ref (g.2.2 ((zrf zC (k0) 6)))]) (k := (zrf zC (k0) 7)) (rest := []) (st1 := []) X hH (c_X1_build (l := l) (g := g) (w := w) (k0 := (zrf zC (k0) 7)) (v_program := x4) (v_solution := (zrf zC (k0) 6)) h5 (rt_C_9_7 hk0) q4 (rt_C_9_6 hk0)) (Or.inr ⟨_, tw_3_47⟩) ms_X1_build im_X1_build (rt_C_9_7 hk0) cn_1 ⟨Nat.le_of_ble_eq_true rfl, Nat.le_of_ble_eq_true rfl⟩ rfl rfl hl.1 (Nat.le_of_ble_eq_true rfl) dX9_graphed_19 ⟨Nat.le_refl _, Nat.le_refl _⟩ rfl (fun H locs hH => ?_)
    refine lv_aload_n hx hb dX9_graphed_22 rfl (lv_at hl 0 rfl) ?_
    refine lv_iconst (v := bI false) hx hb dX9_graphed_23 (by decide) ?_
    obtain ⟨w6, h6, hF⟩ := ob hF
    refine w_putz X hH h6 hk0 fs_9_9 nf_9_9 lk_9_65 dX9_graphed_24 (fun H locs hH => ?_)
    obtain rfl := se1 hF
    exact Js1 _ _ _ hH (lv_sub hl [0] rfl)

theorem dX9_edgeCount_0 : decode cX9_edgeCount 0 = .ok (.aload_n 0, 1) := by decide +kernel
theorem dX9_edgeCount_1 : decode cX9_edgeCount 1 = .ok (.invokevirtual 215, 3) := by decide +kernel
theorem dX9_edgeCount_4 : decode cX9_edgeCount 4 = .ok (.invokevirtual 219, 3) := by decide +kernel
theorem dX9_edgeCount_7 : decode cX9_edgeCount 7 = .ok (.ireturn, 1) := by decide +kernel
set_option maxHeartbeats 4000000 in
set_option maxRecDepth 100000 in
theorem c_X9_edgeCount {l : Launch} {g : Gh} {w : Wd} {k0 : Nat} {rz : Int32} {wz : Wd} (hF : f_X9_edgeCount w k0 = some (rz, wz)) (hk0 : zct zC k0 = 9) : Met l yX9_edgeCount (Cond.code yX9_edgeCount cX9_edgeCount 1 (some .int) :: TT) (rmd 5) (Pcw zC g w [.ref (g.2.2 k0)]) (Qw zC g wz (some (.int (rz)))) 0 0 (zA zC g) := by
  refine mt_start (by decide) (Nat.le_of_ble_eq_true rfl) ?_
  intro p e s m args below meth c H locs ls X hr hl hH
  have hx := X.1
  have hb := X.2.1
  have hml := X.2.2.1
  have hown := X.2.2.2.1
  have ht := X.2.2.2.2.1
  have hl : lv_has ls 1 [(0, .ref (g.2.2 (k0)))] := hl
  unfold f_X9_edgeCount at hF
  refine lv_aload_n hx hb dX9_edgeCount_0 rfl (lv_at hl 0 rfl) ?_
  obtain ⟨x1, h1, hF⟩ := ob hF
  refine w_callV (As := []) (k := k0) (rest := []) (st1 := [.ref (g.2.2 (x1.1))]) X hH (c_X9_graphed (l := l) (g := g) (w := w) (k0 := k0) h1 hk0) (Or.inl tw_3_43) ms_X9_graphed im_X9_graphed hk0 cn_9 ⟨Nat.le_of_ble_eq_true rfl, Nat.le_of_ble_eq_true rfl⟩ rfl rfl hl.1 (Nat.le_of_ble_eq_true rfl) dX9_edgeCount_1 ⟨Nat.le_refl _, Nat.le_refl _⟩ rfl (fun H locs hH => ?_)
  obtain ⟨x2, h2, hF⟩ := ob hF
  refine w_callV (As := []) (k := x1.1) (rest := []) (st1 := [.int (x2)]) X hH (c_X1_countEdges (l := l) (g := g) (w := x1.2) (k0 := x1.1) h2 (rr_X9_graphed h1 hk0)) (Or.inr ⟨_, tw_5_33⟩) ms_X1_countEdges im_X1_countEdges (rr_X9_graphed h1 hk0) cn_1 ⟨Nat.le_of_ble_eq_true rfl, Nat.le_of_ble_eq_true rfl⟩ rfl rfl hl.1 (Nat.le_of_ble_eq_true rfl) dX9_edgeCount_4 ⟨Nat.le_refl _, Nat.le_refl _⟩ rfl (fun H locs hH => ?_)
  obtain ⟨rfl, rfl⟩ := se2 hF
  exact w_iret X hH hr dX9_edgeCount_7

theorem dX9_hasEdge_0 : decode cX9_hasEdge 0 = .ok (.aload_n 0, 1) := by decide +kernel
theorem dX9_hasEdge_1 : decode cX9_hasEdge 1 = .ok (.getfield 19, 3) := by decide +kernel
theorem dX9_hasEdge_4 : decode cX9_hasEdge 4 = .ok (.iload_n 1, 1) := by decide +kernel
theorem dX9_hasEdge_5 : decode cX9_hasEdge 5 = .ok (.invokevirtual 161, 3) := by decide +kernel
theorem dX9_hasEdge_8 : decode cX9_hasEdge 8 = .ok (.istore_n 3, 1) := by decide +kernel
theorem dX9_hasEdge_9 : decode cX9_hasEdge 9 = .ok (.aload_n 0, 1) := by decide +kernel
theorem dX9_hasEdge_10 : decode cX9_hasEdge 10 = .ok (.getfield 19, 3) := by decide +kernel
theorem dX9_hasEdge_13 : decode cX9_hasEdge 13 = .ok (.iload_n 2, 1) := by decide +kernel
theorem dX9_hasEdge_14 : decode cX9_hasEdge 14 = .ok (.invokevirtual 161, 3) := by decide +kernel
theorem dX9_hasEdge_17 : decode cX9_hasEdge 17 = .ok (.istore 4, 2) := by decide +kernel
theorem dX9_hasEdge_19 : decode cX9_hasEdge 19 = .ok (.iload_n 3, 1) := by decide +kernel
theorem dX9_hasEdge_20 : decode cX9_hasEdge 20 = .ok (.iconst (-1), 1) := by decide +kernel
theorem dX9_hasEdge_21 : decode cX9_hasEdge 21 = .ok (.if_icmp .eq 15, 3) := by decide +kernel
theorem dX9_hasEdge_24 : decode cX9_hasEdge 24 = .ok (.iload 4, 2) := by decide +kernel
theorem dX9_hasEdge_26 : decode cX9_hasEdge 26 = .ok (.iconst (-1), 1) := by decide +kernel
theorem dX9_hasEdge_27 : decode cX9_hasEdge 27 = .ok (.if_icmp .eq 9, 3) := by decide +kernel
theorem dX9_hasEdge_30 : decode cX9_hasEdge 30 = .ok (.iload_n 3, 1) := by decide +kernel
theorem dX9_hasEdge_31 : decode cX9_hasEdge 31 = .ok (.iload 4, 2) := by decide +kernel
theorem dX9_hasEdge_33 : decode cX9_hasEdge 33 = .ok (.if_icmp .ne 5, 3) := by decide +kernel
theorem dX9_hasEdge_36 : decode cX9_hasEdge 36 = .ok (.iconst (-1), 1) := by decide +kernel
theorem dX9_hasEdge_37 : decode cX9_hasEdge 37 = .ok (.ireturn, 1) := by decide +kernel
theorem dX9_hasEdge_38 : decode cX9_hasEdge 38 = .ok (.aload_n 0, 1) := by decide +kernel
theorem dX9_hasEdge_39 : decode cX9_hasEdge 39 = .ok (.invokevirtual 215, 3) := by decide +kernel
theorem dX9_hasEdge_42 : decode cX9_hasEdge 42 = .ok (.getfield 223, 3) := by decide +kernel
theorem dX9_hasEdge_45 : decode cX9_hasEdge 45 = .ok (.iload_n 3, 1) := by decide +kernel
theorem dX9_hasEdge_46 : decode cX9_hasEdge 46 = .ok (.laload, 1) := by decide +kernel
theorem dX9_hasEdge_47 : decode cX9_hasEdge 47 = .ok (.iload 4, 2) := by decide +kernel
theorem dX9_hasEdge_49 : decode cX9_hasEdge 49 = .ok (.invokestatic 227, 3) := by decide +kernel
theorem dX9_hasEdge_52 : decode cX9_hasEdge 52 = .ok (.ifCond .eq 7, 3) := by decide +kernel
theorem dX9_hasEdge_55 : decode cX9_hasEdge 55 = .ok (.iconst 1, 1) := by decide +kernel
theorem dX9_hasEdge_56 : decode cX9_hasEdge 56 = .ok (.goto 4, 3) := by decide +kernel
theorem dX9_hasEdge_59 : decode cX9_hasEdge 59 = .ok (.iconst 0, 1) := by decide +kernel
theorem dX9_hasEdge_60 : decode cX9_hasEdge 60 = .ok (.ireturn, 1) := by decide +kernel
set_option maxHeartbeats 4000000 in
set_option maxRecDepth 100000 in
theorem c_X9_hasEdge {l : Launch} {g : Gh} {w : Wd} {k0 : Nat} {v_from : Int32} {v_to : Int32} {rz : Int32} {wz : Wd} (hF : f_X9_hasEdge w k0 v_from v_to = some (rz, wz)) (hk0 : zct zC k0 = 9) : Met l yX9_hasEdge (Cond.code yX9_hasEdge cX9_hasEdge 5 (some .int) :: TT) (rmd 5) (Pcw zC g w [.ref (g.2.2 k0), .int (v_from), .int (v_to)]) (Qw zC g wz (some (.int (rz)))) 0 0 (zA zC g) := by
  refine mt_start (by decide) (Nat.le_of_ble_eq_true rfl) ?_
  intro p e s m args below meth c H locs ls X hr hl hH
  have hx := X.1
  have hb := X.2.1
  have hml := X.2.2.1
  have hown := X.2.2.2.1
  have ht := X.2.2.2.2.1
  have hl : lv_has ls 5 [(0, .ref (g.2.2 (k0))), (1, .int (v_from)), (2, .int (v_to))] := hl
  unfold f_X9_hasEdge at hF
  refine lv_aload_n hx hb dX9_hasEdge_0 rfl (lv_at hl 0 rfl) ?_
  obtain ⟨x1, h1, hF⟩ := ob hF
  refine w_getd X hH h1 hk0 fs_9_1 lk_9_19 dX9_hasEdge_1 (fun q1 => ?_)
  refine lv_iload_n hx hb dX9_hasEdge_4 rfl (lv_at hl 1 rfl) ?_
  refine w_callV (As := [.int (v_from)]) (k := x1) (rest := []) (st1 := [.int ((f_X6_slotAt w (x1) (v_from)))]) X hH (c_X6_slotAt (l := l) (g := g) (w := w) (k0 := x1) (v_location := v_from) rfl q1) (Or.inr ⟨_, tw_3_21⟩) ms_X6_slotAt im_X6_slotAt q1 cn_6 ⟨Nat.le_of_ble_eq_true rfl, Nat.le_of_ble_eq_true rfl⟩ rfl rfl hl.1 (Nat.le_of_ble_eq_true rfl) dX9_hasEdge_5 ⟨Nat.le_refl _, Nat.le_refl _⟩ rfl (fun H locs hH => ?_)
  refine lv_istore_n (lv' := [(3, .int ((f_X6_slotAt w (x1) (v_from)))), (0, .ref (g.2.2 (k0))), (1, .int (v_from)), (2, .int (v_to))]) hx hb dX9_hasEdge_8 rfl hl (by decide) rfl (fun ls hl => ?_)
  refine lv_aload_n hx hb dX9_hasEdge_9 rfl (lv_at hl 1 rfl) ?_
  obtain ⟨x2, h2, hF⟩ := ob hF
  refine w_getd X hH h2 hk0 fs_9_1 lk_9_19 dX9_hasEdge_10 (fun q2 => ?_)
  refine lv_iload_n hx hb dX9_hasEdge_13 rfl (lv_at hl 3 rfl) ?_
  refine w_callV (As := [.int (v_to)]) (k := x2) (rest := []) (st1 := [.int ((f_X6_slotAt w (x2) (v_to)))]) X hH (c_X6_slotAt (l := l) (g := g) (w := w) (k0 := x2) (v_location := v_to) rfl q2) (Or.inr ⟨_, tw_3_21⟩) ms_X6_slotAt im_X6_slotAt q2 cn_6 ⟨Nat.le_of_ble_eq_true rfl, Nat.le_of_ble_eq_true rfl⟩ rfl rfl hl.1 (Nat.le_of_ble_eq_true rfl) dX9_hasEdge_14 ⟨Nat.le_refl _, Nat.le_refl _⟩ rfl (fun H locs hH => ?_)
  refine lv_istore (lv' := [(4, .int ((f_X6_slotAt w (x2) (v_to)))), (3, .int ((f_X6_slotAt w (x1) (v_from)))), (0, .ref (g.2.2 (k0))), (1, .int (v_from)), (2, .int (v_to))]) hx hb dX9_hasEdge_17 hl (by decide) rfl (fun ls hl => ?_)
  refine lv_iload_n hx hb dX9_hasEdge_19 rfl (lv_at hl 1 rfl) ?_
  refine lv_iconst (v := (-1 : Int32)) hx hb dX9_hasEdge_20 (by decide) ?_
  have J3T : (((f_X6_slotAt w (x1) (v_from)) = (-1 : Int32)) ∨ ((f_X6_slotAt w (x2) (v_to)) = (-1 : Int32))) ∨ ((f_X6_slotAt w (x1) (v_from)) = (f_X6_slotAt w (x2) (v_to))) → ∀ (H : Heap) (locs : List Loc), HW zC g w s.heap H locs → W p l e (rmd 5) s m args below meth c H locs 0 0 (MQ below (Qw zC g wz (some (.int (rz)))) args s 0 0 (zA zC g)) (F0 m 36 ls []) := by
    intro hc H locs hH
    replace hF := ifp hc hF
    refine lv_iconst (v := (-1 : Int32)) hx hb dX9_hasEdge_36 (by decide) ?_
    obtain ⟨rfl, rfl⟩ := se2 hF
    exact w_iret X hH hr dX9_hasEdge_37
  have J3F : ¬ ((((f_X6_slotAt w (x1) (v_from)) = (-1 : Int32)) ∨ ((f_X6_slotAt w (x2) (v_to)) = (-1 : Int32))) ∨ ((f_X6_slotAt w (x1) (v_from)) = (f_X6_slotAt w (x2) (v_to)))) → ∀ (H : Heap) (locs : List Loc), HW zC g w s.heap H locs → W p l e (rmd 5) s m args below meth c H locs 0 0 (MQ below (Qw zC g wz (some (.int (rz)))) args s 0 0 (zA zC g)) (F0 m 38 ls []) := by
    intro hc H locs hH
    replace hF := ifn hc hF
    refine lv_aload_n hx hb dX9_hasEdge_38 rfl (lv_at hl 2 rfl) ?_
    obtain ⟨x8, h8, hF⟩ := ob hF
    refine w_callV (As := []) (k := k0) (rest := []) (st1 := [.ref (g.2.2 (x8.1))]) X hH (c_X9_graphed (l := l) (g := g) (w := w) (k0 := k0) h8 hk0) (Or.inl tw_3_43) ms_X9_graphed im_X9_graphed hk0 cn_9 ⟨Nat.le_of_ble_eq_true rfl, Nat.le_of_ble_eq_true rfl⟩ rfl rfl hl.1 (Nat.le_of_ble_eq_true rfl) dX9_hasEdge_39 ⟨Nat.le_refl _, Nat.le_refl _⟩ rfl (fun H locs hH => ?_)
    refine w_getr X hH (rr_X9_graphed h8 hk0) fs_1_0 lk_9_223 dX9_hasEdge_42 ?_
    refine lv_iload_n hx hb dX9_hasEdge_45 rfl (lv_at hl 1 rfl) ?_
    obtain ⟨x9, h9, hF⟩ := ob hF
    refine w_lald X hH h9 (rt_C_1_0 (rr_X9_graphed h8 hk0)) dX9_hasEdge_46 ?_
    refine lv_iload hx hb dX9_hasEdge_47 (lv_at hl 0 rfl) ?_
    refine w_callS (As := [.long (x9), .int ((f_X6_slotAt w (x2) (v_to)))]) (rest := []) (st1 := [.int (bI ((f_X9_holds (x9) ((f_X6_slotAt w (x2) (v_to))))))]) X hH (c_X9_holds (l := l) (g := g) (w := x8.2) (v_set := x9) (v_slot := (f_X6_slotAt w (x2) (v_to))) rfl) (Or.inl tw_5_28) ms_X9_holds tw_3_77 ⟨Nat.le_of_ble_eq_true rfl, Nat.le_of_ble_eq_true rfl⟩ rfl rfl hl.1 (Nat.le_of_ble_eq_true rfl) dX9_hasEdge_49 ⟨Nat.le_refl _, Nat.le_refl _⟩ rfl (fun H locs hH => ?_)
    have J7 : ∀ (H : Heap) (locs : List Loc), HW zC g x8.2 s.heap H locs → W p l e (rmd 5) s m args below meth c H locs 0 0 (MQ below (Qw zC g wz (some (.int (rz)))) args s 0 0 (zA zC g)) (F0 m 60 ls [.int ((if (f_X9_holds (x9) ((f_X6_slotAt w (x2) (v_to)))) = true then (1 : Int32) else (0 : Int32)))]) := by
      intro H locs hH
      obtain ⟨rfl, rfl⟩ := se2 hF
      exact w_iret X hH hr dX9_hasEdge_60
    refine w_b_f (tgt := 59) hx hb dX9_hasEdge_52 (by decide) (fun c10 => ?_) (fun c10 => ?_)
    · refine lv_iconst (v := (0 : Int32)) hx hb dX9_hasEdge_59 (by decide) ?_
      exact w_in c10 (J7 _ _ hH)
    · refine lv_iconst (v := (1 : Int32)) hx hb dX9_hasEdge_55 (by decide) ?_
      refine lv_goto (tgt := 60) hx hb dX9_hasEdge_56 (by decide) ?_
      exact w_ip c10 (J7 _ _ hH)
  refine w_ieq_t (tgt := 36) hx hb dX9_hasEdge_21 (by decide) (fun c4 => ?_) (fun c4 => ?_)
  · exact J3T (Or.inl (Or.inl c4)) _ _ hH
  · refine lv_iload hx hb dX9_hasEdge_24 (lv_at hl 0 rfl) ?_
    refine lv_iconst (v := (-1 : Int32)) hx hb dX9_hasEdge_26 (by decide) ?_
    refine w_ieq_t (tgt := 36) hx hb dX9_hasEdge_27 (by decide) (fun c5 => ?_) (fun c5 => ?_)
    · exact J3T (Or.inl (Or.inr c5)) _ _ hH
    · refine lv_iload_n hx hb dX9_hasEdge_30 rfl (lv_at hl 1 rfl) ?_
      refine lv_iload hx hb dX9_hasEdge_31 (lv_at hl 0 rfl) ?_
      refine w_ieq_f (tgt := 38) hx hb dX9_hasEdge_33 (by decide) (fun c6 => ?_) (fun c6 => ?_)
      · exact J3F (fun z => z.elim (fun z => z.elim c4 c5) c6) _ _ hH
      · exact J3T (Or.inr c6) _ _ hH

theorem dX1_targetsOf_0 : decode cX1_targetsOf 0 = .ok (.lconst 0, 1) := by decide +kernel
theorem dX1_targetsOf_1 : decode cX1_targetsOf 1 = .ok (.lstore_n 3, 1) := by decide +kernel
theorem dX1_targetsOf_2 : decode cX1_targetsOf 2 = .ok (.iconst 0, 1) := by decide +kernel
theorem dX1_targetsOf_3 : decode cX1_targetsOf 3 = .ok (.istore 5, 2) := by decide +kernel
theorem dX1_targetsOf_5 : decode cX1_targetsOf 5 = .ok (.iload 5, 2) := by decide +kernel
theorem dX1_targetsOf_7 : decode cX1_targetsOf 7 = .ok (.bipush 56, 2) := by decide +kernel
theorem dX1_targetsOf_9 : decode cX1_targetsOf 9 = .ok (.if_icmp .ge 28, 3) := by decide +kernel
theorem dX1_targetsOf_12 : decode cX1_targetsOf 12 = .ok (.lload_n 1, 1) := by decide +kernel
theorem dX1_targetsOf_13 : decode cX1_targetsOf 13 = .ok (.iload 5, 2) := by decide +kernel
theorem dX1_targetsOf_15 : decode cX1_targetsOf 15 = .ok (.invokestatic 92, 3) := by decide +kernel
theorem dX1_targetsOf_18 : decode cX1_targetsOf 18 = .ok (.ifCond .eq 13, 3) := by decide +kernel
theorem dX1_targetsOf_21 : decode cX1_targetsOf 21 = .ok (.lload_n 3, 1) := by decide +kernel
theorem dX1_targetsOf_22 : decode cX1_targetsOf 22 = .ok (.aload_n 0, 1) := by decide +kernel
theorem dX1_targetsOf_23 : decode cX1_targetsOf 23 = .ok (.getfield 9, 3) := by decide +kernel
theorem dX1_targetsOf_26 : decode cX1_targetsOf 26 = .ok (.iload 5, 2) := by decide +kernel
theorem dX1_targetsOf_28 : decode cX1_targetsOf 28 = .ok (.laload, 1) := by decide +kernel
theorem dX1_targetsOf_29 : decode cX1_targetsOf 29 = .ok (.lor, 1) := by decide +kernel
theorem dX1_targetsOf_30 : decode cX1_targetsOf 30 = .ok (.lstore_n 3, 1) := by decide +kernel
theorem dX1_targetsOf_31 : decode cX1_targetsOf 31 = .ok (.iinc 5 1, 3) := by decide +kernel
theorem dX1_targetsOf_34 : decode cX1_targetsOf 34 = .ok (.goto (-29), 3) := by decide +kernel
theorem dX1_targetsOf_37 : decode cX1_targetsOf 37 = .ok (.lload_n 3, 1) := by decide +kernel
theorem dX1_targetsOf_38 : decode cX1_targetsOf 38 = .ok (.lreturn, 1) := by decide +kernel
set_option maxHeartbeats 4000000 in
set_option maxRecDepth 100000 in
theorem c_X1_targetsOf {l : Launch} {g : Gh} {w : Wd} {k0 : Nat} {v_slots : Int64} {rz : Int64} (hF : f_X1_targetsOf w k0 v_slots = some rz) (hk0 : zct zC k0 = 1) : Met l yX1_targetsOf (Cond.code yX1_targetsOf cX1_targetsOf 6 (some .long) :: TT) (rmd 1) (Pcw zC g w [.ref (g.2.2 k0), .long (v_slots)]) (Qw zC g w (some (.long (rz)))) 0 0 (zA zC g) := by
  refine mt_start (by decide) (Nat.le_of_ble_eq_true rfl) ?_
  intro p e s m args below meth c H locs ls X hr hl hH
  have hx := X.1
  have hb := X.2.1
  have hml := X.2.2.1
  have hown := X.2.2.2.1
  have ht := X.2.2.2.2.1
  have hl : lv_has ls 6 [(0, .ref (g.2.2 (k0))), (1, .long (v_slots))] := hl
  unfold f_X1_targetsOf at hF
  refine lv_lconst (v := 0) hx hb dX1_targetsOf_0 (by decide) ?_
  refine lv_lstore_n (lv' := [(3, .long ((0 : Int64))), (0, .ref (g.2.2 (k0))), (1, .long (v_slots))]) hx hb dX1_targetsOf_1 rfl hl (by decide) rfl (fun ls hl => ?_)
  refine lv_iconst (v := (0 : Int32)) hx hb dX1_targetsOf_2 (by decide) ?_
  refine lv_istore (lv' := [(5, .int ((0 : Int32))), (3, .long ((0 : Int64))), (0, .ref (g.2.2 (k0))), (1, .long (v_slots))]) hx hb dX1_targetsOf_3 hl (by decide) rfl (fun ls hl => ?_)
  obtain ⟨r2, hLr2, hF⟩ := ob hF
  have Jr2 : ∀ (H : Heap) (locs : List Loc) (ls : Array Slot), HW zC g w s.heap H locs → lv_has ls 6 [(0, .ref (g.2.2 (k0))), (1, .long (v_slots)), (3, .long (r2))] → W p l e (rmd 1) s m args below meth c H locs 0 0 (MQ below (Qw zC g w (some (.long (rz)))) args s 0 0 (zA zC g)) (F0 m 37 ls []) := by
    intro H locs ls hH hl
    refine lv_lload_n hx hb dX1_targetsOf_37 rfl (lv_at hl 2 rfl) ?_
    obtain rfl := se1 hF
    exact w_lret X hH hr dX1_targetsOf_38
  have Lr2 : ∀ (n : Nat) (s1 : Int64 × Int32), lp (b_X1_targetsOf_1 v_slots w k0) n s1 = some r2 → ∀ (H : Heap) (locs : List Loc) (ls : Array Slot), HW zC g w s.heap H locs → lv_has ls 6 [(0, .ref (g.2.2 (k0))), (1, .long (v_slots)), (3, .long (s1.1)), (5, .int (s1.2))] → W p l e (rmd 1) s m args below meth c H locs 0 0 (MQ below (Qw zC g w (some (.long (rz)))) args s 0 0 (zA zC g)) (F0 m 5 ls []) := by
    intro n
    induction n with
    | zero => intro s1 hL; exact lp_0 hL
    | succ n ih =>
      intro s1 hL H locs ls hH hl
      obtain ⟨bb, hF, hL⟩ := lp_s hL
      unfold b_X1_targetsOf_1 at hF
      refine lv_iload hx hb dX1_targetsOf_5 (lv_at hl 3 rfl) ?_
      refine lv_bipush (v := (56 : Int32)) hx hb dX1_targetsOf_7 (by decide) ?_
      refine w_ilt_f (tgt := 37) hx hb dX1_targetsOf_9 (by decide) (fun c3 => ?_) (fun c3 => ?_)
      · replace hF := ifn c3 hF
        obtain rfl := se1 hF
        subst hL
        exact Jr2 _ _ _ hH (lv_sub hl [0, 1, 2] rfl)
      · replace hF := ifp c3 hF
        obtain ⟨s4, hs4, hF⟩ := ob hF
        have Js4 : ∀ (H : Heap) (locs : List Loc) (ls : Array Slot), HW zC g w s.heap H locs → lv_has ls 6 [(0, .ref (g.2.2 (k0))), (1, .long (v_slots)), (3, .long (s4)), (5, .int (s1.2))] → W p l e (rmd 1) s m args below meth c H locs 0 0 (MQ below (Qw zC g w (some (.long (rz)))) args s 0 0 (zA zC g)) (F0 m 31 ls []) := by
          intro H locs ls hH hl
          refine lv_iinc (v := (s1.2 + (1 : Int32))) (lv' := [(5, .int ((s1.2 + (1 : Int32)))), (0, .ref (g.2.2 (k0))), (1, .long (v_slots)), (3, .long (s4))]) hx hb dX1_targetsOf_31 hl (k := 3) rfl rfl (by decide) rfl (fun ls hl => ?_)
          refine lv_goto (tgt := 5) hx hb dX1_targetsOf_34 (by decide) ?_
          obtain rfl := se1 hF
          exact ih _ hL _ _ _ hH (lv_sub hl [1, 2, 3, 0] rfl)
        have hF := hs4
        refine lv_lload_n hx hb dX1_targetsOf_12 rfl (lv_at hl 1 rfl) ?_
        refine lv_iload hx hb dX1_targetsOf_13 (lv_at hl 3 rfl) ?_
        refine w_callS (As := [.long (v_slots), .int (s1.2)]) (rest := []) (st1 := [.int (bI ((f_X9_holds (v_slots) (s1.2))))]) X hH (c_X9_holds (l := l) (g := g) (w := w) (v_set := v_slots) (v_slot := s1.2) rfl) (Or.inr ⟨_, tw_3_76⟩) ms_X9_holds tw_3_77 ⟨Nat.le_of_ble_eq_true rfl, Nat.le_of_ble_eq_true rfl⟩ rfl rfl hl.1 (Nat.le_of_ble_eq_true rfl) dX1_targetsOf_15 ⟨Nat.le_refl _, Nat.le_refl _⟩ rfl (fun H locs hH => ?_)
        refine w_b_f (tgt := 31) hx hb dX1_targetsOf_18 (by decide) (fun c5 => ?_) (fun c5 => ?_)
        · replace hF := ifn c5 hF
          obtain rfl := se1 hF
          exact Js4 _ _ _ hH (lv_sub hl [0, 1, 2, 3] rfl)
        · replace hF := ifp c5 hF
          refine lv_lload_n hx hb dX1_targetsOf_21 rfl (lv_at hl 2 rfl) ?_
          refine lv_aload_n hx hb dX1_targetsOf_22 rfl (lv_at hl 0 rfl) ?_
          refine w_getr X hH hk0 fs_1_0 lk_1_9 dX1_targetsOf_23 ?_
          refine lv_iload hx hb dX1_targetsOf_26 (lv_at hl 3 rfl) ?_
          obtain ⟨x6, h6, hF⟩ := ob hF
          refine w_lald X hH h6 (rt_C_1_0 hk0) dX1_targetsOf_28 ?_
          refine lv_lor hx hb dX1_targetsOf_29 ?_
          refine lv_lstore_n (lv' := [(3, .long ((s1.1 ||| x6))), (0, .ref (g.2.2 (k0))), (1, .long (v_slots)), (5, .int (s1.2))]) hx hb dX1_targetsOf_30 rfl hl (by decide) rfl (fun ls hl => ?_)
          obtain rfl := se1 hF
          exact Js4 _ _ _ hH (lv_sub hl [1, 2, 0, 3] rfl)
  exact Lr2 NF _ hLr2 _ _ _ hH (lv_sub hl [2, 3, 1, 0] rfl)

theorem dX1_shortestPath_0 : decode cX1_shortestPath 0 = .ok (.lconst 1, 1) := by decide +kernel
theorem dX1_shortestPath_1 : decode cX1_shortestPath 1 = .ok (.iload_n 1, 1) := by decide +kernel
theorem dX1_shortestPath_2 : decode cX1_shortestPath 2 = .ok (.lshl, 1) := by decide +kernel
theorem dX1_shortestPath_3 : decode cX1_shortestPath 3 = .ok (.lstore_n 3, 1) := by decide +kernel
theorem dX1_shortestPath_4 : decode cX1_shortestPath 4 = .ok (.iconst 0, 1) := by decide +kernel
theorem dX1_shortestPath_5 : decode cX1_shortestPath 5 = .ok (.istore 5, 2) := by decide +kernel
theorem dX1_shortestPath_7 : decode cX1_shortestPath 7 = .ok (.iload 5, 2) := by decide +kernel
theorem dX1_shortestPath_9 : decode cX1_shortestPath 9 = .ok (.bipush 56, 2) := by decide +kernel
theorem dX1_shortestPath_11 : decode cX1_shortestPath 11 = .ok (.if_icmp .ge 28, 3) := by decide +kernel
theorem dX1_shortestPath_14 : decode cX1_shortestPath 14 = .ok (.lload_n 3, 1) := by decide +kernel
theorem dX1_shortestPath_15 : decode cX1_shortestPath 15 = .ok (.iload_n 2, 1) := by decide +kernel
theorem dX1_shortestPath_16 : decode cX1_shortestPath 16 = .ok (.invokestatic 92, 3) := by decide +kernel
theorem dX1_shortestPath_19 : decode cX1_shortestPath 19 = .ok (.ifCond .eq 6, 3) := by decide +kernel
theorem dX1_shortestPath_22 : decode cX1_shortestPath 22 = .ok (.iload 5, 2) := by decide +kernel
theorem dX1_shortestPath_24 : decode cX1_shortestPath 24 = .ok (.ireturn, 1) := by decide +kernel
theorem dX1_shortestPath_25 : decode cX1_shortestPath 25 = .ok (.lload_n 3, 1) := by decide +kernel
theorem dX1_shortestPath_26 : decode cX1_shortestPath 26 = .ok (.aload_n 0, 1) := by decide +kernel
theorem dX1_shortestPath_27 : decode cX1_shortestPath 27 = .ok (.lload_n 3, 1) := by decide +kernel
theorem dX1_shortestPath_28 : decode cX1_shortestPath 28 = .ok (.invokevirtual 108, 3) := by decide +kernel
theorem dX1_shortestPath_31 : decode cX1_shortestPath 31 = .ok (.lor, 1) := by decide +kernel
theorem dX1_shortestPath_32 : decode cX1_shortestPath 32 = .ok (.lstore_n 3, 1) := by decide +kernel
theorem dX1_shortestPath_33 : decode cX1_shortestPath 33 = .ok (.iinc 5 1, 3) := by decide +kernel
theorem dX1_shortestPath_36 : decode cX1_shortestPath 36 = .ok (.goto (-29), 3) := by decide +kernel
theorem dX1_shortestPath_39 : decode cX1_shortestPath 39 = .ok (.bipush (-2), 2) := by decide +kernel
theorem dX1_shortestPath_41 : decode cX1_shortestPath 41 = .ok (.ireturn, 1) := by decide +kernel
set_option maxHeartbeats 4000000 in
set_option maxRecDepth 100000 in
theorem c_X1_shortestPath {l : Launch} {g : Gh} {w : Wd} {k0 : Nat} {v_from : Int32} {v_to : Int32} {rz : Int32} (hF : f_X1_shortestPath w k0 v_from v_to = some rz) (hk0 : zct zC k0 = 1) : Met l yX1_shortestPath (Cond.code yX1_shortestPath cX1_shortestPath 6 (some .int) :: TT) (rmd 2) (Pcw zC g w [.ref (g.2.2 k0), .int (v_from), .int (v_to)]) (Qw zC g w (some (.int (rz)))) 0 0 (zA zC g) := by
  refine mt_start (by decide) (Nat.le_of_ble_eq_true rfl) ?_
  intro p e s m args below meth c H locs ls X hr hl hH
  have hx := X.1
  have hb := X.2.1
  have hml := X.2.2.1
  have hown := X.2.2.2.1
  have ht := X.2.2.2.2.1
  have hl : lv_has ls 6 [(0, .ref (g.2.2 (k0))), (1, .int (v_from)), (2, .int (v_to))] := hl
  unfold f_X1_shortestPath at hF
  refine lv_lconst (v := 1) hx hb dX1_shortestPath_0 (by decide) ?_
  refine lv_iload_n hx hb dX1_shortestPath_1 rfl (lv_at hl 1 rfl) ?_
  refine w_lshl hx hb dX1_shortestPath_2 ?_
  refine lv_lstore_n (lv' := [(3, .long ((jlshl ((1 : Int64)) (v_from)))), (0, .ref (g.2.2 (k0))), (1, .int (v_from)), (2, .int (v_to))]) hx hb dX1_shortestPath_3 rfl hl (by decide) rfl (fun ls hl => ?_)
  refine lv_iconst (v := (0 : Int32)) hx hb dX1_shortestPath_4 (by decide) ?_
  refine lv_istore (lv' := [(5, .int ((0 : Int32))), (3, .long ((jlshl ((1 : Int64)) (v_from)))), (0, .ref (g.2.2 (k0))), (1, .int (v_from)), (2, .int (v_to))]) hx hb dX1_shortestPath_5 hl (by decide) rfl (fun ls hl => ?_)
  obtain ⟨r2, hLr2, hF⟩ := ob hF
  have Jr2 : ∀ r2x, r2 = .inl r2x → ∀ (H : Heap) (locs : List Loc) (ls : Array Slot), HW zC g w s.heap H locs → lv_has ls 6 [(0, .ref (g.2.2 (k0))), (1, .int (v_from)), (2, .int (v_to)), (3, .long (r2x))] → W p l e (rmd 2) s m args below meth c H locs 0 0 (MQ below (Qw zC g w (some (.int (rz)))) args s 0 0 (zA zC g)) (F0 m 39 ls []) := by
    intro r2x hrx H locs ls hH hl
    rw [hrx] at hF
    dsimp only at hF
    refine lv_bipush (v := (-2 : Int32)) hx hb dX1_shortestPath_39 (by decide) ?_
    obtain rfl := se1 hF
    exact w_iret X hH hr dX1_shortestPath_41
  have hor2 := hF
  have Lr2 : ∀ (n : Nat) (s1 : Int64 × Int32), lp (b_X1_shortestPath_1 v_to w k0) n s1 = some r2 → ∀ (H : Heap) (locs : List Loc) (ls : Array Slot), HW zC g w s.heap H locs → lv_has ls 6 [(0, .ref (g.2.2 (k0))), (1, .int (v_from)), (2, .int (v_to)), (3, .long (s1.1)), (5, .int (s1.2))] → W p l e (rmd 2) s m args below meth c H locs 0 0 (MQ below (Qw zC g w (some (.int (rz)))) args s 0 0 (zA zC g)) (F0 m 7 ls []) := by
    intro n
    induction n with
    | zero => intro s1 hL; exact lp_0 hL
    | succ n ih =>
      intro s1 hL H locs ls hH hl
      obtain ⟨bb, hF, hL⟩ := lp_s hL
      unfold b_X1_shortestPath_1 at hF
      refine lv_iload hx hb dX1_shortestPath_7 (lv_at hl 4 rfl) ?_
      refine lv_bipush (v := (56 : Int32)) hx hb dX1_shortestPath_9 (by decide) ?_
      refine w_ilt_f (tgt := 39) hx hb dX1_shortestPath_11 (by decide) (fun c3 => ?_) (fun c3 => ?_)
      · replace hF := ifn c3 hF
        obtain rfl := se1 hF
        subst hL
        exact Jr2 _ rfl _ _ _ hH (lv_sub hl [0, 1, 2, 3] rfl)
      · replace hF := ifp c3 hF
        refine lv_lload_n hx hb dX1_shortestPath_14 rfl (lv_at hl 3 rfl) ?_
        refine lv_iload_n hx hb dX1_shortestPath_15 rfl (lv_at hl 2 rfl) ?_
        refine w_callS (As := [.long (s1.1), .int (v_to)]) (rest := []) (st1 := [.int (bI ((f_X9_holds (s1.1) (v_to))))]) X hH (c_X9_holds (l := l) (g := g) (w := w) (v_set := s1.1) (v_slot := v_to) rfl) (Or.inr ⟨_, tw_3_76⟩) ms_X9_holds tw_3_77 ⟨Nat.le_of_ble_eq_true rfl, Nat.le_of_ble_eq_true rfl⟩ rfl rfl hl.1 (Nat.le_of_ble_eq_true rfl) dX1_shortestPath_16 ⟨Nat.le_refl _, Nat.le_refl _⟩ rfl (fun H locs hH => ?_)
        refine w_b_f (tgt := 25) hx hb dX1_shortestPath_19 (by decide) (fun c4 => ?_) (fun c4 => ?_)
        · replace hF := ifn c4 hF
          refine lv_lload_n hx hb dX1_shortestPath_25 rfl (lv_at hl 3 rfl) ?_
          refine lv_aload_n hx hb dX1_shortestPath_26 rfl (lv_at hl 0 rfl) ?_
          refine lv_lload_n hx hb dX1_shortestPath_27 rfl (lv_at hl 3 rfl) ?_
          obtain ⟨x5, h5, hF⟩ := ob hF
          refine w_callV (As := [.long (s1.1)]) (k := k0) (rest := [.long (s1.1)]) (st1 := [.long (x5), .long (s1.1)]) X hH (c_X1_targetsOf (l := l) (g := g) (w := w) (k0 := k0) (v_slots := s1.1) h5 hk0) (Or.inl tw_5_46) ms_X1_targetsOf im_X1_targetsOf hk0 cn_1 ⟨Nat.le_of_ble_eq_true rfl, Nat.le_of_ble_eq_true rfl⟩ rfl rfl hl.1 (Nat.le_of_ble_eq_true rfl) dX1_shortestPath_28 ⟨Nat.le_refl _, Nat.le_refl _⟩ rfl (fun H locs hH => ?_)
          refine lv_lor hx hb dX1_shortestPath_31 ?_
          refine lv_lstore_n (lv' := [(3, .long ((s1.1 ||| x5))), (0, .ref (g.2.2 (k0))), (1, .int (v_from)), (2, .int (v_to)), (5, .int (s1.2))]) hx hb dX1_shortestPath_32 rfl hl (by decide) rfl (fun ls hl => ?_)
          refine lv_iinc (v := (s1.2 + (1 : Int32))) (lv' := [(5, .int ((s1.2 + (1 : Int32)))), (3, .long ((s1.1 ||| x5))), (0, .ref (g.2.2 (k0))), (1, .int (v_from)), (2, .int (v_to))]) hx hb dX1_shortestPath_33 hl (k := 4) rfl rfl (by decide) rfl (fun ls hl => ?_)
          refine lv_goto (tgt := 7) hx hb dX1_shortestPath_36 (by decide) ?_
          obtain rfl := se1 hF
          exact ih _ hL _ _ _ hH (lv_sub hl [2, 3, 4, 1, 0] rfl)
        · replace hF := ifp c4 hF
          refine lv_iload hx hb dX1_shortestPath_22 (lv_at hl 4 rfl) ?_
          obtain rfl := se1 hF
          subst hL
          have hF := hor2
          obtain rfl := se1 hF
          exact w_iret X hH hr dX1_shortestPath_24
  exact Lr2 NF _ hLr2 _ _ _ hH (lv_sub hl [2, 3, 4, 1, 0] rfl)

theorem dX9_distance_0 : decode cX9_distance 0 = .ok (.aload_n 0, 1) := by decide +kernel
theorem dX9_distance_1 : decode cX9_distance 1 = .ok (.getfield 19, 3) := by decide +kernel
theorem dX9_distance_4 : decode cX9_distance 4 = .ok (.iload_n 1, 1) := by decide +kernel
theorem dX9_distance_5 : decode cX9_distance 5 = .ok (.invokevirtual 161, 3) := by decide +kernel
theorem dX9_distance_8 : decode cX9_distance 8 = .ok (.istore_n 3, 1) := by decide +kernel
theorem dX9_distance_9 : decode cX9_distance 9 = .ok (.aload_n 0, 1) := by decide +kernel
theorem dX9_distance_10 : decode cX9_distance 10 = .ok (.getfield 19, 3) := by decide +kernel
theorem dX9_distance_13 : decode cX9_distance 13 = .ok (.iload_n 2, 1) := by decide +kernel
theorem dX9_distance_14 : decode cX9_distance 14 = .ok (.invokevirtual 161, 3) := by decide +kernel
theorem dX9_distance_17 : decode cX9_distance 17 = .ok (.istore 4, 2) := by decide +kernel
theorem dX9_distance_19 : decode cX9_distance 19 = .ok (.iload_n 3, 1) := by decide +kernel
theorem dX9_distance_20 : decode cX9_distance 20 = .ok (.iconst (-1), 1) := by decide +kernel
theorem dX9_distance_21 : decode cX9_distance 21 = .ok (.if_icmp .eq 9, 3) := by decide +kernel
theorem dX9_distance_24 : decode cX9_distance 24 = .ok (.iload 4, 2) := by decide +kernel
theorem dX9_distance_26 : decode cX9_distance 26 = .ok (.iconst (-1), 1) := by decide +kernel
theorem dX9_distance_27 : decode cX9_distance 27 = .ok (.if_icmp .ne 5, 3) := by decide +kernel
theorem dX9_distance_30 : decode cX9_distance 30 = .ok (.iconst (-1), 1) := by decide +kernel
theorem dX9_distance_31 : decode cX9_distance 31 = .ok (.ireturn, 1) := by decide +kernel
theorem dX9_distance_32 : decode cX9_distance 32 = .ok (.aload_n 0, 1) := by decide +kernel
theorem dX9_distance_33 : decode cX9_distance 33 = .ok (.invokevirtual 215, 3) := by decide +kernel
theorem dX9_distance_36 : decode cX9_distance 36 = .ok (.iload_n 3, 1) := by decide +kernel
theorem dX9_distance_37 : decode cX9_distance 37 = .ok (.iload 4, 2) := by decide +kernel
theorem dX9_distance_39 : decode cX9_distance 39 = .ok (.invokevirtual 231, 3) := by decide +kernel
theorem dX9_distance_42 : decode cX9_distance 42 = .ok (.ireturn, 1) := by decide +kernel
set_option maxHeartbeats 4000000 in
set_option maxRecDepth 100000 in
theorem c_X9_distance {l : Launch} {g : Gh} {w : Wd} {k0 : Nat} {v_from : Int32} {v_to : Int32} {rz : Int32} {wz : Wd} (hF : f_X9_distance w k0 v_from v_to = some (rz, wz)) (hk0 : zct zC k0 = 9) : Met l yX9_distance (Cond.code yX9_distance cX9_distance 5 (some .int) :: TT) (rmd 5) (Pcw zC g w [.ref (g.2.2 k0), .int (v_from), .int (v_to)]) (Qw zC g wz (some (.int (rz)))) 0 0 (zA zC g) := by
  refine mt_start (by decide) (Nat.le_of_ble_eq_true rfl) ?_
  intro p e s m args below meth c H locs ls X hr hl hH
  have hx := X.1
  have hb := X.2.1
  have hml := X.2.2.1
  have hown := X.2.2.2.1
  have ht := X.2.2.2.2.1
  have hl : lv_has ls 5 [(0, .ref (g.2.2 (k0))), (1, .int (v_from)), (2, .int (v_to))] := hl
  unfold f_X9_distance at hF
  refine lv_aload_n hx hb dX9_distance_0 rfl (lv_at hl 0 rfl) ?_
  obtain ⟨x1, h1, hF⟩ := ob hF
  refine w_getd X hH h1 hk0 fs_9_1 lk_9_19 dX9_distance_1 (fun q1 => ?_)
  refine lv_iload_n hx hb dX9_distance_4 rfl (lv_at hl 1 rfl) ?_
  refine w_callV (As := [.int (v_from)]) (k := x1) (rest := []) (st1 := [.int ((f_X6_slotAt w (x1) (v_from)))]) X hH (c_X6_slotAt (l := l) (g := g) (w := w) (k0 := x1) (v_location := v_from) rfl q1) (Or.inr ⟨_, tw_3_21⟩) ms_X6_slotAt im_X6_slotAt q1 cn_6 ⟨Nat.le_of_ble_eq_true rfl, Nat.le_of_ble_eq_true rfl⟩ rfl rfl hl.1 (Nat.le_of_ble_eq_true rfl) dX9_distance_5 ⟨Nat.le_refl _, Nat.le_refl _⟩ rfl (fun H locs hH => ?_)
  refine lv_istore_n (lv' := [(3, .int ((f_X6_slotAt w (x1) (v_from)))), (0, .ref (g.2.2 (k0))), (1, .int (v_from)), (2, .int (v_to))]) hx hb dX9_distance_8 rfl hl (by decide) rfl (fun ls hl => ?_)
  refine lv_aload_n hx hb dX9_distance_9 rfl (lv_at hl 1 rfl) ?_
  obtain ⟨x2, h2, hF⟩ := ob hF
  refine w_getd X hH h2 hk0 fs_9_1 lk_9_19 dX9_distance_10 (fun q2 => ?_)
  refine lv_iload_n hx hb dX9_distance_13 rfl (lv_at hl 3 rfl) ?_
  refine w_callV (As := [.int (v_to)]) (k := x2) (rest := []) (st1 := [.int ((f_X6_slotAt w (x2) (v_to)))]) X hH (c_X6_slotAt (l := l) (g := g) (w := w) (k0 := x2) (v_location := v_to) rfl q2) (Or.inr ⟨_, tw_3_21⟩) ms_X6_slotAt im_X6_slotAt q2 cn_6 ⟨Nat.le_of_ble_eq_true rfl, Nat.le_of_ble_eq_true rfl⟩ rfl rfl hl.1 (Nat.le_of_ble_eq_true rfl) dX9_distance_14 ⟨Nat.le_refl _, Nat.le_refl _⟩ rfl (fun H locs hH => ?_)
  refine lv_istore (lv' := [(4, .int ((f_X6_slotAt w (x2) (v_to)))), (3, .int ((f_X6_slotAt w (x1) (v_from)))), (0, .ref (g.2.2 (k0))), (1, .int (v_from)), (2, .int (v_to))]) hx hb dX9_distance_17 hl (by decide) rfl (fun ls hl => ?_)
  refine lv_iload_n hx hb dX9_distance_19 rfl (lv_at hl 1 rfl) ?_
  refine lv_iconst (v := (-1 : Int32)) hx hb dX9_distance_20 (by decide) ?_
  have J3T : ((f_X6_slotAt w (x1) (v_from)) = (-1 : Int32)) ∨ ((f_X6_slotAt w (x2) (v_to)) = (-1 : Int32)) → ∀ (H : Heap) (locs : List Loc), HW zC g w s.heap H locs → W p l e (rmd 5) s m args below meth c H locs 0 0 (MQ below (Qw zC g wz (some (.int (rz)))) args s 0 0 (zA zC g)) (F0 m 30 ls []) := by
    intro hc H locs hH
    replace hF := ifp hc hF
    refine lv_iconst (v := (-1 : Int32)) hx hb dX9_distance_30 (by decide) ?_
    obtain ⟨rfl, rfl⟩ := se2 hF
    exact w_iret X hH hr dX9_distance_31
  have J3F : ¬ (((f_X6_slotAt w (x1) (v_from)) = (-1 : Int32)) ∨ ((f_X6_slotAt w (x2) (v_to)) = (-1 : Int32))) → ∀ (H : Heap) (locs : List Loc), HW zC g w s.heap H locs → W p l e (rmd 5) s m args below meth c H locs 0 0 (MQ below (Qw zC g wz (some (.int (rz)))) args s 0 0 (zA zC g)) (F0 m 32 ls []) := by
    intro hc H locs hH
    replace hF := ifn hc hF
    refine lv_aload_n hx hb dX9_distance_32 rfl (lv_at hl 2 rfl) ?_
    obtain ⟨x6, h6, hF⟩ := ob hF
    refine w_callV (As := []) (k := k0) (rest := []) (st1 := [.ref (g.2.2 (x6.1))]) X hH (c_X9_graphed (l := l) (g := g) (w := w) (k0 := k0) h6 hk0) (Or.inl tw_3_43) ms_X9_graphed im_X9_graphed hk0 cn_9 ⟨Nat.le_of_ble_eq_true rfl, Nat.le_of_ble_eq_true rfl⟩ rfl rfl hl.1 (Nat.le_of_ble_eq_true rfl) dX9_distance_33 ⟨Nat.le_refl _, Nat.le_refl _⟩ rfl (fun H locs hH => ?_)
    refine lv_iload_n hx hb dX9_distance_36 rfl (lv_at hl 1 rfl) ?_
    refine lv_iload hx hb dX9_distance_37 (lv_at hl 0 rfl) ?_
    obtain ⟨x7, h7, hF⟩ := ob hF
    refine w_callV (As := [.int ((f_X6_slotAt w (x1) (v_from))), .int ((f_X6_slotAt w (x2) (v_to)))]) (k := x6.1) (rest := []) (st1 := [.int (x7)]) X hH (c_X1_shortestPath (l := l) (g := g) (w := x6.2) (k0 := x6.1) (v_from := (f_X6_slotAt w (x1) (v_from))) (v_to := (f_X6_slotAt w (x2) (v_to))) h7 (rr_X9_graphed h6 hk0)) (Or.inr ⟨_, tw_5_42⟩) ms_X1_shortestPath im_X1_shortestPath (rr_X9_graphed h6 hk0) cn_1 ⟨Nat.le_of_ble_eq_true rfl, Nat.le_of_ble_eq_true rfl⟩ rfl rfl hl.1 (Nat.le_of_ble_eq_true rfl) dX9_distance_39 ⟨Nat.le_refl _, Nat.le_refl _⟩ rfl (fun H locs hH => ?_)
    obtain ⟨rfl, rfl⟩ := se2 hF
    exact w_iret X hH hr dX9_distance_42
  refine w_ieq_t (tgt := 30) hx hb dX9_distance_21 (by decide) (fun c4 => ?_) (fun c4 => ?_)
  · exact J3T (Or.inl c4) _ _ hH
  · refine lv_iload hx hb dX9_distance_24 (lv_at hl 0 rfl) ?_
    refine lv_iconst (v := (-1 : Int32)) hx hb dX9_distance_26 (by decide) ?_
    refine w_ieq_f (tgt := 32) hx hb dX9_distance_27 (by decide) (fun c5 => ?_) (fun c5 => ?_)
    · exact J3F (fun z => z.elim c4 c5) _ _ hH
    · exact J3T (Or.inr c5) _ _ hH

theorem dX9_componentSize_0 : decode cX9_componentSize 0 = .ok (.aload_n 0, 1) := by decide +kernel
theorem dX9_componentSize_1 : decode cX9_componentSize 1 = .ok (.getfield 19, 3) := by decide +kernel
theorem dX9_componentSize_4 : decode cX9_componentSize 4 = .ok (.iload_n 1, 1) := by decide +kernel
theorem dX9_componentSize_5 : decode cX9_componentSize 5 = .ok (.invokevirtual 161, 3) := by decide +kernel
theorem dX9_componentSize_8 : decode cX9_componentSize 8 = .ok (.istore_n 2, 1) := by decide +kernel
theorem dX9_componentSize_9 : decode cX9_componentSize 9 = .ok (.iload_n 2, 1) := by decide +kernel
theorem dX9_componentSize_10 : decode cX9_componentSize 10 = .ok (.iconst (-1), 1) := by decide +kernel
theorem dX9_componentSize_11 : decode cX9_componentSize 11 = .ok (.if_icmp .ne 7, 3) := by decide +kernel
theorem dX9_componentSize_14 : decode cX9_componentSize 14 = .ok (.iconst (-1), 1) := by decide +kernel
theorem dX9_componentSize_15 : decode cX9_componentSize 15 = .ok (.goto 15, 3) := by decide +kernel
theorem dX9_componentSize_18 : decode cX9_componentSize 18 = .ok (.aload_n 0, 1) := by decide +kernel
theorem dX9_componentSize_19 : decode cX9_componentSize 19 = .ok (.invokevirtual 215, 3) := by decide +kernel
theorem dX9_componentSize_22 : decode cX9_componentSize 22 = .ok (.getfield 234, 3) := by decide +kernel
theorem dX9_componentSize_25 : decode cX9_componentSize 25 = .ok (.iload_n 2, 1) := by decide +kernel
theorem dX9_componentSize_26 : decode cX9_componentSize 26 = .ok (.laload, 1) := by decide +kernel
theorem dX9_componentSize_27 : decode cX9_componentSize 27 = .ok (.invokestatic 237, 3) := by decide +kernel
theorem dX9_componentSize_30 : decode cX9_componentSize 30 = .ok (.ireturn, 1) := by decide +kernel
set_option maxHeartbeats 4000000 in
set_option maxRecDepth 100000 in
theorem c_X9_componentSize {l : Launch} {g : Gh} {w : Wd} {k0 : Nat} {v_location : Int32} {rz : Int32} {wz : Wd} (hF : f_X9_componentSize w k0 v_location = some (rz, wz)) (hk0 : zct zC k0 = 9) : Met l yX9_componentSize (Cond.code yX9_componentSize cX9_componentSize 3 (some .int) :: TT) (rmd 5) (Pcw zC g w [.ref (g.2.2 k0), .int (v_location)]) (Qw zC g wz (some (.int (rz)))) 0 0 (zA zC g) := by
  refine mt_start (by decide) (Nat.le_of_ble_eq_true rfl) ?_
  intro p e s m args below meth c H locs ls X hr hl hH
  have hx := X.1
  have hb := X.2.1
  have hml := X.2.2.1
  have hown := X.2.2.2.1
  have ht := X.2.2.2.2.1
  have hl : lv_has ls 3 [(0, .ref (g.2.2 (k0))), (1, .int (v_location))] := hl
  unfold f_X9_componentSize at hF
  refine lv_aload_n hx hb dX9_componentSize_0 rfl (lv_at hl 0 rfl) ?_
  obtain ⟨x1, h1, hF⟩ := ob hF
  refine w_getd X hH h1 hk0 fs_9_1 lk_9_19 dX9_componentSize_1 (fun q1 => ?_)
  refine lv_iload_n hx hb dX9_componentSize_4 rfl (lv_at hl 1 rfl) ?_
  refine w_callV (As := [.int (v_location)]) (k := x1) (rest := []) (st1 := [.int ((f_X6_slotAt w (x1) (v_location)))]) X hH (c_X6_slotAt (l := l) (g := g) (w := w) (k0 := x1) (v_location := v_location) rfl q1) (Or.inr ⟨_, tw_3_21⟩) ms_X6_slotAt im_X6_slotAt q1 cn_6 ⟨Nat.le_of_ble_eq_true rfl, Nat.le_of_ble_eq_true rfl⟩ rfl rfl hl.1 (Nat.le_of_ble_eq_true rfl) dX9_componentSize_5 ⟨Nat.le_refl _, Nat.le_refl _⟩ rfl (fun H locs hH => ?_)
  refine lv_istore_n (lv' := [(2, .int ((f_X6_slotAt w (x1) (v_location)))), (0, .ref (g.2.2 (k0))), (1, .int (v_location))]) hx hb dX9_componentSize_8 rfl hl (by decide) rfl (fun ls hl => ?_)
  obtain ⟨x3, hx3, hF⟩ := ob hF
  have J2 : ∀ (H : Heap) (locs : List Loc), HW zC g x3.2 s.heap H locs → W p l e (rmd 5) s m args below meth c H locs 0 0 (MQ below (Qw zC g wz (some (.int (rz)))) args s 0 0 (zA zC g)) (F0 m 30 ls [.int (x3.1)]) := by
    intro H locs hH
    obtain ⟨rfl, rfl⟩ := se2 hF
    exact w_iret X hH hr dX9_componentSize_30
  have hF := hx3
  refine lv_iload_n hx hb dX9_componentSize_9 rfl (lv_at hl 0 rfl) ?_
  refine lv_iconst (v := (-1 : Int32)) hx hb dX9_componentSize_10 (by decide) ?_
  refine w_ieq_f (tgt := 18) hx hb dX9_componentSize_11 (by decide) (fun c4 => ?_) (fun c4 => ?_)
  · replace hF := ifn c4 hF
    refine lv_aload_n hx hb dX9_componentSize_18 rfl (lv_at hl 1 rfl) ?_
    obtain ⟨x5, h5, hF⟩ := ob hF
    refine w_callV (As := []) (k := k0) (rest := []) (st1 := [.ref (g.2.2 (x5.1))]) X hH (c_X9_graphed (l := l) (g := g) (w := w) (k0 := k0) h5 hk0) (Or.inl tw_3_43) ms_X9_graphed im_X9_graphed hk0 cn_9 ⟨Nat.le_of_ble_eq_true rfl, Nat.le_of_ble_eq_true rfl⟩ rfl rfl hl.1 (Nat.le_of_ble_eq_true rfl) dX9_componentSize_19 ⟨Nat.le_refl _, Nat.le_refl _⟩ rfl (fun H locs hH => ?_)
    refine w_getr X hH (rr_X9_graphed h5 hk0) fs_1_2 lk_9_234 dX9_componentSize_22 ?_
    refine lv_iload_n hx hb dX9_componentSize_25 rfl (lv_at hl 0 rfl) ?_
    obtain ⟨x6, h6, hF⟩ := ob hF
    refine w_lald X hH h6 (rt_C_1_2 (rr_X9_graphed h5 hk0)) dX9_componentSize_26 ?_
    refine w_callS (As := [.long (x6)]) (rest := []) (st1 := [.int ((f_J13_bitCount (x6)))]) X hH (c_J13_bitCount (l := l) (g := g) (w := x5.2) (v_i := x6) rfl) (Or.inl tw_5_54) ms_J13_bitCount tw_3_103 ⟨Nat.le_of_ble_eq_true rfl, Nat.le_of_ble_eq_true rfl⟩ rfl rfl hl.1 (Nat.le_of_ble_eq_true rfl) dX9_componentSize_27 ⟨Nat.le_refl _, Nat.le_refl _⟩ rfl (fun H locs hH => ?_)
    obtain rfl := se1 hF
    exact J2 _ _ hH
  · replace hF := ifp c4 hF
    refine lv_iconst (v := (-1 : Int32)) hx hb dX9_componentSize_14 (by decide) ?_
    refine lv_goto (tgt := 30) hx hb dX9_componentSize_15 (by decide) ?_
    obtain rfl := se1 hF
    exact J2 _ _ hH

theorem dJ6_numberOfTrailingZeros_0f7a4_0 : decode cJ6_numberOfTrailingZeros_0f7a4 0 = .ok (.iload_n 0, 1) := by decide +kernel
theorem dJ6_numberOfTrailingZeros_0f7a4_1 : decode cJ6_numberOfTrailingZeros_0f7a4 1 = .ok (.iconst (-1), 1) := by decide +kernel
theorem dJ6_numberOfTrailingZeros_0f7a4_2 : decode cJ6_numberOfTrailingZeros_0f7a4 2 = .ok (.ixor, 1) := by decide +kernel
theorem dJ6_numberOfTrailingZeros_0f7a4_3 : decode cJ6_numberOfTrailingZeros_0f7a4 3 = .ok (.iload_n 0, 1) := by decide +kernel
theorem dJ6_numberOfTrailingZeros_0f7a4_4 : decode cJ6_numberOfTrailingZeros_0f7a4 4 = .ok (.iconst 1, 1) := by decide +kernel
theorem dJ6_numberOfTrailingZeros_0f7a4_5 : decode cJ6_numberOfTrailingZeros_0f7a4 5 = .ok (.isub, 1) := by decide +kernel
theorem dJ6_numberOfTrailingZeros_0f7a4_6 : decode cJ6_numberOfTrailingZeros_0f7a4 6 = .ok (.iand, 1) := by decide +kernel
theorem dJ6_numberOfTrailingZeros_0f7a4_7 : decode cJ6_numberOfTrailingZeros_0f7a4 7 = .ok (.istore_n 0, 1) := by decide +kernel
theorem dJ6_numberOfTrailingZeros_0f7a4_8 : decode cJ6_numberOfTrailingZeros_0f7a4 8 = .ok (.iload_n 0, 1) := by decide +kernel
theorem dJ6_numberOfTrailingZeros_0f7a4_9 : decode cJ6_numberOfTrailingZeros_0f7a4 9 = .ok (.ifCond .gt 8, 3) := by decide +kernel
theorem dJ6_numberOfTrailingZeros_0f7a4_12 : decode cJ6_numberOfTrailingZeros_0f7a4 12 = .ok (.iload_n 0, 1) := by decide +kernel
theorem dJ6_numberOfTrailingZeros_0f7a4_13 : decode cJ6_numberOfTrailingZeros_0f7a4 13 = .ok (.bipush 32, 2) := by decide +kernel
theorem dJ6_numberOfTrailingZeros_0f7a4_15 : decode cJ6_numberOfTrailingZeros_0f7a4 15 = .ok (.iand, 1) := by decide +kernel
theorem dJ6_numberOfTrailingZeros_0f7a4_16 : decode cJ6_numberOfTrailingZeros_0f7a4 16 = .ok (.ireturn, 1) := by decide +kernel
theorem dJ6_numberOfTrailingZeros_0f7a4_17 : decode cJ6_numberOfTrailingZeros_0f7a4 17 = .ok (.iconst 1, 1) := by decide +kernel
theorem dJ6_numberOfTrailingZeros_0f7a4_18 : decode cJ6_numberOfTrailingZeros_0f7a4 18 = .ok (.istore_n 1, 1) := by decide +kernel
theorem dJ6_numberOfTrailingZeros_0f7a4_19 : decode cJ6_numberOfTrailingZeros_0f7a4 19 = .ok (.iload_n 0, 1) := by decide +kernel
theorem dJ6_numberOfTrailingZeros_0f7a4_20 : decode cJ6_numberOfTrailingZeros_0f7a4 20 = .ok (.ldc_w 264, 3) := by decide +kernel
theorem dJ6_numberOfTrailingZeros_0f7a4_23 : decode cJ6_numberOfTrailingZeros_0f7a4 23 = .ok (.if_icmp .le 11, 3) := by decide +kernel
theorem dJ6_numberOfTrailingZeros_0f7a4_26 : decode cJ6_numberOfTrailingZeros_0f7a4 26 = .ok (.iinc 1 16, 3) := by decide +kernel
theorem dJ6_numberOfTrailingZeros_0f7a4_29 : decode cJ6_numberOfTrailingZeros_0f7a4 29 = .ok (.iload_n 0, 1) := by decide +kernel
theorem dJ6_numberOfTrailingZeros_0f7a4_30 : decode cJ6_numberOfTrailingZeros_0f7a4 30 = .ok (.bipush 16, 2) := by decide +kernel
theorem dJ6_numberOfTrailingZeros_0f7a4_32 : decode cJ6_numberOfTrailingZeros_0f7a4 32 = .ok (.iushr, 1) := by decide +kernel
theorem dJ6_numberOfTrailingZeros_0f7a4_33 : decode cJ6_numberOfTrailingZeros_0f7a4 33 = .ok (.istore_n 0, 1) := by decide +kernel
theorem dJ6_numberOfTrailingZeros_0f7a4_34 : decode cJ6_numberOfTrailingZeros_0f7a4 34 = .ok (.iload_n 0, 1) := by decide +kernel
theorem dJ6_numberOfTrailingZeros_0f7a4_35 : decode cJ6_numberOfTrailingZeros_0f7a4 35 = .ok (.sipush 256, 3) := by decide +kernel
theorem dJ6_numberOfTrailingZeros_0f7a4_38 : decode cJ6_numberOfTrailingZeros_0f7a4 38 = .ok (.if_icmp .le 11, 3) := by decide +kernel
theorem dJ6_numberOfTrailingZeros_0f7a4_41 : decode cJ6_numberOfTrailingZeros_0f7a4 41 = .ok (.iinc 1 8, 3) := by decide +kernel
theorem dJ6_numberOfTrailingZeros_0f7a4_44 : decode cJ6_numberOfTrailingZeros_0f7a4 44 = .ok (.iload_n 0, 1) := by decide +kernel
theorem dJ6_numberOfTrailingZeros_0f7a4_45 : decode cJ6_numberOfTrailingZeros_0f7a4 45 = .ok (.bipush 8, 2) := by decide +kernel
theorem dJ6_numberOfTrailingZeros_0f7a4_47 : decode cJ6_numberOfTrailingZeros_0f7a4 47 = .ok (.iushr, 1) := by decide +kernel
theorem dJ6_numberOfTrailingZeros_0f7a4_48 : decode cJ6_numberOfTrailingZeros_0f7a4 48 = .ok (.istore_n 0, 1) := by decide +kernel
theorem dJ6_numberOfTrailingZeros_0f7a4_49 : decode cJ6_numberOfTrailingZeros_0f7a4 49 = .ok (.iload_n 0, 1) := by decide +kernel
theorem dJ6_numberOfTrailingZeros_0f7a4_50 : decode cJ6_numberOfTrailingZeros_0f7a4 50 = .ok (.bipush 16, 2) := by decide +kernel
theorem dJ6_numberOfTrailingZeros_0f7a4_52 : decode cJ6_numberOfTrailingZeros_0f7a4 52 = .ok (.if_icmp .le 10, 3) := by decide +kernel
theorem dJ6_numberOfTrailingZeros_0f7a4_55 : decode cJ6_numberOfTrailingZeros_0f7a4 55 = .ok (.iinc 1 4, 3) := by decide +kernel
theorem dJ6_numberOfTrailingZeros_0f7a4_58 : decode cJ6_numberOfTrailingZeros_0f7a4 58 = .ok (.iload_n 0, 1) := by decide +kernel
theorem dJ6_numberOfTrailingZeros_0f7a4_59 : decode cJ6_numberOfTrailingZeros_0f7a4 59 = .ok (.iconst 4, 1) := by decide +kernel
theorem dJ6_numberOfTrailingZeros_0f7a4_60 : decode cJ6_numberOfTrailingZeros_0f7a4 60 = .ok (.iushr, 1) := by decide +kernel
theorem dJ6_numberOfTrailingZeros_0f7a4_61 : decode cJ6_numberOfTrailingZeros_0f7a4 61 = .ok (.istore_n 0, 1) := by decide +kernel
theorem dJ6_numberOfTrailingZeros_0f7a4_62 : decode cJ6_numberOfTrailingZeros_0f7a4 62 = .ok (.iload_n 0, 1) := by decide +kernel
theorem dJ6_numberOfTrailingZeros_0f7a4_63 : decode cJ6_numberOfTrailingZeros_0f7a4 63 = .ok (.iconst 4, 1) := by decide +kernel
theorem dJ6_numberOfTrailingZeros_0f7a4_64 : decode cJ6_numberOfTrailingZeros_0f7a4 64 = .ok (.if_icmp .le 10, 3) := by decide +kernel
theorem dJ6_numberOfTrailingZeros_0f7a4_67 : decode cJ6_numberOfTrailingZeros_0f7a4 67 = .ok (.iinc 1 2, 3) := by decide +kernel
theorem dJ6_numberOfTrailingZeros_0f7a4_70 : decode cJ6_numberOfTrailingZeros_0f7a4 70 = .ok (.iload_n 0, 1) := by decide +kernel
theorem dJ6_numberOfTrailingZeros_0f7a4_71 : decode cJ6_numberOfTrailingZeros_0f7a4 71 = .ok (.iconst 2, 1) := by decide +kernel
theorem dJ6_numberOfTrailingZeros_0f7a4_72 : decode cJ6_numberOfTrailingZeros_0f7a4 72 = .ok (.iushr, 1) := by decide +kernel
theorem dJ6_numberOfTrailingZeros_0f7a4_73 : decode cJ6_numberOfTrailingZeros_0f7a4 73 = .ok (.istore_n 0, 1) := by decide +kernel
theorem dJ6_numberOfTrailingZeros_0f7a4_74 : decode cJ6_numberOfTrailingZeros_0f7a4 74 = .ok (.iload_n 1, 1) := by decide +kernel
theorem dJ6_numberOfTrailingZeros_0f7a4_75 : decode cJ6_numberOfTrailingZeros_0f7a4 75 = .ok (.iload_n 0, 1) := by decide +kernel
theorem dJ6_numberOfTrailingZeros_0f7a4_76 : decode cJ6_numberOfTrailingZeros_0f7a4 76 = .ok (.iconst 1, 1) := by decide +kernel
theorem dJ6_numberOfTrailingZeros_0f7a4_77 : decode cJ6_numberOfTrailingZeros_0f7a4 77 = .ok (.iushr, 1) := by decide +kernel
theorem dJ6_numberOfTrailingZeros_0f7a4_78 : decode cJ6_numberOfTrailingZeros_0f7a4 78 = .ok (.iadd, 1) := by decide +kernel
theorem dJ6_numberOfTrailingZeros_0f7a4_79 : decode cJ6_numberOfTrailingZeros_0f7a4 79 = .ok (.ireturn, 1) := by decide +kernel
set_option maxHeartbeats 4000000 in
set_option maxRecDepth 100000 in
theorem c_J6_numberOfTrailingZeros {l : Launch} {g : Gh} {w : Wd} {v_i : Int32} {rz : Int32} (hF : f_J6_numberOfTrailingZeros v_i = some rz)  : Met l yJ6_numberOfTrailingZeros_0f7a4 (Cond.code yJ6_numberOfTrailingZeros_0f7a4 cJ6_numberOfTrailingZeros_0f7a4 2 (some .int) :: TT) (rmd 0) (Pcw zC g w [.int (v_i)]) (Qw zC g w (some (.int (rz)))) 0 0 (zA zC g) := by
  refine mt_start (by decide) (Nat.le_of_ble_eq_true rfl) ?_
  intro p e s m args below meth c H locs ls X hr hl hH
  have hx := X.1
  have hb := X.2.1
  have hml := X.2.2.1
  have hown := X.2.2.2.1
  have ht := X.2.2.2.2.1
  have hl : lv_has ls 2 [(0, .int (v_i))] := hl
  unfold f_J6_numberOfTrailingZeros at hF
  refine lv_iload_n hx hb dJ6_numberOfTrailingZeros_0f7a4_0 rfl (lv_at hl 0 rfl) ?_
  refine lv_iconst (v := (-1 : Int32)) hx hb dJ6_numberOfTrailingZeros_0f7a4_1 (by decide) ?_
  refine lv_ixor hx hb dJ6_numberOfTrailingZeros_0f7a4_2 ?_
  refine lv_iload_n hx hb dJ6_numberOfTrailingZeros_0f7a4_3 rfl (lv_at hl 0 rfl) ?_
  refine lv_iconst (v := (1 : Int32)) hx hb dJ6_numberOfTrailingZeros_0f7a4_4 (by decide) ?_
  refine lv_isub hx hb dJ6_numberOfTrailingZeros_0f7a4_5 ?_
  refine lv_iand hx hb dJ6_numberOfTrailingZeros_0f7a4_6 ?_
  refine lv_istore_n (lv' := [(0, .int (((v_i ^^^ (-1 : Int32)) &&& (v_i - (1 : Int32)))))]) hx hb dJ6_numberOfTrailingZeros_0f7a4_7 rfl hl (by decide) rfl (fun ls hl => ?_)
  refine lv_iload_n hx hb dJ6_numberOfTrailingZeros_0f7a4_8 rfl (lv_at hl 0 rfl) ?_
  refine w_zle_f (tgt := 17) hx hb dJ6_numberOfTrailingZeros_0f7a4_9 (by decide) (fun c1 => ?_) (fun c1 => ?_)
  · replace hF := ifn c1 hF
    refine lv_iconst (v := (1 : Int32)) hx hb dJ6_numberOfTrailingZeros_0f7a4_17 (by decide) ?_
    refine lv_istore_n (lv' := [(1, .int ((1 : Int32))), (0, .int (((v_i ^^^ (-1 : Int32)) &&& (v_i - (1 : Int32)))))]) hx hb dJ6_numberOfTrailingZeros_0f7a4_18 rfl hl (by decide) rfl (fun ls hl => ?_)
    obtain ⟨s2, hs2, hF⟩ := ob hF
    have Js2 : ∀ (H : Heap) (locs : List Loc) (ls : Array Slot), HW zC g w s.heap H locs → lv_has ls 2 [(0, .int (s2.1)), (1, .int (s2.2))] → W p l e (rmd 0) s m args below meth c H locs 0 0 (MQ below (Qw zC g w (some (.int (rz)))) args s 0 0 (zA zC g)) (F0 m 34 ls []) := by
      intro H locs ls hH hl
      obtain ⟨s4, hs4, hF⟩ := ob hF
      have Js4 : ∀ (H : Heap) (locs : List Loc) (ls : Array Slot), HW zC g w s.heap H locs → lv_has ls 2 [(0, .int (s4.1)), (1, .int (s4.2))] → W p l e (rmd 0) s m args below meth c H locs 0 0 (MQ below (Qw zC g w (some (.int (rz)))) args s 0 0 (zA zC g)) (F0 m 49 ls []) := by
        intro H locs ls hH hl
        obtain ⟨s6, hs6, hF⟩ := ob hF
        have Js6 : ∀ (H : Heap) (locs : List Loc) (ls : Array Slot), HW zC g w s.heap H locs → lv_has ls 2 [(0, .int (s6.1)), (1, .int (s6.2))] → W p l e (rmd 0) s m args below meth c H locs 0 0 (MQ below (Qw zC g w (some (.int (rz)))) args s 0 0 (zA zC g)) (F0 m 62 ls []) := by
          intro H locs ls hH hl
          obtain ⟨s8, hs8, hF⟩ := ob hF
          have Js8 : ∀ (H : Heap) (locs : List Loc) (ls : Array Slot), HW zC g w s.heap H locs → lv_has ls 2 [(0, .int (s8.1)), (1, .int (s8.2))] → W p l e (rmd 0) s m args below meth c H locs 0 0 (MQ below (Qw zC g w (some (.int (rz)))) args s 0 0 (zA zC g)) (F0 m 74 ls []) := by
            intro H locs ls hH hl
            refine lv_iload_n hx hb dJ6_numberOfTrailingZeros_0f7a4_74 rfl (lv_at hl 1 rfl) ?_
            refine lv_iload_n hx hb dJ6_numberOfTrailingZeros_0f7a4_75 rfl (lv_at hl 0 rfl) ?_
            refine lv_iconst (v := (1 : Int32)) hx hb dJ6_numberOfTrailingZeros_0f7a4_76 (by decide) ?_
            refine w_iushr hx hb dJ6_numberOfTrailingZeros_0f7a4_77 ?_
            refine lv_iadd hx hb dJ6_numberOfTrailingZeros_0f7a4_78 ?_
            obtain rfl := se1 hF
            exact w_iret X hH hr dJ6_numberOfTrailingZeros_0f7a4_79
          have hF := hs8
          refine lv_iload_n hx hb dJ6_numberOfTrailingZeros_0f7a4_62 rfl (lv_at hl 0 rfl) ?_
          refine lv_iconst (v := (4 : Int32)) hx hb dJ6_numberOfTrailingZeros_0f7a4_63 (by decide) ?_
          refine w_igt_f (tgt := 74) hx hb dJ6_numberOfTrailingZeros_0f7a4_64 (by decide) (fun c9 => ?_) (fun c9 => ?_)
          · replace hF := ifn c9 hF
            obtain rfl := se1 hF
            exact Js8 _ _ _ hH (lv_sub hl [0, 1] rfl)
          · replace hF := ifp c9 hF
            refine lv_iinc (v := (s6.2 + (2 : Int32))) (lv' := [(1, .int ((s6.2 + (2 : Int32)))), (0, .int (s6.1))]) hx hb dJ6_numberOfTrailingZeros_0f7a4_67 hl (k := 1) rfl rfl (by decide) rfl (fun ls hl => ?_)
            refine lv_iload_n hx hb dJ6_numberOfTrailingZeros_0f7a4_70 rfl (lv_at hl 1 rfl) ?_
            refine lv_iconst (v := (2 : Int32)) hx hb dJ6_numberOfTrailingZeros_0f7a4_71 (by decide) ?_
            refine w_iushr hx hb dJ6_numberOfTrailingZeros_0f7a4_72 ?_
            refine lv_istore_n (lv' := [(0, .int ((jushr (s6.1) ((2 : Int32))))), (1, .int ((s6.2 + (2 : Int32))))]) hx hb dJ6_numberOfTrailingZeros_0f7a4_73 rfl hl (by decide) rfl (fun ls hl => ?_)
            obtain rfl := se1 hF
            exact Js8 _ _ _ hH (lv_sub hl [0, 1] rfl)
        have hF := hs6
        refine lv_iload_n hx hb dJ6_numberOfTrailingZeros_0f7a4_49 rfl (lv_at hl 0 rfl) ?_
        refine lv_bipush (v := (16 : Int32)) hx hb dJ6_numberOfTrailingZeros_0f7a4_50 (by decide) ?_
        refine w_igt_f (tgt := 62) hx hb dJ6_numberOfTrailingZeros_0f7a4_52 (by decide) (fun c7 => ?_) (fun c7 => ?_)
        · replace hF := ifn c7 hF
          obtain rfl := se1 hF
          exact Js6 _ _ _ hH (lv_sub hl [0, 1] rfl)
        · replace hF := ifp c7 hF
          refine lv_iinc (v := (s4.2 + (4 : Int32))) (lv' := [(1, .int ((s4.2 + (4 : Int32)))), (0, .int (s4.1))]) hx hb dJ6_numberOfTrailingZeros_0f7a4_55 hl (k := 1) rfl rfl (by decide) rfl (fun ls hl => ?_)
          refine lv_iload_n hx hb dJ6_numberOfTrailingZeros_0f7a4_58 rfl (lv_at hl 1 rfl) ?_
          refine lv_iconst (v := (4 : Int32)) hx hb dJ6_numberOfTrailingZeros_0f7a4_59 (by decide) ?_
          refine w_iushr hx hb dJ6_numberOfTrailingZeros_0f7a4_60 ?_
          refine lv_istore_n (lv' := [(0, .int ((jushr (s4.1) ((4 : Int32))))), (1, .int ((s4.2 + (4 : Int32))))]) hx hb dJ6_numberOfTrailingZeros_0f7a4_61 rfl hl (by decide) rfl (fun ls hl => ?_)
          obtain rfl := se1 hF
          exact Js6 _ _ _ hH (lv_sub hl [0, 1] rfl)
      have hF := hs4
      refine lv_iload_n hx hb dJ6_numberOfTrailingZeros_0f7a4_34 rfl (lv_at hl 0 rfl) ?_
      refine lv_sipush (v := (256 : Int32)) hx hb dJ6_numberOfTrailingZeros_0f7a4_35 (by decide) ?_
      refine w_igt_f (tgt := 49) hx hb dJ6_numberOfTrailingZeros_0f7a4_38 (by decide) (fun c5 => ?_) (fun c5 => ?_)
      · replace hF := ifn c5 hF
        obtain rfl := se1 hF
        exact Js4 _ _ _ hH (lv_sub hl [0, 1] rfl)
      · replace hF := ifp c5 hF
        refine lv_iinc (v := (s2.2 + (8 : Int32))) (lv' := [(1, .int ((s2.2 + (8 : Int32)))), (0, .int (s2.1))]) hx hb dJ6_numberOfTrailingZeros_0f7a4_41 hl (k := 1) rfl rfl (by decide) rfl (fun ls hl => ?_)
        refine lv_iload_n hx hb dJ6_numberOfTrailingZeros_0f7a4_44 rfl (lv_at hl 1 rfl) ?_
        refine lv_bipush (v := (8 : Int32)) hx hb dJ6_numberOfTrailingZeros_0f7a4_45 (by decide) ?_
        refine w_iushr hx hb dJ6_numberOfTrailingZeros_0f7a4_47 ?_
        refine lv_istore_n (lv' := [(0, .int ((jushr (s2.1) ((8 : Int32))))), (1, .int ((s2.2 + (8 : Int32))))]) hx hb dJ6_numberOfTrailingZeros_0f7a4_48 rfl hl (by decide) rfl (fun ls hl => ?_)
        obtain rfl := se1 hF
        exact Js4 _ _ _ hH (lv_sub hl [0, 1] rfl)
    have hF := hs2
    refine lv_iload_n hx hb dJ6_numberOfTrailingZeros_0f7a4_19 rfl (lv_at hl 1 rfl) ?_
    refine lv_ldcw (own := RJ6) (v := (65536 : Int32)) hx hb hown (ht _ tw_3_101) dJ6_numberOfTrailingZeros_0f7a4_20 ?_
    refine w_igt_f (tgt := 34) hx hb dJ6_numberOfTrailingZeros_0f7a4_23 (by decide) (fun c3 => ?_) (fun c3 => ?_)
    · replace hF := ifn c3 hF
      obtain rfl := se1 hF
      exact Js2 _ _ _ hH (lv_sub hl [1, 0] rfl)
    · replace hF := ifp c3 hF
      refine lv_iinc (v := ((1 : Int32) + (16 : Int32))) (lv' := [(1, .int (((1 : Int32) + (16 : Int32)))), (0, .int (((v_i ^^^ (-1 : Int32)) &&& (v_i - (1 : Int32)))))]) hx hb dJ6_numberOfTrailingZeros_0f7a4_26 hl (k := 0) rfl rfl (by decide) rfl (fun ls hl => ?_)
      refine lv_iload_n hx hb dJ6_numberOfTrailingZeros_0f7a4_29 rfl (lv_at hl 1 rfl) ?_
      refine lv_bipush (v := (16 : Int32)) hx hb dJ6_numberOfTrailingZeros_0f7a4_30 (by decide) ?_
      refine w_iushr hx hb dJ6_numberOfTrailingZeros_0f7a4_32 ?_
      refine lv_istore_n (lv' := [(0, .int ((jushr (((v_i ^^^ (-1 : Int32)) &&& (v_i - (1 : Int32)))) ((16 : Int32))))), (1, .int (((1 : Int32) + (16 : Int32))))]) hx hb dJ6_numberOfTrailingZeros_0f7a4_33 rfl hl (by decide) rfl (fun ls hl => ?_)
      obtain rfl := se1 hF
      exact Js2 _ _ _ hH (lv_sub hl [0, 1] rfl)
  · replace hF := ifp c1 hF
    refine lv_iload_n hx hb dJ6_numberOfTrailingZeros_0f7a4_12 rfl (lv_at hl 0 rfl) ?_
    refine lv_bipush (v := (32 : Int32)) hx hb dJ6_numberOfTrailingZeros_0f7a4_13 (by decide) ?_
    refine lv_iand hx hb dJ6_numberOfTrailingZeros_0f7a4_15 ?_
    obtain rfl := se1 hF
    exact w_iret X hH hr dJ6_numberOfTrailingZeros_0f7a4_16

theorem dJ13_numberOfTrailingZeros_95d88_0 : decode cJ13_numberOfTrailingZeros_95d88 0 = .ok (.lload_n 0, 1) := by decide +kernel
theorem dJ13_numberOfTrailingZeros_95d88_1 : decode cJ13_numberOfTrailingZeros_95d88 1 = .ok (.l2i, 1) := by decide +kernel
theorem dJ13_numberOfTrailingZeros_95d88_2 : decode cJ13_numberOfTrailingZeros_95d88 2 = .ok (.istore_n 2, 1) := by decide +kernel
theorem dJ13_numberOfTrailingZeros_95d88_3 : decode cJ13_numberOfTrailingZeros_95d88 3 = .ok (.iload_n 2, 1) := by decide +kernel
theorem dJ13_numberOfTrailingZeros_95d88_4 : decode cJ13_numberOfTrailingZeros_95d88 4 = .ok (.ifCond .ne 17, 3) := by decide +kernel
theorem dJ13_numberOfTrailingZeros_95d88_7 : decode cJ13_numberOfTrailingZeros_95d88 7 = .ok (.bipush 32, 2) := by decide +kernel
theorem dJ13_numberOfTrailingZeros_95d88_9 : decode cJ13_numberOfTrailingZeros_95d88 9 = .ok (.lload_n 0, 1) := by decide +kernel
theorem dJ13_numberOfTrailingZeros_95d88_10 : decode cJ13_numberOfTrailingZeros_95d88 10 = .ok (.bipush 32, 2) := by decide +kernel
theorem dJ13_numberOfTrailingZeros_95d88_12 : decode cJ13_numberOfTrailingZeros_95d88 12 = .ok (.lushr, 1) := by decide +kernel
theorem dJ13_numberOfTrailingZeros_95d88_13 : decode cJ13_numberOfTrailingZeros_95d88 13 = .ok (.l2i, 1) := by decide +kernel
theorem dJ13_numberOfTrailingZeros_95d88_14 : decode cJ13_numberOfTrailingZeros_95d88 14 = .ok (.invokestatic 311, 3) := by decide +kernel
theorem dJ13_numberOfTrailingZeros_95d88_17 : decode cJ13_numberOfTrailingZeros_95d88 17 = .ok (.iadd, 1) := by decide +kernel
theorem dJ13_numberOfTrailingZeros_95d88_18 : decode cJ13_numberOfTrailingZeros_95d88 18 = .ok (.goto 7, 3) := by decide +kernel
theorem dJ13_numberOfTrailingZeros_95d88_21 : decode cJ13_numberOfTrailingZeros_95d88 21 = .ok (.iload_n 2, 1) := by decide +kernel
theorem dJ13_numberOfTrailingZeros_95d88_22 : decode cJ13_numberOfTrailingZeros_95d88 22 = .ok (.invokestatic 311, 3) := by decide +kernel
theorem dJ13_numberOfTrailingZeros_95d88_25 : decode cJ13_numberOfTrailingZeros_95d88 25 = .ok (.ireturn, 1) := by decide +kernel
set_option maxHeartbeats 4000000 in
set_option maxRecDepth 100000 in
theorem c_J13_numberOfTrailingZeros {l : Launch} {g : Gh} {w : Wd} {v_i : Int64} {rz : Int32} (hF : f_J13_numberOfTrailingZeros v_i = some rz)  : Met l yJ13_numberOfTrailingZeros_95d88 (Cond.code yJ13_numberOfTrailingZeros_95d88 cJ13_numberOfTrailingZeros_95d88 3 (some .int) :: TT) (rmd 1) (Pcw zC g w [.long (v_i)]) (Qw zC g w (some (.int (rz)))) 0 0 (zA zC g) := by
  refine mt_start (by decide) (Nat.le_of_ble_eq_true rfl) ?_
  intro p e s m args below meth c H locs ls X hr hl hH
  have hx := X.1
  have hb := X.2.1
  have hml := X.2.2.1
  have hown := X.2.2.2.1
  have ht := X.2.2.2.2.1
  have hl : lv_has ls 3 [(0, .long (v_i))] := hl
  unfold f_J13_numberOfTrailingZeros at hF
  refine lv_lload_n hx hb dJ13_numberOfTrailingZeros_95d88_0 rfl (lv_at hl 0 rfl) ?_
  refine w_l2i hx hb dJ13_numberOfTrailingZeros_95d88_1 ?_
  refine lv_istore_n (lv' := [(2, .int ((v_i).toInt32)), (0, .long (v_i))]) hx hb dJ13_numberOfTrailingZeros_95d88_2 rfl hl (by decide) rfl (fun ls hl => ?_)
  obtain ⟨x2, hx2, hF⟩ := ob hF
  have J1 : ∀ (H : Heap) (locs : List Loc), HW zC g w s.heap H locs → W p l e (rmd 1) s m args below meth c H locs 0 0 (MQ below (Qw zC g w (some (.int (rz)))) args s 0 0 (zA zC g)) (F0 m 25 ls [.int (x2)]) := by
    intro H locs hH
    obtain rfl := se1 hF
    exact w_iret X hH hr dJ13_numberOfTrailingZeros_95d88_25
  have hF := hx2
  refine lv_iload_n hx hb dJ13_numberOfTrailingZeros_95d88_3 rfl (lv_at hl 0 rfl) ?_
  refine w_zeq_f (tgt := 21) hx hb dJ13_numberOfTrailingZeros_95d88_4 (by decide) (fun c3 => ?_) (fun c3 => ?_)
  · replace hF := ifn c3 hF
    refine lv_iload_n hx hb dJ13_numberOfTrailingZeros_95d88_21 rfl (lv_at hl 0 rfl) ?_
    obtain ⟨x4, h4, hF⟩ := ob hF
    refine w_callS (As := [.int ((v_i).toInt32)]) (rest := []) (st1 := [.int (x4)]) X hH (c_J6_numberOfTrailingZeros (l := l) (g := g) (w := w) (v_i := (v_i).toInt32) h4) (Or.inl tw_3_98) ms_J6_numberOfTrailingZeros tw_3_99 ⟨Nat.le_of_ble_eq_true rfl, Nat.le_of_ble_eq_true rfl⟩ rfl rfl hl.1 (Nat.le_of_ble_eq_true rfl) dJ13_numberOfTrailingZeros_95d88_22 ⟨Nat.le_refl _, Nat.le_refl _⟩ rfl (fun H locs hH => ?_)
    obtain rfl := se1 hF
    exact J1 _ _ hH
  · replace hF := ifp c3 hF
    refine lv_bipush (v := (32 : Int32)) hx hb dJ13_numberOfTrailingZeros_95d88_7 (by decide) ?_
    refine lv_lload_n hx hb dJ13_numberOfTrailingZeros_95d88_9 rfl (lv_at hl 1 rfl) ?_
    refine lv_bipush (v := (32 : Int32)) hx hb dJ13_numberOfTrailingZeros_95d88_10 (by decide) ?_
    refine w_lushr hx hb dJ13_numberOfTrailingZeros_95d88_12 ?_
    refine w_l2i hx hb dJ13_numberOfTrailingZeros_95d88_13 ?_
    obtain ⟨x5, h5, hF⟩ := ob hF
    refine w_callS (As := [.int (((jlushr (v_i) ((32 : Int32)))).toInt32)]) (rest := [.int ((32 : Int32))]) (st1 := [.int (x5), .int ((32 : Int32))]) X hH (c_J6_numberOfTrailingZeros (l := l) (g := g) (w := w) (v_i := ((jlushr (v_i) ((32 : Int32)))).toInt32) h5) (Or.inl tw_3_98) ms_J6_numberOfTrailingZeros tw_3_99 ⟨Nat.le_of_ble_eq_true rfl, Nat.le_of_ble_eq_true rfl⟩ rfl rfl hl.1 (Nat.le_of_ble_eq_true rfl) dJ13_numberOfTrailingZeros_95d88_14 ⟨Nat.le_refl _, Nat.le_refl _⟩ rfl (fun H locs hH => ?_)
    refine lv_iadd hx hb dJ13_numberOfTrailingZeros_95d88_17 ?_
    refine lv_goto (tgt := 25) hx hb dJ13_numberOfTrailingZeros_95d88_18 (by decide) ?_
    obtain rfl := se1 hF
    exact J1 _ _ hH

theorem dX1_lowestOf_0 : decode cX1_lowestOf 0 = .ok (.aload_n 0, 1) := by decide +kernel
theorem dX1_lowestOf_1 : decode cX1_lowestOf 1 = .ok (.getfield 18, 3) := by decide +kernel
theorem dX1_lowestOf_4 : decode cX1_lowestOf 4 = .ok (.iload_n 1, 1) := by decide +kernel
theorem dX1_lowestOf_5 : decode cX1_lowestOf 5 = .ok (.laload, 1) := by decide +kernel
theorem dX1_lowestOf_6 : decode cX1_lowestOf 6 = .ok (.invokestatic 96, 3) := by decide +kernel
theorem dX1_lowestOf_9 : decode cX1_lowestOf 9 = .ok (.ireturn, 1) := by decide +kernel
set_option maxHeartbeats 4000000 in
set_option maxRecDepth 100000 in
theorem c_X1_lowestOf {l : Launch} {g : Gh} {w : Wd} {k0 : Nat} {v_slot : Int32} {rz : Int32} (hF : f_X1_lowestOf w k0 v_slot = some rz) (hk0 : zct zC k0 = 1) : Met l yX1_lowestOf (Cond.code yX1_lowestOf cX1_lowestOf 2 (some .int) :: TT) (rmd 2) (Pcw zC g w [.ref (g.2.2 k0), .int (v_slot)]) (Qw zC g w (some (.int (rz)))) 0 0 (zA zC g) := by
  refine mt_start (by decide) (Nat.le_of_ble_eq_true rfl) ?_
  intro p e s m args below meth c H locs ls X hr hl hH
  have hx := X.1
  have hb := X.2.1
  have hml := X.2.2.1
  have hown := X.2.2.2.1
  have ht := X.2.2.2.2.1
  have hl : lv_has ls 2 [(0, .ref (g.2.2 (k0))), (1, .int (v_slot))] := hl
  unfold f_X1_lowestOf at hF
  refine lv_aload_n hx hb dX1_lowestOf_0 rfl (lv_at hl 0 rfl) ?_
  refine w_getr X hH hk0 fs_1_2 lk_1_18 dX1_lowestOf_1 ?_
  refine lv_iload_n hx hb dX1_lowestOf_4 rfl (lv_at hl 1 rfl) ?_
  obtain ⟨x1, h1, hF⟩ := ob hF
  refine w_lald X hH h1 (rt_C_1_2 hk0) dX1_lowestOf_5 ?_
  obtain ⟨x2, h2, hF⟩ := ob hF
  refine w_callS (As := [.long (x1)]) (rest := []) (st1 := [.int (x2)]) X hH (c_J13_numberOfTrailingZeros (l := l) (g := g) (w := w) (v_i := x1) h2) (Or.inl tw_3_95) ms_J13_numberOfTrailingZeros tw_3_96 ⟨Nat.le_of_ble_eq_true rfl, Nat.le_of_ble_eq_true rfl⟩ rfl rfl hl.1 (Nat.le_of_ble_eq_true rfl) dX1_lowestOf_6 ⟨Nat.le_refl _, Nat.le_refl _⟩ rfl (fun H locs hH => ?_)
  obtain rfl := se1 hF
  exact w_iret X hH hr dX1_lowestOf_9

theorem dX9_representative_0 : decode cX9_representative 0 = .ok (.aload_n 0, 1) := by decide +kernel
theorem dX9_representative_1 : decode cX9_representative 1 = .ok (.getfield 19, 3) := by decide +kernel
theorem dX9_representative_4 : decode cX9_representative 4 = .ok (.iload_n 1, 1) := by decide +kernel
theorem dX9_representative_5 : decode cX9_representative 5 = .ok (.invokevirtual 161, 3) := by decide +kernel
theorem dX9_representative_8 : decode cX9_representative 8 = .ok (.istore_n 2, 1) := by decide +kernel
theorem dX9_representative_9 : decode cX9_representative 9 = .ok (.iload_n 2, 1) := by decide +kernel
theorem dX9_representative_10 : decode cX9_representative 10 = .ok (.iconst (-1), 1) := by decide +kernel
theorem dX9_representative_11 : decode cX9_representative 11 = .ok (.if_icmp .ne 7, 3) := by decide +kernel
theorem dX9_representative_14 : decode cX9_representative 14 = .ok (.iconst (-1), 1) := by decide +kernel
theorem dX9_representative_15 : decode cX9_representative 15 = .ok (.goto 14, 3) := by decide +kernel
theorem dX9_representative_18 : decode cX9_representative 18 = .ok (.aload_n 0, 1) := by decide +kernel
theorem dX9_representative_19 : decode cX9_representative 19 = .ok (.invokevirtual 215, 3) := by decide +kernel
theorem dX9_representative_22 : decode cX9_representative 22 = .ok (.iload_n 2, 1) := by decide +kernel
theorem dX9_representative_23 : decode cX9_representative 23 = .ok (.invokevirtual 243, 3) := by decide +kernel
theorem dX9_representative_26 : decode cX9_representative 26 = .ok (.invokestatic 201, 3) := by decide +kernel
theorem dX9_representative_29 : decode cX9_representative 29 = .ok (.ireturn, 1) := by decide +kernel
set_option maxHeartbeats 4000000 in
set_option maxRecDepth 100000 in
theorem c_X9_representative {l : Launch} {g : Gh} {w : Wd} {k0 : Nat} {v_location : Int32} {rz : Int32} {wz : Wd} (hF : f_X9_representative w k0 v_location = some (rz, wz)) (hk0 : zct zC k0 = 9) : Met l yX9_representative (Cond.code yX9_representative cX9_representative 3 (some .int) :: TT) (rmd 5) (Pcw zC g w [.ref (g.2.2 k0), .int (v_location)]) (Qw zC g wz (some (.int (rz)))) 0 0 (zA zC g) := by
  refine mt_start (by decide) (Nat.le_of_ble_eq_true rfl) ?_
  intro p e s m args below meth c H locs ls X hr hl hH
  have hx := X.1
  have hb := X.2.1
  have hml := X.2.2.1
  have hown := X.2.2.2.1
  have ht := X.2.2.2.2.1
  have hl : lv_has ls 3 [(0, .ref (g.2.2 (k0))), (1, .int (v_location))] := hl
  unfold f_X9_representative at hF
  refine lv_aload_n hx hb dX9_representative_0 rfl (lv_at hl 0 rfl) ?_
  obtain ⟨x1, h1, hF⟩ := ob hF
  refine w_getd X hH h1 hk0 fs_9_1 lk_9_19 dX9_representative_1 (fun q1 => ?_)
  refine lv_iload_n hx hb dX9_representative_4 rfl (lv_at hl 1 rfl) ?_
  refine w_callV (As := [.int (v_location)]) (k := x1) (rest := []) (st1 := [.int ((f_X6_slotAt w (x1) (v_location)))]) X hH (c_X6_slotAt (l := l) (g := g) (w := w) (k0 := x1) (v_location := v_location) rfl q1) (Or.inr ⟨_, tw_3_21⟩) ms_X6_slotAt im_X6_slotAt q1 cn_6 ⟨Nat.le_of_ble_eq_true rfl, Nat.le_of_ble_eq_true rfl⟩ rfl rfl hl.1 (Nat.le_of_ble_eq_true rfl) dX9_representative_5 ⟨Nat.le_refl _, Nat.le_refl _⟩ rfl (fun H locs hH => ?_)
  refine lv_istore_n (lv' := [(2, .int ((f_X6_slotAt w (x1) (v_location)))), (0, .ref (g.2.2 (k0))), (1, .int (v_location))]) hx hb dX9_representative_8 rfl hl (by decide) rfl (fun ls hl => ?_)
  obtain ⟨x3, hx3, hF⟩ := ob hF
  have J2 : ∀ (H : Heap) (locs : List Loc), HW zC g x3.2 s.heap H locs → W p l e (rmd 5) s m args below meth c H locs 0 0 (MQ below (Qw zC g wz (some (.int (rz)))) args s 0 0 (zA zC g)) (F0 m 29 ls [.int (x3.1)]) := by
    intro H locs hH
    obtain ⟨rfl, rfl⟩ := se2 hF
    exact w_iret X hH hr dX9_representative_29
  have hF := hx3
  refine lv_iload_n hx hb dX9_representative_9 rfl (lv_at hl 0 rfl) ?_
  refine lv_iconst (v := (-1 : Int32)) hx hb dX9_representative_10 (by decide) ?_
  refine w_ieq_f (tgt := 18) hx hb dX9_representative_11 (by decide) (fun c4 => ?_) (fun c4 => ?_)
  · replace hF := ifn c4 hF
    refine lv_aload_n hx hb dX9_representative_18 rfl (lv_at hl 1 rfl) ?_
    obtain ⟨x5, h5, hF⟩ := ob hF
    refine w_callV (As := []) (k := k0) (rest := []) (st1 := [.ref (g.2.2 (x5.1))]) X hH (c_X9_graphed (l := l) (g := g) (w := w) (k0 := k0) h5 hk0) (Or.inl tw_3_43) ms_X9_graphed im_X9_graphed hk0 cn_9 ⟨Nat.le_of_ble_eq_true rfl, Nat.le_of_ble_eq_true rfl⟩ rfl rfl hl.1 (Nat.le_of_ble_eq_true rfl) dX9_representative_19 ⟨Nat.le_refl _, Nat.le_refl _⟩ rfl (fun H locs hH => ?_)
    refine lv_iload_n hx hb dX9_representative_22 rfl (lv_at hl 0 rfl) ?_
    obtain ⟨x6, h6, hF⟩ := ob hF
    refine w_callV (As := [.int ((f_X6_slotAt w (x1) (v_location)))]) (k := x5.1) (rest := []) (st1 := [.int (x6)]) X hH (c_X1_lowestOf (l := l) (g := g) (w := x5.2) (k0 := x5.1) (v_slot := (f_X6_slotAt w (x1) (v_location))) h6 (rr_X9_graphed h5 hk0)) (Or.inr ⟨_, tw_5_59⟩) ms_X1_lowestOf im_X1_lowestOf (rr_X9_graphed h5 hk0) cn_1 ⟨Nat.le_of_ble_eq_true rfl, Nat.le_of_ble_eq_true rfl⟩ rfl rfl hl.1 (Nat.le_of_ble_eq_true rfl) dX9_representative_23 ⟨Nat.le_refl _, Nat.le_refl _⟩ rfl (fun H locs hH => ?_)
    refine w_callS (As := [.int (x6)]) (rest := []) (st1 := [.int ((f_X9_locationOf (x6)))]) X hH (c_X9_locationOf (l := l) (g := g) (w := x5.2) (v_slot := x6) rfl) (Or.inl tw_5_60) ms_X9_locationOf tw_3_69 ⟨Nat.le_of_ble_eq_true rfl, Nat.le_of_ble_eq_true rfl⟩ rfl rfl hl.1 (Nat.le_of_ble_eq_true rfl) dX9_representative_26 ⟨Nat.le_refl _, Nat.le_refl _⟩ rfl (fun H locs hH => ?_)
    obtain rfl := se1 hF
    exact J2 _ _ hH
  · replace hF := ifp c4 hF
    refine lv_iconst (v := (-1 : Int32)) hx hb dX9_representative_14 (by decide) ?_
    refine lv_goto (tgt := 29) hx hb dX9_representative_15 (by decide) ?_
    obtain rfl := se1 hF
    exact J2 _ _ hH

theorem dX1_isLowest_0 : decode cX1_isLowest 0 = .ok (.aload_n 0, 1) := by decide +kernel
theorem dX1_isLowest_1 : decode cX1_isLowest 1 = .ok (.getfield 21, 3) := by decide +kernel
theorem dX1_isLowest_4 : decode cX1_isLowest 4 = .ok (.iload_n 1, 1) := by decide +kernel
theorem dX1_isLowest_5 : decode cX1_isLowest 5 = .ok (.invokestatic 92, 3) := by decide +kernel
theorem dX1_isLowest_8 : decode cX1_isLowest 8 = .ok (.ifCond .eq 16, 3) := by decide +kernel
theorem dX1_isLowest_11 : decode cX1_isLowest 11 = .ok (.aload_n 0, 1) := by decide +kernel
theorem dX1_isLowest_12 : decode cX1_isLowest 12 = .ok (.iload_n 1, 1) := by decide +kernel
theorem dX1_isLowest_13 : decode cX1_isLowest 13 = .ok (.invokevirtual 102, 3) := by decide +kernel
theorem dX1_isLowest_16 : decode cX1_isLowest 16 = .ok (.iload_n 1, 1) := by decide +kernel
theorem dX1_isLowest_17 : decode cX1_isLowest 17 = .ok (.if_icmp .ne 7, 3) := by decide +kernel
theorem dX1_isLowest_20 : decode cX1_isLowest 20 = .ok (.iconst 1, 1) := by decide +kernel
theorem dX1_isLowest_21 : decode cX1_isLowest 21 = .ok (.goto 4, 3) := by decide +kernel
theorem dX1_isLowest_24 : decode cX1_isLowest 24 = .ok (.iconst 0, 1) := by decide +kernel
theorem dX1_isLowest_25 : decode cX1_isLowest 25 = .ok (.ireturn, 1) := by decide +kernel
set_option maxHeartbeats 4000000 in
set_option maxRecDepth 100000 in
theorem c_X1_isLowest {l : Launch} {g : Gh} {w : Wd} {k0 : Nat} {v_slot : Int32} {rz : Bool} (hF : f_X1_isLowest w k0 v_slot = some rz) (hk0 : zct zC k0 = 1) : Met l yX1_isLowest (Cond.code yX1_isLowest cX1_isLowest 2 (some .boolean) :: TT) (rmd 3) (Pcw zC g w [.ref (g.2.2 k0), .int (v_slot)]) (Qw zC g w (some (.int (bI (rz))))) 0 0 (zA zC g) := by
  refine mt_start (by decide) (Nat.le_of_ble_eq_true rfl) ?_
  intro p e s m args below meth c H locs ls X hr hl hH
  have hx := X.1
  have hb := X.2.1
  have hml := X.2.2.1
  have hown := X.2.2.2.1
  have ht := X.2.2.2.2.1
  have hl : lv_has ls 2 [(0, .ref (g.2.2 (k0))), (1, .int (v_slot))] := hl
  unfold f_X1_isLowest at hF
  obtain ⟨b2, hb2, hF⟩ := ob hF
  have J1 : ∀ (H : Heap) (locs : List Loc), HW zC g w s.heap H locs → W p l e (rmd 3) s m args below meth c H locs 0 0 (MQ below (Qw zC g w (some (.int (bI (rz))))) args s 0 0 (zA zC g)) (F0 m 25 ls [.int (bI (b2))]) := by
    intro H locs hH
    obtain rfl := se1 hF
    exact w_zret X hH hr dX1_isLowest_25
  have hF := hb2
  refine lv_aload_n hx hb dX1_isLowest_0 rfl (lv_at hl 0 rfl) ?_
  refine w_getl X hH hk0 fs_1_3 lk_1_21 dX1_isLowest_1 ?_
  refine lv_iload_n hx hb dX1_isLowest_4 rfl (lv_at hl 1 rfl) ?_
  refine w_callS (As := [.long ((w.2.1 (k0) 3)), .int (v_slot)]) (rest := []) (st1 := [.int (bI ((f_X9_holds ((w.2.1 (k0) 3)) (v_slot))))]) X hH (c_X9_holds (l := l) (g := g) (w := w) (v_set := (w.2.1 (k0) 3)) (v_slot := v_slot) rfl) (Or.inr ⟨_, tw_3_76⟩) ms_X9_holds tw_3_77 ⟨Nat.le_of_ble_eq_true rfl, Nat.le_of_ble_eq_true rfl⟩ rfl rfl hl.1 (Nat.le_of_ble_eq_true rfl) dX1_isLowest_5 ⟨Nat.le_refl _, Nat.le_refl _⟩ rfl (fun H locs hH => ?_)
  refine w_b_f (tgt := 24) hx hb dX1_isLowest_8 (by decide) (fun c3 => ?_) (fun c3 => ?_)
  · replace hF := ifn c3 hF
    refine lv_iconst (v := (0 : Int32)) hx hb dX1_isLowest_24 (by decide) ?_
    obtain rfl := se1 hF
    exact J1 _ _ hH
  · replace hF := ifp c3 hF
    refine lv_aload_n hx hb dX1_isLowest_11 rfl (lv_at hl 0 rfl) ?_
    refine lv_iload_n hx hb dX1_isLowest_12 rfl (lv_at hl 1 rfl) ?_
    obtain ⟨x5, h5, hF⟩ := ob hF
    refine w_callV (As := [.int (v_slot)]) (k := k0) (rest := []) (st1 := [.int (x5)]) X hH (c_X1_lowestOf (l := l) (g := g) (w := w) (k0 := k0) (v_slot := v_slot) h5 hk0) (Or.inl tw_3_91) ms_X1_lowestOf im_X1_lowestOf hk0 cn_1 ⟨Nat.le_of_ble_eq_true rfl, Nat.le_of_ble_eq_true rfl⟩ rfl rfl hl.1 (Nat.le_of_ble_eq_true rfl) dX1_isLowest_13 ⟨Nat.le_refl _, Nat.le_refl _⟩ rfl (fun H locs hH => ?_)
    refine lv_iload_n hx hb dX1_isLowest_16 rfl (lv_at hl 1 rfl) ?_
    refine w_ieq_f (tgt := 24) hx hb dX1_isLowest_17 (by decide) (fun c4 => ?_) (fun c4 => ?_)
    · replace hF := ifn c4 hF
      refine lv_iconst (v := (0 : Int32)) hx hb dX1_isLowest_24 (by decide) ?_
      obtain rfl := se1 hF
      exact J1 _ _ hH
    · replace hF := ifp c4 hF
      refine lv_iconst (v := (1 : Int32)) hx hb dX1_isLowest_20 (by decide) ?_
      refine lv_goto (tgt := 25) hx hb dX1_isLowest_21 (by decide) ?_
      obtain rfl := se1 hF
      exact J1 _ _ hH

theorem dX1_countComponents_0 : decode cX1_countComponents 0 = .ok (.iconst 0, 1) := by decide +kernel
theorem dX1_countComponents_1 : decode cX1_countComponents 1 = .ok (.istore_n 2, 1) := by decide +kernel
theorem dX1_countComponents_2 : decode cX1_countComponents 2 = .ok (.iconst 0, 1) := by decide +kernel
theorem dX1_countComponents_3 : decode cX1_countComponents 3 = .ok (.istore_n 3, 1) := by decide +kernel
theorem dX1_countComponents_4 : decode cX1_countComponents 4 = .ok (.iload_n 3, 1) := by decide +kernel
theorem dX1_countComponents_5 : decode cX1_countComponents 5 = .ok (.bipush 56, 2) := by decide +kernel
theorem dX1_countComponents_7 : decode cX1_countComponents 7 = .ok (.if_icmp .ge 33, 3) := by decide +kernel
theorem dX1_countComponents_10 : decode cX1_countComponents 10 = .ok (.aload_n 0, 1) := by decide +kernel
theorem dX1_countComponents_11 : decode cX1_countComponents 11 = .ok (.iload_n 3, 1) := by decide +kernel
theorem dX1_countComponents_12 : decode cX1_countComponents 12 = .ok (.invokevirtual 112, 3) := by decide +kernel
theorem dX1_countComponents_15 : decode cX1_countComponents 15 = .ok (.ifCond .eq 19, 3) := by decide +kernel
theorem dX1_countComponents_18 : decode cX1_countComponents 18 = .ok (.aload_n 0, 1) := by decide +kernel
theorem dX1_countComponents_19 : decode cX1_countComponents 19 = .ok (.getfield 18, 3) := by decide +kernel
theorem dX1_countComponents_22 : decode cX1_countComponents 22 = .ok (.iload_n 3, 1) := by decide +kernel
theorem dX1_countComponents_23 : decode cX1_countComponents 23 = .ok (.laload, 1) := by decide +kernel
theorem dX1_countComponents_24 : decode cX1_countComponents 24 = .ok (.invokestatic 105, 3) := by decide +kernel
theorem dX1_countComponents_27 : decode cX1_countComponents 27 = .ok (.iload_n 1, 1) := by decide +kernel
theorem dX1_countComponents_28 : decode cX1_countComponents 28 = .ok (.if_icmp .lt 6, 3) := by decide +kernel
theorem dX1_countComponents_31 : decode cX1_countComponents 31 = .ok (.iinc 2 1, 3) := by decide +kernel
theorem dX1_countComponents_34 : decode cX1_countComponents 34 = .ok (.iinc 3 1, 3) := by decide +kernel
theorem dX1_countComponents_37 : decode cX1_countComponents 37 = .ok (.goto (-33), 3) := by decide +kernel
theorem dX1_countComponents_40 : decode cX1_countComponents 40 = .ok (.iload_n 2, 1) := by decide +kernel
theorem dX1_countComponents_41 : decode cX1_countComponents 41 = .ok (.ireturn, 1) := by decide +kernel
set_option maxHeartbeats 4000000 in
set_option maxRecDepth 100000 in
theorem c_X1_countComponents {l : Launch} {g : Gh} {w : Wd} {k0 : Nat} {v_leastSize : Int32} {rz : Int32} (hF : f_X1_countComponents w k0 v_leastSize = some rz) (hk0 : zct zC k0 = 1) : Met l yX1_countComponents (Cond.code yX1_countComponents cX1_countComponents 4 (some .int) :: TT) (rmd 4) (Pcw zC g w [.ref (g.2.2 k0), .int (v_leastSize)]) (Qw zC g w (some (.int (rz)))) 0 0 (zA zC g) := by
  refine mt_start (by decide) (Nat.le_of_ble_eq_true rfl) ?_
  intro p e s m args below meth c H locs ls X hr hl hH
  have hx := X.1
  have hb := X.2.1
  have hml := X.2.2.1
  have hown := X.2.2.2.1
  have ht := X.2.2.2.2.1
  have hl : lv_has ls 4 [(0, .ref (g.2.2 (k0))), (1, .int (v_leastSize))] := hl
  unfold f_X1_countComponents at hF
  refine lv_iconst (v := (0 : Int32)) hx hb dX1_countComponents_0 (by decide) ?_
  refine lv_istore_n (lv' := [(2, .int ((0 : Int32))), (0, .ref (g.2.2 (k0))), (1, .int (v_leastSize))]) hx hb dX1_countComponents_1 rfl hl (by decide) rfl (fun ls hl => ?_)
  refine lv_iconst (v := (0 : Int32)) hx hb dX1_countComponents_2 (by decide) ?_
  refine lv_istore_n (lv' := [(3, .int ((0 : Int32))), (2, .int ((0 : Int32))), (0, .ref (g.2.2 (k0))), (1, .int (v_leastSize))]) hx hb dX1_countComponents_3 rfl hl (by decide) rfl (fun ls hl => ?_)
  obtain ⟨r2, hLr2, hF⟩ := ob hF
  have Jr2 : ∀ (H : Heap) (locs : List Loc) (ls : Array Slot), HW zC g w s.heap H locs → lv_has ls 4 [(0, .ref (g.2.2 (k0))), (1, .int (v_leastSize)), (2, .int (r2))] → W p l e (rmd 4) s m args below meth c H locs 0 0 (MQ below (Qw zC g w (some (.int (rz)))) args s 0 0 (zA zC g)) (F0 m 40 ls []) := by
    intro H locs ls hH hl
    refine lv_iload_n hx hb dX1_countComponents_40 rfl (lv_at hl 2 rfl) ?_
    obtain rfl := se1 hF
    exact w_iret X hH hr dX1_countComponents_41
  have Lr2 : ∀ (n : Nat) (s1 : Int32 × Int32), lp (b_X1_countComponents_1 w k0 v_leastSize) n s1 = some r2 → ∀ (H : Heap) (locs : List Loc) (ls : Array Slot), HW zC g w s.heap H locs → lv_has ls 4 [(0, .ref (g.2.2 (k0))), (1, .int (v_leastSize)), (2, .int (s1.1)), (3, .int (s1.2))] → W p l e (rmd 4) s m args below meth c H locs 0 0 (MQ below (Qw zC g w (some (.int (rz)))) args s 0 0 (zA zC g)) (F0 m 4 ls []) := by
    intro n
    induction n with
    | zero => intro s1 hL; exact lp_0 hL
    | succ n ih =>
      intro s1 hL H locs ls hH hl
      obtain ⟨bb, hF, hL⟩ := lp_s hL
      unfold b_X1_countComponents_1 at hF
      refine lv_iload_n hx hb dX1_countComponents_4 rfl (lv_at hl 3 rfl) ?_
      refine lv_bipush (v := (56 : Int32)) hx hb dX1_countComponents_5 (by decide) ?_
      refine w_ilt_f (tgt := 40) hx hb dX1_countComponents_7 (by decide) (fun c3 => ?_) (fun c3 => ?_)
      · replace hF := ifn c3 hF
        obtain rfl := se1 hF
        subst hL
        exact Jr2 _ _ _ hH (lv_sub hl [0, 1, 2] rfl)
      · replace hF := ifp c3 hF
        obtain ⟨s4, hs4, hF⟩ := ob hF
        have Js4 : ∀ (H : Heap) (locs : List Loc) (ls : Array Slot), HW zC g w s.heap H locs → lv_has ls 4 [(0, .ref (g.2.2 (k0))), (1, .int (v_leastSize)), (2, .int (s4)), (3, .int (s1.2))] → W p l e (rmd 4) s m args below meth c H locs 0 0 (MQ below (Qw zC g w (some (.int (rz)))) args s 0 0 (zA zC g)) (F0 m 34 ls []) := by
          intro H locs ls hH hl
          refine lv_iinc (v := (s1.2 + (1 : Int32))) (lv' := [(3, .int ((s1.2 + (1 : Int32)))), (0, .ref (g.2.2 (k0))), (1, .int (v_leastSize)), (2, .int (s4))]) hx hb dX1_countComponents_34 hl (k := 3) rfl rfl (by decide) rfl (fun ls hl => ?_)
          refine lv_goto (tgt := 4) hx hb dX1_countComponents_37 (by decide) ?_
          obtain rfl := se1 hF
          exact ih _ hL _ _ _ hH (lv_sub hl [1, 2, 3, 0] rfl)
        have hF := hs4
        obtain ⟨b5, hb5, hF⟩ := ob hF
        have Jb5T : b5 = true → ∀ (H : Heap) (locs : List Loc), HW zC g w s.heap H locs → W p l e (rmd 4) s m args below meth c H locs 0 0 (MQ below (Qw zC g w (some (.int (rz)))) args s 0 0 (zA zC g)) (F0 m 31 ls []) := by
          intro hc H locs hH
          replace hF := ifp hc hF
          refine lv_iinc (v := (s1.1 + (1 : Int32))) (lv' := [(2, .int ((s1.1 + (1 : Int32)))), (0, .ref (g.2.2 (k0))), (1, .int (v_leastSize)), (3, .int (s1.2))]) hx hb dX1_countComponents_31 hl (k := 2) rfl rfl (by decide) rfl (fun ls hl => ?_)
          obtain rfl := se1 hF
          exact Js4 _ _ _ hH (lv_sub hl [1, 2, 0, 3] rfl)
        have Jb5F : ¬ (b5 = true) → ∀ (H : Heap) (locs : List Loc), HW zC g w s.heap H locs → W p l e (rmd 4) s m args below meth c H locs 0 0 (MQ below (Qw zC g w (some (.int (rz)))) args s 0 0 (zA zC g)) (F0 m 34 ls []) := by
          intro hc H locs hH
          replace hF := ifn hc hF
          obtain rfl := se1 hF
          exact Js4 _ _ _ hH (lv_sub hl [0, 1, 2, 3] rfl)
        have hF := hb5
        refine lv_aload_n hx hb dX1_countComponents_10 rfl (lv_at hl 0 rfl) ?_
        refine lv_iload_n hx hb dX1_countComponents_11 rfl (lv_at hl 3 rfl) ?_
        obtain ⟨x7, h7, hF⟩ := ob hF
        refine w_callV (As := [.int (s1.2)]) (k := k0) (rest := []) (st1 := [.int (bI (x7))]) X hH (c_X1_isLowest (l := l) (g := g) (w := w) (k0 := k0) (v_slot := s1.2) h7 hk0) (Or.inl tw_3_87) ms_X1_isLowest im_X1_isLowest hk0 cn_1 ⟨Nat.le_of_ble_eq_true rfl, Nat.le_of_ble_eq_true rfl⟩ rfl rfl hl.1 (Nat.le_of_ble_eq_true rfl) dX1_countComponents_12 ⟨Nat.le_refl _, Nat.le_refl _⟩ rfl (fun H locs hH => ?_)
        refine w_b_f (tgt := 34) hx hb dX1_countComponents_15 (by decide) (fun c6 => ?_) (fun c6 => ?_)
        · replace hF := ifn c6 hF
          obtain rfl := se1 hF
          exact Jb5F Bool.false_ne_true _ _ hH
        · replace hF := ifp c6 hF
          refine lv_aload_n hx hb dX1_countComponents_18 rfl (lv_at hl 0 rfl) ?_
          refine w_getr X hH hk0 fs_1_2 lk_1_18 dX1_countComponents_19 ?_
          refine lv_iload_n hx hb dX1_countComponents_22 rfl (lv_at hl 3 rfl) ?_
          obtain ⟨x9, h9, hF⟩ := ob hF
          refine w_lald X hH h9 (rt_C_1_2 hk0) dX1_countComponents_23 ?_
          refine w_callS (As := [.long (x9)]) (rest := []) (st1 := [.int ((f_J13_bitCount (x9)))]) X hH (c_J13_bitCount (l := l) (g := g) (w := w) (v_i := x9) rfl) (Or.inl tw_3_102) ms_J13_bitCount tw_3_103 ⟨Nat.le_of_ble_eq_true rfl, Nat.le_of_ble_eq_true rfl⟩ rfl rfl hl.1 (Nat.le_of_ble_eq_true rfl) dX1_countComponents_24 ⟨Nat.le_refl _, Nat.le_refl _⟩ rfl (fun H locs hH => ?_)
          refine lv_iload_n hx hb dX1_countComponents_27 rfl (lv_at hl 1 rfl) ?_
          refine w_ige_f (tgt := 34) hx hb dX1_countComponents_28 (by decide) (fun c8 => ?_) (fun c8 => ?_)
          · replace hF := ifn c8 hF
            obtain rfl := se1 hF
            exact Jb5F Bool.false_ne_true _ _ hH
          · replace hF := ifp c8 hF
            obtain rfl := se1 hF
            exact Jb5T rfl _ _ hH
  exact Lr2 NF _ hLr2 _ _ _ hH (lv_sub hl [2, 3, 1, 0] rfl)

theorem dX9_cyclicComponentCount_0 : decode cX9_cyclicComponentCount 0 = .ok (.aload_n 0, 1) := by decide +kernel
theorem dX9_cyclicComponentCount_1 : decode cX9_cyclicComponentCount 1 = .ok (.invokevirtual 215, 3) := by decide +kernel
theorem dX9_cyclicComponentCount_4 : decode cX9_cyclicComponentCount 4 = .ok (.iconst 2, 1) := by decide +kernel
theorem dX9_cyclicComponentCount_5 : decode cX9_cyclicComponentCount 5 = .ok (.invokevirtual 246, 3) := by decide +kernel
theorem dX9_cyclicComponentCount_8 : decode cX9_cyclicComponentCount 8 = .ok (.ireturn, 1) := by decide +kernel
set_option maxHeartbeats 4000000 in
set_option maxRecDepth 100000 in
theorem c_X9_cyclicComponentCount {l : Launch} {g : Gh} {w : Wd} {k0 : Nat} {rz : Int32} {wz : Wd} (hF : f_X9_cyclicComponentCount w k0 = some (rz, wz)) (hk0 : zct zC k0 = 9) : Met l yX9_cyclicComponentCount (Cond.code yX9_cyclicComponentCount cX9_cyclicComponentCount 1 (some .int) :: TT) (rmd 5) (Pcw zC g w [.ref (g.2.2 k0)]) (Qw zC g wz (some (.int (rz)))) 0 0 (zA zC g) := by
  refine mt_start (by decide) (Nat.le_of_ble_eq_true rfl) ?_
  intro p e s m args below meth c H locs ls X hr hl hH
  have hx := X.1
  have hb := X.2.1
  have hml := X.2.2.1
  have hown := X.2.2.2.1
  have ht := X.2.2.2.2.1
  have hl : lv_has ls 1 [(0, .ref (g.2.2 (k0)))] := hl
  unfold f_X9_cyclicComponentCount at hF
  refine lv_aload_n hx hb dX9_cyclicComponentCount_0 rfl (lv_at hl 0 rfl) ?_
  obtain ⟨x1, h1, hF⟩ := ob hF
  refine w_callV (As := []) (k := k0) (rest := []) (st1 := [.ref (g.2.2 (x1.1))]) X hH (c_X9_graphed (l := l) (g := g) (w := w) (k0 := k0) h1 hk0) (Or.inl tw_3_43) ms_X9_graphed im_X9_graphed hk0 cn_9 ⟨Nat.le_of_ble_eq_true rfl, Nat.le_of_ble_eq_true rfl⟩ rfl rfl hl.1 (Nat.le_of_ble_eq_true rfl) dX9_cyclicComponentCount_1 ⟨Nat.le_refl _, Nat.le_refl _⟩ rfl (fun H locs hH => ?_)
  refine lv_iconst (v := (2 : Int32)) hx hb dX9_cyclicComponentCount_4 (by decide) ?_
  obtain ⟨x2, h2, hF⟩ := ob hF
  refine w_callV (As := [.int ((2 : Int32))]) (k := x1.1) (rest := []) (st1 := [.int (x2)]) X hH (c_X1_countComponents (l := l) (g := g) (w := x1.2) (k0 := x1.1) (v_leastSize := (2 : Int32)) h2 (rr_X9_graphed h1 hk0)) (Or.inr ⟨_, tw_3_83⟩) ms_X1_countComponents im_X1_countComponents (rr_X9_graphed h1 hk0) cn_1 ⟨Nat.le_of_ble_eq_true rfl, Nat.le_of_ble_eq_true rfl⟩ rfl rfl hl.1 (Nat.le_of_ble_eq_true rfl) dX9_cyclicComponentCount_5 ⟨Nat.le_refl _, Nat.le_refl _⟩ rfl (fun H locs hH => ?_)
  obtain ⟨rfl, rfl⟩ := se2 hF
  exact w_iret X hH hr dX9_cyclicComponentCount_8

theorem dX9_condensedNodeCount_0 : decode cX9_condensedNodeCount 0 = .ok (.aload_n 0, 1) := by decide +kernel
theorem dX9_condensedNodeCount_1 : decode cX9_condensedNodeCount 1 = .ok (.invokevirtual 215, 3) := by decide +kernel
theorem dX9_condensedNodeCount_4 : decode cX9_condensedNodeCount 4 = .ok (.iconst 1, 1) := by decide +kernel
theorem dX9_condensedNodeCount_5 : decode cX9_condensedNodeCount 5 = .ok (.invokevirtual 246, 3) := by decide +kernel
theorem dX9_condensedNodeCount_8 : decode cX9_condensedNodeCount 8 = .ok (.ireturn, 1) := by decide +kernel
set_option maxHeartbeats 4000000 in
set_option maxRecDepth 100000 in
theorem c_X9_condensedNodeCount {l : Launch} {g : Gh} {w : Wd} {k0 : Nat} {rz : Int32} {wz : Wd} (hF : f_X9_condensedNodeCount w k0 = some (rz, wz)) (hk0 : zct zC k0 = 9) : Met l yX9_condensedNodeCount (Cond.code yX9_condensedNodeCount cX9_condensedNodeCount 1 (some .int) :: TT) (rmd 5) (Pcw zC g w [.ref (g.2.2 k0)]) (Qw zC g wz (some (.int (rz)))) 0 0 (zA zC g) := by
  refine mt_start (by decide) (Nat.le_of_ble_eq_true rfl) ?_
  intro p e s m args below meth c H locs ls X hr hl hH
  have hx := X.1
  have hb := X.2.1
  have hml := X.2.2.1
  have hown := X.2.2.2.1
  have ht := X.2.2.2.2.1
  have hl : lv_has ls 1 [(0, .ref (g.2.2 (k0)))] := hl
  unfold f_X9_condensedNodeCount at hF
  refine lv_aload_n hx hb dX9_condensedNodeCount_0 rfl (lv_at hl 0 rfl) ?_
  obtain ⟨x1, h1, hF⟩ := ob hF
  refine w_callV (As := []) (k := k0) (rest := []) (st1 := [.ref (g.2.2 (x1.1))]) X hH (c_X9_graphed (l := l) (g := g) (w := w) (k0 := k0) h1 hk0) (Or.inl tw_3_43) ms_X9_graphed im_X9_graphed hk0 cn_9 ⟨Nat.le_of_ble_eq_true rfl, Nat.le_of_ble_eq_true rfl⟩ rfl rfl hl.1 (Nat.le_of_ble_eq_true rfl) dX9_condensedNodeCount_1 ⟨Nat.le_refl _, Nat.le_refl _⟩ rfl (fun H locs hH => ?_)
  refine lv_iconst (v := (1 : Int32)) hx hb dX9_condensedNodeCount_4 (by decide) ?_
  obtain ⟨x2, h2, hF⟩ := ob hF
  refine w_callV (As := [.int ((1 : Int32))]) (k := x1.1) (rest := []) (st1 := [.int (x2)]) X hH (c_X1_countComponents (l := l) (g := g) (w := x1.2) (k0 := x1.1) (v_leastSize := (1 : Int32)) h2 (rr_X9_graphed h1 hk0)) (Or.inr ⟨_, tw_3_83⟩) ms_X1_countComponents im_X1_countComponents (rr_X9_graphed h1 hk0) cn_1 ⟨Nat.le_of_ble_eq_true rfl, Nat.le_of_ble_eq_true rfl⟩ rfl rfl hl.1 (Nat.le_of_ble_eq_true rfl) dX9_condensedNodeCount_5 ⟨Nat.le_refl _, Nat.le_refl _⟩ rfl (fun H locs hH => ?_)
  obtain ⟨rfl, rfl⟩ := se2 hF
  exact w_iret X hH hr dX9_condensedNodeCount_8

theorem dX1_lowestOfAll_0 : decode cX1_lowestOfAll 0 = .ok (.lconst 0, 1) := by decide +kernel
theorem dX1_lowestOfAll_1 : decode cX1_lowestOfAll 1 = .ok (.lstore_n 3, 1) := by decide +kernel
theorem dX1_lowestOfAll_2 : decode cX1_lowestOfAll 2 = .ok (.iconst 0, 1) := by decide +kernel
theorem dX1_lowestOfAll_3 : decode cX1_lowestOfAll 3 = .ok (.istore 5, 2) := by decide +kernel
theorem dX1_lowestOfAll_5 : decode cX1_lowestOfAll 5 = .ok (.iload 5, 2) := by decide +kernel
theorem dX1_lowestOfAll_7 : decode cX1_lowestOfAll 7 = .ok (.bipush 56, 2) := by decide +kernel
theorem dX1_lowestOfAll_9 : decode cX1_lowestOfAll 9 = .ok (.if_icmp .ge 29, 3) := by decide +kernel
theorem dX1_lowestOfAll_12 : decode cX1_lowestOfAll 12 = .ok (.lload_n 1, 1) := by decide +kernel
theorem dX1_lowestOfAll_13 : decode cX1_lowestOfAll 13 = .ok (.iload 5, 2) := by decide +kernel
theorem dX1_lowestOfAll_15 : decode cX1_lowestOfAll 15 = .ok (.invokestatic 92, 3) := by decide +kernel
theorem dX1_lowestOfAll_18 : decode cX1_lowestOfAll 18 = .ok (.ifCond .eq 14, 3) := by decide +kernel
theorem dX1_lowestOfAll_21 : decode cX1_lowestOfAll 21 = .ok (.lload_n 3, 1) := by decide +kernel
theorem dX1_lowestOfAll_22 : decode cX1_lowestOfAll 22 = .ok (.lconst 1, 1) := by decide +kernel
theorem dX1_lowestOfAll_23 : decode cX1_lowestOfAll 23 = .ok (.aload_n 0, 1) := by decide +kernel
theorem dX1_lowestOfAll_24 : decode cX1_lowestOfAll 24 = .ok (.iload 5, 2) := by decide +kernel
theorem dX1_lowestOfAll_26 : decode cX1_lowestOfAll 26 = .ok (.invokevirtual 102, 3) := by decide +kernel
theorem dX1_lowestOfAll_29 : decode cX1_lowestOfAll 29 = .ok (.lshl, 1) := by decide +kernel
theorem dX1_lowestOfAll_30 : decode cX1_lowestOfAll 30 = .ok (.lor, 1) := by decide +kernel
theorem dX1_lowestOfAll_31 : decode cX1_lowestOfAll 31 = .ok (.lstore_n 3, 1) := by decide +kernel
theorem dX1_lowestOfAll_32 : decode cX1_lowestOfAll 32 = .ok (.iinc 5 1, 3) := by decide +kernel
theorem dX1_lowestOfAll_35 : decode cX1_lowestOfAll 35 = .ok (.goto (-30), 3) := by decide +kernel
theorem dX1_lowestOfAll_38 : decode cX1_lowestOfAll 38 = .ok (.lload_n 3, 1) := by decide +kernel
theorem dX1_lowestOfAll_39 : decode cX1_lowestOfAll 39 = .ok (.lreturn, 1) := by decide +kernel
set_option maxHeartbeats 4000000 in
set_option maxRecDepth 100000 in
theorem c_X1_lowestOfAll {l : Launch} {g : Gh} {w : Wd} {k0 : Nat} {v_slots : Int64} {rz : Int64} (hF : f_X1_lowestOfAll w k0 v_slots = some rz) (hk0 : zct zC k0 = 1) : Met l yX1_lowestOfAll (Cond.code yX1_lowestOfAll cX1_lowestOfAll 6 (some .long) :: TT) (rmd 3) (Pcw zC g w [.ref (g.2.2 k0), .long (v_slots)]) (Qw zC g w (some (.long (rz)))) 0 0 (zA zC g) := by
  refine mt_start (by decide) (Nat.le_of_ble_eq_true rfl) ?_
  intro p e s m args below meth c H locs ls X hr hl hH
  have hx := X.1
  have hb := X.2.1
  have hml := X.2.2.1
  have hown := X.2.2.2.1
  have ht := X.2.2.2.2.1
  have hl : lv_has ls 6 [(0, .ref (g.2.2 (k0))), (1, .long (v_slots))] := hl
  unfold f_X1_lowestOfAll at hF
  refine lv_lconst (v := 0) hx hb dX1_lowestOfAll_0 (by decide) ?_
  refine lv_lstore_n (lv' := [(3, .long ((0 : Int64))), (0, .ref (g.2.2 (k0))), (1, .long (v_slots))]) hx hb dX1_lowestOfAll_1 rfl hl (by decide) rfl (fun ls hl => ?_)
  refine lv_iconst (v := (0 : Int32)) hx hb dX1_lowestOfAll_2 (by decide) ?_
  refine lv_istore (lv' := [(5, .int ((0 : Int32))), (3, .long ((0 : Int64))), (0, .ref (g.2.2 (k0))), (1, .long (v_slots))]) hx hb dX1_lowestOfAll_3 hl (by decide) rfl (fun ls hl => ?_)
  obtain ⟨r2, hLr2, hF⟩ := ob hF
  have Jr2 : ∀ (H : Heap) (locs : List Loc) (ls : Array Slot), HW zC g w s.heap H locs → lv_has ls 6 [(0, .ref (g.2.2 (k0))), (1, .long (v_slots)), (3, .long (r2))] → W p l e (rmd 3) s m args below meth c H locs 0 0 (MQ below (Qw zC g w (some (.long (rz)))) args s 0 0 (zA zC g)) (F0 m 38 ls []) := by
    intro H locs ls hH hl
    refine lv_lload_n hx hb dX1_lowestOfAll_38 rfl (lv_at hl 2 rfl) ?_
    obtain rfl := se1 hF
    exact w_lret X hH hr dX1_lowestOfAll_39
  have Lr2 : ∀ (n : Nat) (s1 : Int64 × Int32), lp (b_X1_lowestOfAll_1 v_slots w k0) n s1 = some r2 → ∀ (H : Heap) (locs : List Loc) (ls : Array Slot), HW zC g w s.heap H locs → lv_has ls 6 [(0, .ref (g.2.2 (k0))), (1, .long (v_slots)), (3, .long (s1.1)), (5, .int (s1.2))] → W p l e (rmd 3) s m args below meth c H locs 0 0 (MQ below (Qw zC g w (some (.long (rz)))) args s 0 0 (zA zC g)) (F0 m 5 ls []) := by
    intro n
    induction n with
    | zero => intro s1 hL; exact lp_0 hL
    | succ n ih =>
      intro s1 hL H locs ls hH hl
      obtain ⟨bb, hF, hL⟩ := lp_s hL
      unfold b_X1_lowestOfAll_1 at hF
      refine lv_iload hx hb dX1_lowestOfAll_5 (lv_at hl 3 rfl) ?_
      refine lv_bipush (v := (56 : Int32)) hx hb dX1_lowestOfAll_7 (by decide) ?_
      refine w_ilt_f (tgt := 38) hx hb dX1_lowestOfAll_9 (by decide) (fun c3 => ?_) (fun c3 => ?_)
      · replace hF := ifn c3 hF
        obtain rfl := se1 hF
        subst hL
        exact Jr2 _ _ _ hH (lv_sub hl [0, 1, 2] rfl)
      · replace hF := ifp c3 hF
        obtain ⟨s4, hs4, hF⟩ := ob hF
        have Js4 : ∀ (H : Heap) (locs : List Loc) (ls : Array Slot), HW zC g w s.heap H locs → lv_has ls 6 [(0, .ref (g.2.2 (k0))), (1, .long (v_slots)), (3, .long (s4)), (5, .int (s1.2))] → W p l e (rmd 3) s m args below meth c H locs 0 0 (MQ below (Qw zC g w (some (.long (rz)))) args s 0 0 (zA zC g)) (F0 m 32 ls []) := by
          intro H locs ls hH hl
          refine lv_iinc (v := (s1.2 + (1 : Int32))) (lv' := [(5, .int ((s1.2 + (1 : Int32)))), (0, .ref (g.2.2 (k0))), (1, .long (v_slots)), (3, .long (s4))]) hx hb dX1_lowestOfAll_32 hl (k := 3) rfl rfl (by decide) rfl (fun ls hl => ?_)
          refine lv_goto (tgt := 5) hx hb dX1_lowestOfAll_35 (by decide) ?_
          obtain rfl := se1 hF
          exact ih _ hL _ _ _ hH (lv_sub hl [1, 2, 3, 0] rfl)
        have hF := hs4
        refine lv_lload_n hx hb dX1_lowestOfAll_12 rfl (lv_at hl 1 rfl) ?_
        refine lv_iload hx hb dX1_lowestOfAll_13 (lv_at hl 3 rfl) ?_
        refine w_callS (As := [.long (v_slots), .int (s1.2)]) (rest := []) (st1 := [.int (bI ((f_X9_holds (v_slots) (s1.2))))]) X hH (c_X9_holds (l := l) (g := g) (w := w) (v_set := v_slots) (v_slot := s1.2) rfl) (Or.inr ⟨_, tw_3_76⟩) ms_X9_holds tw_3_77 ⟨Nat.le_of_ble_eq_true rfl, Nat.le_of_ble_eq_true rfl⟩ rfl rfl hl.1 (Nat.le_of_ble_eq_true rfl) dX1_lowestOfAll_15 ⟨Nat.le_refl _, Nat.le_refl _⟩ rfl (fun H locs hH => ?_)
        refine w_b_f (tgt := 32) hx hb dX1_lowestOfAll_18 (by decide) (fun c5 => ?_) (fun c5 => ?_)
        · replace hF := ifn c5 hF
          obtain rfl := se1 hF
          exact Js4 _ _ _ hH (lv_sub hl [0, 1, 2, 3] rfl)
        · replace hF := ifp c5 hF
          refine lv_lload_n hx hb dX1_lowestOfAll_21 rfl (lv_at hl 2 rfl) ?_
          refine lv_lconst (v := 1) hx hb dX1_lowestOfAll_22 (by decide) ?_
          refine lv_aload_n hx hb dX1_lowestOfAll_23 rfl (lv_at hl 0 rfl) ?_
          refine lv_iload hx hb dX1_lowestOfAll_24 (lv_at hl 3 rfl) ?_
          obtain ⟨x6, h6, hF⟩ := ob hF
          refine w_callV (As := [.int (s1.2)]) (k := k0) (rest := [.long ((1 : Int64)), .long (s1.1)]) (st1 := [.int (x6), .long ((1 : Int64)), .long (s1.1)]) X hH (c_X1_lowestOf (l := l) (g := g) (w := w) (k0 := k0) (v_slot := s1.2) h6 hk0) (Or.inl tw_3_91) ms_X1_lowestOf im_X1_lowestOf hk0 cn_1 ⟨Nat.le_of_ble_eq_true rfl, Nat.le_of_ble_eq_true rfl⟩ rfl rfl hl.1 (Nat.le_of_ble_eq_true rfl) dX1_lowestOfAll_26 ⟨Nat.le_refl _, Nat.le_refl _⟩ rfl (fun H locs hH => ?_)
          refine w_lshl hx hb dX1_lowestOfAll_29 ?_
          refine lv_lor hx hb dX1_lowestOfAll_30 ?_
          refine lv_lstore_n (lv' := [(3, .long ((s1.1 ||| (jlshl ((1 : Int64)) (x6))))), (0, .ref (g.2.2 (k0))), (1, .long (v_slots)), (5, .int (s1.2))]) hx hb dX1_lowestOfAll_31 rfl hl (by decide) rfl (fun ls hl => ?_)
          obtain rfl := se1 hF
          exact Js4 _ _ _ hH (lv_sub hl [1, 2, 0, 3] rfl)
  exact Lr2 NF _ hLr2 _ _ _ hH (lv_sub hl [2, 3, 1, 0] rfl)

theorem dX1_countCondensedEdges_0 : decode cX1_countCondensedEdges 0 = .ok (.iconst 0, 1) := by decide +kernel
theorem dX1_countCondensedEdges_1 : decode cX1_countCondensedEdges 1 = .ok (.istore_n 1, 1) := by decide +kernel
theorem dX1_countCondensedEdges_2 : decode cX1_countCondensedEdges 2 = .ok (.iconst 0, 1) := by decide +kernel
theorem dX1_countCondensedEdges_3 : decode cX1_countCondensedEdges 3 = .ok (.istore_n 2, 1) := by decide +kernel
theorem dX1_countCondensedEdges_4 : decode cX1_countCondensedEdges 4 = .ok (.iload_n 2, 1) := by decide +kernel
theorem dX1_countCondensedEdges_5 : decode cX1_countCondensedEdges 5 = .ok (.bipush 56, 2) := by decide +kernel
theorem dX1_countCondensedEdges_7 : decode cX1_countCondensedEdges 7 = .ok (.if_icmp .ge 50, 3) := by decide +kernel
theorem dX1_countCondensedEdges_10 : decode cX1_countCondensedEdges 10 = .ok (.aload_n 0, 1) := by decide +kernel
theorem dX1_countCondensedEdges_11 : decode cX1_countCondensedEdges 11 = .ok (.iload_n 2, 1) := by decide +kernel
theorem dX1_countCondensedEdges_12 : decode cX1_countCondensedEdges 12 = .ok (.invokevirtual 112, 3) := by decide +kernel
theorem dX1_countCondensedEdges_15 : decode cX1_countCondensedEdges 15 = .ok (.ifCond .eq 36, 3) := by decide +kernel
theorem dX1_countCondensedEdges_18 : decode cX1_countCondensedEdges 18 = .ok (.aload_n 0, 1) := by decide +kernel
theorem dX1_countCondensedEdges_19 : decode cX1_countCondensedEdges 19 = .ok (.aload_n 0, 1) := by decide +kernel
theorem dX1_countCondensedEdges_20 : decode cX1_countCondensedEdges 20 = .ok (.getfield 18, 3) := by decide +kernel
theorem dX1_countCondensedEdges_23 : decode cX1_countCondensedEdges 23 = .ok (.iload_n 2, 1) := by decide +kernel
theorem dX1_countCondensedEdges_24 : decode cX1_countCondensedEdges 24 = .ok (.laload, 1) := by decide +kernel
theorem dX1_countCondensedEdges_25 : decode cX1_countCondensedEdges 25 = .ok (.invokevirtual 108, 3) := by decide +kernel
theorem dX1_countCondensedEdges_28 : decode cX1_countCondensedEdges 28 = .ok (.aload_n 0, 1) := by decide +kernel
theorem dX1_countCondensedEdges_29 : decode cX1_countCondensedEdges 29 = .ok (.getfield 18, 3) := by decide +kernel
theorem dX1_countCondensedEdges_32 : decode cX1_countCondensedEdges 32 = .ok (.iload_n 2, 1) := by decide +kernel
theorem dX1_countCondensedEdges_33 : decode cX1_countCondensedEdges 33 = .ok (.laload, 1) := by decide +kernel
theorem dX1_countCondensedEdges_34 : decode cX1_countCondensedEdges 34 = .ok (.ldc2_w 115, 3) := by decide +kernel
theorem dX1_countCondensedEdges_37 : decode cX1_countCondensedEdges 37 = .ok (.lxor, 1) := by decide +kernel
theorem dX1_countCondensedEdges_38 : decode cX1_countCondensedEdges 38 = .ok (.land, 1) := by decide +kernel
theorem dX1_countCondensedEdges_39 : decode cX1_countCondensedEdges 39 = .ok (.lstore_n 3, 1) := by decide +kernel
theorem dX1_countCondensedEdges_40 : decode cX1_countCondensedEdges 40 = .ok (.iload_n 1, 1) := by decide +kernel
theorem dX1_countCondensedEdges_41 : decode cX1_countCondensedEdges 41 = .ok (.aload_n 0, 1) := by decide +kernel
theorem dX1_countCondensedEdges_42 : decode cX1_countCondensedEdges 42 = .ok (.lload_n 3, 1) := by decide +kernel
theorem dX1_countCondensedEdges_43 : decode cX1_countCondensedEdges 43 = .ok (.invokevirtual 117, 3) := by decide +kernel
theorem dX1_countCondensedEdges_46 : decode cX1_countCondensedEdges 46 = .ok (.invokestatic 105, 3) := by decide +kernel
theorem dX1_countCondensedEdges_49 : decode cX1_countCondensedEdges 49 = .ok (.iadd, 1) := by decide +kernel
theorem dX1_countCondensedEdges_50 : decode cX1_countCondensedEdges 50 = .ok (.istore_n 1, 1) := by decide +kernel
theorem dX1_countCondensedEdges_51 : decode cX1_countCondensedEdges 51 = .ok (.iinc 2 1, 3) := by decide +kernel
theorem dX1_countCondensedEdges_54 : decode cX1_countCondensedEdges 54 = .ok (.goto (-50), 3) := by decide +kernel
theorem dX1_countCondensedEdges_57 : decode cX1_countCondensedEdges 57 = .ok (.iload_n 1, 1) := by decide +kernel
theorem dX1_countCondensedEdges_58 : decode cX1_countCondensedEdges 58 = .ok (.ireturn, 1) := by decide +kernel
set_option maxHeartbeats 4000000 in
set_option maxRecDepth 100000 in
theorem c_X1_countCondensedEdges {l : Launch} {g : Gh} {w : Wd} {k0 : Nat} {rz : Int32} (hF : f_X1_countCondensedEdges w k0 = some rz) (hk0 : zct zC k0 = 1) : Met l yX1_countCondensedEdges (Cond.code yX1_countCondensedEdges cX1_countCondensedEdges 5 (some .int) :: TT) (rmd 4) (Pcw zC g w [.ref (g.2.2 k0)]) (Qw zC g w (some (.int (rz)))) 0 0 (zA zC g) := by
  refine mt_start (by decide) (Nat.le_of_ble_eq_true rfl) ?_
  intro p e s m args below meth c H locs ls X hr hl hH
  have hx := X.1
  have hb := X.2.1
  have hml := X.2.2.1
  have hown := X.2.2.2.1
  have ht := X.2.2.2.2.1
  have hl : lv_has ls 5 [(0, .ref (g.2.2 (k0)))] := hl
  unfold f_X1_countCondensedEdges at hF
  refine lv_iconst (v := (0 : Int32)) hx hb dX1_countCondensedEdges_0 (by decide) ?_
  refine lv_istore_n (lv' := [(1, .int ((0 : Int32))), (0, .ref (g.2.2 (k0)))]) hx hb dX1_countCondensedEdges_1 rfl hl (by decide) rfl (fun ls hl => ?_)
  refine lv_iconst (v := (0 : Int32)) hx hb dX1_countCondensedEdges_2 (by decide) ?_
  refine lv_istore_n (lv' := [(2, .int ((0 : Int32))), (1, .int ((0 : Int32))), (0, .ref (g.2.2 (k0)))]) hx hb dX1_countCondensedEdges_3 rfl hl (by decide) rfl (fun ls hl => ?_)
  obtain ⟨r2, hLr2, hF⟩ := ob hF
  have Jr2 : ∀ (H : Heap) (locs : List Loc) (ls : Array Slot), HW zC g w s.heap H locs → lv_has ls 5 [(0, .ref (g.2.2 (k0))), (1, .int (r2))] → W p l e (rmd 4) s m args below meth c H locs 0 0 (MQ below (Qw zC g w (some (.int (rz)))) args s 0 0 (zA zC g)) (F0 m 57 ls []) := by
    intro H locs ls hH hl
    refine lv_iload_n hx hb dX1_countCondensedEdges_57 rfl (lv_at hl 1 rfl) ?_
    obtain rfl := se1 hF
    exact w_iret X hH hr dX1_countCondensedEdges_58
  have Lr2 : ∀ (n : Nat) (s1 : Int32 × Int32), lp (b_X1_countCondensedEdges_1 w k0) n s1 = some r2 → ∀ (H : Heap) (locs : List Loc) (ls : Array Slot), HW zC g w s.heap H locs → lv_has ls 5 [(0, .ref (g.2.2 (k0))), (1, .int (s1.1)), (2, .int (s1.2))] → W p l e (rmd 4) s m args below meth c H locs 0 0 (MQ below (Qw zC g w (some (.int (rz)))) args s 0 0 (zA zC g)) (F0 m 4 ls []) := by
    intro n
    induction n with
    | zero => intro s1 hL; exact lp_0 hL
    | succ n ih =>
      intro s1 hL H locs ls hH hl
      obtain ⟨bb, hF, hL⟩ := lp_s hL
      unfold b_X1_countCondensedEdges_1 at hF
      refine lv_iload_n hx hb dX1_countCondensedEdges_4 rfl (lv_at hl 2 rfl) ?_
      refine lv_bipush (v := (56 : Int32)) hx hb dX1_countCondensedEdges_5 (by decide) ?_
      refine w_ilt_f (tgt := 57) hx hb dX1_countCondensedEdges_7 (by decide) (fun c3 => ?_) (fun c3 => ?_)
      · replace hF := ifn c3 hF
        obtain rfl := se1 hF
        subst hL
        exact Jr2 _ _ _ hH (lv_sub hl [0, 1] rfl)
      · replace hF := ifp c3 hF
        obtain ⟨s4, hs4, hF⟩ := ob hF
        have Js4 : ∀ (H : Heap) (locs : List Loc) (ls : Array Slot), HW zC g w s.heap H locs → lv_has ls 5 [(0, .ref (g.2.2 (k0))), (1, .int (s4)), (2, .int (s1.2))] → W p l e (rmd 4) s m args below meth c H locs 0 0 (MQ below (Qw zC g w (some (.int (rz)))) args s 0 0 (zA zC g)) (F0 m 51 ls []) := by
          intro H locs ls hH hl
          refine lv_iinc (v := (s1.2 + (1 : Int32))) (lv' := [(2, .int ((s1.2 + (1 : Int32)))), (0, .ref (g.2.2 (k0))), (1, .int (s4))]) hx hb dX1_countCondensedEdges_51 hl (k := 2) rfl rfl (by decide) rfl (fun ls hl => ?_)
          refine lv_goto (tgt := 4) hx hb dX1_countCondensedEdges_54 (by decide) ?_
          obtain rfl := se1 hF
          exact ih _ hL _ _ _ hH (lv_sub hl [1, 2, 0] rfl)
        have hF := hs4
        refine lv_aload_n hx hb dX1_countCondensedEdges_10 rfl (lv_at hl 0 rfl) ?_
        refine lv_iload_n hx hb dX1_countCondensedEdges_11 rfl (lv_at hl 2 rfl) ?_
        obtain ⟨x5, h5, hF⟩ := ob hF
        refine w_callV (As := [.int (s1.2)]) (k := k0) (rest := []) (st1 := [.int (bI (x5))]) X hH (c_X1_isLowest (l := l) (g := g) (w := w) (k0 := k0) (v_slot := s1.2) h5 hk0) (Or.inl tw_3_87) ms_X1_isLowest im_X1_isLowest hk0 cn_1 ⟨Nat.le_of_ble_eq_true rfl, Nat.le_of_ble_eq_true rfl⟩ rfl rfl hl.1 (Nat.le_of_ble_eq_true rfl) dX1_countCondensedEdges_12 ⟨Nat.le_refl _, Nat.le_refl _⟩ rfl (fun H locs hH => ?_)
        refine w_b_f (tgt := 51) hx hb dX1_countCondensedEdges_15 (by decide) (fun c6 => ?_) (fun c6 => ?_)
        · replace hF := ifn c6 hF
          obtain rfl := se1 hF
          exact Js4 _ _ _ hH (lv_sub hl [0, 1, 2] rfl)
        · replace hF := ifp c6 hF
          refine lv_aload_n hx hb dX1_countCondensedEdges_18 rfl (lv_at hl 0 rfl) ?_
          refine lv_aload_n hx hb dX1_countCondensedEdges_19 rfl (lv_at hl 0 rfl) ?_
          refine w_getr X hH hk0 fs_1_2 lk_1_18 dX1_countCondensedEdges_20 ?_
          refine lv_iload_n hx hb dX1_countCondensedEdges_23 rfl (lv_at hl 2 rfl) ?_
          obtain ⟨x7, h7, hF⟩ := ob hF
          refine w_lald X hH h7 (rt_C_1_2 hk0) dX1_countCondensedEdges_24 ?_
          obtain ⟨x8, h8, hF⟩ := ob hF
          refine w_callV (As := [.long (x7)]) (k := k0) (rest := []) (st1 := [.long (x8)]) X hH (c_X1_targetsOf (l := l) (g := g) (w := w) (k0 := k0) (v_slots := x7) h8 hk0) (Or.inl tw_5_46) ms_X1_targetsOf im_X1_targetsOf hk0 cn_1 ⟨Nat.le_of_ble_eq_true rfl, Nat.le_of_ble_eq_true rfl⟩ rfl rfl hl.1 (Nat.le_of_ble_eq_true rfl) dX1_countCondensedEdges_25 ⟨Nat.le_refl _, Nat.le_refl _⟩ rfl (fun H locs hH => ?_)
          refine lv_aload_n hx hb dX1_countCondensedEdges_28 rfl (lv_at hl 0 rfl) ?_
          refine w_getr X hH hk0 fs_1_2 lk_1_18 dX1_countCondensedEdges_29 ?_
          refine lv_iload_n hx hb dX1_countCondensedEdges_32 rfl (lv_at hl 2 rfl) ?_
          obtain ⟨x9, h9, hF⟩ := ob hF
          refine w_lald X hH h9 (rt_C_1_2 hk0) dX1_countCondensedEdges_33 ?_
          refine lv_ldc2 (own := RX1) (v := (-1 : Int64)) hx hb hown (ht _ tw_5_73) dX1_countCondensedEdges_34 ?_
          refine lv_lxor hx hb dX1_countCondensedEdges_37 ?_
          refine lv_land hx hb dX1_countCondensedEdges_38 ?_
          refine lv_lstore_n (lv' := [(3, .long ((x8 &&& (x9 ^^^ (-1 : Int64))))), (0, .ref (g.2.2 (k0))), (1, .int (s1.1)), (2, .int (s1.2))]) hx hb dX1_countCondensedEdges_39 rfl hl (by decide) rfl (fun ls hl => ?_)
          refine lv_iload_n hx hb dX1_countCondensedEdges_40 rfl (lv_at hl 2 rfl) ?_
          refine lv_aload_n hx hb dX1_countCondensedEdges_41 rfl (lv_at hl 1 rfl) ?_
          refine lv_lload_n hx hb dX1_countCondensedEdges_42 rfl (lv_at hl 0 rfl) ?_
          obtain ⟨x10, h10, hF⟩ := ob hF
          refine w_callV (As := [.long ((x8 &&& (x9 ^^^ (-1 : Int64))))]) (k := k0) (rest := [.int (s1.1)]) (st1 := [.long (x10), .int (s1.1)]) X hH (c_X1_lowestOfAll (l := l) (g := g) (w := w) (k0 := k0) (v_slots := (x8 &&& (x9 ^^^ (-1 : Int64)))) h10 hk0) (Or.inl tw_5_74) ms_X1_lowestOfAll im_X1_lowestOfAll hk0 cn_1 ⟨Nat.le_of_ble_eq_true rfl, Nat.le_of_ble_eq_true rfl⟩ rfl rfl hl.1 (Nat.le_of_ble_eq_true rfl) dX1_countCondensedEdges_43 ⟨Nat.le_refl _, Nat.le_refl _⟩ rfl (fun H locs hH => ?_)
          refine w_callS (As := [.long (x10)]) (rest := [.int (s1.1)]) (st1 := [.int ((f_J13_bitCount (x10))), .int (s1.1)]) X hH (c_J13_bitCount (l := l) (g := g) (w := w) (v_i := x10) rfl) (Or.inl tw_3_102) ms_J13_bitCount tw_3_103 ⟨Nat.le_of_ble_eq_true rfl, Nat.le_of_ble_eq_true rfl⟩ rfl rfl hl.1 (Nat.le_of_ble_eq_true rfl) dX1_countCondensedEdges_46 ⟨Nat.le_refl _, Nat.le_refl _⟩ rfl (fun H locs hH => ?_)
          refine lv_iadd hx hb dX1_countCondensedEdges_49 ?_
          refine lv_istore_n (lv' := [(1, .int ((s1.1 + (f_J13_bitCount (x10))))), (3, .long ((x8 &&& (x9 ^^^ (-1 : Int64))))), (0, .ref (g.2.2 (k0))), (2, .int (s1.2))]) hx hb dX1_countCondensedEdges_50 rfl hl (by decide) rfl (fun ls hl => ?_)
          obtain rfl := se1 hF
          exact Js4 _ _ _ hH (lv_sub hl [2, 0, 3] rfl)
  exact Lr2 NF _ hLr2 _ _ _ hH (lv_sub hl [2, 1, 0] rfl)

theorem dX9_condensedEdgeCount_0 : decode cX9_condensedEdgeCount 0 = .ok (.aload_n 0, 1) := by decide +kernel
theorem dX9_condensedEdgeCount_1 : decode cX9_condensedEdgeCount 1 = .ok (.invokevirtual 215, 3) := by decide +kernel
theorem dX9_condensedEdgeCount_4 : decode cX9_condensedEdgeCount 4 = .ok (.invokevirtual 249, 3) := by decide +kernel
theorem dX9_condensedEdgeCount_7 : decode cX9_condensedEdgeCount 7 = .ok (.ireturn, 1) := by decide +kernel
set_option maxHeartbeats 4000000 in
set_option maxRecDepth 100000 in
theorem c_X9_condensedEdgeCount {l : Launch} {g : Gh} {w : Wd} {k0 : Nat} {rz : Int32} {wz : Wd} (hF : f_X9_condensedEdgeCount w k0 = some (rz, wz)) (hk0 : zct zC k0 = 9) : Met l yX9_condensedEdgeCount (Cond.code yX9_condensedEdgeCount cX9_condensedEdgeCount 1 (some .int) :: TT) (rmd 5) (Pcw zC g w [.ref (g.2.2 k0)]) (Qw zC g wz (some (.int (rz)))) 0 0 (zA zC g) := by
  refine mt_start (by decide) (Nat.le_of_ble_eq_true rfl) ?_
  intro p e s m args below meth c H locs ls X hr hl hH
  have hx := X.1
  have hb := X.2.1
  have hml := X.2.2.1
  have hown := X.2.2.2.1
  have ht := X.2.2.2.2.1
  have hl : lv_has ls 1 [(0, .ref (g.2.2 (k0)))] := hl
  unfold f_X9_condensedEdgeCount at hF
  refine lv_aload_n hx hb dX9_condensedEdgeCount_0 rfl (lv_at hl 0 rfl) ?_
  obtain ⟨x1, h1, hF⟩ := ob hF
  refine w_callV (As := []) (k := k0) (rest := []) (st1 := [.ref (g.2.2 (x1.1))]) X hH (c_X9_graphed (l := l) (g := g) (w := w) (k0 := k0) h1 hk0) (Or.inl tw_3_43) ms_X9_graphed im_X9_graphed hk0 cn_9 ⟨Nat.le_of_ble_eq_true rfl, Nat.le_of_ble_eq_true rfl⟩ rfl rfl hl.1 (Nat.le_of_ble_eq_true rfl) dX9_condensedEdgeCount_1 ⟨Nat.le_refl _, Nat.le_refl _⟩ rfl (fun H locs hH => ?_)
  obtain ⟨x2, h2, hF⟩ := ob hF
  refine w_callV (As := []) (k := x1.1) (rest := []) (st1 := [.int (x2)]) X hH (c_X1_countCondensedEdges (l := l) (g := g) (w := x1.2) (k0 := x1.1) h2 (rr_X9_graphed h1 hk0)) (Or.inr ⟨_, tw_5_69⟩) ms_X1_countCondensedEdges im_X1_countCondensedEdges (rr_X9_graphed h1 hk0) cn_1 ⟨Nat.le_of_ble_eq_true rfl, Nat.le_of_ble_eq_true rfl⟩ rfl rfl hl.1 (Nat.le_of_ble_eq_true rfl) dX9_condensedEdgeCount_4 ⟨Nat.le_refl _, Nat.le_refl _⟩ rfl (fun H locs hH => ?_)
  obtain ⟨rfl, rfl⟩ := se2 hF
  exact w_iret X hH hr dX9_condensedEdgeCount_7

theorem dX9_isConstraint_0 : decode cX9_isConstraint 0 = .ok (.iload_n 1, 1) := by decide +kernel
theorem dX9_isConstraint_1 : decode cX9_isConstraint 1 = .ok (.ifCond .lt 21, 3) := by decide +kernel
theorem dX9_isConstraint_4 : decode cX9_isConstraint 4 = .ok (.iload_n 1, 1) := by decide +kernel
theorem dX9_isConstraint_5 : decode cX9_isConstraint 5 = .ok (.aload_n 0, 1) := by decide +kernel
theorem dX9_isConstraint_6 : decode cX9_isConstraint 6 = .ok (.getfield 19, 3) := by decide +kernel
theorem dX9_isConstraint_9 : decode cX9_isConstraint 9 = .ok (.getfield 96, 3) := by decide +kernel
theorem dX9_isConstraint_12 : decode cX9_isConstraint 12 = .ok (.getfield 100, 3) := by decide +kernel
theorem dX9_isConstraint_15 : decode cX9_isConstraint 15 = .ok (.if_icmp .ge 7, 3) := by decide +kernel
theorem dX9_isConstraint_18 : decode cX9_isConstraint 18 = .ok (.iconst 1, 1) := by decide +kernel
theorem dX9_isConstraint_19 : decode cX9_isConstraint 19 = .ok (.goto 4, 3) := by decide +kernel
theorem dX9_isConstraint_22 : decode cX9_isConstraint 22 = .ok (.iconst 0, 1) := by decide +kernel
theorem dX9_isConstraint_23 : decode cX9_isConstraint 23 = .ok (.ireturn, 1) := by decide +kernel
set_option maxHeartbeats 4000000 in
set_option maxRecDepth 100000 in
theorem c_X9_isConstraint {l : Launch} {g : Gh} {w : Wd} {k0 : Nat} {v_constraint : Int32} {rz : Bool} (hF : f_X9_isConstraint w k0 v_constraint = some rz) (hk0 : zct zC k0 = 9) : Met l yX9_isConstraint (Cond.code yX9_isConstraint cX9_isConstraint 2 (some .boolean) :: TT) (rmd 0) (Pcw zC g w [.ref (g.2.2 k0), .int (v_constraint)]) (Qw zC g w (some (.int (bI (rz))))) 0 0 (zA zC g) := by
  refine mt_start (by decide) (Nat.le_of_ble_eq_true rfl) ?_
  intro p e s m args below meth c H locs ls X hr hl hH
  have hx := X.1
  have hb := X.2.1
  have hml := X.2.2.1
  have hown := X.2.2.2.1
  have ht := X.2.2.2.2.1
  have hl : lv_has ls 2 [(0, .ref (g.2.2 (k0))), (1, .int (v_constraint))] := hl
  unfold f_X9_isConstraint at hF
  obtain ⟨b2, hb2, hF⟩ := ob hF
  have J1 : ∀ (H : Heap) (locs : List Loc), HW zC g w s.heap H locs → W p l e (rmd 0) s m args below meth c H locs 0 0 (MQ below (Qw zC g w (some (.int (bI (rz))))) args s 0 0 (zA zC g)) (F0 m 23 ls [.int (bI (b2))]) := by
    intro H locs hH
    obtain rfl := se1 hF
    exact w_zret X hH hr dX9_isConstraint_23
  have hF := hb2
  refine lv_iload_n hx hb dX9_isConstraint_0 rfl (lv_at hl 1 rfl) ?_
  refine w_zge_f (tgt := 22) hx hb dX9_isConstraint_1 (by decide) (fun c3 => ?_) (fun c3 => ?_)
  · replace hF := ifn c3 hF
    refine lv_iconst (v := (0 : Int32)) hx hb dX9_isConstraint_22 (by decide) ?_
    obtain rfl := se1 hF
    exact J1 _ _ hH
  · replace hF := ifp c3 hF
    refine lv_iload_n hx hb dX9_isConstraint_4 rfl (lv_at hl 1 rfl) ?_
    refine lv_aload_n hx hb dX9_isConstraint_5 rfl (lv_at hl 0 rfl) ?_
    obtain ⟨x5, h5, hF⟩ := ob hF
    refine w_getd X hH h5 hk0 fs_9_1 lk_9_19 dX9_isConstraint_6 (fun q5 => ?_)
    refine w_getr X hH q5 fs_6_6 lk_9_96 dX9_isConstraint_9 ?_
    refine w_geti X hH (rt_C_6_6 q5) fs_0_4 lk_9_100 dX9_isConstraint_12 ?_
    refine w_ilt_f (tgt := 22) hx hb dX9_isConstraint_15 (by decide) (fun c4 => ?_) (fun c4 => ?_)
    · replace hF := ifn c4 hF
      refine lv_iconst (v := (0 : Int32)) hx hb dX9_isConstraint_22 (by decide) ?_
      obtain rfl := se1 hF
      exact J1 _ _ hH
    · replace hF := ifp c4 hF
      refine lv_iconst (v := (1 : Int32)) hx hb dX9_isConstraint_18 (by decide) ?_
      refine lv_goto (tgt := 23) hx hb dX9_isConstraint_19 (by decide) ?_
      obtain rfl := se1 hF
      exact J1 _ _ hH

theorem dX0_operandAt_0 : decode cX0_operandAt 0 = .ok (.iload_n 2, 1) := by decide +kernel
theorem dX0_operandAt_1 : decode cX0_operandAt 1 = .ok (.lookupswitch 41 #[(0, 27), (1, 34)], 27) := by decide +kernel
theorem dX0_operandAt_28 : decode cX0_operandAt 28 = .ok (.aload_n 0, 1) := by decide +kernel
theorem dX0_operandAt_29 : decode cX0_operandAt 29 = .ok (.getfield 15, 3) := by decide +kernel
theorem dX0_operandAt_32 : decode cX0_operandAt 32 = .ok (.iload_n 1, 1) := by decide +kernel
theorem dX0_operandAt_33 : decode cX0_operandAt 33 = .ok (.iaload, 1) := by decide +kernel
theorem dX0_operandAt_34 : decode cX0_operandAt 34 = .ok (.ireturn, 1) := by decide +kernel
theorem dX0_operandAt_35 : decode cX0_operandAt 35 = .ok (.aload_n 0, 1) := by decide +kernel
theorem dX0_operandAt_36 : decode cX0_operandAt 36 = .ok (.getfield 18, 3) := by decide +kernel
theorem dX0_operandAt_39 : decode cX0_operandAt 39 = .ok (.iload_n 1, 1) := by decide +kernel
theorem dX0_operandAt_40 : decode cX0_operandAt 40 = .ok (.iaload, 1) := by decide +kernel
theorem dX0_operandAt_41 : decode cX0_operandAt 41 = .ok (.ireturn, 1) := by decide +kernel
theorem dX0_operandAt_42 : decode cX0_operandAt 42 = .ok (.aload_n 0, 1) := by decide +kernel
theorem dX0_operandAt_43 : decode cX0_operandAt 43 = .ok (.getfield 21, 3) := by decide +kernel
theorem dX0_operandAt_46 : decode cX0_operandAt 46 = .ok (.iload_n 1, 1) := by decide +kernel
theorem dX0_operandAt_47 : decode cX0_operandAt 47 = .ok (.iaload, 1) := by decide +kernel
theorem dX0_operandAt_48 : decode cX0_operandAt 48 = .ok (.ireturn, 1) := by decide +kernel
set_option maxHeartbeats 4000000 in
set_option maxRecDepth 100000 in
theorem c_X0_operandAt {l : Launch} {g : Gh} {w : Wd} {k0 : Nat} {v_constraint : Int32} {v_position : Int32} {rz : Int32} (hF : f_X0_operandAt w k0 v_constraint v_position = some rz) (hk0 : zct zC k0 = 0) : Met l yX0_operandAt (Cond.code yX0_operandAt cX0_operandAt 3 (some .int) :: TT) (rmd 0) (Pcw zC g w [.ref (g.2.2 k0), .int (v_constraint), .int (v_position)]) (Qw zC g w (some (.int (rz)))) 0 0 (zA zC g) := by
  refine mt_start (by decide) (Nat.le_of_ble_eq_true rfl) ?_
  intro p e s m args below meth c H locs ls X hr hl hH
  have hx := X.1
  have hb := X.2.1
  have hml := X.2.2.1
  have hown := X.2.2.2.1
  have ht := X.2.2.2.2.1
  have hl : lv_has ls 3 [(0, .ref (g.2.2 (k0))), (1, .int (v_constraint)), (2, .int (v_position))] := hl
  unfold f_X0_operandAt at hF
  refine lv_iload_n hx hb dX0_operandAt_0 rfl (lv_at hl 2 rfl) ?_
  by_cases c1 : v_position = (0 : Int32)
  · replace hF := ifp c1 hF
    refine lv_lookup (off := (27 : Int)) (tgt := 28) hx hb dX0_operandAt_1 (by decide) (by rw [c1] <;> rfl) (by decide) ?_
    refine lv_aload_n hx hb dX0_operandAt_28 rfl (lv_at hl 0 rfl) ?_
    refine w_getr X hH hk0 fs_0_1 lk_0_15 dX0_operandAt_29 ?_
    refine lv_iload_n hx hb dX0_operandAt_32 rfl (lv_at hl 1 rfl) ?_
    obtain ⟨x2, h2, hF⟩ := ob hF
    refine w_iald X hH h2 (rt_C_0_1 hk0) dX0_operandAt_33 ?_
    obtain rfl := se1 hF
    exact w_iret X hH hr dX0_operandAt_34
  · replace hF := ifn c1 hF
    by_cases c3 : v_position = (1 : Int32)
    · replace hF := ifp c3 hF
      refine lv_lookup (off := (34 : Int)) (tgt := 35) hx hb dX0_operandAt_1 (by decide) (by rw [c3] <;> rfl) (by decide) ?_
      refine lv_aload_n hx hb dX0_operandAt_35 rfl (lv_at hl 0 rfl) ?_
      refine w_getr X hH hk0 fs_0_2 lk_0_18 dX0_operandAt_36 ?_
      refine lv_iload_n hx hb dX0_operandAt_39 rfl (lv_at hl 1 rfl) ?_
      obtain ⟨x4, h4, hF⟩ := ob hF
      refine w_iald X hH h4 (rt_C_0_2 hk0) dX0_operandAt_40 ?_
      obtain rfl := se1 hF
      exact w_iret X hH hr dX0_operandAt_41
    · replace hF := ifn c3 hF
      refine lv_lookup (off := (41 : Int)) (tgt := 42) hx hb dX0_operandAt_1 (by decide) ((lv_osw c1 (by decide)).trans ((lv_osw c3 (by decide)).trans rfl)) (by decide) ?_
      refine lv_aload_n hx hb dX0_operandAt_42 rfl (lv_at hl 0 rfl) ?_
      refine w_getr X hH hk0 fs_0_3 lk_0_21 dX0_operandAt_43 ?_
      refine lv_iload_n hx hb dX0_operandAt_46 rfl (lv_at hl 1 rfl) ?_
      obtain ⟨x5, h5, hF⟩ := ob hF
      refine w_iald X hH h5 (rt_C_0_3 hk0) dX0_operandAt_47 ?_
      obtain rfl := se1 hF
      exact w_iret X hH hr dX0_operandAt_48
