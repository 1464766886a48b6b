theorem dX10_exists_0 : decode cX10_exists 0 = .ok (.iload_n 1, 1) := by decide +kernel
theorem dX10_exists_1 : decode cX10_exists 1 = .ok (.bipush 16, 2) := by decide +kernel
theorem dX10_exists_3 : decode cX10_exists 3 = .ok (.if_icmp .ge 11, 3) := by decide +kernel
theorem dX10_exists_6 : decode cX10_exists 6 = .ok (.aload_n 0, 1) := by decide +kernel
theorem dX10_exists_7 : decode cX10_exists 7 = .ok (.iload_n 1, 1) := by decide +kernel
theorem dX10_exists_8 : decode cX10_exists 8 = .ok (.invokevirtual 225, 3) := by decide +kernel
theorem dX10_exists_11 : decode cX10_exists 11 = .ok (.goto 34, 3) := by decide +kernel
theorem dX10_exists_14 : decode cX10_exists 14 = .ok (.aload_n 0, 1) := by decide +kernel
theorem dX10_exists_15 : decode cX10_exists 15 = .ok (.iload_n 1, 1) := by decide +kernel
theorem dX10_exists_16 : decode cX10_exists 16 = .ok (.bipush 16, 2) := by decide +kernel
theorem dX10_exists_18 : decode cX10_exists 18 = .ok (.isub, 1) := by decide +kernel
theorem dX10_exists_19 : decode cX10_exists 19 = .ok (.iconst 4, 1) := by decide +kernel
theorem dX10_exists_20 : decode cX10_exists 20 = .ok (.idiv, 1) := by decide +kernel
theorem dX10_exists_21 : decode cX10_exists 21 = .ok (.invokevirtual 222, 3) := by decide +kernel
theorem dX10_exists_24 : decode cX10_exists 24 = .ok (.ifCond .eq 20, 3) := by decide +kernel
theorem dX10_exists_27 : decode cX10_exists 27 = .ok (.aload_n 0, 1) := by decide +kernel
theorem dX10_exists_28 : decode cX10_exists 28 = .ok (.iload_n 1, 1) := by decide +kernel
theorem dX10_exists_29 : decode cX10_exists 29 = .ok (.bipush 16, 2) := by decide +kernel
theorem dX10_exists_31 : decode cX10_exists 31 = .ok (.isub, 1) := by decide +kernel
theorem dX10_exists_32 : decode cX10_exists 32 = .ok (.iconst 4, 1) := by decide +kernel
theorem dX10_exists_33 : decode cX10_exists 33 = .ok (.irem, 1) := by decide +kernel
theorem dX10_exists_34 : decode cX10_exists 34 = .ok (.invokevirtual 228, 3) := by decide +kernel
theorem dX10_exists_37 : decode cX10_exists 37 = .ok (.ifCond .eq 7, 3) := by decide +kernel
theorem dX10_exists_40 : decode cX10_exists 40 = .ok (.iconst 1, 1) := by decide +kernel
theorem dX10_exists_41 : decode cX10_exists 41 = .ok (.goto 4, 3) := by decide +kernel
theorem dX10_exists_44 : decode cX10_exists 44 = .ok (.iconst 0, 1) := by decide +kernel
theorem dX10_exists_45 : decode cX10_exists 45 = .ok (.ireturn, 1) := by decide +kernel
set_option maxHeartbeats 4000000 in
set_option maxRecDepth 100000 in
theorem c_X10_exists {l : Launch} {g : Gh} {w : Wd} {k0 : Nat} {v_index : Int32} {rz : Bool} (hF : f_X10_exists w k0 v_index = some rz) (hk0 : zct zM k0 = 10) : Met l yX10_exists (Cond.code yX10_exists cX10_exists 2 (some .boolean) :: TT) (rmd 2) (Pcw zM g w [.ref (g.2.2 k0), .int (v_index)]) (Qw zM g w (some (.int (bI (rz))))) 0 0 (zA zM g) := by
  refine mt_start (by decide) (Nat.le_of_ble_eq_true rfl) ?_
  intro p e s m args below meth c H locs ls X hr hl hH
  have hx := X.1
  have hb := X.2.1
  have hml := X.2.2.1
  have hown := X.2.2.2.1
  have ht := X.2.2.2.2.1
  have hl : lv_has ls 2 [(0, .ref (g.2.2 (k0))), (1, .int (v_index))] := hl
  unfold f_X10_exists at hF
  obtain ⟨x2, hx2, hF⟩ := ob hF
  have J1 : ∀ (H : Heap) (locs : List Loc), HW zM g w s.heap H locs → W p l e (rmd 2) s m args below meth c H locs 0 0 (MQ below (Qw zM g w (some (.int (bI (rz))))) args s 0 0 (zA zM g)) (F0 m 45 ls [.int (bI (x2))]) := by
    intro H locs hH
    obtain rfl := se1 hF
    exact w_zret X hH hr dX10_exists_45
  have hF := hx2
  refine lv_iload_n hx hb dX10_exists_0 rfl (lv_at hl 1 rfl) ?_
  refine lv_bipush (v := (16 : Int32)) hx hb dX10_exists_1 (by decide) ?_
  refine w_ilt_f (tgt := 14) hx hb dX10_exists_3 (by decide) (fun c3 => ?_) (fun c3 => ?_)
  · replace hF := ifn c3 hF
    obtain ⟨b5, hb5, hF⟩ := ob hF
    have J4 : ∀ (H : Heap) (locs : List Loc), HW zM g w s.heap H locs → W p l e (rmd 2) s m args below meth c H locs 0 0 (MQ below (Qw zM g w (some (.int (bI (rz))))) args s 0 0 (zA zM g)) (F0 m 45 ls [.int (bI (b5))]) := by
      intro H locs hH
      obtain rfl := se1 hF
      exact J1 _ _ hH
    have hF := hb5
    refine lv_aload_n hx hb dX10_exists_14 rfl (lv_at hl 0 rfl) ?_
    refine lv_iload_n hx hb dX10_exists_15 rfl (lv_at hl 1 rfl) ?_
    refine lv_bipush (v := (16 : Int32)) hx hb dX10_exists_16 (by decide) ?_
    refine lv_isub hx hb dX10_exists_18 ?_
    refine lv_iconst (v := (4 : Int32)) hx hb dX10_exists_19 (by decide) ?_
    refine w_idiv hx hb dX10_exists_20 (by decide) ?_
    obtain ⟨x7, h7, hF⟩ := ob hF
    refine w_callV (As := [.int ((jdiv ((v_index - (16 : Int32))) ((4 : Int32))))]) (k := k0) (rest := []) (st1 := [.int (bI (x7))]) X hH (c_X10_isObject (l := l) (g := g) (w := w) (k0 := k0) (v_o := (jdiv ((v_index - (16 : Int32))) ((4 : Int32)))) h7 hk0) (Or.inl tw_6_145) ms_X10_isObject im_X10_isObject hk0 cn_10 ⟨Nat.le_of_ble_eq_true rfl, Nat.le_of_ble_eq_true rfl⟩ rfl rfl hl.1 (Nat.le_of_ble_eq_true rfl) dX10_exists_21 ⟨Nat.le_refl _, Nat.le_refl _⟩ rfl (fun H locs hH => ?_)
    refine w_b_f (tgt := 44) hx hb dX10_exists_24 (by decide) (fun c6 => ?_) (fun c6 => ?_)
    · replace hF := ifn c6 hF
      refine lv_iconst (v := (0 : Int32)) hx hb dX10_exists_44 (by decide) ?_
      obtain rfl := se1 hF
      exact J4 _ _ hH
    · replace hF := ifp c6 hF
      refine lv_aload_n hx hb dX10_exists_27 rfl (lv_at hl 0 rfl) ?_
      refine lv_iload_n hx hb dX10_exists_28 rfl (lv_at hl 1 rfl) ?_
      refine lv_bipush (v := (16 : Int32)) hx hb dX10_exists_29 (by decide) ?_
      refine lv_isub hx hb dX10_exists_31 ?_
      refine lv_iconst (v := (4 : Int32)) hx hb dX10_exists_32 (by decide) ?_
      refine w_irem hx hb dX10_exists_33 (by decide) ?_
      obtain ⟨x9, h9, hF⟩ := ob hF
      refine w_callV (As := [.int ((jrem ((v_index - (16 : Int32))) ((4 : Int32))))]) (k := k0) (rest := []) (st1 := [.int (bI (x9))]) X hH (c_X10_isField (l := l) (g := g) (w := w) (k0 := k0) (v_f := (jrem ((v_index - (16 : Int32))) ((4 : Int32)))) h9 hk0) (Or.inl tw_6_180) ms_X10_isField im_X10_isField hk0 cn_10 ⟨Nat.le_of_ble_eq_true rfl, Nat.le_of_ble_eq_true rfl⟩ rfl rfl hl.1 (Nat.le_of_ble_eq_true rfl) dX10_exists_34 ⟨Nat.le_refl _, Nat.le_refl _⟩ rfl (fun H locs hH => ?_)
      refine w_b_f (tgt := 44) hx hb dX10_exists_37 (by decide) (fun c8 => ?_) (fun c8 => ?_)
      · replace hF := ifn c8 hF
        refine lv_iconst (v := (0 : Int32)) hx hb dX10_exists_44 (by decide) ?_
        obtain rfl := se1 hF
        exact J4 _ _ hH
      · replace hF := ifp c8 hF
        refine lv_iconst (v := (1 : Int32)) hx hb dX10_exists_40 (by decide) ?_
        refine lv_goto (tgt := 45) hx hb dX10_exists_41 (by decide) ?_
        obtain rfl := se1 hF
        exact J4 _ _ hH
  · replace hF := ifp c3 hF
    refine lv_aload_n hx hb dX10_exists_6 rfl (lv_at hl 0 rfl) ?_
    refine lv_iload_n hx hb dX10_exists_7 rfl (lv_at hl 1 rfl) ?_
    obtain ⟨x10, h10, hF⟩ := ob hF
    refine w_callV (As := [.int (v_index)]) (k := k0) (rest := []) (st1 := [.int (bI (x10))]) X hH (c_X10_isVariable (l := l) (g := g) (w := w) (k0 := k0) (v_v := v_index) h10 hk0) (Or.inl tw_6_176) ms_X10_isVariable im_X10_isVariable hk0 cn_10 ⟨Nat.le_of_ble_eq_true rfl, Nat.le_of_ble_eq_true rfl⟩ rfl rfl hl.1 (Nat.le_of_ble_eq_true rfl) dX10_exists_8 ⟨Nat.le_refl _, Nat.le_refl _⟩ rfl (fun H locs hH => ?_)
    refine lv_goto (tgt := 45) hx hb dX10_exists_11 (by decide) ?_
    obtain rfl := se1 hF
    exact J1 _ _ hH

theorem dX10_facts_0 : decode cX10_facts 0 = .ok (.iconst 0, 1) := by decide +kernel
theorem dX10_facts_1 : decode cX10_facts 1 = .ok (.istore_n 1, 1) := by decide +kernel
theorem dX10_facts_2 : decode cX10_facts 2 = .ok (.iconst 0, 1) := by decide +kernel
theorem dX10_facts_3 : decode cX10_facts 3 = .ok (.istore_n 2, 1) := by decide +kernel
theorem dX10_facts_4 : decode cX10_facts 4 = .ok (.iload_n 2, 1) := by decide +kernel
theorem dX10_facts_5 : decode cX10_facts 5 = .ok (.bipush 56, 2) := by decide +kernel
theorem dX10_facts_7 : decode cX10_facts 7 = .ok (.if_icmp .ge 21, 3) := by decide +kernel
theorem dX10_facts_10 : decode cX10_facts 10 = .ok (.iload_n 1, 1) := by decide +kernel
theorem dX10_facts_11 : decode cX10_facts 11 = .ok (.aload_n 0, 1) := by decide +kernel
theorem dX10_facts_12 : decode cX10_facts 12 = .ok (.getfield 55, 3) := by decide +kernel
theorem dX10_facts_15 : decode cX10_facts 15 = .ok (.iload_n 2, 1) := by decide +kernel
theorem dX10_facts_16 : decode cX10_facts 16 = .ok (.iaload, 1) := by decide +kernel
theorem dX10_facts_17 : decode cX10_facts 17 = .ok (.invokestatic 257, 3) := by decide +kernel
theorem dX10_facts_20 : decode cX10_facts 20 = .ok (.iadd, 1) := by decide +kernel
theorem dX10_facts_21 : decode cX10_facts 21 = .ok (.istore_n 1, 1) := by decide +kernel
theorem dX10_facts_22 : decode cX10_facts 22 = .ok (.iinc 2 1, 3) := by decide +kernel
theorem dX10_facts_25 : decode cX10_facts 25 = .ok (.goto (-21), 3) := by decide +kernel
theorem dX10_facts_28 : decode cX10_facts 28 = .ok (.iload_n 1, 1) := by decide +kernel
theorem dX10_facts_29 : decode cX10_facts 29 = .ok (.ireturn, 1) := by decide +kernel
set_option maxHeartbeats 4000000 in
set_option maxRecDepth 100000 in
theorem c_X10_facts {l : Launch} {g : Gh} {w : Wd} {k0 : Nat} {rz : Int32} (hF : f_X10_facts w k0 = some rz) (hk0 : zct zM k0 = 10) : Met l yX10_facts (Cond.code yX10_facts cX10_facts 3 (some .int) :: TT) (rmd 1) (Pcw zM g w [.ref (g.2.2 k0)]) (Qw zM g w (some (.int (rz)))) 0 0 (zA zM g) := by
  refine mt_start (by decide) (Nat.le_of_ble_eq_true rfl) ?_
  intro p e s m args below meth c H locs ls X hr hl hH
  have hx := X.1
  have hb := X.2.1
  have hml := X.2.2.1
  have hown := X.2.2.2.1
  have ht := X.2.2.2.2.1
  have hl : lv_has ls 3 [(0, .ref (g.2.2 (k0)))] := hl
  unfold f_X10_facts at hF
  refine lv_iconst (v := (0 : Int32)) hx hb dX10_facts_0 (by decide) ?_
  refine lv_istore_n (lv' := [(1, .int ((0 : Int32))), (0, .ref (g.2.2 (k0)))]) hx hb dX10_facts_1 rfl hl (by decide) rfl (fun ls hl => ?_)
  refine lv_iconst (v := (0 : Int32)) hx hb dX10_facts_2 (by decide) ?_
  refine lv_istore_n (lv' := [(2, .int ((0 : Int32))), (1, .int ((0 : Int32))), (0, .ref (g.2.2 (k0)))]) hx hb dX10_facts_3 rfl hl (by decide) rfl (fun ls hl => ?_)
  obtain ⟨r2, hLr2, hF⟩ := ob hF
  have Jr2 : ∀ (H : Heap) (locs : List Loc) (ls : Array Slot), HW zM g w s.heap H locs → lv_has ls 3 [(0, .ref (g.2.2 (k0))), (1, .int (r2))] → W p l e (rmd 1) s m args below meth c H locs 0 0 (MQ below (Qw zM g w (some (.int (rz)))) args s 0 0 (zA zM g)) (F0 m 28 ls []) := by
    intro H locs ls hH hl
    refine lv_iload_n hx hb dX10_facts_28 rfl (lv_at hl 1 rfl) ?_
    obtain rfl := se1 hF
    exact w_iret X hH hr dX10_facts_29
  have Lr2 : ∀ (n : Nat) (s1 : Int32 × Int32), lp (b_X10_facts_1 w k0) n s1 = some r2 → ∀ (H : Heap) (locs : List Loc) (ls : Array Slot), HW zM g w s.heap H locs → lv_has ls 3 [(0, .ref (g.2.2 (k0))), (1, .int (s1.1)), (2, .int (s1.2))] → W p l e (rmd 1) s m args below meth c H locs 0 0 (MQ below (Qw zM g w (some (.int (rz)))) args s 0 0 (zA zM g)) (F0 m 4 ls []) := by
    intro n
    induction n with
    | zero => intro s1 hL; exact lp_0 hL
    | succ n ih =>
      intro s1 hL H locs ls hH hl
      obtain ⟨bb, hF, hL⟩ := lp_s hL
      unfold b_X10_facts_1 at hF
      refine lv_iload_n hx hb dX10_facts_4 rfl (lv_at hl 2 rfl) ?_
      refine lv_bipush (v := (56 : Int32)) hx hb dX10_facts_5 (by decide) ?_
      refine w_ilt_f (tgt := 28) hx hb dX10_facts_7 (by decide) (fun c3 => ?_) (fun c3 => ?_)
      · replace hF := ifn c3 hF
        obtain rfl := se1 hF
        subst hL
        exact Jr2 _ _ _ hH (lv_sub hl [0, 1] rfl)
      · replace hF := ifp c3 hF
        refine lv_iload_n hx hb dX10_facts_10 rfl (lv_at hl 1 rfl) ?_
        refine lv_aload_n hx hb dX10_facts_11 rfl (lv_at hl 0 rfl) ?_
        refine w_getr X hH hk0 fs_10_24 lk_10_55 dX10_facts_12 ?_
        refine lv_iload_n hx hb dX10_facts_15 rfl (lv_at hl 2 rfl) ?_
        obtain ⟨x4, h4, hF⟩ := ob hF
        refine w_iald X hH h4 (rt_M_10_24 hk0) dX10_facts_16 ?_
        obtain ⟨x5, h5, hF⟩ := ob hF
        refine w_callS (As := [.int (x4)]) (rest := [.int (s1.1)]) (st1 := [.int (x5), .int (s1.1)]) X hH (c_X10_size (l := l) (g := g) (w := w) (v_set := x4) h5) (Or.inl tw_6_161) ms_X10_size tw_6_162 ⟨Nat.le_of_ble_eq_true rfl, Nat.le_of_ble_eq_true rfl⟩ rfl rfl hl.1 (Nat.le_of_ble_eq_true rfl) dX10_facts_17 ⟨Nat.le_refl _, Nat.le_refl _⟩ rfl (fun H locs hH => ?_)
        refine lv_iadd hx hb dX10_facts_20 ?_
        refine lv_istore_n (lv' := [(1, .int ((s1.1 + x5))), (0, .ref (g.2.2 (k0))), (2, .int (s1.2))]) hx hb dX10_facts_21 rfl hl (by decide) rfl (fun ls hl => ?_)
        refine lv_iinc (v := (s1.2 + (1 : Int32))) (lv' := [(2, .int ((s1.2 + (1 : Int32)))), (1, .int ((s1.1 + x5))), (0, .ref (g.2.2 (k0)))]) hx hb dX10_facts_22 hl (k := 2) rfl rfl (by decide) rfl (fun ls hl => ?_)
        refine lv_goto (tgt := 4) hx hb dX10_facts_25 (by decide) ?_
        obtain rfl := se1 hF
        exact ih _ hL _ _ _ hH (lv_sub hl [2, 1, 0] rfl)
  exact Lr2 NF _ hLr2 _ _ _ hH (lv_sub hl [2, 1, 0] rfl)

theorem dX10_factCount_0 : decode cX10_factCount 0 = .ok (.aload_n 0, 1) := by decide +kernel
theorem dX10_factCount_1 : decode cX10_factCount 1 = .ok (.iconst 0, 1) := by decide +kernel
theorem dX10_factCount_2 : decode cX10_factCount 2 = .ok (.putfield 85, 3) := by decide +kernel
theorem dX10_factCount_5 : decode cX10_factCount 5 = .ok (.aload_n 0, 1) := by decide +kernel
theorem dX10_factCount_6 : decode cX10_factCount 6 = .ok (.invokevirtual 260, 3) := by decide +kernel
theorem dX10_factCount_9 : decode cX10_factCount 9 = .ok (.ireturn, 1) := by decide +kernel
set_option maxHeartbeats 4000000 in
set_option maxRecDepth 100000 in
theorem c_X10_factCount {l : Launch} {g : Gh} {w : Wd} {k0 : Nat} {rz : Int32} {wz : Wd} (hF : f_X10_factCount w k0 = some (rz, wz)) (hk0 : zct zM k0 = 10) : Met l yX10_factCount (Cond.code yX10_factCount cX10_factCount 1 (some .int) :: TT) (rmd 2) (Pcw zM g w [.ref (g.2.2 k0)]) (Qw zM g wz (some (.int (rz)))) 0 0 (zA zM g) := by
  refine mt_start (by decide) (Nat.le_of_ble_eq_true rfl) ?_
  intro p e s m args below meth c H locs ls X hr hl hH
  have hx := X.1
  have hb := X.2.1
  have hml := X.2.2.1
  have hown := X.2.2.2.1
  have ht := X.2.2.2.2.1
  have hl : lv_has ls 1 [(0, .ref (g.2.2 (k0)))] := hl
  unfold f_X10_factCount at hF
  refine lv_aload_n hx hb dX10_factCount_0 rfl (lv_at hl 0 rfl) ?_
  refine lv_iconst (v := (0 : Int32)) hx hb dX10_factCount_1 (by decide) ?_
  obtain ⟨w1, h1, hF⟩ := ob hF
  refine w_puti X hH h1 hk0 fs_10_0 nf_10_0 lk_10_85 dX10_factCount_2 (fun H locs hH => ?_)
  refine lv_aload_n hx hb dX10_factCount_5 rfl (lv_at hl 0 rfl) ?_
  obtain ⟨x2, h2, hF⟩ := ob hF
  refine w_callV (As := []) (k := k0) (rest := []) (st1 := [.int (x2)]) X hH (c_X10_facts (l := l) (g := g) (w := w1) (k0 := k0) h2 hk0) (Or.inl tw_6_157) ms_X10_facts im_X10_facts hk0 cn_10 ⟨Nat.le_of_ble_eq_true rfl, Nat.le_of_ble_eq_true rfl⟩ rfl rfl hl.1 (Nat.le_of_ble_eq_true rfl) dX10_factCount_6 ⟨Nat.le_refl _, Nat.le_refl _⟩ rfl (fun H locs hH => ?_)
  obtain ⟨rfl, rfl⟩ := se2 hF
  exact w_iret X hH hr dX10_factCount_9

theorem dX10_roundCount_0 : decode cX10_roundCount 0 = .ok (.aload_n 0, 1) := by decide +kernel
theorem dX10_roundCount_1 : decode cX10_roundCount 1 = .ok (.iconst 0, 1) := by decide +kernel
theorem dX10_roundCount_2 : decode cX10_roundCount 2 = .ok (.putfield 85, 3) := by decide +kernel
theorem dX10_roundCount_5 : decode cX10_roundCount 5 = .ok (.aload_n 0, 1) := by decide +kernel
theorem dX10_roundCount_6 : decode cX10_roundCount 6 = .ok (.getfield 248, 3) := by decide +kernel
theorem dX10_roundCount_9 : decode cX10_roundCount 9 = .ok (.ireturn, 1) := by decide +kernel
set_option maxHeartbeats 4000000 in
set_option maxRecDepth 100000 in
theorem c_X10_roundCount {l : Launch} {g : Gh} {w : Wd} {k0 : Nat} {rz : Int32} {wz : Wd} (hF : f_X10_roundCount w k0 = some (rz, wz)) (hk0 : zct zM k0 = 10) : Met l yX10_roundCount (Cond.code yX10_roundCount cX10_roundCount 1 (some .int) :: TT) (rmd 0) (Pcw zM g w [.ref (g.2.2 k0)]) (Qw zM g wz (some (.int (rz)))) 0 0 (zA zM g) := by
  refine mt_start (by decide) (Nat.le_of_ble_eq_true rfl) ?_
  intro p e s m args below meth c H locs ls X hr hl hH
  have hx := X.1
  have hb := X.2.1
  have hml := X.2.2.1
  have hown := X.2.2.2.1
  have ht := X.2.2.2.2.1
  have hl : lv_has ls 1 [(0, .ref (g.2.2 (k0)))] := hl
  unfold f_X10_roundCount at hF
  refine lv_aload_n hx hb dX10_roundCount_0 rfl (lv_at hl 0 rfl) ?_
  refine lv_iconst (v := (0 : Int32)) hx hb dX10_roundCount_1 (by decide) ?_
  obtain ⟨w1, h1, hF⟩ := ob hF
  refine w_puti X hH h1 hk0 fs_10_0 nf_10_0 lk_10_85 dX10_roundCount_2 (fun H locs hH => ?_)
  refine lv_aload_n hx hb dX10_roundCount_5 rfl (lv_at hl 0 rfl) ?_
  refine w_geti X hH hk0 fs_10_27 lk_10_248 dX10_roundCount_6 ?_
  obtain ⟨rfl, rfl⟩ := se2 hF
  exact w_iret X hH hr dX10_roundCount_9

theorem dX10_pointsTo_0 : decode cX10_pointsTo 0 = .ok (.aload_n 0, 1) := by decide +kernel
theorem dX10_pointsTo_1 : decode cX10_pointsTo 1 = .ok (.iconst 0, 1) := by decide +kernel
theorem dX10_pointsTo_2 : decode cX10_pointsTo 2 = .ok (.putfield 85, 3) := by decide +kernel
theorem dX10_pointsTo_5 : decode cX10_pointsTo 5 = .ok (.aload_n 0, 1) := by decide +kernel
theorem dX10_pointsTo_6 : decode cX10_pointsTo 6 = .ok (.iload_n 1, 1) := by decide +kernel
theorem dX10_pointsTo_7 : decode cX10_pointsTo 7 = .ok (.invokevirtual 263, 3) := by decide +kernel
theorem dX10_pointsTo_10 : decode cX10_pointsTo 10 = .ok (.istore_n 2, 1) := by decide +kernel
theorem dX10_pointsTo_11 : decode cX10_pointsTo 11 = .ok (.iload_n 2, 1) := by decide +kernel
theorem dX10_pointsTo_12 : decode cX10_pointsTo 12 = .ok (.ifCond .ge 7, 3) := by decide +kernel
theorem dX10_pointsTo_15 : decode cX10_pointsTo 15 = .ok (.iconst (-1), 1) := by decide +kernel
theorem dX10_pointsTo_16 : decode cX10_pointsTo 16 = .ok (.goto 9, 3) := by decide +kernel
theorem dX10_pointsTo_19 : decode cX10_pointsTo 19 = .ok (.aload_n 0, 1) := by decide +kernel
theorem dX10_pointsTo_20 : decode cX10_pointsTo 20 = .ok (.getfield 55, 3) := by decide +kernel
theorem dX10_pointsTo_23 : decode cX10_pointsTo 23 = .ok (.iload_n 2, 1) := by decide +kernel
theorem dX10_pointsTo_24 : decode cX10_pointsTo 24 = .ok (.iaload, 1) := by decide +kernel
theorem dX10_pointsTo_25 : decode cX10_pointsTo 25 = .ok (.ireturn, 1) := by decide +kernel
set_option maxHeartbeats 4000000 in
set_option maxRecDepth 100000 in
theorem c_X10_pointsTo {l : Launch} {g : Gh} {w : Wd} {k0 : Nat} {v_location : Int32} {rz : Int32} {wz : Wd} (hF : f_X10_pointsTo w k0 v_location = some (rz, wz)) (hk0 : zct zM k0 = 10) : Met l yX10_pointsTo (Cond.code yX10_pointsTo cX10_pointsTo 3 (some .int) :: TT) (rmd 3) (Pcw zM g w [.ref (g.2.2 k0), .int (v_location)]) (Qw zM g wz (some (.int (rz)))) 0 0 (zA zM g) := by
  refine mt_start (by decide) (Nat.le_of_ble_eq_true rfl) ?_
  intro p e s m args below meth c H locs ls X hr hl hH
  have hx := X.1
  have hb := X.2.1
  have hml := X.2.2.1
  have hown := X.2.2.2.1
  have ht := X.2.2.2.2.1
  have hl : lv_has ls 3 [(0, .ref (g.2.2 (k0))), (1, .int (v_location))] := hl
  unfold f_X10_pointsTo at hF
  refine lv_aload_n hx hb dX10_pointsTo_0 rfl (lv_at hl 0 rfl) ?_
  refine lv_iconst (v := (0 : Int32)) hx hb dX10_pointsTo_1 (by decide) ?_
  obtain ⟨w1, h1, hF⟩ := ob hF
  refine w_puti X hH h1 hk0 fs_10_0 nf_10_0 lk_10_85 dX10_pointsTo_2 (fun H locs hH => ?_)
  refine lv_aload_n hx hb dX10_pointsTo_5 rfl (lv_at hl 0 rfl) ?_
  refine lv_iload_n hx hb dX10_pointsTo_6 rfl (lv_at hl 1 rfl) ?_
  obtain ⟨x2, h2, hF⟩ := ob hF
  refine w_callV (As := [.int (v_location)]) (k := k0) (rest := []) (st1 := [.int (x2)]) X hH (c_X10_indexOf (l := l) (g := g) (w := w1) (k0 := k0) (v_location := v_location) h2 hk0) (Or.inl tw_6_172) ms_X10_indexOf im_X10_indexOf hk0 cn_10 ⟨Nat.le_of_ble_eq_true rfl, Nat.le_of_ble_eq_true rfl⟩ rfl rfl hl.1 (Nat.le_of_ble_eq_true rfl) dX10_pointsTo_7 ⟨Nat.le_refl _, Nat.le_refl _⟩ rfl (fun H locs hH => ?_)
  refine lv_istore_n (lv' := [(2, .int (x2)), (0, .ref (g.2.2 (k0))), (1, .int (v_location))]) hx hb dX10_pointsTo_10 rfl hl (by decide) rfl (fun ls hl => ?_)
  obtain ⟨x4, hx4, hF⟩ := ob hF
  have J3 : ∀ (H : Heap) (locs : List Loc), HW zM g w1 s.heap H locs → W p l e (rmd 3) s m args below meth c H locs 0 0 (MQ below (Qw zM g wz (some (.int (rz)))) args s 0 0 (zA zM g)) (F0 m 25 ls [.int (x4)]) := by
    intro H locs hH
    obtain ⟨rfl, rfl⟩ := se2 hF
    exact w_iret X hH hr dX10_pointsTo_25
  have hF := hx4
  refine lv_iload_n hx hb dX10_pointsTo_11 rfl (lv_at hl 0 rfl) ?_
  refine w_zlt_f (tgt := 19) hx hb dX10_pointsTo_12 (by decide) (fun c5 => ?_) (fun c5 => ?_)
  · replace hF := ifn c5 hF
    refine lv_aload_n hx hb dX10_pointsTo_19 rfl (lv_at hl 1 rfl) ?_
    refine w_getr X hH hk0 fs_10_24 lk_10_55 dX10_pointsTo_20 ?_
    refine lv_iload_n hx hb dX10_pointsTo_23 rfl (lv_at hl 0 rfl) ?_
    obtain ⟨x6, h6, hF⟩ := ob hF
    refine w_iald X hH h6 (rt_M_10_24 hk0) dX10_pointsTo_24 ?_
    obtain rfl := se1 hF
    exact J3 _ _ hH
  · replace hF := ifp c5 hF
    refine lv_iconst (v := (-1 : Int32)) hx hb dX10_pointsTo_15 (by decide) ?_
    refine lv_goto (tgt := 25) hx hb dX10_pointsTo_16 (by decide) ?_
    obtain rfl := se1 hF
    exact J3 _ _ hH

theorem dX10_pointersTo_0 : decode cX10_pointersTo 0 = .ok (.aload_n 0, 1) := by decide +kernel
theorem dX10_pointersTo_1 : decode cX10_pointersTo 1 = .ok (.iconst 0, 1) := by decide +kernel
theorem dX10_pointersTo_2 : decode cX10_pointersTo 2 = .ok (.putfield 85, 3) := by decide +kernel
theorem dX10_pointersTo_5 : decode cX10_pointersTo 5 = .ok (.aload_n 0, 1) := by decide +kernel
theorem dX10_pointersTo_6 : decode cX10_pointersTo 6 = .ok (.iload_n 1, 1) := by decide +kernel
theorem dX10_pointersTo_7 : decode cX10_pointersTo 7 = .ok (.invokevirtual 222, 3) := by decide +kernel
theorem dX10_pointersTo_10 : decode cX10_pointersTo 10 = .ok (.ifCond .ne 5, 3) := by decide +kernel
theorem dX10_pointersTo_13 : decode cX10_pointersTo 13 = .ok (.iconst (-1), 1) := by decide +kernel
theorem dX10_pointersTo_14 : decode cX10_pointersTo 14 = .ok (.ireturn, 1) := by decide +kernel
theorem dX10_pointersTo_15 : decode cX10_pointersTo 15 = .ok (.iconst 0, 1) := by decide +kernel
theorem dX10_pointersTo_16 : decode cX10_pointersTo 16 = .ok (.istore_n 2, 1) := by decide +kernel
theorem dX10_pointersTo_17 : decode cX10_pointersTo 17 = .ok (.iconst 0, 1) := by decide +kernel
theorem dX10_pointersTo_18 : decode cX10_pointersTo 18 = .ok (.istore_n 3, 1) := by decide +kernel
theorem dX10_pointersTo_19 : decode cX10_pointersTo 19 = .ok (.iload_n 3, 1) := by decide +kernel
theorem dX10_pointersTo_20 : decode cX10_pointersTo 20 = .ok (.aload_n 0, 1) := by decide +kernel
theorem dX10_pointersTo_21 : decode cX10_pointersTo 21 = .ok (.getfield 13, 3) := by decide +kernel
theorem dX10_pointersTo_24 : decode cX10_pointersTo 24 = .ok (.iconst 0, 1) := by decide +kernel
theorem dX10_pointersTo_25 : decode cX10_pointersTo 25 = .ok (.iaload, 1) := by decide +kernel
theorem dX10_pointersTo_26 : decode cX10_pointersTo 26 = .ok (.if_icmp .ge 32, 3) := by decide +kernel
theorem dX10_pointersTo_29 : decode cX10_pointersTo 29 = .ok (.iload_n 2, 1) := by decide +kernel
theorem dX10_pointersTo_30 : decode cX10_pointersTo 30 = .ok (.aload_n 0, 1) := by decide +kernel
theorem dX10_pointersTo_31 : decode cX10_pointersTo 31 = .ok (.getfield 55, 3) := by decide +kernel
theorem dX10_pointersTo_34 : decode cX10_pointersTo 34 = .ok (.iload_n 3, 1) := by decide +kernel
theorem dX10_pointersTo_35 : decode cX10_pointersTo 35 = .ok (.iaload, 1) := by decide +kernel
theorem dX10_pointersTo_36 : decode cX10_pointersTo 36 = .ok (.iload_n 1, 1) := by decide +kernel
theorem dX10_pointersTo_37 : decode cX10_pointersTo 37 = .ok (.invokestatic 210, 3) := by decide +kernel
theorem dX10_pointersTo_40 : decode cX10_pointersTo 40 = .ok (.ifCond .eq 9, 3) := by decide +kernel
theorem dX10_pointersTo_43 : decode cX10_pointersTo 43 = .ok (.iconst 1, 1) := by decide +kernel
theorem dX10_pointersTo_44 : decode cX10_pointersTo 44 = .ok (.iload_n 3, 1) := by decide +kernel
theorem dX10_pointersTo_45 : decode cX10_pointersTo 45 = .ok (.ishl, 1) := by decide +kernel
theorem dX10_pointersTo_46 : decode cX10_pointersTo 46 = .ok (.goto 4, 3) := by decide +kernel
theorem dX10_pointersTo_49 : decode cX10_pointersTo 49 = .ok (.iconst 0, 1) := by decide +kernel
theorem dX10_pointersTo_50 : decode cX10_pointersTo 50 = .ok (.ior, 1) := by decide +kernel
theorem dX10_pointersTo_51 : decode cX10_pointersTo 51 = .ok (.istore_n 2, 1) := by decide +kernel
theorem dX10_pointersTo_52 : decode cX10_pointersTo 52 = .ok (.iinc 3 1, 3) := by decide +kernel
theorem dX10_pointersTo_55 : decode cX10_pointersTo 55 = .ok (.goto (-36), 3) := by decide +kernel
theorem dX10_pointersTo_58 : decode cX10_pointersTo 58 = .ok (.iload_n 2, 1) := by decide +kernel
theorem dX10_pointersTo_59 : decode cX10_pointersTo 59 = .ok (.ireturn, 1) := by decide +kernel
set_option maxHeartbeats 4000000 in
set_option maxRecDepth 100000 in
theorem c_X10_pointersTo {l : Launch} {g : Gh} {w : Wd} {k0 : Nat} {v_o : Int32} {rz : Int32} {wz : Wd} (hF : f_X10_pointersTo w k0 v_o = some (rz, wz)) (hk0 : zct zM k0 = 10) : Met l yX10_pointersTo (Cond.code yX10_pointersTo cX10_pointersTo 4 (some .int) :: TT) (rmd 2) (Pcw zM g w [.ref (g.2.2 k0), .int (v_o)]) (Qw zM g wz (some (.int (rz)))) 0 0 (zA zM g) := by
  refine mt_start (by decide) (Nat.le_of_ble_eq_true rfl) ?_
  intro p e s m args below meth c H locs ls X hr hl hH
  have hx := X.1
  have hb := X.2.1
  have hml := X.2.2.1
  have hown := X.2.2.2.1
  have ht := X.2.2.2.2.1
  have hl : lv_has ls 4 [(0, .ref (g.2.2 (k0))), (1, .int (v_o))] := hl
  unfold f_X10_pointersTo at hF
  refine lv_aload_n hx hb dX10_pointersTo_0 rfl (lv_at hl 0 rfl) ?_
  refine lv_iconst (v := (0 : Int32)) hx hb dX10_pointersTo_1 (by decide) ?_
  obtain ⟨w1, h1, hF⟩ := ob hF
  refine w_puti X hH h1 hk0 fs_10_0 nf_10_0 lk_10_85 dX10_pointersTo_2 (fun H locs hH => ?_)
  refine lv_aload_n hx hb dX10_pointersTo_5 rfl (lv_at hl 0 rfl) ?_
  refine lv_iload_n hx hb dX10_pointersTo_6 rfl (lv_at hl 1 rfl) ?_
  obtain ⟨x2, h2, hF⟩ := ob hF
  refine w_callV (As := [.int (v_o)]) (k := k0) (rest := []) (st1 := [.int (bI (x2))]) X hH (c_X10_isObject (l := l) (g := g) (w := w1) (k0 := k0) (v_o := v_o) h2 hk0) (Or.inl tw_6_145) ms_X10_isObject im_X10_isObject hk0 cn_10 ⟨Nat.le_of_ble_eq_true rfl, Nat.le_of_ble_eq_true rfl⟩ rfl rfl hl.1 (Nat.le_of_ble_eq_true rfl) dX10_pointersTo_7 ⟨Nat.le_refl _, Nat.le_refl _⟩ rfl (fun H locs hH => ?_)
  refine w_b_t (tgt := 15) hx hb dX10_pointersTo_10 (by decide) (fun c3 => ?_) (fun c3 => ?_)
  · replace hF := ifn (fun z => z c3) hF
    refine lv_iconst (v := (0 : Int32)) hx hb dX10_pointersTo_15 (by decide) ?_
    refine lv_istore_n (lv' := [(2, .int ((0 : Int32))), (0, .ref (g.2.2 (k0))), (1, .int (v_o))]) hx hb dX10_pointersTo_16 rfl hl (by decide) rfl (fun ls hl => ?_)
    refine lv_iconst (v := (0 : Int32)) hx hb dX10_pointersTo_17 (by decide) ?_
    refine lv_istore_n (lv' := [(3, .int ((0 : Int32))), (2, .int ((0 : Int32))), (0, .ref (g.2.2 (k0))), (1, .int (v_o))]) hx hb dX10_pointersTo_18 rfl hl (by decide) rfl (fun ls hl => ?_)
    obtain ⟨r5, hLr5, hF⟩ := ob hF
    have Jr5 : ∀ (H : Heap) (locs : List Loc) (ls : Array Slot), HW zM g w1 s.heap H locs → lv_has ls 4 [(0, .ref (g.2.2 (k0))), (1, .int (v_o)), (2, .int (r5))] → W p l e (rmd 2) s m args below meth c H locs 0 0 (MQ below (Qw zM g wz (some (.int (rz)))) args s 0 0 (zA zM g)) (F0 m 58 ls []) := by
      intro H locs ls hH hl
      refine lv_iload_n hx hb dX10_pointersTo_58 rfl (lv_at hl 2 rfl) ?_
      obtain ⟨rfl, rfl⟩ := se2 hF
      exact w_iret X hH hr dX10_pointersTo_59
    have Lr5 : ∀ (n : Nat) (s4 : Int32 × Int32), lp (b_X10_pointersTo_1 w1 k0 v_o) n s4 = some r5 → ∀ (H : Heap) (locs : List Loc) (ls : Array Slot), HW zM g w1 s.heap H locs → lv_has ls 4 [(0, .ref (g.2.2 (k0))), (1, .int (v_o)), (2, .int (s4.1)), (3, .int (s4.2))] → W p l e (rmd 2) s m args below meth c H locs 0 0 (MQ below (Qw zM g wz (some (.int (rz)))) args s 0 0 (zA zM g)) (F0 m 19 ls []) := by
      intro n
      induction n with
      | zero => intro s4 hL; exact lp_0 hL
      | succ n ih =>
        intro s4 hL H locs ls hH hl
        obtain ⟨bb, hF, hL⟩ := lp_s hL
        unfold b_X10_pointersTo_1 at hF
        refine lv_iload_n hx hb dX10_pointersTo_19 rfl (lv_at hl 3 rfl) ?_
        refine lv_aload_n hx hb dX10_pointersTo_20 rfl (lv_at hl 0 rfl) ?_
        refine w_getr X hH hk0 fs_10_10 lk_10_13 dX10_pointersTo_21 ?_
        refine lv_iconst (v := (0 : Int32)) hx hb dX10_pointersTo_24 (by decide) ?_
        obtain ⟨x6, h6, hF⟩ := ob hF
        refine w_iald X hH h6 (rt_M_10_10 hk0) dX10_pointersTo_25 ?_
        refine w_ilt_f (tgt := 58) hx hb dX10_pointersTo_26 (by decide) (fun c7 => ?_) (fun c7 => ?_)
        · replace hF := ifn c7 hF
          obtain rfl := se1 hF
          subst hL
          exact Jr5 _ _ _ hH (lv_sub hl [0, 1, 2] rfl)
        · replace hF := ifp c7 hF
          refine lv_iload_n hx hb dX10_pointersTo_29 rfl (lv_at hl 2 rfl) ?_
          refine lv_aload_n hx hb dX10_pointersTo_30 rfl (lv_at hl 0 rfl) ?_
          refine w_getr X hH hk0 fs_10_24 lk_10_55 dX10_pointersTo_31 ?_
          refine lv_iload_n hx hb dX10_pointersTo_34 rfl (lv_at hl 3 rfl) ?_
          obtain ⟨x9, h9, hF⟩ := ob hF
          refine w_iald X hH h9 (rt_M_10_24 hk0) dX10_pointersTo_35 ?_
          refine lv_iload_n hx hb dX10_pointersTo_36 rfl (lv_at hl 1 rfl) ?_
          refine w_callS (As := [.int (x9), .int (v_o)]) (rest := [.int (s4.1)]) (st1 := [.int (bI ((f_X10_has (x9) (v_o)))), .int (s4.1)]) X hH (c_X10_has (l := l) (g := g) (w := w1) (v_set := x9) (v_k := v_o) rfl) (Or.inl tw_5_41) ms_X10_has tw_5_42 ⟨Nat.le_of_ble_eq_true rfl, Nat.le_of_ble_eq_true rfl⟩ rfl rfl hl.1 (Nat.le_of_ble_eq_true rfl) dX10_pointersTo_37 ⟨Nat.le_refl _, Nat.le_refl _⟩ rfl (fun H locs hH => ?_)
          have J8 : ∀ (H : Heap) (locs : List Loc), HW zM g w1 s.heap H locs → W p l e (rmd 2) s m args below meth c H locs 0 0 (MQ below (Qw zM g wz (some (.int (rz)))) args s 0 0 (zA zM g)) (F0 m 50 ls [.int ((if (f_X10_has (x9) (v_o)) = true then (jshl ((1 : Int32)) (s4.2)) else (0 : Int32))), .int (s4.1)]) := by
            intro H locs hH
            refine lv_ior hx hb dX10_pointersTo_50 ?_
            refine lv_istore_n (lv' := [(2, .int ((s4.1 ||| (if (f_X10_has (x9) (v_o)) = true then (jshl ((1 : Int32)) (s4.2)) else (0 : Int32))))), (0, .ref (g.2.2 (k0))), (1, .int (v_o)), (3, .int (s4.2))]) hx hb dX10_pointersTo_51 rfl hl (by decide) rfl (fun ls hl => ?_)
            refine lv_iinc (v := (s4.2 + (1 : Int32))) (lv' := [(3, .int ((s4.2 + (1 : Int32)))), (2, .int ((s4.1 ||| (if (f_X10_has (x9) (v_o)) = true then (jshl ((1 : Int32)) (s4.2)) else (0 : Int32))))), (0, .ref (g.2.2 (k0))), (1, .int (v_o))]) hx hb dX10_pointersTo_52 hl (k := 3) rfl rfl (by decide) rfl (fun ls hl => ?_)
            refine lv_goto (tgt := 19) hx hb dX10_pointersTo_55 (by decide) ?_
            obtain rfl := se1 hF
            exact ih _ hL _ _ _ hH (lv_sub hl [2, 3, 1, 0] rfl)
          refine w_b_f (tgt := 49) hx hb dX10_pointersTo_40 (by decide) (fun c10 => ?_) (fun c10 => ?_)
          · refine lv_iconst (v := (0 : Int32)) hx hb dX10_pointersTo_49 (by decide) ?_
            exact w_in c10 (J8 _ _ hH)
          · refine lv_iconst (v := (1 : Int32)) hx hb dX10_pointersTo_43 (by decide) ?_
            refine lv_iload_n hx hb dX10_pointersTo_44 rfl (lv_at hl 3 rfl) ?_
            refine w_ishl hx hb dX10_pointersTo_45 ?_
            refine lv_goto (tgt := 50) hx hb dX10_pointersTo_46 (by decide) ?_
            exact w_ip c10 (J8 _ _ hH)
    exact Lr5 NF _ hLr5 _ _ _ hH (lv_sub hl [2, 3, 1, 0] rfl)
  · replace hF := ifp c3 hF
    refine lv_iconst (v := (-1 : Int32)) hx hb dX10_pointersTo_13 (by decide) ?_
    obtain ⟨rfl, rfl⟩ := se2 hF
    exact w_iret X hH hr dX10_pointersTo_14

theorem dX10_commonObjects_0 : decode cX10_commonObjects 0 = .ok (.aload_n 0, 1) := by decide +kernel
theorem dX10_commonObjects_1 : decode cX10_commonObjects 1 = .ok (.iconst 0, 1) := by decide +kernel
theorem dX10_commonObjects_2 : decode cX10_commonObjects 2 = .ok (.putfield 85, 3) := by decide +kernel
theorem dX10_commonObjects_5 : decode cX10_commonObjects 5 = .ok (.aload_n 0, 1) := by decide +kernel
theorem dX10_commonObjects_6 : decode cX10_commonObjects 6 = .ok (.iload_n 1, 1) := by decide +kernel
theorem dX10_commonObjects_7 : decode cX10_commonObjects 7 = .ok (.invokevirtual 263, 3) := by decide +kernel
theorem dX10_commonObjects_10 : decode cX10_commonObjects 10 = .ok (.istore_n 3, 1) := by decide +kernel
theorem dX10_commonObjects_11 : decode cX10_commonObjects 11 = .ok (.aload_n 0, 1) := by decide +kernel
theorem dX10_commonObjects_12 : decode cX10_commonObjects 12 = .ok (.iload_n 2, 1) := by decide +kernel
theorem dX10_commonObjects_13 : decode cX10_commonObjects 13 = .ok (.invokevirtual 263, 3) := by decide +kernel
theorem dX10_commonObjects_16 : decode cX10_commonObjects 16 = .ok (.istore 4, 2) := by decide +kernel
theorem dX10_commonObjects_18 : decode cX10_commonObjects 18 = .ok (.iload_n 3, 1) := by decide +kernel
theorem dX10_commonObjects_19 : decode cX10_commonObjects 19 = .ok (.ifCond .lt 8, 3) := by decide +kernel
theorem dX10_commonObjects_22 : decode cX10_commonObjects 22 = .ok (.iload 4, 2) := by decide +kernel
theorem dX10_commonObjects_24 : decode cX10_commonObjects 24 = .ok (.ifCond .ge 7, 3) := by decide +kernel
theorem dX10_commonObjects_27 : decode cX10_commonObjects 27 = .ok (.iconst (-1), 1) := by decide +kernel
theorem dX10_commonObjects_28 : decode cX10_commonObjects 28 = .ok (.goto 17, 3) := by decide +kernel
theorem dX10_commonObjects_31 : decode cX10_commonObjects 31 = .ok (.aload_n 0, 1) := by decide +kernel
theorem dX10_commonObjects_32 : decode cX10_commonObjects 32 = .ok (.getfield 55, 3) := by decide +kernel
theorem dX10_commonObjects_35 : decode cX10_commonObjects 35 = .ok (.iload_n 3, 1) := by decide +kernel
theorem dX10_commonObjects_36 : decode cX10_commonObjects 36 = .ok (.iaload, 1) := by decide +kernel
theorem dX10_commonObjects_37 : decode cX10_commonObjects 37 = .ok (.aload_n 0, 1) := by decide +kernel
theorem dX10_commonObjects_38 : decode cX10_commonObjects 38 = .ok (.getfield 55, 3) := by decide +kernel
theorem dX10_commonObjects_41 : decode cX10_commonObjects 41 = .ok (.iload 4, 2) := by decide +kernel
theorem dX10_commonObjects_43 : decode cX10_commonObjects 43 = .ok (.iaload, 1) := by decide +kernel
theorem dX10_commonObjects_44 : decode cX10_commonObjects 44 = .ok (.iand, 1) := by decide +kernel
theorem dX10_commonObjects_45 : decode cX10_commonObjects 45 = .ok (.ireturn, 1) := by decide +kernel
set_option maxHeartbeats 4000000 in
set_option maxRecDepth 100000 in
theorem c_X10_commonObjects {l : Launch} {g : Gh} {w : Wd} {k0 : Nat} {v_a : Int32} {v_b : Int32} {rz : Int32} {wz : Wd} (hF : f_X10_commonObjects w k0 v_a v_b = some (rz, wz)) (hk0 : zct zM k0 = 10) : Met l yX10_commonObjects (Cond.code yX10_commonObjects cX10_commonObjects 5 (some .int) :: TT) (rmd 3) (Pcw zM g w [.ref (g.2.2 k0), .int (v_a), .int (v_b)]) (Qw zM g wz (some (.int (rz)))) 0 0 (zA zM g) := by
  refine mt_start (by decide) (Nat.le_of_ble_eq_true rfl) ?_
  intro p e s m args below meth c H locs ls X hr hl hH
  have hx := X.1
  have hb := X.2.1
  have hml := X.2.2.1
  have hown := X.2.2.2.1
  have ht := X.2.2.2.2.1
  have hl : lv_has ls 5 [(0, .ref (g.2.2 (k0))), (1, .int (v_a)), (2, .int (v_b))] := hl
  unfold f_X10_commonObjects at hF
  refine lv_aload_n hx hb dX10_commonObjects_0 rfl (lv_at hl 0 rfl) ?_
  refine lv_iconst (v := (0 : Int32)) hx hb dX10_commonObjects_1 (by decide) ?_
  obtain ⟨w1, h1, hF⟩ := ob hF
  refine w_puti X hH h1 hk0 fs_10_0 nf_10_0 lk_10_85 dX10_commonObjects_2 (fun H locs hH => ?_)
  refine lv_aload_n hx hb dX10_commonObjects_5 rfl (lv_at hl 0 rfl) ?_
  refine lv_iload_n hx hb dX10_commonObjects_6 rfl (lv_at hl 1 rfl) ?_
  obtain ⟨x2, h2, hF⟩ := ob hF
  refine w_callV (As := [.int (v_a)]) (k := k0) (rest := []) (st1 := [.int (x2)]) X hH (c_X10_indexOf (l := l) (g := g) (w := w1) (k0 := k0) (v_location := v_a) h2 hk0) (Or.inl tw_6_172) ms_X10_indexOf im_X10_indexOf hk0 cn_10 ⟨Nat.le_of_ble_eq_true rfl, Nat.le_of_ble_eq_true rfl⟩ rfl rfl hl.1 (Nat.le_of_ble_eq_true rfl) dX10_commonObjects_7 ⟨Nat.le_refl _, Nat.le_refl _⟩ rfl (fun H locs hH => ?_)
  refine lv_istore_n (lv' := [(3, .int (x2)), (0, .ref (g.2.2 (k0))), (1, .int (v_a)), (2, .int (v_b))]) hx hb dX10_commonObjects_10 rfl hl (by decide) rfl (fun ls hl => ?_)
  refine lv_aload_n hx hb dX10_commonObjects_11 rfl (lv_at hl 1 rfl) ?_
  refine lv_iload_n hx hb dX10_commonObjects_12 rfl (lv_at hl 3 rfl) ?_
  obtain ⟨x3, h3, hF⟩ := ob hF
  refine w_callV (As := [.int (v_b)]) (k := k0) (rest := []) (st1 := [.int (x3)]) X hH (c_X10_indexOf (l := l) (g := g) (w := w1) (k0 := k0) (v_location := v_b) h3 hk0) (Or.inl tw_6_172) ms_X10_indexOf im_X10_indexOf hk0 cn_10 ⟨Nat.le_of_ble_eq_true rfl, Nat.le_of_ble_eq_true rfl⟩ rfl rfl hl.1 (Nat.le_of_ble_eq_true rfl) dX10_commonObjects_13 ⟨Nat.le_refl _, Nat.le_refl _⟩ rfl (fun H locs hH => ?_)
  refine lv_istore (lv' := [(4, .int (x3)), (3, .int (x2)), (0, .ref (g.2.2 (k0))), (1, .int (v_a)), (2, .int (v_b))]) hx hb dX10_commonObjects_16 hl (by decide) rfl (fun ls hl => ?_)
  obtain ⟨x5, hx5, hF⟩ := ob hF
  have J4 : ∀ (H : Heap) (locs : List Loc), HW zM g w1 s.heap H locs → W p l e (rmd 3) s m args below meth c H locs 0 0 (MQ below (Qw zM g wz (some (.int (rz)))) args s 0 0 (zA zM g)) (F0 m 45 ls [.int (x5)]) := by
    intro H locs hH
    obtain ⟨rfl, rfl⟩ := se2 hF
    exact w_iret X hH hr dX10_commonObjects_45
  have hF := hx5
  refine lv_iload_n hx hb dX10_commonObjects_18 rfl (lv_at hl 1 rfl) ?_
  have J6T : (x2 < (0 : Int32)) ∨ (x3 < (0 : Int32)) → ∀ (H : Heap) (locs : List Loc), HW zM g w1 s.heap H locs → W p l e (rmd 3) s m args below meth c H locs 0 0 (MQ below (Qw zM g wz (some (.int (rz)))) args s 0 0 (zA zM g)) (F0 m 27 ls []) := by
    intro hc H locs hH
    replace hF := ifp hc hF
    refine lv_iconst (v := (-1 : Int32)) hx hb dX10_commonObjects_27 (by decide) ?_
    refine lv_goto (tgt := 45) hx hb dX10_commonObjects_28 (by decide) ?_
    obtain rfl := se1 hF
    exact J4 _ _ hH
  have J6F : ¬ ((x2 < (0 : Int32)) ∨ (x3 < (0 : Int32))) → ∀ (H : Heap) (locs : List Loc), HW zM g w1 s.heap H locs → W p l e (rmd 3) s m args below meth c H locs 0 0 (MQ below (Qw zM g wz (some (.int (rz)))) args s 0 0 (zA zM g)) (F0 m 31 ls []) := by
    intro hc H locs hH
    replace hF := ifn hc hF
    refine lv_aload_n hx hb dX10_commonObjects_31 rfl (lv_at hl 2 rfl) ?_
    refine w_getr X hH hk0 fs_10_24 lk_10_55 dX10_commonObjects_32 ?_
    refine lv_iload_n hx hb dX10_commonObjects_35 rfl (lv_at hl 1 rfl) ?_
    obtain ⟨x9, h9, hF⟩ := ob hF
    refine w_iald X hH h9 (rt_M_10_24 hk0) dX10_commonObjects_36 ?_
    refine lv_aload_n hx hb dX10_commonObjects_37 rfl (lv_at hl 2 rfl) ?_
    refine w_getr X hH hk0 fs_10_24 lk_10_55 dX10_commonObjects_38 ?_
    refine lv_iload hx hb dX10_commonObjects_41 (lv_at hl 0 rfl) ?_
    obtain ⟨x10, h10, hF⟩ := ob hF
    refine w_iald X hH h10 (rt_M_10_24 hk0) dX10_commonObjects_43 ?_
    refine lv_iand hx hb dX10_commonObjects_44 ?_
    obtain rfl := se1 hF
    exact J4 _ _ hH
  refine w_zlt_t (tgt := 27) hx hb dX10_commonObjects_19 (by decide) (fun c7 => ?_) (fun c7 => ?_)
  · exact J6T (Or.inl c7) _ _ hH
  · refine lv_iload hx hb dX10_commonObjects_22 (lv_at hl 0 rfl) ?_
    refine w_zlt_f (tgt := 31) hx hb dX10_commonObjects_24 (by decide) (fun c8 => ?_) (fun c8 => ?_)
    · exact J6F (fun z => z.elim c7 c8) _ _ hH
    · exact J6T (Or.inr c8) _ _ hH

theorem dX10_reachableObjects_0 : decode cX10_reachableObjects 0 = .ok (.aload_n 0, 1) := by decide +kernel
theorem dX10_reachableObjects_1 : decode cX10_reachableObjects 1 = .ok (.iconst 0, 1) := by decide +kernel
theorem dX10_reachableObjects_2 : decode cX10_reachableObjects 2 = .ok (.putfield 85, 3) := by decide +kernel
theorem dX10_reachableObjects_5 : decode cX10_reachableObjects 5 = .ok (.aload_n 0, 1) := by decide +kernel
theorem dX10_reachableObjects_6 : decode cX10_reachableObjects 6 = .ok (.iload_n 1, 1) := by decide +kernel
theorem dX10_reachableObjects_7 : decode cX10_reachableObjects 7 = .ok (.invokevirtual 222, 3) := by decide +kernel
theorem dX10_reachableObjects_10 : decode cX10_reachableObjects 10 = .ok (.ifCond .ne 5, 3) := by decide +kernel
theorem dX10_reachableObjects_13 : decode cX10_reachableObjects 13 = .ok (.iconst (-1), 1) := by decide +kernel
theorem dX10_reachableObjects_14 : decode cX10_reachableObjects 14 = .ok (.ireturn, 1) := by decide +kernel
theorem dX10_reachableObjects_15 : decode cX10_reachableObjects 15 = .ok (.iconst 1, 1) := by decide +kernel
theorem dX10_reachableObjects_16 : decode cX10_reachableObjects 16 = .ok (.iload_n 1, 1) := by decide +kernel
theorem dX10_reachableObjects_17 : decode cX10_reachableObjects 17 = .ok (.ishl, 1) := by decide +kernel
theorem dX10_reachableObjects_18 : decode cX10_reachableObjects 18 = .ok (.istore_n 2, 1) := by decide +kernel
theorem dX10_reachableObjects_19 : decode cX10_reachableObjects 19 = .ok (.iconst 0, 1) := by decide +kernel
theorem dX10_reachableObjects_20 : decode cX10_reachableObjects 20 = .ok (.istore_n 3, 1) := by decide +kernel
theorem dX10_reachableObjects_21 : decode cX10_reachableObjects 21 = .ok (.iload_n 2, 1) := by decide +kernel
theorem dX10_reachableObjects_22 : decode cX10_reachableObjects 22 = .ok (.iload_n 3, 1) := by decide +kernel
theorem dX10_reachableObjects_23 : decode cX10_reachableObjects 23 = .ok (.if_icmp .eq 76, 3) := by decide +kernel
theorem dX10_reachableObjects_26 : decode cX10_reachableObjects 26 = .ok (.iload_n 2, 1) := by decide +kernel
theorem dX10_reachableObjects_27 : decode cX10_reachableObjects 27 = .ok (.istore_n 3, 1) := by decide +kernel
theorem dX10_reachableObjects_28 : decode cX10_reachableObjects 28 = .ok (.iconst 0, 1) := by decide +kernel
theorem dX10_reachableObjects_29 : decode cX10_reachableObjects 29 = .ok (.istore 4, 2) := by decide +kernel
theorem dX10_reachableObjects_31 : decode cX10_reachableObjects 31 = .ok (.iload 4, 2) := by decide +kernel
theorem dX10_reachableObjects_33 : decode cX10_reachableObjects 33 = .ok (.aload_n 0, 1) := by decide +kernel
theorem dX10_reachableObjects_34 : decode cX10_reachableObjects 34 = .ok (.getfield 17, 3) := by decide +kernel
theorem dX10_reachableObjects_37 : decode cX10_reachableObjects 37 = .ok (.iconst 0, 1) := by decide +kernel
theorem dX10_reachableObjects_38 : decode cX10_reachableObjects 38 = .ok (.iaload, 1) := by decide +kernel
theorem dX10_reachableObjects_39 : decode cX10_reachableObjects 39 = .ok (.if_icmp .ge 57, 3) := by decide +kernel
theorem dX10_reachableObjects_42 : decode cX10_reachableObjects 42 = .ok (.iconst 0, 1) := by decide +kernel
theorem dX10_reachableObjects_43 : decode cX10_reachableObjects 43 = .ok (.istore 5, 2) := by decide +kernel
theorem dX10_reachableObjects_45 : decode cX10_reachableObjects 45 = .ok (.iload 5, 2) := by decide +kernel
theorem dX10_reachableObjects_47 : decode cX10_reachableObjects 47 = .ok (.aload_n 0, 1) := by decide +kernel
theorem dX10_reachableObjects_48 : decode cX10_reachableObjects 48 = .ok (.getfield 20, 3) := by decide +kernel
theorem dX10_reachableObjects_51 : decode cX10_reachableObjects 51 = .ok (.iconst 0, 1) := by decide +kernel
theorem dX10_reachableObjects_52 : decode cX10_reachableObjects 52 = .ok (.iaload, 1) := by decide +kernel
theorem dX10_reachableObjects_53 : decode cX10_reachableObjects 53 = .ok (.if_icmp .ge 37, 3) := by decide +kernel
theorem dX10_reachableObjects_56 : decode cX10_reachableObjects 56 = .ok (.iload_n 2, 1) := by decide +kernel
theorem dX10_reachableObjects_57 : decode cX10_reachableObjects 57 = .ok (.iload_n 3, 1) := by decide +kernel
theorem dX10_reachableObjects_58 : decode cX10_reachableObjects 58 = .ok (.iload 4, 2) := by decide +kernel
theorem dX10_reachableObjects_60 : decode cX10_reachableObjects 60 = .ok (.invokestatic 210, 3) := by decide +kernel
theorem dX10_reachableObjects_63 : decode cX10_reachableObjects 63 = .ok (.ifCond .eq 18, 3) := by decide +kernel
theorem dX10_reachableObjects_66 : decode cX10_reachableObjects 66 = .ok (.aload_n 0, 1) := by decide +kernel
theorem dX10_reachableObjects_67 : decode cX10_reachableObjects 67 = .ok (.getfield 55, 3) := by decide +kernel
theorem dX10_reachableObjects_70 : decode cX10_reachableObjects 70 = .ok (.iload 4, 2) := by decide +kernel
theorem dX10_reachableObjects_72 : decode cX10_reachableObjects 72 = .ok (.iload 5, 2) := by decide +kernel
theorem dX10_reachableObjects_74 : decode cX10_reachableObjects 74 = .ok (.invokestatic 244, 3) := by decide +kernel
theorem dX10_reachableObjects_77 : decode cX10_reachableObjects 77 = .ok (.iaload, 1) := by decide +kernel
theorem dX10_reachableObjects_78 : decode cX10_reachableObjects 78 = .ok (.goto 4, 3) := by decide +kernel
theorem dX10_reachableObjects_81 : decode cX10_reachableObjects 81 = .ok (.iconst 0, 1) := by decide +kernel
theorem dX10_reachableObjects_82 : decode cX10_reachableObjects 82 = .ok (.ior, 1) := by decide +kernel
theorem dX10_reachableObjects_83 : decode cX10_reachableObjects 83 = .ok (.istore_n 2, 1) := by decide +kernel
theorem dX10_reachableObjects_84 : decode cX10_reachableObjects 84 = .ok (.iinc 5 1, 3) := by decide +kernel
theorem dX10_reachableObjects_87 : decode cX10_reachableObjects 87 = .ok (.goto (-42), 3) := by decide +kernel
theorem dX10_reachableObjects_90 : decode cX10_reachableObjects 90 = .ok (.iinc 4 1, 3) := by decide +kernel
theorem dX10_reachableObjects_93 : decode cX10_reachableObjects 93 = .ok (.goto (-62), 3) := by decide +kernel
theorem dX10_reachableObjects_96 : decode cX10_reachableObjects 96 = .ok (.goto (-75), 3) := by decide +kernel
theorem dX10_reachableObjects_99 : decode cX10_reachableObjects 99 = .ok (.iload_n 2, 1) := by decide +kernel
theorem dX10_reachableObjects_100 : decode cX10_reachableObjects 100 = .ok (.ireturn, 1) := by decide +kernel
set_option maxHeartbeats 4000000 in
set_option maxRecDepth 100000 in
theorem c_X10_reachableObjects {l : Launch} {g : Gh} {w : Wd} {k0 : Nat} {v_object : Int32} {rz : Int32} {wz : Wd} (hF : f_X10_reachableObjects w k0 v_object = some (rz, wz)) (hk0 : zct zM k0 = 10) : Met l yX10_reachableObjects (Cond.code yX10_reachableObjects cX10_reachableObjects 6 (some .int) :: TT) (rmd 2) (Pcw zM g w [.ref (g.2.2 k0), .int (v_object)]) (Qw zM g wz (some (.int (rz)))) 0 0 (zA zM g) := by
  refine mt_start (by decide) (Nat.le_of_ble_eq_true rfl) ?_
  intro p e s m args below meth c H locs ls X hr hl hH
  have hx := X.1
  have hb := X.2.1
  have hml := X.2.2.1
  have hown := X.2.2.2.1
  have ht := X.2.2.2.2.1
  have hl : lv_has ls 6 [(0, .ref (g.2.2 (k0))), (1, .int (v_object))] := hl
  unfold f_X10_reachableObjects at hF
  refine lv_aload_n hx hb dX10_reachableObjects_0 rfl (lv_at hl 0 rfl) ?_
  refine lv_iconst (v := (0 : Int32)) hx hb dX10_reachableObjects_1 (by decide) ?_
  obtain ⟨w1, h1, hF⟩ := ob hF
  refine w_puti X hH h1 hk0 fs_10_0 nf_10_0 lk_10_85 dX10_reachableObjects_2 (fun H locs hH => ?_)
  refine lv_aload_n hx hb dX10_reachableObjects_5 rfl (lv_at hl 0 rfl) ?_
  refine lv_iload_n hx hb dX10_reachableObjects_6 rfl (lv_at hl 1 rfl) ?_
  obtain ⟨x2, h2, hF⟩ := ob hF
  refine w_callV (As := [.int (v_object)]) (k := k0) (rest := []) (st1 := [.int (bI (x2))]) X hH (c_X10_isObject (l := l) (g := g) (w := w1) (k0 := k0) (v_o := v_object) h2 hk0) (Or.inl tw_6_145) ms_X10_isObject im_X10_isObject hk0 cn_10 ⟨Nat.le_of_ble_eq_true rfl, Nat.le_of_ble_eq_true rfl⟩ rfl rfl hl.1 (Nat.le_of_ble_eq_true rfl) dX10_reachableObjects_7 ⟨Nat.le_refl _, Nat.le_refl _⟩ rfl (fun H locs hH => ?_)
  refine w_b_t (tgt := 15) hx hb dX10_reachableObjects_10 (by decide) (fun c3 => ?_) (fun c3 => ?_)
  · replace hF := ifn (fun z => z c3) hF
    refine lv_iconst (v := (1 : Int32)) hx hb dX10_reachableObjects_15 (by decide) ?_
    refine lv_iload_n hx hb dX10_reachableObjects_16 rfl (lv_at hl 1 rfl) ?_
    refine w_ishl hx hb dX10_reachableObjects_17 ?_
    refine lv_istore_n (lv' := [(2, .int ((jshl ((1 : Int32)) (v_object)))), (0, .ref (g.2.2 (k0))), (1, .int (v_object))]) hx hb dX10_reachableObjects_18 rfl hl (by decide) rfl (fun ls hl => ?_)
    refine lv_iconst (v := (0 : Int32)) hx hb dX10_reachableObjects_19 (by decide) ?_
    refine lv_istore_n (lv' := [(3, .int ((0 : Int32))), (2, .int ((jshl ((1 : Int32)) (v_object)))), (0, .ref (g.2.2 (k0))), (1, .int (v_object))]) hx hb dX10_reachableObjects_20 rfl hl (by decide) rfl (fun ls hl => ?_)
    obtain ⟨r5, hLr5, hF⟩ := ob hF
    have Jr5 : ∀ (H : Heap) (locs : List Loc) (ls : Array Slot), HW zM g w1 s.heap H locs → lv_has ls 6 [(0, .ref (g.2.2 (k0))), (1, .int (v_object)), (2, .int (r5.1)), (3, .int (r5.2))] → W p l e (rmd 2) s m args below meth c H locs 0 0 (MQ below (Qw zM g wz (some (.int (rz)))) args s 0 0 (zA zM g)) (F0 m 99 ls []) := by
      intro H locs ls hH hl
      refine lv_iload_n hx hb dX10_reachableObjects_99 rfl (lv_at hl 2 rfl) ?_
      obtain ⟨rfl, rfl⟩ := se2 hF
      exact w_iret X hH hr dX10_reachableObjects_100
    have Lr5 : ∀ (n : Nat) (s4 : Int32 × Int32), lp (b_X10_reachableObjects_1 w1 k0) n s4 = some r5 → ∀ (H : Heap) (locs : List Loc) (ls : Array Slot), HW zM g w1 s.heap H locs → lv_has ls 6 [(0, .ref (g.2.2 (k0))), (1, .int (v_object)), (2, .int (s4.1)), (3, .int (s4.2))] → W p l e (rmd 2) s m args below meth c H locs 0 0 (MQ below (Qw zM g wz (some (.int (rz)))) args s 0 0 (zA zM g)) (F0 m 21 ls []) := by
      intro n
      induction n with
      | zero => intro s4 hL; exact lp_0 hL
      | succ n ih =>
        intro s4 hL H locs ls hH hl
        obtain ⟨bb, hF, hL⟩ := lp_s hL
        unfold b_X10_reachableObjects_1 at hF
        refine lv_iload_n hx hb dX10_reachableObjects_21 rfl (lv_at hl 2 rfl) ?_
        refine lv_iload_n hx hb dX10_reachableObjects_22 rfl (lv_at hl 3 rfl) ?_
        refine w_ine_f (tgt := 99) hx hb dX10_reachableObjects_23 (by decide) (fun c6 => ?_) (fun c6 => ?_)
        · replace hF := ifn c6 hF
          obtain rfl := se1 hF
          subst hL
          exact Jr5 _ _ _ hH (lv_sub hl [0, 1, 2, 3] rfl)
        · replace hF := ifp c6 hF
          refine lv_iload_n hx hb dX10_reachableObjects_26 rfl (lv_at hl 2 rfl) ?_
          refine lv_istore_n (lv' := [(3, .int (s4.1)), (0, .ref (g.2.2 (k0))), (1, .int (v_object)), (2, .int (s4.1))]) hx hb dX10_reachableObjects_27 rfl hl (by decide) rfl (fun ls hl => ?_)
          refine lv_iconst (v := (0 : Int32)) hx hb dX10_reachableObjects_28 (by decide) ?_
          refine lv_istore (lv' := [(4, .int ((0 : Int32))), (3, .int (s4.1)), (0, .ref (g.2.2 (k0))), (1, .int (v_object)), (2, .int (s4.1))]) hx hb dX10_reachableObjects_29 hl (by decide) rfl (fun ls hl => ?_)
          obtain ⟨r8, hLr8, hF⟩ := ob hF
          have Jr8 : ∀ (H : Heap) (locs : List Loc) (ls : Array Slot), HW zM g w1 s.heap H locs → lv_has ls 6 [(0, .ref (g.2.2 (k0))), (1, .int (v_object)), (2, .int (r8)), (3, .int (s4.1))] → W p l e (rmd 2) s m args below meth c H locs 0 0 (MQ below (Qw zM g wz (some (.int (rz)))) args s 0 0 (zA zM g)) (F0 m 96 ls []) := by
            intro H locs ls hH hl
            refine lv_goto (tgt := 21) hx hb dX10_reachableObjects_96 (by decide) ?_
            obtain rfl := se1 hF
            exact ih _ hL _ _ _ hH (lv_sub hl [0, 1, 2, 3] rfl)
          have Lr8 : ∀ (n : Nat) (s7 : Int32 × Int32), lp (b_X10_reachableObjects_2 w1 k0 s4) n s7 = some r8 → ∀ (H : Heap) (locs : List Loc) (ls : Array Slot), HW zM g w1 s.heap H locs → lv_has ls 6 [(0, .ref (g.2.2 (k0))), (1, .int (v_object)), (2, .int (s7.1)), (3, .int (s4.1)), (4, .int (s7.2))] → W p l e (rmd 2) s m args below meth c H locs 0 0 (MQ below (Qw zM g wz (some (.int (rz)))) args s 0 0 (zA zM g)) (F0 m 31 ls []) := by
            intro n
            induction n with
            | zero => intro s7 hL; exact lp_0 hL
            | succ n ih =>
              intro s7 hL H locs ls hH hl
              obtain ⟨bb, hF, hL⟩ := lp_s hL
              unfold b_X10_reachableObjects_2 at hF
              refine lv_iload hx hb dX10_reachableObjects_31 (lv_at hl 4 rfl) ?_
              refine lv_aload_n hx hb dX10_reachableObjects_33 rfl (lv_at hl 0 rfl) ?_
              refine w_getr X hH hk0 fs_10_11 lk_10_17 dX10_reachableObjects_34 ?_
              refine lv_iconst (v := (0 : Int32)) hx hb dX10_reachableObjects_37 (by decide) ?_
              obtain ⟨x9, h9, hF⟩ := ob hF
              refine w_iald X hH h9 (rt_M_10_11 hk0) dX10_reachableObjects_38 ?_
              refine w_ilt_f (tgt := 96) hx hb dX10_reachableObjects_39 (by decide) (fun c10 => ?_) (fun c10 => ?_)
              · replace hF := ifn c10 hF
                obtain rfl := se1 hF
                subst hL
                exact Jr8 _ _ _ hH (lv_sub hl [0, 1, 2, 3] rfl)
              · replace hF := ifp c10 hF
                refine lv_iconst (v := (0 : Int32)) hx hb dX10_reachableObjects_42 (by decide) ?_
                refine lv_istore (lv' := [(5, .int ((0 : Int32))), (0, .ref (g.2.2 (k0))), (1, .int (v_object)), (2, .int (s7.1)), (3, .int (s4.1)), (4, .int (s7.2))]) hx hb dX10_reachableObjects_43 hl (by decide) rfl (fun ls hl => ?_)
                obtain ⟨r12, hLr12, hF⟩ := ob hF
                have Jr12 : ∀ (H : Heap) (locs : List Loc) (ls : Array Slot), HW zM g w1 s.heap H locs → lv_has ls 6 [(0, .ref (g.2.2 (k0))), (1, .int (v_object)), (2, .int (r12)), (3, .int (s4.1)), (4, .int (s7.2))] → W p l e (rmd 2) s m args below meth c H locs 0 0 (MQ below (Qw zM g wz (some (.int (rz)))) args s 0 0 (zA zM g)) (F0 m 90 ls []) := by
                  intro H locs ls hH hl
                  refine lv_iinc (v := (s7.2 + (1 : Int32))) (lv' := [(4, .int ((s7.2 + (1 : Int32)))), (0, .ref (g.2.2 (k0))), (1, .int (v_object)), (2, .int (r12)), (3, .int (s4.1))]) hx hb dX10_reachableObjects_90 hl (k := 4) rfl rfl (by decide) rfl (fun ls hl => ?_)
                  refine lv_goto (tgt := 31) hx hb dX10_reachableObjects_93 (by decide) ?_
                  obtain rfl := se1 hF
                  exact ih _ hL _ _ _ hH (lv_sub hl [1, 2, 3, 4, 0] rfl)
                have Lr12 : ∀ (n : Nat) (s11 : Int32 × Int32), lp (b_X10_reachableObjects_3 w1 k0 s4 s7) n s11 = some r12 → ∀ (H : Heap) (locs : List Loc) (ls : Array Slot), HW zM g w1 s.heap H locs → lv_has ls 6 [(0, .ref (g.2.2 (k0))), (1, .int (v_object)), (2, .int (s11.1)), (3, .int (s4.1)), (4, .int (s7.2)), (5, .int (s11.2))] → W p l e (rmd 2) s m args below meth c H locs 0 0 (MQ below (Qw zM g wz (some (.int (rz)))) args s 0 0 (zA zM g)) (F0 m 45 ls []) := by
                  intro n
                  induction n with
                  | zero => intro s11 hL; exact lp_0 hL
                  | succ n ih =>
                    intro s11 hL H locs ls hH hl
                    obtain ⟨bb, hF, hL⟩ := lp_s hL
                    unfold b_X10_reachableObjects_3 at hF
                    refine lv_iload hx hb dX10_reachableObjects_45 (lv_at hl 5 rfl) ?_
                    refine lv_aload_n hx hb dX10_reachableObjects_47 rfl (lv_at hl 0 rfl) ?_
                    refine w_getr X hH hk0 fs_10_12 lk_10_20 dX10_reachableObjects_48 ?_
                    refine lv_iconst (v := (0 : Int32)) hx hb dX10_reachableObjects_51 (by decide) ?_
                    obtain ⟨x13, h13, hF⟩ := ob hF
                    refine w_iald X hH h13 (rt_M_10_12 hk0) dX10_reachableObjects_52 ?_
                    refine w_ilt_f (tgt := 90) hx hb dX10_reachableObjects_53 (by decide) (fun c14 => ?_) (fun c14 => ?_)
                    · replace hF := ifn c14 hF
                      obtain rfl := se1 hF
                      subst hL
                      exact Jr12 _ _ _ hH (lv_sub hl [0, 1, 2, 3, 4] rfl)
                    · replace hF := ifp c14 hF
                      refine lv_iload_n hx hb dX10_reachableObjects_56 rfl (lv_at hl 2 rfl) ?_
                      obtain ⟨x16, hx16, hF⟩ := ob hF
                      have J15 : ∀ (H : Heap) (locs : List Loc), HW zM g w1 s.heap H locs → W p l e (rmd 2) s m args below meth c H locs 0 0 (MQ below (Qw zM g wz (some (.int (rz)))) args s 0 0 (zA zM g)) (F0 m 82 ls [.int (x16), .int (s11.1)]) := by
                        intro H locs hH
                        refine lv_ior hx hb dX10_reachableObjects_82 ?_
                        refine lv_istore_n (lv' := [(2, .int ((s11.1 ||| x16))), (0, .ref (g.2.2 (k0))), (1, .int (v_object)), (3, .int (s4.1)), (4, .int (s7.2)), (5, .int (s11.2))]) hx hb dX10_reachableObjects_83 rfl hl (by decide) rfl (fun ls hl => ?_)
                        refine lv_iinc (v := (s11.2 + (1 : Int32))) (lv' := [(5, .int ((s11.2 + (1 : Int32)))), (2, .int ((s11.1 ||| x16))), (0, .ref (g.2.2 (k0))), (1, .int (v_object)), (3, .int (s4.1)), (4, .int (s7.2))]) hx hb dX10_reachableObjects_84 hl (k := 5) rfl rfl (by decide) rfl (fun ls hl => ?_)
                        refine lv_goto (tgt := 45) hx hb dX10_reachableObjects_87 (by decide) ?_
                        obtain rfl := se1 hF
                        exact ih _ hL _ _ _ hH (lv_sub hl [2, 3, 1, 4, 5, 0] rfl)
                      have hF := hx16
                      refine lv_iload_n hx hb dX10_reachableObjects_57 rfl (lv_at hl 3 rfl) ?_
                      refine lv_iload hx hb dX10_reachableObjects_58 (lv_at hl 4 rfl) ?_
                      refine w_callS (As := [.int (s4.1), .int (s7.2)]) (rest := [.int (s11.1)]) (st1 := [.int (bI ((f_X10_has (s4.1) (s7.2)))), .int (s11.1)]) X hH (c_X10_has (l := l) (g := g) (w := w1) (v_set := s4.1) (v_k := s7.2) rfl) (Or.inl tw_5_41) ms_X10_has tw_5_42 ⟨Nat.le_of_ble_eq_true rfl, Nat.le_of_ble_eq_true rfl⟩ rfl rfl hl.1 (Nat.le_of_ble_eq_true rfl) dX10_reachableObjects_60 ⟨Nat.le_refl _, Nat.le_refl _⟩ rfl (fun H locs hH => ?_)
                      refine w_b_f (tgt := 81) hx hb dX10_reachableObjects_63 (by decide) (fun c17 => ?_) (fun c17 => ?_)
                      · replace hF := ifn c17 hF
                        refine lv_iconst (v := (0 : Int32)) hx hb dX10_reachableObjects_81 (by decide) ?_
                        obtain rfl := se1 hF
                        exact J15 _ _ hH
                      · replace hF := ifp c17 hF
                        refine lv_aload_n hx hb dX10_reachableObjects_66 rfl (lv_at hl 0 rfl) ?_
                        refine w_getr X hH hk0 fs_10_24 lk_10_55 dX10_reachableObjects_67 ?_
                        refine lv_iload hx hb dX10_reachableObjects_70 (lv_at hl 4 rfl) ?_
                        refine lv_iload hx hb dX10_reachableObjects_72 (lv_at hl 5 rfl) ?_
                        refine w_callS (As := [.int (s7.2), .int (s11.2)]) (rest := [.ref (g.2.2 ((zrf zM (k0) 24))), .int (s11.1)]) (st1 := [.int ((f_X10_fieldIndex (s7.2) (s11.2))), .ref (g.2.2 ((zrf zM (k0) 24))), .int (s11.1)]) X hH (c_X10_fieldIndex (l := l) (g := g) (w := w1) (v_o := s7.2) (v_f := s11.2) rfl) (Or.inl tw_5_68) ms_X10_fieldIndex tw_5_69 ⟨Nat.le_of_ble_eq_true rfl, Nat.le_of_ble_eq_true rfl⟩ rfl rfl hl.1 (Nat.le_of_ble_eq_true rfl) dX10_reachableObjects_74 ⟨Nat.le_refl _, Nat.le_refl _⟩ rfl (fun H locs hH => ?_)
                        obtain ⟨x18, h18, hF⟩ := ob hF
                        refine w_iald X hH h18 (rt_M_10_24 hk0) dX10_reachableObjects_77 ?_
                        refine lv_goto (tgt := 82) hx hb dX10_reachableObjects_78 (by decide) ?_
                        obtain rfl := se1 hF
                        exact J15 _ _ hH
                exact Lr12 NF _ hLr12 _ _ _ hH (lv_sub hl [1, 2, 3, 4, 5, 0] rfl)
          exact Lr8 NF _ hLr8 _ _ _ hH (lv_sub hl [2, 3, 4, 1, 0] rfl)
    exact Lr5 NF _ hLr5 _ _ _ hH (lv_sub hl [2, 3, 1, 0] rfl)
  · replace hF := ifp c3 hF
    refine lv_iconst (v := (-1 : Int32)) hx hb dX10_reachableObjects_13 (by decide) ?_
    obtain ⟨rfl, rfl⟩ := se2 hF
    exact w_iret X hH hr dX10_reachableObjects_14

theorem dX10_isFact_0 : decode cX10_isFact 0 = .ok (.aload_n 0, 1) := by decide +kernel
theorem dX10_isFact_1 : decode cX10_isFact 1 = .ok (.getfield 55, 3) := by decide +kernel
theorem dX10_isFact_4 : decode cX10_isFact 4 = .ok (.iload_n 1, 1) := by decide +kernel
theorem dX10_isFact_5 : decode cX10_isFact 5 = .ok (.iaload, 1) := by decide +kernel
theorem dX10_isFact_6 : decode cX10_isFact 6 = .ok (.iload_n 2, 1) := by decide +kernel
theorem dX10_isFact_7 : decode cX10_isFact 7 = .ok (.invokestatic 210, 3) := by decide +kernel
theorem dX10_isFact_10 : decode cX10_isFact 10 = .ok (.ireturn, 1) := by decide +kernel
set_option maxHeartbeats 4000000 in
set_option maxRecDepth 100000 in
theorem c_X10_isFact {l : Launch} {g : Gh} {w : Wd} {k0 : Nat} {v_index : Int32} {v_o : Int32} {rz : Bool} (hF : f_X10_isFact w k0 v_index v_o = some rz) (hk0 : zct zM k0 = 10) : Met l yX10_isFact (Cond.code yX10_isFact cX10_isFact 3 (some .boolean) :: TT) (rmd 1) (Pcw zM g w [.ref (g.2.2 k0), .int (v_index), .int (v_o)]) (Qw zM g w (some (.int (bI (rz))))) 0 0 (zA zM g) := by
  refine mt_start (by decide) (Nat.le_of_ble_eq_true rfl) ?_
  intro p e s m args below meth c H locs ls X hr hl hH
  have hx := X.1
  have hb := X.2.1
  have hml := X.2.2.1
  have hown := X.2.2.2.1
  have ht := X.2.2.2.2.1
  have hl : lv_has ls 3 [(0, .ref (g.2.2 (k0))), (1, .int (v_index)), (2, .int (v_o))] := hl
  unfold f_X10_isFact at hF
  refine lv_aload_n hx hb dX10_isFact_0 rfl (lv_at hl 0 rfl) ?_
  refine w_getr X hH hk0 fs_10_24 lk_10_55 dX10_isFact_1 ?_
  refine lv_iload_n hx hb dX10_isFact_4 rfl (lv_at hl 1 rfl) ?_
  obtain ⟨x1, h1, hF⟩ := ob hF
  refine w_iald X hH h1 (rt_M_10_24 hk0) dX10_isFact_5 ?_
  refine lv_iload_n hx hb dX10_isFact_6 rfl (lv_at hl 2 rfl) ?_
  refine w_callS (As := [.int (x1), .int (v_o)]) (rest := []) (st1 := [.int (bI ((f_X10_has (x1) (v_o))))]) X hH (c_X10_has (l := l) (g := g) (w := w) (v_set := x1) (v_k := v_o) rfl) (Or.inl tw_5_41) ms_X10_has tw_5_42 ⟨Nat.le_of_ble_eq_true rfl, Nat.le_of_ble_eq_true rfl⟩ rfl rfl hl.1 (Nat.le_of_ble_eq_true rfl) dX10_isFact_7 ⟨Nat.le_refl _, Nat.le_refl _⟩ rfl (fun H locs hH => ?_)
  obtain rfl := se1 hF
  exact w_zret X hH hr dX10_isFact_10

theorem dX10_holdsBefore_0 : decode cX10_holdsBefore 0 = .ok (.aload_n 0, 1) := by decide +kernel
theorem dX10_holdsBefore_1 : decode cX10_holdsBefore 1 = .ok (.iload_n 1, 1) := by decide +kernel
theorem dX10_holdsBefore_2 : decode cX10_holdsBefore 2 = .ok (.iload_n 2, 1) := by decide +kernel
theorem dX10_holdsBefore_3 : decode cX10_holdsBefore 3 = .ok (.invokevirtual 266, 3) := by decide +kernel
theorem dX10_holdsBefore_6 : decode cX10_holdsBefore 6 = .ok (.ifCond .eq 29, 3) := by decide +kernel
theorem dX10_holdsBefore_9 : decode cX10_holdsBefore 9 = .ok (.aload_n 0, 1) := by decide +kernel
theorem dX10_holdsBefore_10 : decode cX10_holdsBefore 10 = .ok (.getfield 269, 3) := by decide +kernel
theorem dX10_holdsBefore_13 : decode cX10_holdsBefore 13 = .ok (.ifCond .eq 18, 3) := by decide +kernel
theorem dX10_holdsBefore_16 : decode cX10_holdsBefore 16 = .ok (.aload_n 0, 1) := by decide +kernel
theorem dX10_holdsBefore_17 : decode cX10_holdsBefore 17 = .ok (.getfield 61, 3) := by decide +kernel
theorem dX10_holdsBefore_20 : decode cX10_holdsBefore 20 = .ok (.bipush 10, 2) := by decide +kernel
theorem dX10_holdsBefore_22 : decode cX10_holdsBefore 22 = .ok (.iload_n 1, 1) := by decide +kernel
theorem dX10_holdsBefore_23 : decode cX10_holdsBefore 23 = .ok (.imul, 1) := by decide +kernel
theorem dX10_holdsBefore_24 : decode cX10_holdsBefore 24 = .ok (.iload_n 2, 1) := by decide +kernel
theorem dX10_holdsBefore_25 : decode cX10_holdsBefore 25 = .ok (.iadd, 1) := by decide +kernel
theorem dX10_holdsBefore_26 : decode cX10_holdsBefore 26 = .ok (.iaload, 1) := by decide +kernel
theorem dX10_holdsBefore_27 : decode cX10_holdsBefore 27 = .ok (.iload_n 3, 1) := by decide +kernel
theorem dX10_holdsBefore_28 : decode cX10_holdsBefore 28 = .ok (.if_icmp .ge 7, 3) := by decide +kernel
theorem dX10_holdsBefore_31 : decode cX10_holdsBefore 31 = .ok (.iconst 1, 1) := by decide +kernel
theorem dX10_holdsBefore_32 : decode cX10_holdsBefore 32 = .ok (.goto 4, 3) := by decide +kernel
theorem dX10_holdsBefore_35 : decode cX10_holdsBefore 35 = .ok (.iconst 0, 1) := by decide +kernel
theorem dX10_holdsBefore_36 : decode cX10_holdsBefore 36 = .ok (.ireturn, 1) := by decide +kernel
set_option maxHeartbeats 4000000 in
set_option maxRecDepth 100000 in
theorem c_X10_holdsBefore {l : Launch} {g : Gh} {w : Wd} {k0 : Nat} {v_index : Int32} {v_o : Int32} {v_round : Int32} {rz : Bool} (hF : f_X10_holdsBefore w k0 v_index v_o v_round = some rz) (hk0 : zct zM k0 = 10) : Met l yX10_holdsBefore (Cond.code yX10_holdsBefore cX10_holdsBefore 4 (some .boolean) :: TT) (rmd 2) (Pcw zM g w [.ref (g.2.2 k0), .int (v_index), .int (v_o), .int (v_round)]) (Qw zM g w (some (.int (bI (rz))))) 0 0 (zA zM g) := by
  refine mt_start (by decide) (Nat.le_of_ble_eq_true rfl) ?_
  intro p e s m args below meth c H locs ls X hr hl hH
  have hx := X.1
  have hb := X.2.1
  have hml := X.2.2.1
  have hown := X.2.2.2.1
  have ht := X.2.2.2.2.1
  have hl : lv_has ls 4 [(0, .ref (g.2.2 (k0))), (1, .int (v_index)), (2, .int (v_o)), (3, .int (v_round))] := hl
  unfold f_X10_holdsBefore at hF
  obtain ⟨b2, hb2, hF⟩ := ob hF
  have J1 : ∀ (H : Heap) (locs : List Loc), HW zM g w s.heap H locs → W p l e (rmd 2) s m args below meth c H locs 0 0 (MQ below (Qw zM g w (some (.int (bI (rz))))) args s 0 0 (zA zM g)) (F0 m 36 ls [.int (bI (b2))]) := by
    intro H locs hH
    obtain rfl := se1 hF
    exact w_zret X hH hr dX10_holdsBefore_36
  have hF := hb2
  refine lv_aload_n hx hb dX10_holdsBefore_0 rfl (lv_at hl 0 rfl) ?_
  refine lv_iload_n hx hb dX10_holdsBefore_1 rfl (lv_at hl 1 rfl) ?_
  refine lv_iload_n hx hb dX10_holdsBefore_2 rfl (lv_at hl 2 rfl) ?_
  obtain ⟨x4, h4, hF⟩ := ob hF
  refine w_callV (As := [.int (v_index), .int (v_o)]) (k := k0) (rest := []) (st1 := [.int (bI (x4))]) X hH (c_X10_isFact (l := l) (g := g) (w := w) (k0 := k0) (v_index := v_index) (v_o := v_o) h4 hk0) (Or.inl tw_6_204) ms_X10_isFact im_X10_isFact hk0 cn_10 ⟨Nat.le_of_ble_eq_true rfl, Nat.le_of_ble_eq_true rfl⟩ rfl rfl hl.1 (Nat.le_of_ble_eq_true rfl) dX10_holdsBefore_3 ⟨Nat.le_refl _, Nat.le_refl _⟩ rfl (fun H locs hH => ?_)
  refine w_b_f (tgt := 35) hx hb dX10_holdsBefore_6 (by decide) (fun c3 => ?_) (fun c3 => ?_)
  · replace hF := ifn c3 hF
    refine lv_iconst (v := (0 : Int32)) hx hb dX10_holdsBefore_35 (by decide) ?_
    obtain rfl := se1 hF
    exact J1 _ _ hH
  · replace hF := ifp c3 hF
    refine lv_aload_n hx hb dX10_holdsBefore_9 rfl (lv_at hl 0 rfl) ?_
    obtain ⟨x6, h6, hF⟩ := ob hF
    refine w_getz X hH h6 hk0 fs_10_32 lk_10_269 dX10_holdsBefore_10 ?_
    refine w_b_f (tgt := 31) hx hb dX10_holdsBefore_13 (by decide) (fun c5 => ?_) (fun c5 => ?_)
    · replace hF := ifn c5 hF
      refine lv_iconst (v := (1 : Int32)) hx hb dX10_holdsBefore_31 (by decide) ?_
      refine lv_goto (tgt := 36) hx hb dX10_holdsBefore_32 (by decide) ?_
      obtain rfl := se1 hF
      exact J1 _ _ hH
    · replace hF := ifp c5 hF
      refine lv_aload_n hx hb dX10_holdsBefore_16 rfl (lv_at hl 0 rfl) ?_
      refine w_getr X hH hk0 fs_10_26 lk_10_61 dX10_holdsBefore_17 ?_
      refine lv_bipush (v := (10 : Int32)) hx hb dX10_holdsBefore_20 (by decide) ?_
      refine lv_iload_n hx hb dX10_holdsBefore_22 rfl (lv_at hl 1 rfl) ?_
      refine lv_imul hx hb dX10_holdsBefore_23 ?_
      refine lv_iload_n hx hb dX10_holdsBefore_24 rfl (lv_at hl 2 rfl) ?_
      refine lv_iadd hx hb dX10_holdsBefore_25 ?_
      obtain ⟨x8, h8, hF⟩ := ob hF
      refine w_iald X hH h8 (rt_M_10_26 hk0) dX10_holdsBefore_26 ?_
      refine lv_iload_n hx hb dX10_holdsBefore_27 rfl (lv_at hl 3 rfl) ?_
      refine w_ilt_f (tgt := 35) hx hb dX10_holdsBefore_28 (by decide) (fun c7 => ?_) (fun c7 => ?_)
      · replace hF := ifn c7 hF
        refine lv_iconst (v := (0 : Int32)) hx hb dX10_holdsBefore_35 (by decide) ?_
        obtain rfl := se1 hF
        exact J1 _ _ hH
      · replace hF := ifp c7 hF
        refine lv_iconst (v := (1 : Int32)) hx hb dX10_holdsBefore_31 (by decide) ?_
        refine lv_goto (tgt := 36) hx hb dX10_holdsBefore_32 (by decide) ?_
        obtain rfl := se1 hF
        exact J1 _ _ hH

theorem dX10_note_0 : decode cX10_note 0 = .ok (.iload_n 3, 1) := by decide +kernel
theorem dX10_note_1 : decode cX10_note 1 = .ok (.ifCond .lt 14, 3) := by decide +kernel
theorem dX10_note_4 : decode cX10_note 4 = .ok (.aload_n 0, 1) := by decide +kernel
theorem dX10_note_5 : decode cX10_note 5 = .ok (.iload_n 3, 1) := by decide +kernel
theorem dX10_note_6 : decode cX10_note 6 = .ok (.iload_n 2, 1) := by decide +kernel
theorem dX10_note_7 : decode cX10_note 7 = .ok (.iload 6, 2) := by decide +kernel
theorem dX10_note_9 : decode cX10_note 9 = .ok (.invokevirtual 273, 3) := by decide +kernel
theorem dX10_note_12 : decode cX10_note 12 = .ok (.ifCond .eq 21, 3) := by decide +kernel
theorem dX10_note_15 : decode cX10_note 15 = .ok (.iload 4, 2) := by decide +kernel
theorem dX10_note_17 : decode cX10_note 17 = .ok (.ifCond .lt 17, 3) := by decide +kernel
theorem dX10_note_20 : decode cX10_note 20 = .ok (.aload_n 0, 1) := by decide +kernel
theorem dX10_note_21 : decode cX10_note 21 = .ok (.iload 4, 2) := by decide +kernel
theorem dX10_note_23 : decode cX10_note 23 = .ok (.iload 5, 2) := by decide +kernel
theorem dX10_note_25 : decode cX10_note 25 = .ok (.iload 6, 2) := by decide +kernel
theorem dX10_note_27 : decode cX10_note 27 = .ok (.invokevirtual 273, 3) := by decide +kernel
theorem dX10_note_30 : decode cX10_note 30 = .ok (.ifCond .ne 4, 3) := by decide +kernel
theorem dX10_note_33 : decode cX10_note 33 = .ok (.return_, 1) := by decide +kernel
theorem dX10_note_34 : decode cX10_note 34 = .ok (.aload_n 0, 1) := by decide +kernel
theorem dX10_note_35 : decode cX10_note 35 = .ok (.getfield 277, 3) := by decide +kernel
theorem dX10_note_38 : decode cX10_note 38 = .ok (.ifCond .ne 19, 3) := by decide +kernel
theorem dX10_note_41 : decode cX10_note 41 = .ok (.aload_n 0, 1) := by decide +kernel
theorem dX10_note_42 : decode cX10_note 42 = .ok (.iload_n 1, 1) := by decide +kernel
theorem dX10_note_43 : decode cX10_note 43 = .ok (.putfield 280, 3) := by decide +kernel
theorem dX10_note_46 : decode cX10_note 46 = .ok (.aload_n 0, 1) := by decide +kernel
theorem dX10_note_47 : decode cX10_note 47 = .ok (.iload_n 2, 1) := by decide +kernel
theorem dX10_note_48 : decode cX10_note 48 = .ok (.putfield 283, 3) := by decide +kernel
theorem dX10_note_51 : decode cX10_note 51 = .ok (.aload_n 0, 1) := by decide +kernel
theorem dX10_note_52 : decode cX10_note 52 = .ok (.iload 4, 2) := by decide +kernel
theorem dX10_note_54 : decode cX10_note 54 = .ok (.putfield 286, 3) := by decide +kernel
theorem dX10_note_57 : decode cX10_note 57 = .ok (.aload_n 0, 1) := by decide +kernel
theorem dX10_note_58 : decode cX10_note 58 = .ok (.dup, 1) := by decide +kernel
theorem dX10_note_59 : decode cX10_note 59 = .ok (.getfield 277, 3) := by decide +kernel
theorem dX10_note_62 : decode cX10_note 62 = .ok (.iconst 1, 1) := by decide +kernel
theorem dX10_note_63 : decode cX10_note 63 = .ok (.iadd, 1) := by decide +kernel
theorem dX10_note_64 : decode cX10_note 64 = .ok (.putfield 277, 3) := by decide +kernel
theorem dX10_note_67 : decode cX10_note 67 = .ok (.return_, 1) := by decide +kernel
set_option maxHeartbeats 4000000 in
set_option maxRecDepth 100000 in
theorem c_X10_note {l : Launch} {g : Gh} {w : Wd} {k0 : Nat} {v_c : Int32} {v_via : Int32} {v_supply : Int32} {v_source : Int32} {v_o : Int32} {v_round : Int32} {wz : Wd} (hF : f_X10_note w k0 v_c v_via v_supply v_source v_o v_round = some wz) (hk0 : zct zM k0 = 10) : Met l yX10_note (Cond.code yX10_note cX10_note 7 none :: TT) (rmd 3) (Pcw zM g w [.ref (g.2.2 k0), .int (v_c), .int (v_via), .int (v_supply), .int (v_source), .int (v_o), .int (v_round)]) (Qw zM g wz none) 0 0 (zA zM g) := by
  refine mt_start (by decide) (Nat.le_of_ble_eq_true rfl) ?_
  intro p e s m args below meth c H locs ls X hr hl hH
  have hx := X.1
  have hb := X.2.1
  have hml := X.2.2.1
  have hown := X.2.2.2.1
  have ht := X.2.2.2.2.1
  have hl : lv_has ls 7 [(0, .ref (g.2.2 (k0))), (1, .int (v_c)), (2, .int (v_via)), (3, .int (v_supply)), (4, .int (v_source)), (5, .int (v_o)), (6, .int (v_round))] := hl
  unfold f_X10_note at hF
  obtain ⟨b1, hb1, hF⟩ := ob hF
  have Jb1T : b1 = true → ∀ (H : Heap) (locs : List Loc), HW zM g w s.heap H locs → W p l e (rmd 3) s m args below meth c H locs 0 0 (MQ below (Qw zM g wz none) args s 0 0 (zA zM g)) (F0 m 33 ls []) := by
    intro hc H locs hH
    replace hF := ifp hc hF
    obtain rfl := se1 hF
    exact w_vret X hH hr dX10_note_33
  have Jb1F : ¬ (b1 = true) → ∀ (H : Heap) (locs : List Loc), HW zM g w s.heap H locs → W p l e (rmd 3) s m args below meth c H locs 0 0 (MQ below (Qw zM g wz none) args s 0 0 (zA zM g)) (F0 m 34 ls []) := by
    intro hc H locs hH
    replace hF := ifn hc hF
    obtain ⟨s11, hs11, hF⟩ := ob hF
    have Js11 : ∀ (H : Heap) (locs : List Loc) (ls : Array Slot), HW zM g s11 s.heap H locs → lv_has ls 7 [(0, .ref (g.2.2 (k0))), (1, .int (v_c)), (2, .int (v_via)), (3, .int (v_supply)), (4, .int (v_source)), (5, .int (v_o)), (6, .int (v_round))] → W p l e (rmd 3) s m args below meth c H locs 0 0 (MQ below (Qw zM g wz none) args s 0 0 (zA zM g)) (F0 m 57 ls []) := by
      intro H locs ls hH hl
      refine lv_aload_n hx hb dX10_note_57 rfl (lv_at hl 0 rfl) ?_
      refine lv_dup hx hb dX10_note_58 rfl ?_
      refine w_geti X hH hk0 fs_10_31 lk_10_277 dX10_note_59 ?_
      refine lv_iconst (v := (1 : Int32)) hx hb dX10_note_62 (by decide) ?_
      refine lv_iadd hx hb dX10_note_63 ?_
      obtain ⟨w16, h16, hF⟩ := ob hF
      refine w_puti X hH h16 hk0 fs_10_31 nf_10_31 lk_10_277 dX10_note_64 (fun H locs hH => ?_)
      obtain rfl := se1 hF
      exact w_vret X hH hr dX10_note_67
    have hF := hs11
    refine lv_aload_n hx hb dX10_note_34 rfl (lv_at hl 0 rfl) ?_
    refine w_geti X hH hk0 fs_10_31 lk_10_277 dX10_note_35 ?_
    refine w_zeq_f (tgt := 57) hx hb dX10_note_38 (by decide) (fun c12 => ?_) (fun c12 => ?_)
    · replace hF := ifn c12 hF
      obtain rfl := se1 hF
      exact Js11 _ _ _ hH (lv_sub hl [0, 1, 2, 3, 4, 5, 6] rfl)
    · replace hF := ifp c12 hF
      refine lv_aload_n hx hb dX10_note_41 rfl (lv_at hl 0 rfl) ?_
      refine lv_iload_n hx hb dX10_note_42 rfl (lv_at hl 1 rfl) ?_
      obtain ⟨w13, h13, hF⟩ := ob hF
      refine w_puti X hH h13 hk0 fs_10_28 nf_10_28 lk_10_280 dX10_note_43 (fun H locs hH => ?_)
      refine lv_aload_n hx hb dX10_note_46 rfl (lv_at hl 0 rfl) ?_
      refine lv_iload_n hx hb dX10_note_47 rfl (lv_at hl 2 rfl) ?_
      obtain ⟨w14, h14, hF⟩ := ob hF
      refine w_puti X hH h14 hk0 fs_10_29 nf_10_29 lk_10_283 dX10_note_48 (fun H locs hH => ?_)
      refine lv_aload_n hx hb dX10_note_51 rfl (lv_at hl 0 rfl) ?_
      refine lv_iload hx hb dX10_note_52 (lv_at hl 4 rfl) ?_
      obtain ⟨w15, h15, hF⟩ := ob hF
      refine w_puti X hH h15 hk0 fs_10_30 nf_10_30 lk_10_286 dX10_note_54 (fun H locs hH => ?_)
      obtain rfl := se1 hF
      exact Js11 _ _ _ hH (lv_sub hl [0, 1, 2, 3, 4, 5, 6] rfl)
  have hF := hb1
  refine lv_iload_n hx hb dX10_note_0 rfl (lv_at hl 3 rfl) ?_
  refine w_zge_f (tgt := 15) hx hb dX10_note_1 (by decide) (fun c2 => ?_) (fun c2 => ?_)
  · replace hF := ifn c2 hF
    refine lv_iload hx hb dX10_note_15 (lv_at hl 4 rfl) ?_
    refine w_zge_f (tgt := 34) hx hb dX10_note_17 (by decide) (fun c3 => ?_) (fun c3 => ?_)
    · replace hF := ifn c3 hF
      obtain rfl := se1 hF
      exact Jb1F Bool.false_ne_true _ _ hH
    · replace hF := ifp c3 hF
      refine lv_aload_n hx hb dX10_note_20 rfl (lv_at hl 0 rfl) ?_
      refine lv_iload hx hb dX10_note_21 (lv_at hl 4 rfl) ?_
      refine lv_iload hx hb dX10_note_23 (lv_at hl 5 rfl) ?_
      refine lv_iload hx hb dX10_note_25 (lv_at hl 6 rfl) ?_
      obtain ⟨x5, h5, hF⟩ := ob hF
      refine w_callV (As := [.int (v_source), .int (v_o), .int (v_round)]) (k := k0) (rest := []) (st1 := [.int (bI (x5))]) X hH (c_X10_holdsBefore (l := l) (g := g) (w := w) (k0 := k0) (v_index := v_source) (v_o := v_o) (v_round := v_round) h5 hk0) (Or.inl tw_6_220) ms_X10_holdsBefore im_X10_holdsBefore hk0 cn_10 ⟨Nat.le_of_ble_eq_true rfl, Nat.le_of_ble_eq_true rfl⟩ rfl rfl hl.1 (Nat.le_of_ble_eq_true rfl) dX10_note_27 ⟨Nat.le_refl _, Nat.le_refl _⟩ rfl (fun H locs hH => ?_)
      refine w_b_t (tgt := 34) hx hb dX10_note_30 (by decide) (fun c4 => ?_) (fun c4 => ?_)
      · replace hF := ifp c4 hF
        obtain rfl := se1 hF
        exact Jb1F Bool.false_ne_true _ _ hH
      · replace hF := ifn c4 hF
        obtain rfl := se1 hF
        exact Jb1T rfl _ _ hH
  · replace hF := ifp c2 hF
    refine lv_aload_n hx hb dX10_note_4 rfl (lv_at hl 0 rfl) ?_
    refine lv_iload_n hx hb dX10_note_5 rfl (lv_at hl 3 rfl) ?_
    refine lv_iload_n hx hb dX10_note_6 rfl (lv_at hl 2 rfl) ?_
    refine lv_iload hx hb dX10_note_7 (lv_at hl 6 rfl) ?_
    obtain ⟨x7, h7, hF⟩ := ob hF
    refine w_callV (As := [.int (v_supply), .int (v_via), .int (v_round)]) (k := k0) (rest := []) (st1 := [.int (bI (x7))]) X hH (c_X10_holdsBefore (l := l) (g := g) (w := w) (k0 := k0) (v_index := v_supply) (v_o := v_via) (v_round := v_round) h7 hk0) (Or.inl tw_6_220) ms_X10_holdsBefore im_X10_holdsBefore hk0 cn_10 ⟨Nat.le_of_ble_eq_true rfl, Nat.le_of_ble_eq_true rfl⟩ rfl rfl hl.1 (Nat.le_of_ble_eq_true rfl) dX10_note_9 ⟨Nat.le_refl _, Nat.le_refl _⟩ rfl (fun H locs hH => ?_)
    refine w_b_f (tgt := 33) hx hb dX10_note_12 (by decide) (fun c6 => ?_) (fun c6 => ?_)
    · replace hF := ifn c6 hF
      obtain rfl := se1 hF
      exact Jb1T rfl _ _ hH
    · replace hF := ifp c6 hF
      refine lv_iload hx hb dX10_note_15 (lv_at hl 4 rfl) ?_
      refine w_zge_f (tgt := 34) hx hb dX10_note_17 (by decide) (fun c8 => ?_) (fun c8 => ?_)
      · replace hF := ifn c8 hF
        obtain rfl := se1 hF
        exact Jb1F Bool.false_ne_true _ _ hH
      · replace hF := ifp c8 hF
        refine lv_aload_n hx hb dX10_note_20 rfl (lv_at hl 0 rfl) ?_
        refine lv_iload hx hb dX10_note_21 (lv_at hl 4 rfl) ?_
        refine lv_iload hx hb dX10_note_23 (lv_at hl 5 rfl) ?_
        refine lv_iload hx hb dX10_note_25 (lv_at hl 6 rfl) ?_
        obtain ⟨x10, h10, hF⟩ := ob hF
        refine w_callV (As := [.int (v_source), .int (v_o), .int (v_round)]) (k := k0) (rest := []) (st1 := [.int (bI (x10))]) X hH (c_X10_holdsBefore (l := l) (g := g) (w := w) (k0 := k0) (v_index := v_source) (v_o := v_o) (v_round := v_round) h10 hk0) (Or.inl tw_6_220) ms_X10_holdsBefore im_X10_holdsBefore hk0 cn_10 ⟨Nat.le_of_ble_eq_true rfl, Nat.le_of_ble_eq_true rfl⟩ rfl rfl hl.1 (Nat.le_of_ble_eq_true rfl) dX10_note_27 ⟨Nat.le_refl _, Nat.le_refl _⟩ rfl (fun H locs hH => ?_)
        refine w_b_t (tgt := 34) hx hb dX10_note_30 (by decide) (fun c9 => ?_) (fun c9 => ?_)
        · replace hF := ifp c9 hF
          obtain rfl := se1 hF
          exact Jb1F Bool.false_ne_true _ _ hH
        · replace hF := ifn c9 hF
          obtain rfl := se1 hF
          exact Jb1T rfl _ _ hH

theorem dX10_deriveCall_0 : decode cX10_deriveCall 0 = .ok (.aload_n 0, 1) := by decide +kernel
theorem dX10_deriveCall_1 : decode cX10_deriveCall 1 = .ok (.iload_n 2, 1) := by decide +kernel
theorem dX10_deriveCall_2 : decode cX10_deriveCall 2 = .ok (.invokevirtual 203, 3) := by decide +kernel
theorem dX10_deriveCall_5 : decode cX10_deriveCall 5 = .ok (.ifCond .ne 4, 3) := by decide +kernel
theorem dX10_deriveCall_8 : decode cX10_deriveCall 8 = .ok (.return_, 1) := by decide +kernel
theorem dX10_deriveCall_9 : decode cX10_deriveCall 9 = .ok (.aload_n 0, 1) := by decide +kernel
theorem dX10_deriveCall_10 : decode cX10_deriveCall 10 = .ok (.getfield 33, 3) := by decide +kernel
theorem dX10_deriveCall_13 : decode cX10_deriveCall 13 = .ok (.iload_n 2, 1) := by decide +kernel
theorem dX10_deriveCall_14 : decode cX10_deriveCall 14 = .ok (.iaload, 1) := by decide +kernel
theorem dX10_deriveCall_15 : decode cX10_deriveCall 15 = .ok (.iload_n 3, 1) := by decide +kernel
theorem dX10_deriveCall_16 : decode cX10_deriveCall 16 = .ok (.if_icmp .ne 23, 3) := by decide +kernel
theorem dX10_deriveCall_19 : decode cX10_deriveCall 19 = .ok (.aload_n 0, 1) := by decide +kernel
theorem dX10_deriveCall_20 : decode cX10_deriveCall 20 = .ok (.iload_n 1, 1) := by decide +kernel
theorem dX10_deriveCall_21 : decode cX10_deriveCall 21 = .ok (.iload_n 2, 1) := by decide +kernel
theorem dX10_deriveCall_22 : decode cX10_deriveCall 22 = .ok (.aload_n 0, 1) := by decide +kernel
theorem dX10_deriveCall_23 : decode cX10_deriveCall 23 = .ok (.iload_n 1, 1) := by decide +kernel
theorem dX10_deriveCall_24 : decode cX10_deriveCall 24 = .ok (.invokevirtual 234, 3) := by decide +kernel
theorem dX10_deriveCall_27 : decode cX10_deriveCall 27 = .ok (.aload_n 0, 1) := by decide +kernel
theorem dX10_deriveCall_28 : decode cX10_deriveCall 28 = .ok (.iload_n 1, 1) := by decide +kernel
theorem dX10_deriveCall_29 : decode cX10_deriveCall 29 = .ok (.invokevirtual 241, 3) := by decide +kernel
theorem dX10_deriveCall_32 : decode cX10_deriveCall 32 = .ok (.iload 4, 2) := by decide +kernel
theorem dX10_deriveCall_34 : decode cX10_deriveCall 34 = .ok (.iload 5, 2) := by decide +kernel
theorem dX10_deriveCall_36 : decode cX10_deriveCall 36 = .ok (.invokevirtual 289, 3) := by decide +kernel
theorem dX10_deriveCall_39 : decode cX10_deriveCall 39 = .ok (.aload_n 0, 1) := by decide +kernel
theorem dX10_deriveCall_40 : decode cX10_deriveCall 40 = .ok (.iload_n 1, 1) := by decide +kernel
theorem dX10_deriveCall_41 : decode cX10_deriveCall 41 = .ok (.invokevirtual 231, 3) := by decide +kernel
theorem dX10_deriveCall_44 : decode cX10_deriveCall 44 = .ok (.iload_n 3, 1) := by decide +kernel
theorem dX10_deriveCall_45 : decode cX10_deriveCall 45 = .ok (.if_icmp .ne 24, 3) := by decide +kernel
theorem dX10_deriveCall_48 : decode cX10_deriveCall 48 = .ok (.aload_n 0, 1) := by decide +kernel
theorem dX10_deriveCall_49 : decode cX10_deriveCall 49 = .ok (.iload_n 1, 1) := by decide +kernel
theorem dX10_deriveCall_50 : decode cX10_deriveCall 50 = .ok (.iload_n 2, 1) := by decide +kernel
theorem dX10_deriveCall_51 : decode cX10_deriveCall 51 = .ok (.aload_n 0, 1) := by decide +kernel
theorem dX10_deriveCall_52 : decode cX10_deriveCall 52 = .ok (.iload_n 1, 1) := by decide +kernel
theorem dX10_deriveCall_53 : decode cX10_deriveCall 53 = .ok (.invokevirtual 234, 3) := by decide +kernel
theorem dX10_deriveCall_56 : decode cX10_deriveCall 56 = .ok (.aload_n 0, 1) := by decide +kernel
theorem dX10_deriveCall_57 : decode cX10_deriveCall 57 = .ok (.getfield 36, 3) := by decide +kernel
theorem dX10_deriveCall_60 : decode cX10_deriveCall 60 = .ok (.iload_n 2, 1) := by decide +kernel
theorem dX10_deriveCall_61 : decode cX10_deriveCall 61 = .ok (.iaload, 1) := by decide +kernel
theorem dX10_deriveCall_62 : decode cX10_deriveCall 62 = .ok (.iload 4, 2) := by decide +kernel
theorem dX10_deriveCall_64 : decode cX10_deriveCall 64 = .ok (.iload 5, 2) := by decide +kernel
theorem dX10_deriveCall_66 : decode cX10_deriveCall 66 = .ok (.invokevirtual 289, 3) := by decide +kernel
theorem dX10_deriveCall_69 : decode cX10_deriveCall 69 = .ok (.return_, 1) := by decide +kernel
set_option maxHeartbeats 4000000 in
set_option maxRecDepth 100000 in
theorem c_X10_deriveCall {l : Launch} {g : Gh} {w : Wd} {k0 : Nat} {v_c : Int32} {v_via : Int32} {v_index : Int32} {v_o : Int32} {v_round : Int32} {wz : Wd} (hF : f_X10_deriveCall w k0 v_c v_via v_index v_o v_round = some wz) (hk0 : zct zM k0 = 10) : Met l yX10_deriveCall (Cond.code yX10_deriveCall cX10_deriveCall 6 none :: TT) (rmd 4) (Pcw zM g w [.ref (g.2.2 k0), .int (v_c), .int (v_via), .int (v_index), .int (v_o), .int (v_round)]) (Qw zM g wz none) 0 0 (zA zM g) := by
  refine mt_start (by decide) (Nat.le_of_ble_eq_true rfl) ?_
  intro p e s m args below meth c H locs ls X hr hl hH
  have hx := X.1
  have hb := X.2.1
  have hml := X.2.2.1
  have hown := X.2.2.2.1
  have ht := X.2.2.2.2.1
  have hl : lv_has ls 6 [(0, .ref (g.2.2 (k0))), (1, .int (v_c)), (2, .int (v_via)), (3, .int (v_index)), (4, .int (v_o)), (5, .int (v_round))] := hl
  unfold f_X10_deriveCall at hF
  refine lv_aload_n hx hb dX10_deriveCall_0 rfl (lv_at hl 0 rfl) ?_
  refine lv_iload_n hx hb dX10_deriveCall_1 rfl (lv_at hl 2 rfl) ?_
  obtain ⟨x1, h1, hF⟩ := ob hF
  refine w_callV (As := [.int (v_via)]) (k := k0) (rest := []) (st1 := [.int (bI (x1))]) X hH (c_X10_isFunction (l := l) (g := g) (w := w) (k0 := k0) (v_o := v_via) h1 hk0) (Or.inl tw_5_71) ms_X10_isFunction im_X10_isFunction hk0 cn_10 ⟨Nat.le_of_ble_eq_true rfl, Nat.le_of_ble_eq_true rfl⟩ rfl rfl hl.1 (Nat.le_of_ble_eq_true rfl) dX10_deriveCall_2 ⟨Nat.le_refl _, Nat.le_refl _⟩ rfl (fun H locs hH => ?_)
  refine w_b_t (tgt := 9) hx hb dX10_deriveCall_5 (by decide) (fun c2 => ?_) (fun c2 => ?_)
  · replace hF := ifn (fun z => z c2) hF
    obtain ⟨s3, hs3, hF⟩ := ob hF
    have Js3 : ∀ (H : Heap) (locs : List Loc) (ls : Array Slot), HW zM g s3 s.heap H locs → lv_has ls 6 [(0, .ref (g.2.2 (k0))), (1, .int (v_c)), (2, .int (v_via)), (3, .int (v_index)), (4, .int (v_o)), (5, .int (v_round))] → W p l e (rmd 4) s m args below meth c H locs 0 0 (MQ below (Qw zM g wz none) args s 0 0 (zA zM g)) (F0 m 39 ls []) := by
      intro H locs ls hH hl
      obtain ⟨s9, hs9, hF⟩ := ob hF
      have Js9 : ∀ (H : Heap) (locs : List Loc) (ls : Array Slot), HW zM g s9 s.heap H locs → lv_has ls 6 [(0, .ref (g.2.2 (k0))), (1, .int (v_c)), (2, .int (v_via)), (3, .int (v_index)), (4, .int (v_o)), (5, .int (v_round))] → W p l e (rmd 4) s m args below meth c H locs 0 0 (MQ below (Qw zM g wz none) args s 0 0 (zA zM g)) (F0 m 69 ls []) := by
        intro H locs ls hH hl
        obtain rfl := se1 hF
        exact w_vret X hH hr dX10_deriveCall_69
      have hF := hs9
      refine lv_aload_n hx hb dX10_deriveCall_39 rfl (lv_at hl 0 rfl) ?_
      refine lv_iload_n hx hb dX10_deriveCall_40 rfl (lv_at hl 1 rfl) ?_
      obtain ⟨x10, h10, hF⟩ := ob hF
      refine w_callV (As := [.int (v_c)]) (k := k0) (rest := []) (st1 := [.int (x10)]) X hH (c_X10_first (l := l) (g := g) (w := s3) (k0 := k0) (v_c := v_c) h10 hk0) (Or.inl tw_5_52) ms_X10_first im_X10_first hk0 cn_10 ⟨Nat.le_of_ble_eq_true rfl, Nat.le_of_ble_eq_true rfl⟩ rfl rfl hl.1 (Nat.le_of_ble_eq_true rfl) dX10_deriveCall_41 ⟨Nat.le_refl _, Nat.le_refl _⟩ rfl (fun H locs hH => ?_)
      refine lv_iload_n hx hb dX10_deriveCall_44 rfl (lv_at hl 3 rfl) ?_
      refine w_ieq_f (tgt := 69) hx hb dX10_deriveCall_45 (by decide) (fun c11 => ?_) (fun c11 => ?_)
      · replace hF := ifn c11 hF
        obtain rfl := se1 hF
        exact Js9 _ _ _ hH (lv_sub hl [0, 1, 2, 3, 4, 5] rfl)
      · replace hF := ifp c11 hF
        refine lv_aload_n hx hb dX10_deriveCall_48 rfl (lv_at hl 0 rfl) ?_
        refine lv_iload_n hx hb dX10_deriveCall_49 rfl (lv_at hl 1 rfl) ?_
        refine lv_iload_n hx hb dX10_deriveCall_50 rfl (lv_at hl 2 rfl) ?_
        refine lv_aload_n hx hb dX10_deriveCall_51 rfl (lv_at hl 0 rfl) ?_
        refine lv_iload_n hx hb dX10_deriveCall_52 rfl (lv_at hl 1 rfl) ?_
        obtain ⟨x12, h12, hF⟩ := ob hF
        refine w_callV (As := [.int (v_c)]) (k := k0) (rest := [.int (v_via), .int (v_c), .ref (g.2.2 (k0))]) (st1 := [.int (x12), .int (v_via), .int (v_c), .ref (g.2.2 (k0))]) X hH (c_X10_second (l := l) (g := g) (w := s3) (k0 := k0) (v_c := v_c) h12 hk0) (Or.inl tw_5_56) ms_X10_second im_X10_second hk0 cn_10 ⟨Nat.le_of_ble_eq_true rfl, Nat.le_of_ble_eq_true rfl⟩ rfl rfl hl.1 (Nat.le_of_ble_eq_true rfl) dX10_deriveCall_53 ⟨Nat.le_refl _, Nat.le_refl _⟩ rfl (fun H locs hH => ?_)
        refine lv_aload_n hx hb dX10_deriveCall_56 rfl (lv_at hl 0 rfl) ?_
        refine w_getr X hH hk0 fs_10_17 lk_10_36 dX10_deriveCall_57 ?_
        refine lv_iload_n hx hb dX10_deriveCall_60 rfl (lv_at hl 2 rfl) ?_
        obtain ⟨x13, h13, hF⟩ := ob hF
        refine w_iald X hH h13 (rt_M_10_17 hk0) dX10_deriveCall_61 ?_
        refine lv_iload hx hb dX10_deriveCall_62 (lv_at hl 4 rfl) ?_
        refine lv_iload hx hb dX10_deriveCall_64 (lv_at hl 5 rfl) ?_
        obtain ⟨w14, h14, hF⟩ := ob hF
        refine w_callV (As := [.int (v_c), .int (v_via), .int (x12), .int (x13), .int (v_o), .int (v_round)]) (k := k0) (rest := []) (st1 := []) X hH (c_X10_note (l := l) (g := g) (w := s3) (k0 := k0) (v_c := v_c) (v_via := v_via) (v_supply := x12) (v_source := x13) (v_o := v_o) (v_round := v_round) h14 hk0) (Or.inl tw_6_216) ms_X10_note im_X10_note hk0 cn_10 ⟨Nat.le_of_ble_eq_true rfl, Nat.le_of_ble_eq_true rfl⟩ rfl rfl hl.1 (Nat.le_of_ble_eq_true rfl) dX10_deriveCall_66 ⟨Nat.le_refl _, Nat.le_refl _⟩ rfl (fun H locs hH => ?_)
        obtain rfl := se1 hF
        exact Js9 _ _ _ hH (lv_sub hl [0, 1, 2, 3, 4, 5] rfl)
    have hF := hs3
    refine lv_aload_n hx hb dX10_deriveCall_9 rfl (lv_at hl 0 rfl) ?_
    refine w_getr X hH hk0 fs_10_16 lk_10_33 dX10_deriveCall_10 ?_
    refine lv_iload_n hx hb dX10_deriveCall_13 rfl (lv_at hl 2 rfl) ?_
    obtain ⟨x4, h4, hF⟩ := ob hF
    refine w_iald X hH h4 (rt_M_10_16 hk0) dX10_deriveCall_14 ?_
    refine lv_iload_n hx hb dX10_deriveCall_15 rfl (lv_at hl 3 rfl) ?_
    refine w_ieq_f (tgt := 39) hx hb dX10_deriveCall_16 (by decide) (fun c5 => ?_) (fun c5 => ?_)
    · replace hF := ifn c5 hF
      obtain rfl := se1 hF
      exact Js3 _ _ _ hH (lv_sub hl [0, 1, 2, 3, 4, 5] rfl)
    · replace hF := ifp c5 hF
      refine lv_aload_n hx hb dX10_deriveCall_19 rfl (lv_at hl 0 rfl) ?_
      refine lv_iload_n hx hb dX10_deriveCall_20 rfl (lv_at hl 1 rfl) ?_
      refine lv_iload_n hx hb dX10_deriveCall_21 rfl (lv_at hl 2 rfl) ?_
      refine lv_aload_n hx hb dX10_deriveCall_22 rfl (lv_at hl 0 rfl) ?_
      refine lv_iload_n hx hb dX10_deriveCall_23 rfl (lv_at hl 1 rfl) ?_
      obtain ⟨x6, h6, hF⟩ := ob hF
      refine w_callV (As := [.int (v_c)]) (k := k0) (rest := [.int (v_via), .int (v_c), .ref (g.2.2 (k0))]) (st1 := [.int (x6), .int (v_via), .int (v_c), .ref (g.2.2 (k0))]) X hH (c_X10_second (l := l) (g := g) (w := w) (k0 := k0) (v_c := v_c) h6 hk0) (Or.inl tw_5_56) ms_X10_second im_X10_second hk0 cn_10 ⟨Nat.le_of_ble_eq_true rfl, Nat.le_of_ble_eq_true rfl⟩ rfl rfl hl.1 (Nat.le_of_ble_eq_true rfl) dX10_deriveCall_24 ⟨Nat.le_refl _, Nat.le_refl _⟩ rfl (fun H locs hH => ?_)
      refine lv_aload_n hx hb dX10_deriveCall_27 rfl (lv_at hl 0 rfl) ?_
      refine lv_iload_n hx hb dX10_deriveCall_28 rfl (lv_at hl 1 rfl) ?_
      obtain ⟨x7, h7, hF⟩ := ob hF
      refine w_callV (As := [.int (v_c)]) (k := k0) (rest := [.int (x6), .int (v_via), .int (v_c), .ref (g.2.2 (k0))]) (st1 := [.int (x7), .int (x6), .int (v_via), .int (v_c), .ref (g.2.2 (k0))]) X hH (c_X10_third (l := l) (g := g) (w := w) (k0 := k0) (v_c := v_c) h7 hk0) (Or.inl tw_5_64) ms_X10_third im_X10_third hk0 cn_10 ⟨Nat.le_of_ble_eq_true rfl, Nat.le_of_ble_eq_true rfl⟩ rfl rfl hl.1 (Nat.le_of_ble_eq_true rfl) dX10_deriveCall_29 ⟨Nat.le_refl _, Nat.le_refl _⟩ rfl (fun H locs hH => ?_)
      refine lv_iload hx hb dX10_deriveCall_32 (lv_at hl 4 rfl) ?_
      refine lv_iload hx hb dX10_deriveCall_34 (lv_at hl 5 rfl) ?_
      obtain ⟨w8, h8, hF⟩ := ob hF
      refine w_callV (As := [.int (v_c), .int (v_via), .int (x6), .int (x7), .int (v_o), .int (v_round)]) (k := k0) (rest := []) (st1 := []) X hH (c_X10_note (l := l) (g := g) (w := w) (k0 := k0) (v_c := v_c) (v_via := v_via) (v_supply := x6) (v_source := x7) (v_o := v_o) (v_round := v_round) h8 hk0) (Or.inl tw_6_216) ms_X10_note im_X10_note hk0 cn_10 ⟨Nat.le_of_ble_eq_true rfl, Nat.le_of_ble_eq_true rfl⟩ rfl rfl hl.1 (Nat.le_of_ble_eq_true rfl) dX10_deriveCall_36 ⟨Nat.le_refl _, Nat.le_refl _⟩ rfl (fun H locs hH => ?_)
      obtain rfl := se1 hF
      exact Js3 _ _ _ hH (lv_sub hl [0, 1, 2, 3, 4, 5] rfl)
  · replace hF := ifp c2 hF
    obtain rfl := se1 hF
    exact w_vret X hH hr dX10_deriveCall_8

theorem dX10_derive_0 : decode cX10_derive 0 = .ok (.aload_n 0, 1) := by decide +kernel
theorem dX10_derive_1 : decode cX10_derive 1 = .ok (.iload_n 3, 1) := by decide +kernel
theorem dX10_derive_2 : decode cX10_derive 2 = .ok (.putfield 269, 3) := by decide +kernel
theorem dX10_derive_5 : decode cX10_derive 5 = .ok (.aload_n 0, 1) := by decide +kernel
theorem dX10_derive_6 : decode cX10_derive 6 = .ok (.iconst 0, 1) := by decide +kernel
theorem dX10_derive_7 : decode cX10_derive 7 = .ok (.putfield 277, 3) := by decide +kernel
theorem dX10_derive_10 : decode cX10_derive 10 = .ok (.aload_n 0, 1) := by decide +kernel
theorem dX10_derive_11 : decode cX10_derive 11 = .ok (.getfield 61, 3) := by decide +kernel
theorem dX10_derive_14 : decode cX10_derive 14 = .ok (.bipush 10, 2) := by decide +kernel
theorem dX10_derive_16 : decode cX10_derive 16 = .ok (.iload_n 1, 1) := by decide +kernel
theorem dX10_derive_17 : decode cX10_derive 17 = .ok (.imul, 1) := by decide +kernel
theorem dX10_derive_18 : decode cX10_derive 18 = .ok (.iload_n 2, 1) := by decide +kernel
theorem dX10_derive_19 : decode cX10_derive 19 = .ok (.iadd, 1) := by decide +kernel
theorem dX10_derive_20 : decode cX10_derive 20 = .ok (.iaload, 1) := by decide +kernel
theorem dX10_derive_21 : decode cX10_derive 21 = .ok (.istore 4, 2) := by decide +kernel
theorem dX10_derive_23 : decode cX10_derive 23 = .ok (.iconst 0, 1) := by decide +kernel
theorem dX10_derive_24 : decode cX10_derive 24 = .ok (.istore 5, 2) := by decide +kernel
theorem dX10_derive_26 : decode cX10_derive 26 = .ok (.iload 5, 2) := by decide +kernel
theorem dX10_derive_28 : decode cX10_derive 28 = .ok (.aload_n 0, 1) := by decide +kernel
theorem dX10_derive_29 : decode cX10_derive 29 = .ok (.getfield 39, 3) := by decide +kernel
theorem dX10_derive_32 : decode cX10_derive 32 = .ok (.iconst 0, 1) := by decide +kernel
theorem dX10_derive_33 : decode cX10_derive 33 = .ok (.iaload, 1) := by decide +kernel
theorem dX10_derive_34 : decode cX10_derive 34 = .ok (.if_icmp .ge 277, 3) := by decide +kernel
theorem dX10_derive_37 : decode cX10_derive 37 = .ok (.aload_n 0, 1) := by decide +kernel
theorem dX10_derive_38 : decode cX10_derive 38 = .ok (.iload 5, 2) := by decide +kernel
theorem dX10_derive_40 : decode cX10_derive 40 = .ok (.invokevirtual 251, 3) := by decide +kernel
theorem dX10_derive_43 : decode cX10_derive 43 = .ok (.ifCond .ne 6, 3) := by decide +kernel
theorem dX10_derive_46 : decode cX10_derive 46 = .ok (.goto 259, 3) := by decide +kernel
theorem dX10_derive_49 : decode cX10_derive 49 = .ok (.aload_n 0, 1) := by decide +kernel
theorem dX10_derive_50 : decode cX10_derive 50 = .ok (.iload 5, 2) := by decide +kernel
theorem dX10_derive_52 : decode cX10_derive 52 = .ok (.invokevirtual 217, 3) := by decide +kernel
theorem dX10_derive_55 : decode cX10_derive 55 = .ok (.tableswitch 218 0 3 #[29, 65, 96, 157], 29) := by decide +kernel
theorem dX10_derive_84 : decode cX10_derive 84 = .ok (.aload_n 0, 1) := by decide +kernel
theorem dX10_derive_85 : decode cX10_derive 85 = .ok (.iload 5, 2) := by decide +kernel
theorem dX10_derive_87 : decode cX10_derive 87 = .ok (.invokevirtual 231, 3) := by decide +kernel
theorem dX10_derive_90 : decode cX10_derive 90 = .ok (.iload_n 1, 1) := by decide +kernel
theorem dX10_derive_91 : decode cX10_derive 91 = .ok (.if_icmp .ne 214, 3) := by decide +kernel
theorem dX10_derive_94 : decode cX10_derive 94 = .ok (.aload_n 0, 1) := by decide +kernel
theorem dX10_derive_95 : decode cX10_derive 95 = .ok (.iload 5, 2) := by decide +kernel
theorem dX10_derive_97 : decode cX10_derive 97 = .ok (.invokevirtual 234, 3) := by decide +kernel
theorem dX10_derive_100 : decode cX10_derive 100 = .ok (.iload_n 2, 1) := by decide +kernel
theorem dX10_derive_101 : decode cX10_derive 101 = .ok (.if_icmp .ne 204, 3) := by decide +kernel
theorem dX10_derive_104 : decode cX10_derive 104 = .ok (.aload_n 0, 1) := by decide +kernel
theorem dX10_derive_105 : decode cX10_derive 105 = .ok (.iload 5, 2) := by decide +kernel
theorem dX10_derive_107 : decode cX10_derive 107 = .ok (.bipush (-2), 2) := by decide +kernel
theorem dX10_derive_109 : decode cX10_derive 109 = .ok (.iconst (-1), 1) := by decide +kernel
theorem dX10_derive_110 : decode cX10_derive 110 = .ok (.iconst (-1), 1) := by decide +kernel
theorem dX10_derive_111 : decode cX10_derive 111 = .ok (.iload_n 2, 1) := by decide +kernel
theorem dX10_derive_112 : decode cX10_derive 112 = .ok (.iload 4, 2) := by decide +kernel
theorem dX10_derive_114 : decode cX10_derive 114 = .ok (.invokevirtual 289, 3) := by decide +kernel
theorem dX10_derive_117 : decode cX10_derive 117 = .ok (.goto 188, 3) := by decide +kernel
theorem dX10_derive_120 : decode cX10_derive 120 = .ok (.aload_n 0, 1) := by decide +kernel
theorem dX10_derive_121 : decode cX10_derive 121 = .ok (.iload 5, 2) := by decide +kernel
theorem dX10_derive_123 : decode cX10_derive 123 = .ok (.invokevirtual 231, 3) := by decide +kernel
theorem dX10_derive_126 : decode cX10_derive 126 = .ok (.iload_n 1, 1) := by decide +kernel
theorem dX10_derive_127 : decode cX10_derive 127 = .ok (.if_icmp .ne 178, 3) := by decide +kernel
theorem dX10_derive_130 : decode cX10_derive 130 = .ok (.aload_n 0, 1) := by decide +kernel
theorem dX10_derive_131 : decode cX10_derive 131 = .ok (.iload 5, 2) := by decide +kernel
theorem dX10_derive_133 : decode cX10_derive 133 = .ok (.bipush (-2), 2) := by decide +kernel
theorem dX10_derive_135 : decode cX10_derive 135 = .ok (.iconst (-1), 1) := by decide +kernel
theorem dX10_derive_136 : decode cX10_derive 136 = .ok (.aload_n 0, 1) := by decide +kernel
theorem dX10_derive_137 : decode cX10_derive 137 = .ok (.iload 5, 2) := by decide +kernel
theorem dX10_derive_139 : decode cX10_derive 139 = .ok (.invokevirtual 234, 3) := by decide +kernel
theorem dX10_derive_142 : decode cX10_derive 142 = .ok (.iload_n 2, 1) := by decide +kernel
theorem dX10_derive_143 : decode cX10_derive 143 = .ok (.iload 4, 2) := by decide +kernel
theorem dX10_derive_145 : decode cX10_derive 145 = .ok (.invokevirtual 289, 3) := by decide +kernel
theorem dX10_derive_148 : decode cX10_derive 148 = .ok (.goto 157, 3) := by decide +kernel
theorem dX10_derive_151 : decode cX10_derive 151 = .ok (.iconst 0, 1) := by decide +kernel
theorem dX10_derive_152 : decode cX10_derive 152 = .ok (.istore 6, 2) := by decide +kernel
theorem dX10_derive_154 : decode cX10_derive 154 = .ok (.iload 6, 2) := by decide +kernel
theorem dX10_derive_156 : decode cX10_derive 156 = .ok (.aload_n 0, 1) := by decide +kernel
theorem dX10_derive_157 : decode cX10_derive 157 = .ok (.getfield 17, 3) := by decide +kernel
theorem dX10_derive_160 : decode cX10_derive 160 = .ok (.iconst 0, 1) := by decide +kernel
theorem dX10_derive_161 : decode cX10_derive 161 = .ok (.iaload, 1) := by decide +kernel
theorem dX10_derive_162 : decode cX10_derive 162 = .ok (.if_icmp .ge 47, 3) := by decide +kernel
theorem dX10_derive_165 : decode cX10_derive 165 = .ok (.aload_n 0, 1) := by decide +kernel
theorem dX10_derive_166 : decode cX10_derive 166 = .ok (.iload 5, 2) := by decide +kernel
theorem dX10_derive_168 : decode cX10_derive 168 = .ok (.invokevirtual 231, 3) := by decide +kernel
theorem dX10_derive_171 : decode cX10_derive 171 = .ok (.iload_n 1, 1) := by decide +kernel
theorem dX10_derive_172 : decode cX10_derive 172 = .ok (.if_icmp .ne 31, 3) := by decide +kernel
theorem dX10_derive_175 : decode cX10_derive 175 = .ok (.aload_n 0, 1) := by decide +kernel
theorem dX10_derive_176 : decode cX10_derive 176 = .ok (.iload 5, 2) := by decide +kernel
theorem dX10_derive_178 : decode cX10_derive 178 = .ok (.iload 6, 2) := by decide +kernel
theorem dX10_derive_180 : decode cX10_derive 180 = .ok (.aload_n 0, 1) := by decide +kernel
theorem dX10_derive_181 : decode cX10_derive 181 = .ok (.iload 5, 2) := by decide +kernel
theorem dX10_derive_183 : decode cX10_derive 183 = .ok (.invokevirtual 234, 3) := by decide +kernel
theorem dX10_derive_186 : decode cX10_derive 186 = .ok (.iload 6, 2) := by decide +kernel
theorem dX10_derive_188 : decode cX10_derive 188 = .ok (.aload_n 0, 1) := by decide +kernel
theorem dX10_derive_189 : decode cX10_derive 189 = .ok (.iload 5, 2) := by decide +kernel
theorem dX10_derive_191 : decode cX10_derive 191 = .ok (.invokevirtual 241, 3) := by decide +kernel
theorem dX10_derive_194 : decode cX10_derive 194 = .ok (.invokestatic 244, 3) := by decide +kernel
theorem dX10_derive_197 : decode cX10_derive 197 = .ok (.iload_n 2, 1) := by decide +kernel
theorem dX10_derive_198 : decode cX10_derive 198 = .ok (.iload 4, 2) := by decide +kernel
theorem dX10_derive_200 : decode cX10_derive 200 = .ok (.invokevirtual 289, 3) := by decide +kernel
theorem dX10_derive_203 : decode cX10_derive 203 = .ok (.iinc 6 1, 3) := by decide +kernel
theorem dX10_derive_206 : decode cX10_derive 206 = .ok (.goto (-52), 3) := by decide +kernel
theorem dX10_derive_209 : decode cX10_derive 209 = .ok (.goto 96, 3) := by decide +kernel
theorem dX10_derive_212 : decode cX10_derive 212 = .ok (.iconst 0, 1) := by decide +kernel
theorem dX10_derive_213 : decode cX10_derive 213 = .ok (.istore 6, 2) := by decide +kernel
theorem dX10_derive_215 : decode cX10_derive 215 = .ok (.iload 6, 2) := by decide +kernel
theorem dX10_derive_217 : decode cX10_derive 217 = .ok (.aload_n 0, 1) := by decide +kernel
theorem dX10_derive_218 : decode cX10_derive 218 = .ok (.getfield 17, 3) := by decide +kernel
theorem dX10_derive_221 : decode cX10_derive 221 = .ok (.iconst 0, 1) := by decide +kernel
theorem dX10_derive_222 : decode cX10_derive 222 = .ok (.iaload, 1) := by decide +kernel
theorem dX10_derive_223 : decode cX10_derive 223 = .ok (.if_icmp .ge 47, 3) := by decide +kernel
theorem dX10_derive_226 : decode cX10_derive 226 = .ok (.iload 6, 2) := by decide +kernel
theorem dX10_derive_228 : decode cX10_derive 228 = .ok (.aload_n 0, 1) := by decide +kernel
theorem dX10_derive_229 : decode cX10_derive 229 = .ok (.iload 5, 2) := by decide +kernel
theorem dX10_derive_231 : decode cX10_derive 231 = .ok (.invokevirtual 234, 3) := by decide +kernel
theorem dX10_derive_234 : decode cX10_derive 234 = .ok (.invokestatic 244, 3) := by decide +kernel
theorem dX10_derive_237 : decode cX10_derive 237 = .ok (.iload_n 1, 1) := by decide +kernel
theorem dX10_derive_238 : decode cX10_derive 238 = .ok (.if_icmp .ne 26, 3) := by decide +kernel
theorem dX10_derive_241 : decode cX10_derive 241 = .ok (.aload_n 0, 1) := by decide +kernel
theorem dX10_derive_242 : decode cX10_derive 242 = .ok (.iload 5, 2) := by decide +kernel
theorem dX10_derive_244 : decode cX10_derive 244 = .ok (.iload 6, 2) := by decide +kernel
theorem dX10_derive_246 : decode cX10_derive 246 = .ok (.aload_n 0, 1) := by decide +kernel
theorem dX10_derive_247 : decode cX10_derive 247 = .ok (.iload 5, 2) := by decide +kernel
theorem dX10_derive_249 : decode cX10_derive 249 = .ok (.invokevirtual 231, 3) := by decide +kernel
theorem dX10_derive_252 : decode cX10_derive 252 = .ok (.aload_n 0, 1) := by decide +kernel
theorem dX10_derive_253 : decode cX10_derive 253 = .ok (.iload 5, 2) := by decide +kernel
theorem dX10_derive_255 : decode cX10_derive 255 = .ok (.invokevirtual 241, 3) := by decide +kernel
theorem dX10_derive_258 : decode cX10_derive 258 = .ok (.iload_n 2, 1) := by decide +kernel
theorem dX10_derive_259 : decode cX10_derive 259 = .ok (.iload 4, 2) := by decide +kernel
theorem dX10_derive_261 : decode cX10_derive 261 = .ok (.invokevirtual 289, 3) := by decide +kernel
theorem dX10_derive_264 : decode cX10_derive 264 = .ok (.iinc 6 1, 3) := by decide +kernel
theorem dX10_derive_267 : decode cX10_derive 267 = .ok (.goto (-52), 3) := by decide +kernel
theorem dX10_derive_270 : decode cX10_derive 270 = .ok (.goto 35, 3) := by decide +kernel
theorem dX10_derive_273 : decode cX10_derive 273 = .ok (.iconst 0, 1) := by decide +kernel
theorem dX10_derive_274 : decode cX10_derive 274 = .ok (.istore 6, 2) := by decide +kernel
theorem dX10_derive_276 : decode cX10_derive 276 = .ok (.iload 6, 2) := by decide +kernel
theorem dX10_derive_278 : decode cX10_derive 278 = .ok (.aload_n 0, 1) := by decide +kernel
theorem dX10_derive_279 : decode cX10_derive 279 = .ok (.getfield 17, 3) := by decide +kernel
theorem dX10_derive_282 : decode cX10_derive 282 = .ok (.iconst 0, 1) := by decide +kernel
theorem dX10_derive_283 : decode cX10_derive 283 = .ok (.iaload, 1) := by decide +kernel
theorem dX10_derive_284 : decode cX10_derive 284 = .ok (.if_icmp .ge 21, 3) := by decide +kernel
theorem dX10_derive_287 : decode cX10_derive 287 = .ok (.aload_n 0, 1) := by decide +kernel
theorem dX10_derive_288 : decode cX10_derive 288 = .ok (.iload 5, 2) := by decide +kernel
theorem dX10_derive_290 : decode cX10_derive 290 = .ok (.iload 6, 2) := by decide +kernel
theorem dX10_derive_292 : decode cX10_derive 292 = .ok (.iload_n 1, 1) := by decide +kernel
theorem dX10_derive_293 : decode cX10_derive 293 = .ok (.iload_n 2, 1) := by decide +kernel
theorem dX10_derive_294 : decode cX10_derive 294 = .ok (.iload 4, 2) := by decide +kernel
theorem dX10_derive_296 : decode cX10_derive 296 = .ok (.invokevirtual 293, 3) := by decide +kernel
theorem dX10_derive_299 : decode cX10_derive 299 = .ok (.iinc 6 1, 3) := by decide +kernel
theorem dX10_derive_302 : decode cX10_derive 302 = .ok (.goto (-26), 3) := by decide +kernel
theorem dX10_derive_305 : decode cX10_derive 305 = .ok (.iinc 5 1, 3) := by decide +kernel
theorem dX10_derive_308 : decode cX10_derive 308 = .ok (.goto (-282), 3) := by decide +kernel
theorem dX10_derive_311 : decode cX10_derive 311 = .ok (.return_, 1) := by decide +kernel
set_option maxHeartbeats 4000000 in
set_option maxRecDepth 100000 in
theorem c_X10_derive {l : Launch} {g : Gh} {w : Wd} {k0 : Nat} {v_index : Int32} {v_o : Int32} {v_primary : Bool} {wz : Wd} (hF : f_X10_derive w k0 v_index v_o v_primary = some wz) (hk0 : zct zM k0 = 10) : Met l yX10_derive (Cond.code yX10_derive cX10_derive 7 none :: TT) (rmd 5) (Pcw zM g w [.ref (g.2.2 k0), .int (v_index), .int (v_o), .int (bI (v_primary))]) (Qw zM g wz none) 0 0 (zA zM g) := by
  refine mt_start (by decide) (Nat.le_of_ble_eq_true rfl) ?_
  intro p e s m args below meth c H locs ls X hr hl hH
  have hx := X.1
  have hb := X.2.1
  have hml := X.2.2.1
  have hown := X.2.2.2.1
  have ht := X.2.2.2.2.1
  have hl : lv_has ls 7 [(0, .ref (g.2.2 (k0))), (1, .int (v_index)), (2, .int (v_o)), (3, .int (bI (v_primary)))] := hl
  unfold f_X10_derive at hF
  refine lv_aload_n hx hb dX10_derive_0 rfl (lv_at hl 0 rfl) ?_
  refine lv_iload_n hx hb dX10_derive_1 rfl (lv_at hl 3 rfl) ?_
  obtain ⟨w1, h1, hF⟩ := ob hF
  refine w_putz X hH h1 hk0 fs_10_32 nf_10_32 lk_10_269 dX10_derive_2 (fun H locs hH => ?_)
  refine lv_aload_n hx hb dX10_derive_5 rfl (lv_at hl 0 rfl) ?_
  refine lv_iconst (v := (0 : Int32)) hx hb dX10_derive_6 (by decide) ?_
  obtain ⟨w2, h2, hF⟩ := ob hF
  refine w_puti X hH h2 hk0 fs_10_31 nf_10_31 lk_10_277 dX10_derive_7 (fun H locs hH => ?_)
  refine lv_aload_n hx hb dX10_derive_10 rfl (lv_at hl 0 rfl) ?_
  refine w_getr X hH hk0 fs_10_26 lk_10_61 dX10_derive_11 ?_
  refine lv_bipush (v := (10 : Int32)) hx hb dX10_derive_14 (by decide) ?_
  refine lv_iload_n hx hb dX10_derive_16 rfl (lv_at hl 1 rfl) ?_
  refine lv_imul hx hb dX10_derive_17 ?_
  refine lv_iload_n hx hb dX10_derive_18 rfl (lv_at hl 2 rfl) ?_
  refine lv_iadd hx hb dX10_derive_19 ?_
  obtain ⟨x3, h3, hF⟩ := ob hF
  refine w_iald X hH h3 (rt_M_10_26 hk0) dX10_derive_20 ?_
  refine lv_istore (lv' := [(4, .int (x3)), (0, .ref (g.2.2 (k0))), (1, .int (v_index)), (2, .int (v_o)), (3, .int (bI (v_primary)))]) hx hb dX10_derive_21 hl (by decide) rfl (fun ls hl => ?_)
  refine lv_iconst (v := (0 : Int32)) hx hb dX10_derive_23 (by decide) ?_
  refine lv_istore (lv' := [(5, .int ((0 : Int32))), (4, .int (x3)), (0, .ref (g.2.2 (k0))), (1, .int (v_index)), (2, .int (v_o)), (3, .int (bI (v_primary)))]) hx hb dX10_derive_24 hl (by decide) rfl (fun ls hl => ?_)
  obtain ⟨r5, hLr5, hF⟩ := ob hF
  have Jr5 : ∀ (H : Heap) (locs : List Loc) (ls : Array Slot), HW zM g r5 s.heap H locs → lv_has ls 7 [(0, .ref (g.2.2 (k0))), (1, .int (v_index)), (2, .int (v_o)), (3, .int (bI (v_primary))), (4, .int (x3))] → W p l e (rmd 5) s m args below meth c H locs 0 0 (MQ below (Qw zM g wz none) args s 0 0 (zA zM g)) (F0 m 311 ls []) := by
    intro H locs ls hH hl
    obtain rfl := se1 hF
    exact w_vret X hH hr dX10_derive_311
  have Lr5 : ∀ (n : Nat) (s4 : Int32 × Wd), lp (b_X10_derive_1 k0 v_index v_o x3) n s4 = some r5 → ∀ (H : Heap) (locs : List Loc) (ls : Array Slot), HW zM g s4.2 s.heap H locs → lv_has ls 7 [(0, .ref (g.2.2 (k0))), (1, .int (v_index)), (2, .int (v_o)), (3, .int (bI (v_primary))), (4, .int (x3)), (5, .int (s4.1))] → W p l e (rmd 5) s m args below meth c H locs 0 0 (MQ below (Qw zM g wz none) args s 0 0 (zA zM g)) (F0 m 26 ls []) := by
    intro n
    induction n with
    | zero => intro s4 hL; exact lp_0 hL
    | succ n ih =>
      intro s4 hL H locs ls hH hl
      obtain ⟨bb, hF, hL⟩ := lp_s hL
      unfold b_X10_derive_1 at hF
      refine lv_iload hx hb dX10_derive_26 (lv_at hl 5 rfl) ?_
      refine lv_aload_n hx hb dX10_derive_28 rfl (lv_at hl 0 rfl) ?_
      refine w_getr X hH hk0 fs_10_18 lk_10_39 dX10_derive_29 ?_
      refine lv_iconst (v := (0 : Int32)) hx hb dX10_derive_32 (by decide) ?_
      obtain ⟨x6, h6, hF⟩ := ob hF
      refine w_iald X hH h6 (rt_M_10_18 hk0) dX10_derive_33 ?_
      refine w_ilt_f (tgt := 311) hx hb dX10_derive_34 (by decide) (fun c7 => ?_) (fun c7 => ?_)
      · replace hF := ifn c7 hF
        obtain rfl := se1 hF
        subst hL
        exact Jr5 _ _ _ hH (lv_sub hl [0, 1, 2, 3, 4] rfl)
      · replace hF := ifp c7 hF
        refine lv_aload_n hx hb dX10_derive_37 rfl (lv_at hl 0 rfl) ?_
        refine lv_iload hx hb dX10_derive_38 (lv_at hl 5 rfl) ?_
        obtain ⟨x8, h8, hF⟩ := ob hF
        refine w_callV (As := [.int (s4.1)]) (k := k0) (rest := []) (st1 := [.int (bI (x8))]) X hH (c_X10_isEnabled (l := l) (g := g) (w := s4.2) (k0 := k0) (v_c := s4.1) h8 hk0) (Or.inl tw_5_37) ms_X10_isEnabled im_X10_isEnabled hk0 cn_10 ⟨Nat.le_of_ble_eq_true rfl, Nat.le_of_ble_eq_true rfl⟩ rfl rfl hl.1 (Nat.le_of_ble_eq_true rfl) dX10_derive_40 ⟨Nat.le_refl _, Nat.le_refl _⟩ rfl (fun H locs hH => ?_)
        refine w_b_t (tgt := 49) hx hb dX10_derive_43 (by decide) (fun c9 => ?_) (fun c9 => ?_)
        · replace hF := ifn (fun z => z c9) hF
          refine lv_aload_n hx hb dX10_derive_49 rfl (lv_at hl 0 rfl) ?_
          refine lv_iload hx hb dX10_derive_50 (lv_at hl 5 rfl) ?_
          obtain ⟨x11, h11, hF⟩ := ob hF
          refine w_callV (As := [.int (s4.1)]) (k := k0) (rest := []) (st1 := [.int (x11)]) X hH (c_X10_kind (l := l) (g := g) (w := s4.2) (k0 := k0) (v_c := s4.1) h11 hk0) (Or.inl tw_5_48) ms_X10_kind im_X10_kind hk0 cn_10 ⟨Nat.le_of_ble_eq_true rfl, Nat.le_of_ble_eq_true rfl⟩ rfl rfl hl.1 (Nat.le_of_ble_eq_true rfl) dX10_derive_52 ⟨Nat.le_refl _, Nat.le_refl _⟩ rfl (fun H locs hH => ?_)
          obtain ⟨s10, hs10, hF⟩ := ob hF
          have Js10 : ∀ (H : Heap) (locs : List Loc) (ls : Array Slot), HW zM g s10 s.heap H locs → lv_has ls 7 [(0, .ref (g.2.2 (k0))), (1, .int (v_index)), (2, .int (v_o)), (3, .int (bI (v_primary))), (4, .int (x3)), (5, .int (s4.1))] → W p l e (rmd 5) s m args below meth c H locs 0 0 (MQ below (Qw zM g wz none) args s 0 0 (zA zM g)) (F0 m 305 ls []) := by
            intro H locs ls hH hl
            refine lv_iinc (v := (s4.1 + (1 : Int32))) (lv' := [(5, .int ((s4.1 + (1 : Int32)))), (0, .ref (g.2.2 (k0))), (1, .int (v_index)), (2, .int (v_o)), (3, .int (bI (v_primary))), (4, .int (x3))]) hx hb dX10_derive_305 hl (k := 5) rfl rfl (by decide) rfl (fun ls hl => ?_)
            refine lv_goto (tgt := 26) hx hb dX10_derive_308 (by decide) ?_
            obtain rfl := se1 hF
            exact ih _ hL _ _ _ hH (lv_sub hl [1, 2, 3, 4, 5, 0] rfl)
          have hF := hs10
          by_cases c12 : x11 = (0 : Int32)
          · replace hF := ifp c12 hF
            refine w_tin (tgt := 84) hx hb c12 dX10_derive_55 (by decide) (by decide) rfl (by decide) ?_
            obtain ⟨s13, hs13, hF⟩ := ob hF
            have Js13 : ∀ (H : Heap) (locs : List Loc) (ls : Array Slot), HW zM g s13 s.heap H locs → lv_has ls 7 [(0, .ref (g.2.2 (k0))), (1, .int (v_index)), (2, .int (v_o)), (3, .int (bI (v_primary))), (4, .int (x3)), (5, .int (s4.1))] → W p l e (rmd 5) s m args below meth c H locs 0 0 (MQ below (Qw zM g wz none) args s 0 0 (zA zM g)) (F0 m 305 ls []) := by
              intro H locs ls hH hl
              obtain rfl := se1 hF
              exact Js10 _ _ _ hH (lv_sub hl [0, 1, 2, 3, 4, 5] rfl)
            have hF := hs13
            obtain ⟨b14, hb14, hF⟩ := ob hF
            have Jb14T : b14 = true → ∀ (H : Heap) (locs : List Loc), HW zM g s4.2 s.heap H locs → W p l e (rmd 5) s m args below meth c H locs 0 0 (MQ below (Qw zM g wz none) args s 0 0 (zA zM g)) (F0 m 104 ls []) := by
              intro hc H locs hH
              replace hF := ifp hc hF
              refine lv_aload_n hx hb dX10_derive_104 rfl (lv_at hl 0 rfl) ?_
              refine lv_iload hx hb dX10_derive_105 (lv_at hl 5 rfl) ?_
              refine lv_bipush (v := (-2 : Int32)) hx hb dX10_derive_107 (by decide) ?_
              refine lv_iconst (v := (-1 : Int32)) hx hb dX10_derive_109 (by decide) ?_
              refine lv_iconst (v := (-1 : Int32)) hx hb dX10_derive_110 (by decide) ?_
              refine lv_iload_n hx hb dX10_derive_111 rfl (lv_at hl 2 rfl) ?_
              refine lv_iload hx hb dX10_derive_112 (lv_at hl 4 rfl) ?_
              obtain ⟨w19, h19, hF⟩ := ob hF
              refine w_callV (As := [.int (s4.1), .int ((-2 : Int32)), .int ((-1 : Int32)), .int ((-1 : Int32)), .int (v_o), .int (x3)]) (k := k0) (rest := []) (st1 := []) X hH (c_X10_note (l := l) (g := g) (w := s4.2) (k0 := k0) (v_c := s4.1) (v_via := (-2 : Int32)) (v_supply := (-1 : Int32)) (v_source := (-1 : Int32)) (v_o := v_o) (v_round := x3) h19 hk0) (Or.inl tw_6_216) ms_X10_note im_X10_note hk0 cn_10 ⟨Nat.le_of_ble_eq_true rfl, Nat.le_of_ble_eq_true rfl⟩ rfl rfl hl.1 (Nat.le_of_ble_eq_true rfl) dX10_derive_114 ⟨Nat.le_refl _, Nat.le_refl _⟩ rfl (fun H locs hH => ?_)
              refine lv_goto (tgt := 305) hx hb dX10_derive_117 (by decide) ?_
              obtain rfl := se1 hF
              exact Js13 _ _ _ hH (lv_sub hl [0, 1, 2, 3, 4, 5] rfl)
            have Jb14F : ¬ (b14 = true) → ∀ (H : Heap) (locs : List Loc), HW zM g s4.2 s.heap H locs → W p l e (rmd 5) s m args below meth c H locs 0 0 (MQ below (Qw zM g wz none) args s 0 0 (zA zM g)) (F0 m 305 ls []) := by
              intro hc H locs hH
              replace hF := ifn hc hF
              obtain rfl := se1 hF
              exact Js13 _ _ _ hH (lv_sub hl [0, 1, 2, 3, 4, 5] rfl)
            have hF := hb14
            refine lv_aload_n hx hb dX10_derive_84 rfl (lv_at hl 0 rfl) ?_
            refine lv_iload hx hb dX10_derive_85 (lv_at hl 5 rfl) ?_
            obtain ⟨x16, h16, hF⟩ := ob hF
            refine w_callV (As := [.int (s4.1)]) (k := k0) (rest := []) (st1 := [.int (x16)]) X hH (c_X10_first (l := l) (g := g) (w := s4.2) (k0 := k0) (v_c := s4.1) h16 hk0) (Or.inl tw_5_52) ms_X10_first im_X10_first hk0 cn_10 ⟨Nat.le_of_ble_eq_true rfl, Nat.le_of_ble_eq_true rfl⟩ rfl rfl hl.1 (Nat.le_of_ble_eq_true rfl) dX10_derive_87 ⟨Nat.le_refl _, Nat.le_refl _⟩ rfl (fun H locs hH => ?_)
            refine lv_iload_n hx hb dX10_derive_90 rfl (lv_at hl 1 rfl) ?_
            refine w_ieq_f (tgt := 305) hx hb dX10_derive_91 (by decide) (fun c15 => ?_) (fun c15 => ?_)
            · replace hF := ifn c15 hF
              obtain rfl := se1 hF
              exact Jb14F Bool.false_ne_true _ _ hH
            · replace hF := ifp c15 hF
              refine lv_aload_n hx hb dX10_derive_94 rfl (lv_at hl 0 rfl) ?_
              refine lv_iload hx hb dX10_derive_95 (lv_at hl 5 rfl) ?_
              obtain ⟨x18, h18, hF⟩ := ob hF
              refine w_callV (As := [.int (s4.1)]) (k := k0) (rest := []) (st1 := [.int (x18)]) X hH (c_X10_second (l := l) (g := g) (w := s4.2) (k0 := k0) (v_c := s4.1) h18 hk0) (Or.inl tw_5_56) ms_X10_second im_X10_second hk0 cn_10 ⟨Nat.le_of_ble_eq_true rfl, Nat.le_of_ble_eq_true rfl⟩ rfl rfl hl.1 (Nat.le_of_ble_eq_true rfl) dX10_derive_97 ⟨Nat.le_refl _, Nat.le_refl _⟩ rfl (fun H locs hH => ?_)
              refine lv_iload_n hx hb dX10_derive_100 rfl (lv_at hl 2 rfl) ?_
              refine w_ieq_f (tgt := 305) hx hb dX10_derive_101 (by decide) (fun c17 => ?_) (fun c17 => ?_)
              · replace hF := ifn c17 hF
                obtain rfl := se1 hF
                exact Jb14F Bool.false_ne_true _ _ hH
              · replace hF := ifp c17 hF
                obtain rfl := se1 hF
                exact Jb14T rfl _ _ hH
          · replace hF := ifn c12 hF
            by_cases c20 : x11 = (1 : Int32)
            · replace hF := ifp c20 hF
              refine w_tin (tgt := 120) hx hb c20 dX10_derive_55 (by decide) (by decide) rfl (by decide) ?_
              obtain ⟨s21, hs21, hF⟩ := ob hF
              have Js21 : ∀ (H : Heap) (locs : List Loc) (ls : Array Slot), HW zM g s21 s.heap H locs → lv_has ls 7 [(0, .ref (g.2.2 (k0))), (1, .int (v_index)), (2, .int (v_o)), (3, .int (bI (v_primary))), (4, .int (x3)), (5, .int (s4.1))] → W p l e (rmd 5) s m args below meth c H locs 0 0 (MQ below (Qw zM g wz none) args s 0 0 (zA zM g)) (F0 m 305 ls []) := by
                intro H locs ls hH hl
                obtain rfl := se1 hF
                exact Js10 _ _ _ hH (lv_sub hl [0, 1, 2, 3, 4, 5] rfl)
              have hF := hs21
              refine lv_aload_n hx hb dX10_derive_120 rfl (lv_at hl 0 rfl) ?_
              refine lv_iload hx hb dX10_derive_121 (lv_at hl 5 rfl) ?_
              obtain ⟨x22, h22, hF⟩ := ob hF
              refine w_callV (As := [.int (s4.1)]) (k := k0) (rest := []) (st1 := [.int (x22)]) X hH (c_X10_first (l := l) (g := g) (w := s4.2) (k0 := k0) (v_c := s4.1) h22 hk0) (Or.inl tw_5_52) ms_X10_first im_X10_first hk0 cn_10 ⟨Nat.le_of_ble_eq_true rfl, Nat.le_of_ble_eq_true rfl⟩ rfl rfl hl.1 (Nat.le_of_ble_eq_true rfl) dX10_derive_123 ⟨Nat.le_refl _, Nat.le_refl _⟩ rfl (fun H locs hH => ?_)
              refine lv_iload_n hx hb dX10_derive_126 rfl (lv_at hl 1 rfl) ?_
              refine w_ieq_f (tgt := 305) hx hb dX10_derive_127 (by decide) (fun c23 => ?_) (fun c23 => ?_)
              · replace hF := ifn c23 hF
                obtain rfl := se1 hF
                exact Js21 _ _ _ hH (lv_sub hl [0, 1, 2, 3, 4, 5] rfl)
              · replace hF := ifp c23 hF
                refine lv_aload_n hx hb dX10_derive_130 rfl (lv_at hl 0 rfl) ?_
                refine lv_iload hx hb dX10_derive_131 (lv_at hl 5 rfl) ?_
                refine lv_bipush (v := (-2 : Int32)) hx hb dX10_derive_133 (by decide) ?_
                refine lv_iconst (v := (-1 : Int32)) hx hb dX10_derive_135 (by decide) ?_
                refine lv_aload_n hx hb dX10_derive_136 rfl (lv_at hl 0 rfl) ?_
                refine lv_iload hx hb dX10_derive_137 (lv_at hl 5 rfl) ?_
                obtain ⟨x24, h24, hF⟩ := ob hF
                refine w_callV (As := [.int (s4.1)]) (k := k0) (rest := [.int ((-1 : Int32)), .int ((-2 : Int32)), .int (s4.1), .ref (g.2.2 (k0))]) (st1 := [.int (x24), .int ((-1 : Int32)), .int ((-2 : Int32)), .int (s4.1), .ref (g.2.2 (k0))]) X hH (c_X10_second (l := l) (g := g) (w := s4.2) (k0 := k0) (v_c := s4.1) h24 hk0) (Or.inl tw_5_56) ms_X10_second im_X10_second hk0 cn_10 ⟨Nat.le_of_ble_eq_true rfl, Nat.le_of_ble_eq_true rfl⟩ rfl rfl hl.1 (Nat.le_of_ble_eq_true rfl) dX10_derive_139 ⟨Nat.le_refl _, Nat.le_refl _⟩ rfl (fun H locs hH => ?_)
                refine lv_iload_n hx hb dX10_derive_142 rfl (lv_at hl 2 rfl) ?_
                refine lv_iload hx hb dX10_derive_143 (lv_at hl 4 rfl) ?_
                obtain ⟨w25, h25, hF⟩ := ob hF
                refine w_callV (As := [.int (s4.1), .int ((-2 : Int32)), .int ((-1 : Int32)), .int (x24), .int (v_o), .int (x3)]) (k := k0) (rest := []) (st1 := []) X hH (c_X10_note (l := l) (g := g) (w := s4.2) (k0 := k0) (v_c := s4.1) (v_via := (-2 : Int32)) (v_supply := (-1 : Int32)) (v_source := x24) (v_o := v_o) (v_round := x3) h25 hk0) (Or.inl tw_6_216) ms_X10_note im_X10_note hk0 cn_10 ⟨Nat.le_of_ble_eq_true rfl, Nat.le_of_ble_eq_true rfl⟩ rfl rfl hl.1 (Nat.le_of_ble_eq_true rfl) dX10_derive_145 ⟨Nat.le_refl _, Nat.le_refl _⟩ rfl (fun H locs hH => ?_)
                refine lv_goto (tgt := 305) hx hb dX10_derive_148 (by decide) ?_
                obtain rfl := se1 hF
                exact Js21 _ _ _ hH (lv_sub hl [0, 1, 2, 3, 4, 5] rfl)
            · replace hF := ifn c20 hF
              by_cases c26 : x11 = (2 : Int32)
              · replace hF := ifp c26 hF
                refine w_tin (tgt := 151) hx hb c26 dX10_derive_55 (by decide) (by decide) rfl (by decide) ?_
                refine lv_iconst (v := (0 : Int32)) hx hb dX10_derive_151 (by decide) ?_
                refine lv_istore (lv' := [(6, .int ((0 : Int32))), (0, .ref (g.2.2 (k0))), (1, .int (v_index)), (2, .int (v_o)), (3, .int (bI (v_primary))), (4, .int (x3)), (5, .int (s4.1))]) hx hb dX10_derive_152 hl (by decide) rfl (fun ls hl => ?_)
                obtain ⟨r28, hLr28, hF⟩ := ob hF
                have Jr28 : ∀ (H : Heap) (locs : List Loc) (ls : Array Slot), HW zM g r28 s.heap H locs → lv_has ls 7 [(0, .ref (g.2.2 (k0))), (1, .int (v_index)), (2, .int (v_o)), (3, .int (bI (v_primary))), (4, .int (x3)), (5, .int (s4.1))] → W p l e (rmd 5) s m args below meth c H locs 0 0 (MQ below (Qw zM g wz none) args s 0 0 (zA zM g)) (F0 m 209 ls []) := by
                  intro H locs ls hH hl
                  refine lv_goto (tgt := 305) hx hb dX10_derive_209 (by decide) ?_
                  obtain rfl := se1 hF
                  exact Js10 _ _ _ hH (lv_sub hl [0, 1, 2, 3, 4, 5] rfl)
                have Lr28 : ∀ (n : Nat) (s27 : Int32 × Wd), lp (b_X10_derive_2 k0 s4 v_index v_o x3) n s27 = some r28 → ∀ (H : Heap) (locs : List Loc) (ls : Array Slot), HW zM g s27.2 s.heap H locs → lv_has ls 7 [(0, .ref (g.2.2 (k0))), (1, .int (v_index)), (2, .int (v_o)), (3, .int (bI (v_primary))), (4, .int (x3)), (5, .int (s4.1)), (6, .int (s27.1))] → W p l e (rmd 5) s m args below meth c H locs 0 0 (MQ below (Qw zM g wz none) args s 0 0 (zA zM g)) (F0 m 154 ls []) := by
                  intro n
                  induction n with
                  | zero => intro s27 hL; exact lp_0 hL
                  | succ n ih =>
                    intro s27 hL H locs ls hH hl
                    obtain ⟨bb, hF, hL⟩ := lp_s hL
                    unfold b_X10_derive_2 at hF
                    refine lv_iload hx hb dX10_derive_154 (lv_at hl 6 rfl) ?_
                    refine lv_aload_n hx hb dX10_derive_156 rfl (lv_at hl 0 rfl) ?_
                    refine w_getr X hH hk0 fs_10_11 lk_10_17 dX10_derive_157 ?_
                    refine lv_iconst (v := (0 : Int32)) hx hb dX10_derive_160 (by decide) ?_
                    obtain ⟨x29, h29, hF⟩ := ob hF
                    refine w_iald X hH h29 (rt_M_10_11 hk0) dX10_derive_161 ?_
                    refine w_ilt_f (tgt := 209) hx hb dX10_derive_162 (by decide) (fun c30 => ?_) (fun c30 => ?_)
                    · replace hF := ifn c30 hF
                      obtain rfl := se1 hF
                      subst hL
                      exact Jr28 _ _ _ hH (lv_sub hl [0, 1, 2, 3, 4, 5] rfl)
                    · replace hF := ifp c30 hF
                      obtain ⟨s31, hs31, hF⟩ := ob hF
                      have Js31 : ∀ (H : Heap) (locs : List Loc) (ls : Array Slot), HW zM g s31 s.heap H locs → lv_has ls 7 [(0, .ref (g.2.2 (k0))), (1, .int (v_index)), (2, .int (v_o)), (3, .int (bI (v_primary))), (4, .int (x3)), (5, .int (s4.1)), (6, .int (s27.1))] → W p l e (rmd 5) s m args below meth c H locs 0 0 (MQ below (Qw zM g wz none) args s 0 0 (zA zM g)) (F0 m 203 ls []) := by
                        intro H locs ls hH hl
                        refine lv_iinc (v := (s27.1 + (1 : Int32))) (lv' := [(6, .int ((s27.1 + (1 : Int32)))), (0, .ref (g.2.2 (k0))), (1, .int (v_index)), (2, .int (v_o)), (3, .int (bI (v_primary))), (4, .int (x3)), (5, .int (s4.1))]) hx hb dX10_derive_203 hl (k := 6) rfl rfl (by decide) rfl (fun ls hl => ?_)
                        refine lv_goto (tgt := 154) hx hb dX10_derive_206 (by decide) ?_
                        obtain rfl := se1 hF
                        exact ih _ hL _ _ _ hH (lv_sub hl [1, 2, 3, 4, 5, 6, 0] rfl)
                      have hF := hs31
                      refine lv_aload_n hx hb dX10_derive_165 rfl (lv_at hl 0 rfl) ?_
                      refine lv_iload hx hb dX10_derive_166 (lv_at hl 5 rfl) ?_
                      obtain ⟨x32, h32, hF⟩ := ob hF
                      refine w_callV (As := [.int (s4.1)]) (k := k0) (rest := []) (st1 := [.int (x32)]) X hH (c_X10_first (l := l) (g := g) (w := s27.2) (k0 := k0) (v_c := s4.1) h32 hk0) (Or.inl tw_5_52) ms_X10_first im_X10_first hk0 cn_10 ⟨Nat.le_of_ble_eq_true rfl, Nat.le_of_ble_eq_true rfl⟩ rfl rfl hl.1 (Nat.le_of_ble_eq_true rfl) dX10_derive_168 ⟨Nat.le_refl _, Nat.le_refl _⟩ rfl (fun H locs hH => ?_)
                      refine lv_iload_n hx hb dX10_derive_171 rfl (lv_at hl 1 rfl) ?_
                      refine w_ieq_f (tgt := 203) hx hb dX10_derive_172 (by decide) (fun c33 => ?_) (fun c33 => ?_)
                      · replace hF := ifn c33 hF
                        obtain rfl := se1 hF
                        exact Js31 _ _ _ hH (lv_sub hl [0, 1, 2, 3, 4, 5, 6] rfl)
                      · replace hF := ifp c33 hF
                        refine lv_aload_n hx hb dX10_derive_175 rfl (lv_at hl 0 rfl) ?_
                        refine lv_iload hx hb dX10_derive_176 (lv_at hl 5 rfl) ?_
                        refine lv_iload hx hb dX10_derive_178 (lv_at hl 6 rfl) ?_
                        refine lv_aload_n hx hb dX10_derive_180 rfl (lv_at hl 0 rfl) ?_
                        refine lv_iload hx hb dX10_derive_181 (lv_at hl 5 rfl) ?_
                        obtain ⟨x34, h34, hF⟩ := ob hF
                        refine w_callV (As := [.int (s4.1)]) (k := k0) (rest := [.int (s27.1), .int (s4.1), .ref (g.2.2 (k0))]) (st1 := [.int (x34), .int (s27.1), .int (s4.1), .ref (g.2.2 (k0))]) X hH (c_X10_second (l := l) (g := g) (w := s27.2) (k0 := k0) (v_c := s4.1) h34 hk0) (Or.inl tw_5_56) ms_X10_second im_X10_second hk0 cn_10 ⟨Nat.le_of_ble_eq_true rfl, Nat.le_of_ble_eq_true rfl⟩ rfl rfl hl.1 (Nat.le_of_ble_eq_true rfl) dX10_derive_183 ⟨Nat.le_refl _, Nat.le_refl _⟩ rfl (fun H locs hH => ?_)
                        refine lv_iload hx hb dX10_derive_186 (lv_at hl 6 rfl) ?_
                        refine lv_aload_n hx hb dX10_derive_188 rfl (lv_at hl 0 rfl) ?_
                        refine lv_iload hx hb dX10_derive_189 (lv_at hl 5 rfl) ?_
                        obtain ⟨x35, h35, hF⟩ := ob hF
                        refine w_callV (As := [.int (s4.1)]) (k := k0) (rest := [.int (s27.1), .int (x34), .int (s27.1), .int (s4.1), .ref (g.2.2 (k0))]) (st1 := [.int (x35), .int (s27.1), .int (x34), .int (s27.1), .int (s4.1), .ref (g.2.2 (k0))]) X hH (c_X10_third (l := l) (g := g) (w := s27.2) (k0 := k0) (v_c := s4.1) h35 hk0) (Or.inl tw_5_64) ms_X10_third im_X10_third hk0 cn_10 ⟨Nat.le_of_ble_eq_true rfl, Nat.le_of_ble_eq_true rfl⟩ rfl rfl hl.1 (Nat.le_of_ble_eq_true rfl) dX10_derive_191 ⟨Nat.le_refl _, Nat.le_refl _⟩ rfl (fun H locs hH => ?_)
                        refine w_callS (As := [.int (s27.1), .int (x35)]) (rest := [.int (x34), .int (s27.1), .int (s4.1), .ref (g.2.2 (k0))]) (st1 := [.int ((f_X10_fieldIndex (s27.1) (x35))), .int (x34), .int (s27.1), .int (s4.1), .ref (g.2.2 (k0))]) X hH (c_X10_fieldIndex (l := l) (g := g) (w := s27.2) (v_o := s27.1) (v_f := x35) rfl) (Or.inl tw_5_68) ms_X10_fieldIndex tw_5_69 ⟨Nat.le_of_ble_eq_true rfl, Nat.le_of_ble_eq_true rfl⟩ rfl rfl hl.1 (Nat.le_of_ble_eq_true rfl) dX10_derive_194 ⟨Nat.le_refl _, Nat.le_refl _⟩ rfl (fun H locs hH => ?_)
                        refine lv_iload_n hx hb dX10_derive_197 rfl (lv_at hl 2 rfl) ?_
                        refine lv_iload hx hb dX10_derive_198 (lv_at hl 4 rfl) ?_
                        obtain ⟨w36, h36, hF⟩ := ob hF
                        refine w_callV (As := [.int (s4.1), .int (s27.1), .int (x34), .int ((f_X10_fieldIndex (s27.1) (x35))), .int (v_o), .int (x3)]) (k := k0) (rest := []) (st1 := []) X hH (c_X10_note (l := l) (g := g) (w := s27.2) (k0 := k0) (v_c := s4.1) (v_via := s27.1) (v_supply := x34) (v_source := (f_X10_fieldIndex (s27.1) (x35))) (v_o := v_o) (v_round := x3) h36 hk0) (Or.inl tw_6_216) ms_X10_note im_X10_note hk0 cn_10 ⟨Nat.le_of_ble_eq_true rfl, Nat.le_of_ble_eq_true rfl⟩ rfl rfl hl.1 (Nat.le_of_ble_eq_true rfl) dX10_derive_200 ⟨Nat.le_refl _, Nat.le_refl _⟩ rfl (fun H locs hH => ?_)
                        obtain rfl := se1 hF
                        exact Js31 _ _ _ hH (lv_sub hl [0, 1, 2, 3, 4, 5, 6] rfl)
                exact Lr28 NF _ hLr28 _ _ _ hH (lv_sub hl [1, 2, 3, 4, 5, 6, 0] rfl)
              · replace hF := ifn c26 hF
                by_cases c37 : x11 = (3 : Int32)
                · replace hF := ifp c37 hF
                  refine w_tin (tgt := 212) hx hb c37 dX10_derive_55 (by decide) (by decide) rfl (by decide) ?_
                  refine lv_iconst (v := (0 : Int32)) hx hb dX10_derive_212 (by decide) ?_
                  refine lv_istore (lv' := [(6, .int ((0 : Int32))), (0, .ref (g.2.2 (k0))), (1, .int (v_index)), (2, .int (v_o)), (3, .int (bI (v_primary))), (4, .int (x3)), (5, .int (s4.1))]) hx hb dX10_derive_213 hl (by decide) rfl (fun ls hl => ?_)
                  obtain ⟨r39, hLr39, hF⟩ := ob hF
                  have Jr39 : ∀ (H : Heap) (locs : List Loc) (ls : Array Slot), HW zM g r39 s.heap H locs → lv_has ls 7 [(0, .ref (g.2.2 (k0))), (1, .int (v_index)), (2, .int (v_o)), (3, .int (bI (v_primary))), (4, .int (x3)), (5, .int (s4.1))] → W p l e (rmd 5) s m args below meth c H locs 0 0 (MQ below (Qw zM g wz none) args s 0 0 (zA zM g)) (F0 m 270 ls []) := by
                    intro H locs ls hH hl
                    refine lv_goto (tgt := 305) hx hb dX10_derive_270 (by decide) ?_
                    obtain rfl := se1 hF
                    exact Js10 _ _ _ hH (lv_sub hl [0, 1, 2, 3, 4, 5] rfl)
                  have Lr39 : ∀ (n : Nat) (s38 : Int32 × Wd), lp (b_X10_derive_3 k0 s4 v_index v_o x3) n s38 = some r39 → ∀ (H : Heap) (locs : List Loc) (ls : Array Slot), HW zM g s38.2 s.heap H locs → lv_has ls 7 [(0, .ref (g.2.2 (k0))), (1, .int (v_index)), (2, .int (v_o)), (3, .int (bI (v_primary))), (4, .int (x3)), (5, .int (s4.1)), (6, .int (s38.1))] → W p l e (rmd 5) s m args below meth c H locs 0 0 (MQ below (Qw zM g wz none) args s 0 0 (zA zM g)) (F0 m 215 ls []) := by
                    intro n
                    induction n with
                    | zero => intro s38 hL; exact lp_0 hL
                    | succ n ih =>
                      intro s38 hL H locs ls hH hl
                      obtain ⟨bb, hF, hL⟩ := lp_s hL
                      unfold b_X10_derive_3 at hF
                      refine lv_iload hx hb dX10_derive_215 (lv_at hl 6 rfl) ?_
                      refine lv_aload_n hx hb dX10_derive_217 rfl (lv_at hl 0 rfl) ?_
                      refine w_getr X hH hk0 fs_10_11 lk_10_17 dX10_derive_218 ?_
                      refine lv_iconst (v := (0 : Int32)) hx hb dX10_derive_221 (by decide) ?_
                      obtain ⟨x40, h40, hF⟩ := ob hF
                      refine w_iald X hH h40 (rt_M_10_11 hk0) dX10_derive_222 ?_
                      refine w_ilt_f (tgt := 270) hx hb dX10_derive_223 (by decide) (fun c41 => ?_) (fun c41 => ?_)
                      · replace hF := ifn c41 hF
                        obtain rfl := se1 hF
                        subst hL
                        exact Jr39 _ _ _ hH (lv_sub hl [0, 1, 2, 3, 4, 5] rfl)
                      · replace hF := ifp c41 hF
                        obtain ⟨s42, hs42, hF⟩ := ob hF
                        have Js42 : ∀ (H : Heap) (locs : List Loc) (ls : Array Slot), HW zM g s42 s.heap H locs → lv_has ls 7 [(0, .ref (g.2.2 (k0))), (1, .int (v_index)), (2, .int (v_o)), (3, .int (bI (v_primary))), (4, .int (x3)), (5, .int (s4.1)), (6, .int (s38.1))] → W p l e (rmd 5) s m args below meth c H locs 0 0 (MQ below (Qw zM g wz none) args s 0 0 (zA zM g)) (F0 m 264 ls []) := by
                          intro H locs ls hH hl
                          refine lv_iinc (v := (s38.1 + (1 : Int32))) (lv' := [(6, .int ((s38.1 + (1 : Int32)))), (0, .ref (g.2.2 (k0))), (1, .int (v_index)), (2, .int (v_o)), (3, .int (bI (v_primary))), (4, .int (x3)), (5, .int (s4.1))]) hx hb dX10_derive_264 hl (k := 6) rfl rfl (by decide) rfl (fun ls hl => ?_)
                          refine lv_goto (tgt := 215) hx hb dX10_derive_267 (by decide) ?_
                          obtain rfl := se1 hF
                          exact ih _ hL _ _ _ hH (lv_sub hl [1, 2, 3, 4, 5, 6, 0] rfl)
                        have hF := hs42
                        refine lv_iload hx hb dX10_derive_226 (lv_at hl 6 rfl) ?_
                        refine lv_aload_n hx hb dX10_derive_228 rfl (lv_at hl 0 rfl) ?_
                        refine lv_iload hx hb dX10_derive_229 (lv_at hl 5 rfl) ?_
                        obtain ⟨x43, h43, hF⟩ := ob hF
                        refine w_callV (As := [.int (s4.1)]) (k := k0) (rest := [.int (s38.1)]) (st1 := [.int (x43), .int (s38.1)]) X hH (c_X10_second (l := l) (g := g) (w := s38.2) (k0 := k0) (v_c := s4.1) h43 hk0) (Or.inl tw_5_56) ms_X10_second im_X10_second hk0 cn_10 ⟨Nat.le_of_ble_eq_true rfl, Nat.le_of_ble_eq_true rfl⟩ rfl rfl hl.1 (Nat.le_of_ble_eq_true rfl) dX10_derive_231 ⟨Nat.le_refl _, Nat.le_refl _⟩ rfl (fun H locs hH => ?_)
                        refine w_callS (As := [.int (s38.1), .int (x43)]) (rest := []) (st1 := [.int ((f_X10_fieldIndex (s38.1) (x43)))]) X hH (c_X10_fieldIndex (l := l) (g := g) (w := s38.2) (v_o := s38.1) (v_f := x43) rfl) (Or.inl tw_5_68) ms_X10_fieldIndex tw_5_69 ⟨Nat.le_of_ble_eq_true rfl, Nat.le_of_ble_eq_true rfl⟩ rfl rfl hl.1 (Nat.le_of_ble_eq_true rfl) dX10_derive_234 ⟨Nat.le_refl _, Nat.le_refl _⟩ rfl (fun H locs hH => ?_)
                        refine lv_iload_n hx hb dX10_derive_237 rfl (lv_at hl 1 rfl) ?_
                        refine w_ieq_f (tgt := 264) hx hb dX10_derive_238 (by decide) (fun c44 => ?_) (fun c44 => ?_)
                        · replace hF := ifn c44 hF
                          obtain rfl := se1 hF
                          exact Js42 _ _ _ hH (lv_sub hl [0, 1, 2, 3, 4, 5, 6] rfl)
                        · replace hF := ifp c44 hF
                          refine lv_aload_n hx hb dX10_derive_241 rfl (lv_at hl 0 rfl) ?_
                          refine lv_iload hx hb dX10_derive_242 (lv_at hl 5 rfl) ?_
                          refine lv_iload hx hb dX10_derive_244 (lv_at hl 6 rfl) ?_
                          refine lv_aload_n hx hb dX10_derive_246 rfl (lv_at hl 0 rfl) ?_
                          refine lv_iload hx hb dX10_derive_247 (lv_at hl 5 rfl) ?_
                          obtain ⟨x45, h45, hF⟩ := ob hF
                          refine w_callV (As := [.int (s4.1)]) (k := k0) (rest := [.int (s38.1), .int (s4.1), .ref (g.2.2 (k0))]) (st1 := [.int (x45), .int (s38.1), .int (s4.1), .ref (g.2.2 (k0))]) X hH (c_X10_first (l := l) (g := g) (w := s38.2) (k0 := k0) (v_c := s4.1) h45 hk0) (Or.inl tw_5_52) ms_X10_first im_X10_first hk0 cn_10 ⟨Nat.le_of_ble_eq_true rfl, Nat.le_of_ble_eq_true rfl⟩ rfl rfl hl.1 (Nat.le_of_ble_eq_true rfl) dX10_derive_249 ⟨Nat.le_refl _, Nat.le_refl _⟩ rfl (fun H locs hH => ?_)
                          refine lv_aload_n hx hb dX10_derive_252 rfl (lv_at hl 0 rfl) ?_
                          refine lv_iload hx hb dX10_derive_253 (lv_at hl 5 rfl) ?_
                          obtain ⟨x46, h46, hF⟩ := ob hF
                          refine w_callV (As := [.int (s4.1)]) (k := k0) (rest := [.int (x45), .int (s38.1), .int (s4.1), .ref (g.2.2 (k0))]) (st1 := [.int (x46), .int (x45), .int (s38.1), .int (s4.1), .ref (g.2.2 (k0))]) X hH (c_X10_third (l := l) (g := g) (w := s38.2) (k0 := k0) (v_c := s4.1) h46 hk0) (Or.inl tw_5_64) ms_X10_third im_X10_third hk0 cn_10 ⟨Nat.le_of_ble_eq_true rfl, Nat.le_of_ble_eq_true rfl⟩ rfl rfl hl.1 (Nat.le_of_ble_eq_true rfl) dX10_derive_255 ⟨Nat.le_refl _, Nat.le_refl _⟩ rfl (fun H locs hH => ?_)
                          refine lv_iload_n hx hb dX10_derive_258 rfl (lv_at hl 2 rfl) ?_
                          refine lv_iload hx hb dX10_derive_259 (lv_at hl 4 rfl) ?_
                          obtain ⟨w47, h47, hF⟩ := ob hF
                          refine w_callV (As := [.int (s4.1), .int (s38.1), .int (x45), .int (x46), .int (v_o), .int (x3)]) (k := k0) (rest := []) (st1 := []) X hH (c_X10_note (l := l) (g := g) (w := s38.2) (k0 := k0) (v_c := s4.1) (v_via := s38.1) (v_supply := x45) (v_source := x46) (v_o := v_o) (v_round := x3) h47 hk0) (Or.inl tw_6_216) ms_X10_note im_X10_note hk0 cn_10 ⟨Nat.le_of_ble_eq_true rfl, Nat.le_of_ble_eq_true rfl⟩ rfl rfl hl.1 (Nat.le_of_ble_eq_true rfl) dX10_derive_261 ⟨Nat.le_refl _, Nat.le_refl _⟩ rfl (fun H locs hH => ?_)
                          obtain rfl := se1 hF
                          exact Js42 _ _ _ hH (lv_sub hl [0, 1, 2, 3, 4, 5, 6] rfl)
                  exact Lr39 NF _ hLr39 _ _ _ hH (lv_sub hl [1, 2, 3, 4, 5, 6, 0] rfl)
                · replace hF := ifn c37 hF
                  refine lv_tableOut (tgt := 273) hx hb dX10_derive_55 (by have := lv_neT c12 (show (0 : Int32).toInt = 0 by decide); have := lv_neT c20 (show (1 : Int32).toInt = 1 by decide); have := lv_neT c26 (show (2 : Int32).toInt = 2 by decide); have := lv_neT c37 (show (3 : Int32).toInt = 3 by decide); omega) (by decide) ?_
                  refine lv_iconst (v := (0 : Int32)) hx hb dX10_derive_273 (by decide) ?_
                  refine lv_istore (lv' := [(6, .int ((0 : Int32))), (0, .ref (g.2.2 (k0))), (1, .int (v_index)), (2, .int (v_o)), (3, .int (bI (v_primary))), (4, .int (x3)), (5, .int (s4.1))]) hx hb dX10_derive_274 hl (by decide) rfl (fun ls hl => ?_)
                  obtain ⟨r49, hLr49, hF⟩ := ob hF
                  have Jr49 : ∀ (H : Heap) (locs : List Loc) (ls : Array Slot), HW zM g r49 s.heap H locs → lv_has ls 7 [(0, .ref (g.2.2 (k0))), (1, .int (v_index)), (2, .int (v_o)), (3, .int (bI (v_primary))), (4, .int (x3)), (5, .int (s4.1))] → W p l e (rmd 5) s m args below meth c H locs 0 0 (MQ below (Qw zM g wz none) args s 0 0 (zA zM g)) (F0 m 305 ls []) := by
                    intro H locs ls hH hl
                    obtain rfl := se1 hF
                    exact Js10 _ _ _ hH (lv_sub hl [0, 1, 2, 3, 4, 5] rfl)
                  have Lr49 : ∀ (n : Nat) (s48 : Int32 × Wd), lp (b_X10_derive_4 k0 s4 v_index v_o x3) n s48 = some r49 → ∀ (H : Heap) (locs : List Loc) (ls : Array Slot), HW zM g s48.2 s.heap H locs → lv_has ls 7 [(0, .ref (g.2.2 (k0))), (1, .int (v_index)), (2, .int (v_o)), (3, .int (bI (v_primary))), (4, .int (x3)), (5, .int (s4.1)), (6, .int (s48.1))] → W p l e (rmd 5) s m args below meth c H locs 0 0 (MQ below (Qw zM g wz none) args s 0 0 (zA zM g)) (F0 m 276 ls []) := by
                    intro n
                    induction n with
                    | zero => intro s48 hL; exact lp_0 hL
                    | succ n ih =>
                      intro s48 hL H locs ls hH hl
                      obtain ⟨bb, hF, hL⟩ := lp_s hL
                      unfold b_X10_derive_4 at hF
                      refine lv_iload hx hb dX10_derive_276 (lv_at hl 6 rfl) ?_
                      refine lv_aload_n hx hb dX10_derive_278 rfl (lv_at hl 0 rfl) ?_
                      refine w_getr X hH hk0 fs_10_11 lk_10_17 dX10_derive_279 ?_
                      refine lv_iconst (v := (0 : Int32)) hx hb dX10_derive_282 (by decide) ?_
                      obtain ⟨x50, h50, hF⟩ := ob hF
                      refine w_iald X hH h50 (rt_M_10_11 hk0) dX10_derive_283 ?_
                      refine w_ilt_f (tgt := 305) hx hb dX10_derive_284 (by decide) (fun c51 => ?_) (fun c51 => ?_)
                      · replace hF := ifn c51 hF
                        obtain rfl := se1 hF
                        subst hL
                        exact Jr49 _ _ _ hH (lv_sub hl [0, 1, 2, 3, 4, 5] rfl)
                      · replace hF := ifp c51 hF
                        refine lv_aload_n hx hb dX10_derive_287 rfl (lv_at hl 0 rfl) ?_
                        refine lv_iload hx hb dX10_derive_288 (lv_at hl 5 rfl) ?_
                        refine lv_iload hx hb dX10_derive_290 (lv_at hl 6 rfl) ?_
                        refine lv_iload_n hx hb dX10_derive_292 rfl (lv_at hl 1 rfl) ?_
                        refine lv_iload_n hx hb dX10_derive_293 rfl (lv_at hl 2 rfl) ?_
                        refine lv_iload hx hb dX10_derive_294 (lv_at hl 4 rfl) ?_
                        obtain ⟨w52, h52, hF⟩ := ob hF
                        refine w_callV (As := [.int (s4.1), .int (s48.1), .int (v_index), .int (v_o), .int (x3)]) (k := k0) (rest := []) (st1 := []) X hH (c_X10_deriveCall (l := l) (g := g) (w := s48.2) (k0 := k0) (v_c := s4.1) (v_via := s48.1) (v_index := v_index) (v_o := v_o) (v_round := x3) h52 hk0) (Or.inl tw_6_224) ms_X10_deriveCall im_X10_deriveCall hk0 cn_10 ⟨Nat.le_of_ble_eq_true rfl, Nat.le_of_ble_eq_true rfl⟩ rfl rfl hl.1 (Nat.le_of_ble_eq_true rfl) dX10_derive_296 ⟨Nat.le_refl _, Nat.le_refl _⟩ rfl (fun H locs hH => ?_)
                        refine lv_iinc (v := (s48.1 + (1 : Int32))) (lv' := [(6, .int ((s48.1 + (1 : Int32)))), (0, .ref (g.2.2 (k0))), (1, .int (v_index)), (2, .int (v_o)), (3, .int (bI (v_primary))), (4, .int (x3)), (5, .int (s4.1))]) hx hb dX10_derive_299 hl (k := 6) rfl rfl (by decide) rfl (fun ls hl => ?_)
                        refine lv_goto (tgt := 276) hx hb dX10_derive_302 (by decide) ?_
                        obtain rfl := se1 hF
                        exact ih _ hL _ _ _ hH (lv_sub hl [1, 2, 3, 4, 5, 6, 0] rfl)
                  exact Lr49 NF _ hLr49 _ _ _ hH (lv_sub hl [1, 2, 3, 4, 5, 6, 0] rfl)
        · replace hF := ifp c9 hF
          refine lv_goto (tgt := 305) hx hb dX10_derive_46 (by decide) ?_
          refine lv_iinc (v := (s4.1 + (1 : Int32))) (lv' := [(5, .int ((s4.1 + (1 : Int32)))), (0, .ref (g.2.2 (k0))), (1, .int (v_index)), (2, .int (v_o)), (3, .int (bI (v_primary))), (4, .int (x3))]) hx hb dX10_derive_305 hl (k := 5) rfl rfl (by decide) rfl (fun ls hl => ?_)
          refine lv_goto (tgt := 26) hx hb dX10_derive_308 (by decide) ?_
          obtain rfl := se1 hF
          exact ih _ hL _ _ _ hH (lv_sub hl [1, 2, 3, 4, 5, 0] rfl)
  exact Lr5 NF _ hLr5 _ _ _ hH (lv_sub hl [2, 3, 4, 5, 1, 0] rfl)

theorem dX10_areValid_0 : decode cX10_areValid 0 = .ok (.aload_n 0, 1) := by decide +kernel
theorem dX10_areValid_1 : decode cX10_areValid 1 = .ok (.iload_n 1, 1) := by decide +kernel
theorem dX10_areValid_2 : decode cX10_areValid 2 = .ok (.invokevirtual 263, 3) := by decide +kernel
theorem dX10_areValid_5 : decode cX10_areValid 5 = .ok (.ifCond .lt 15, 3) := by decide +kernel
theorem dX10_areValid_8 : decode cX10_areValid 8 = .ok (.aload_n 0, 1) := by decide +kernel
theorem dX10_areValid_9 : decode cX10_areValid 9 = .ok (.iload_n 2, 1) := by decide +kernel
theorem dX10_areValid_10 : decode cX10_areValid 10 = .ok (.invokevirtual 222, 3) := by decide +kernel
theorem dX10_areValid_13 : decode cX10_areValid 13 = .ok (.ifCond .eq 7, 3) := by decide +kernel
theorem dX10_areValid_16 : decode cX10_areValid 16 = .ok (.iconst 1, 1) := by decide +kernel
theorem dX10_areValid_17 : decode cX10_areValid 17 = .ok (.goto 4, 3) := by decide +kernel
theorem dX10_areValid_20 : decode cX10_areValid 20 = .ok (.iconst 0, 1) := by decide +kernel
theorem dX10_areValid_21 : decode cX10_areValid 21 = .ok (.ireturn, 1) := by decide +kernel
set_option maxHeartbeats 4000000 in
set_option maxRecDepth 100000 in
theorem c_X10_areValid {l : Launch} {g : Gh} {w : Wd} {k0 : Nat} {v_location : Int32} {v_o : Int32} {rz : Bool} (hF : f_X10_areValid w k0 v_location v_o = some rz) (hk0 : zct zM k0 = 10) : Met l yX10_areValid (Cond.code yX10_areValid cX10_areValid 3 (some .boolean) :: TT) (rmd 3) (Pcw zM g w [.ref (g.2.2 k0), .int (v_location), .int (v_o)]) (Qw zM g w (some (.int (bI (rz))))) 0 0 (zA zM g) := by
  refine mt_start (by decide) (Nat.le_of_ble_eq_true rfl) ?_
  intro p e s m args below meth c H locs ls X hr hl hH
  have hx := X.1
  have hb := X.2.1
  have hml := X.2.2.1
  have hown := X.2.2.2.1
  have ht := X.2.2.2.2.1
  have hl : lv_has ls 3 [(0, .ref (g.2.2 (k0))), (1, .int (v_location)), (2, .int (v_o))] := hl
  unfold f_X10_areValid at hF
  obtain ⟨b2, hb2, hF⟩ := ob hF
  have J1 : ∀ (H : Heap) (locs : List Loc), HW zM g w s.heap H locs → W p l e (rmd 3) s m args below meth c H locs 0 0 (MQ below (Qw zM g w (some (.int (bI (rz))))) args s 0 0 (zA zM g)) (F0 m 21 ls [.int (bI (b2))]) := by
    intro H locs hH
    obtain rfl := se1 hF
    exact w_zret X hH hr dX10_areValid_21
  have hF := hb2
  refine lv_aload_n hx hb dX10_areValid_0 rfl (lv_at hl 0 rfl) ?_
  refine lv_iload_n hx hb dX10_areValid_1 rfl (lv_at hl 1 rfl) ?_
  obtain ⟨x4, h4, hF⟩ := ob hF
  refine w_callV (As := [.int (v_location)]) (k := k0) (rest := []) (st1 := [.int (x4)]) X hH (c_X10_indexOf (l := l) (g := g) (w := w) (k0 := k0) (v_location := v_location) h4 hk0) (Or.inl tw_6_172) ms_X10_indexOf im_X10_indexOf hk0 cn_10 ⟨Nat.le_of_ble_eq_true rfl, Nat.le_of_ble_eq_true rfl⟩ rfl rfl hl.1 (Nat.le_of_ble_eq_true rfl) dX10_areValid_2 ⟨Nat.le_refl _, Nat.le_refl _⟩ rfl (fun H locs hH => ?_)
  refine w_zge_f (tgt := 20) hx hb dX10_areValid_5 (by decide) (fun c3 => ?_) (fun c3 => ?_)
  · replace hF := ifn c3 hF
    refine lv_iconst (v := (0 : Int32)) hx hb dX10_areValid_20 (by decide) ?_
    obtain rfl := se1 hF
    exact J1 _ _ hH
  · replace hF := ifp c3 hF
    refine lv_aload_n hx hb dX10_areValid_8 rfl (lv_at hl 0 rfl) ?_
    refine lv_iload_n hx hb dX10_areValid_9 rfl (lv_at hl 2 rfl) ?_
    obtain ⟨x6, h6, hF⟩ := ob hF
    refine w_callV (As := [.int (v_o)]) (k := k0) (rest := []) (st1 := [.int (bI (x6))]) X hH (c_X10_isObject (l := l) (g := g) (w := w) (k0 := k0) (v_o := v_o) h6 hk0) (Or.inl tw_6_145) ms_X10_isObject im_X10_isObject hk0 cn_10 ⟨Nat.le_of_ble_eq_true rfl, Nat.le_of_ble_eq_true rfl⟩ rfl rfl hl.1 (Nat.le_of_ble_eq_true rfl) dX10_areValid_10 ⟨Nat.le_refl _, Nat.le_refl _⟩ rfl (fun H locs hH => ?_)
    refine w_b_f (tgt := 20) hx hb dX10_areValid_13 (by decide) (fun c5 => ?_) (fun c5 => ?_)
    · replace hF := ifn c5 hF
      refine lv_iconst (v := (0 : Int32)) hx hb dX10_areValid_20 (by decide) ?_
      obtain rfl := se1 hF
      exact J1 _ _ hH
    · replace hF := ifp c5 hF
      refine lv_iconst (v := (1 : Int32)) hx hb dX10_areValid_16 (by decide) ?_
      refine lv_goto (tgt := 21) hx hb dX10_areValid_17 (by decide) ?_
      obtain rfl := se1 hF
      exact J1 _ _ hH

theorem dX10_roundOf_0 : decode cX10_roundOf 0 = .ok (.aload_n 0, 1) := by decide +kernel
theorem dX10_roundOf_1 : decode cX10_roundOf 1 = .ok (.iconst 0, 1) := by decide +kernel
theorem dX10_roundOf_2 : decode cX10_roundOf 2 = .ok (.putfield 85, 3) := by decide +kernel
theorem dX10_roundOf_5 : decode cX10_roundOf 5 = .ok (.aload_n 0, 1) := by decide +kernel
theorem dX10_roundOf_6 : decode cX10_roundOf 6 = .ok (.iload_n 1, 1) := by decide +kernel
theorem dX10_roundOf_7 : decode cX10_roundOf 7 = .ok (.iload_n 2, 1) := by decide +kernel
theorem dX10_roundOf_8 : decode cX10_roundOf 8 = .ok (.invokevirtual 297, 3) := by decide +kernel
theorem dX10_roundOf_11 : decode cX10_roundOf 11 = .ok (.ifCond .ne 5, 3) := by decide +kernel
theorem dX10_roundOf_14 : decode cX10_roundOf 14 = .ok (.iconst (-1), 1) := by decide +kernel
theorem dX10_roundOf_15 : decode cX10_roundOf 15 = .ok (.ireturn, 1) := by decide +kernel
theorem dX10_roundOf_16 : decode cX10_roundOf 16 = .ok (.aload_n 0, 1) := by decide +kernel
theorem dX10_roundOf_17 : decode cX10_roundOf 17 = .ok (.iload_n 1, 1) := by decide +kernel
theorem dX10_roundOf_18 : decode cX10_roundOf 18 = .ok (.invokevirtual 263, 3) := by decide +kernel
theorem dX10_roundOf_21 : decode cX10_roundOf 21 = .ok (.istore_n 3, 1) := by decide +kernel
theorem dX10_roundOf_22 : decode cX10_roundOf 22 = .ok (.aload_n 0, 1) := by decide +kernel
theorem dX10_roundOf_23 : decode cX10_roundOf 23 = .ok (.iload_n 3, 1) := by decide +kernel
theorem dX10_roundOf_24 : decode cX10_roundOf 24 = .ok (.iload_n 2, 1) := by decide +kernel
theorem dX10_roundOf_25 : decode cX10_roundOf 25 = .ok (.invokevirtual 266, 3) := by decide +kernel
theorem dX10_roundOf_28 : decode cX10_roundOf 28 = .ok (.ifCond .eq 17, 3) := by decide +kernel
theorem dX10_roundOf_31 : decode cX10_roundOf 31 = .ok (.aload_n 0, 1) := by decide +kernel
theorem dX10_roundOf_32 : decode cX10_roundOf 32 = .ok (.getfield 61, 3) := by decide +kernel
theorem dX10_roundOf_35 : decode cX10_roundOf 35 = .ok (.bipush 10, 2) := by decide +kernel
theorem dX10_roundOf_37 : decode cX10_roundOf 37 = .ok (.iload_n 3, 1) := by decide +kernel
theorem dX10_roundOf_38 : decode cX10_roundOf 38 = .ok (.imul, 1) := by decide +kernel
theorem dX10_roundOf_39 : decode cX10_roundOf 39 = .ok (.iload_n 2, 1) := by decide +kernel
theorem dX10_roundOf_40 : decode cX10_roundOf 40 = .ok (.iadd, 1) := by decide +kernel
theorem dX10_roundOf_41 : decode cX10_roundOf 41 = .ok (.iaload, 1) := by decide +kernel
theorem dX10_roundOf_42 : decode cX10_roundOf 42 = .ok (.goto 5, 3) := by decide +kernel
theorem dX10_roundOf_45 : decode cX10_roundOf 45 = .ok (.bipush (-2), 2) := by decide +kernel
theorem dX10_roundOf_47 : decode cX10_roundOf 47 = .ok (.ireturn, 1) := by decide +kernel
set_option maxHeartbeats 4000000 in
set_option maxRecDepth 100000 in
theorem c_X10_roundOf {l : Launch} {g : Gh} {w : Wd} {k0 : Nat} {v_location : Int32} {v_o : Int32} {rz : Int32} {wz : Wd} (hF : f_X10_roundOf w k0 v_location v_o = some (rz, wz)) (hk0 : zct zM k0 = 10) : Met l yX10_roundOf (Cond.code yX10_roundOf cX10_roundOf 4 (some .int) :: TT) (rmd 4) (Pcw zM g w [.ref (g.2.2 k0), .int (v_location), .int (v_o)]) (Qw zM g wz (some (.int (rz)))) 0 0 (zA zM g) := by
  refine mt_start (by decide) (Nat.le_of_ble_eq_true rfl) ?_
  intro p e s m args below meth c H locs ls X hr hl hH
  have hx := X.1
  have hb := X.2.1
  have hml := X.2.2.1
  have hown := X.2.2.2.1
  have ht := X.2.2.2.2.1
  have hl : lv_has ls 4 [(0, .ref (g.2.2 (k0))), (1, .int (v_location)), (2, .int (v_o))] := hl
  unfold f_X10_roundOf at hF
  refine lv_aload_n hx hb dX10_roundOf_0 rfl (lv_at hl 0 rfl) ?_
  refine lv_iconst (v := (0 : Int32)) hx hb dX10_roundOf_1 (by decide) ?_
  obtain ⟨w1, h1, hF⟩ := ob hF
  refine w_puti X hH h1 hk0 fs_10_0 nf_10_0 lk_10_85 dX10_roundOf_2 (fun H locs hH => ?_)
  refine lv_aload_n hx hb dX10_roundOf_5 rfl (lv_at hl 0 rfl) ?_
  refine lv_iload_n hx hb dX10_roundOf_6 rfl (lv_at hl 1 rfl) ?_
  refine lv_iload_n hx hb dX10_roundOf_7 rfl (lv_at hl 2 rfl) ?_
  obtain ⟨x2, h2, hF⟩ := ob hF
  refine w_callV (As := [.int (v_location), .int (v_o)]) (k := k0) (rest := []) (st1 := [.int (bI (x2))]) X hH (c_X10_areValid (l := l) (g := g) (w := w1) (k0 := k0) (v_location := v_location) (v_o := v_o) h2 hk0) (Or.inl tw_6_200) ms_X10_areValid im_X10_areValid hk0 cn_10 ⟨Nat.le_of_ble_eq_true rfl, Nat.le_of_ble_eq_true rfl⟩ rfl rfl hl.1 (Nat.le_of_ble_eq_true rfl) dX10_roundOf_8 ⟨Nat.le_refl _, Nat.le_refl _⟩ rfl (fun H locs hH => ?_)
  refine w_b_t (tgt := 16) hx hb dX10_roundOf_11 (by decide) (fun c3 => ?_) (fun c3 => ?_)
  · replace hF := ifn (fun z => z c3) hF
    refine lv_aload_n hx hb dX10_roundOf_16 rfl (lv_at hl 0 rfl) ?_
    refine lv_iload_n hx hb dX10_roundOf_17 rfl (lv_at hl 1 rfl) ?_
    obtain ⟨x4, h4, hF⟩ := ob hF
    refine w_callV (As := [.int (v_location)]) (k := k0) (rest := []) (st1 := [.int (x4)]) X hH (c_X10_indexOf (l := l) (g := g) (w := w1) (k0 := k0) (v_location := v_location) h4 hk0) (Or.inl tw_6_172) ms_X10_indexOf im_X10_indexOf hk0 cn_10 ⟨Nat.le_of_ble_eq_true rfl, Nat.le_of_ble_eq_true rfl⟩ rfl rfl hl.1 (Nat.le_of_ble_eq_true rfl) dX10_roundOf_18 ⟨Nat.le_refl _, Nat.le_refl _⟩ rfl (fun H locs hH => ?_)
    refine lv_istore_n (lv' := [(3, .int (x4)), (0, .ref (g.2.2 (k0))), (1, .int (v_location)), (2, .int (v_o))]) hx hb dX10_roundOf_21 rfl hl (by decide) rfl (fun ls hl => ?_)
    obtain ⟨x6, hx6, hF⟩ := ob hF
    have J5 : ∀ (H : Heap) (locs : List Loc), HW zM g w1 s.heap H locs → W p l e (rmd 4) s m args below meth c H locs 0 0 (MQ below (Qw zM g wz (some (.int (rz)))) args s 0 0 (zA zM g)) (F0 m 47 ls [.int (x6)]) := by
      intro H locs hH
      obtain ⟨rfl, rfl⟩ := se2 hF
      exact w_iret X hH hr dX10_roundOf_47
    have hF := hx6
    refine lv_aload_n hx hb dX10_roundOf_22 rfl (lv_at hl 1 rfl) ?_
    refine lv_iload_n hx hb dX10_roundOf_23 rfl (lv_at hl 0 rfl) ?_
    refine lv_iload_n hx hb dX10_roundOf_24 rfl (lv_at hl 3 rfl) ?_
    obtain ⟨x7, h7, hF⟩ := ob hF
    refine w_callV (As := [.int (x4), .int (v_o)]) (k := k0) (rest := []) (st1 := [.int (bI (x7))]) X hH (c_X10_isFact (l := l) (g := g) (w := w1) (k0 := k0) (v_index := x4) (v_o := v_o) h7 hk0) (Or.inl tw_6_204) ms_X10_isFact im_X10_isFact hk0 cn_10 ⟨Nat.le_of_ble_eq_true rfl, Nat.le_of_ble_eq_true rfl⟩ rfl rfl hl.1 (Nat.le_of_ble_eq_true rfl) dX10_roundOf_25 ⟨Nat.le_refl _, Nat.le_refl _⟩ rfl (fun H locs hH => ?_)
    refine w_b_f (tgt := 45) hx hb dX10_roundOf_28 (by decide) (fun c8 => ?_) (fun c8 => ?_)
    · replace hF := ifn c8 hF
      refine lv_bipush (v := (-2 : Int32)) hx hb dX10_roundOf_45 (by decide) ?_
      obtain rfl := se1 hF
      exact J5 _ _ hH
    · replace hF := ifp c8 hF
      refine lv_aload_n hx hb dX10_roundOf_31 rfl (lv_at hl 1 rfl) ?_
      refine w_getr X hH hk0 fs_10_26 lk_10_61 dX10_roundOf_32 ?_
      refine lv_bipush (v := (10 : Int32)) hx hb dX10_roundOf_35 (by decide) ?_
      refine lv_iload_n hx hb dX10_roundOf_37 rfl (lv_at hl 0 rfl) ?_
      refine lv_imul hx hb dX10_roundOf_38 ?_
      refine lv_iload_n hx hb dX10_roundOf_39 rfl (lv_at hl 3 rfl) ?_
      refine lv_iadd hx hb dX10_roundOf_40 ?_
      obtain ⟨x9, h9, hF⟩ := ob hF
      refine w_iald X hH h9 (rt_M_10_26 hk0) dX10_roundOf_41 ?_
      refine lv_goto (tgt := 47) hx hb dX10_roundOf_42 (by decide) ?_
      obtain rfl := se1 hF
      exact J5 _ _ hH
  · replace hF := ifp c3 hF
    refine lv_iconst (v := (-1 : Int32)) hx hb dX10_roundOf_14 (by decide) ?_
    obtain ⟨rfl, rfl⟩ := se2 hF
    exact w_iret X hH hr dX10_roundOf_15

theorem dX10_derivationCount_0 : decode cX10_derivationCount 0 = .ok (.aload_n 0, 1) := by decide +kernel
theorem dX10_derivationCount_1 : decode cX10_derivationCount 1 = .ok (.iconst 0, 1) := by decide +kernel
theorem dX10_derivationCount_2 : decode cX10_derivationCount 2 = .ok (.putfield 85, 3) := by decide +kernel
theorem dX10_derivationCount_5 : decode cX10_derivationCount 5 = .ok (.aload_n 0, 1) := by decide +kernel
theorem dX10_derivationCount_6 : decode cX10_derivationCount 6 = .ok (.iload_n 1, 1) := by decide +kernel
theorem dX10_derivationCount_7 : decode cX10_derivationCount 7 = .ok (.iload_n 2, 1) := by decide +kernel
theorem dX10_derivationCount_8 : decode cX10_derivationCount 8 = .ok (.invokevirtual 297, 3) := by decide +kernel
theorem dX10_derivationCount_11 : decode cX10_derivationCount 11 = .ok (.ifCond .ne 5, 3) := by decide +kernel
theorem dX10_derivationCount_14 : decode cX10_derivationCount 14 = .ok (.iconst (-1), 1) := by decide +kernel
theorem dX10_derivationCount_15 : decode cX10_derivationCount 15 = .ok (.ireturn, 1) := by decide +kernel
theorem dX10_derivationCount_16 : decode cX10_derivationCount 16 = .ok (.aload_n 0, 1) := by decide +kernel
theorem dX10_derivationCount_17 : decode cX10_derivationCount 17 = .ok (.iload_n 1, 1) := by decide +kernel
theorem dX10_derivationCount_18 : decode cX10_derivationCount 18 = .ok (.invokevirtual 263, 3) := by decide +kernel
theorem dX10_derivationCount_21 : decode cX10_derivationCount 21 = .ok (.istore_n 3, 1) := by decide +kernel
theorem dX10_derivationCount_22 : decode cX10_derivationCount 22 = .ok (.aload_n 0, 1) := by decide +kernel
theorem dX10_derivationCount_23 : decode cX10_derivationCount 23 = .ok (.iload_n 3, 1) := by decide +kernel
theorem dX10_derivationCount_24 : decode cX10_derivationCount 24 = .ok (.iload_n 2, 1) := by decide +kernel
theorem dX10_derivationCount_25 : decode cX10_derivationCount 25 = .ok (.invokevirtual 266, 3) := by decide +kernel
theorem dX10_derivationCount_28 : decode cX10_derivationCount 28 = .ok (.ifCond .ne 5, 3) := by decide +kernel
theorem dX10_derivationCount_31 : decode cX10_derivationCount 31 = .ok (.iconst 0, 1) := by decide +kernel
theorem dX10_derivationCount_32 : decode cX10_derivationCount 32 = .ok (.ireturn, 1) := by decide +kernel
theorem dX10_derivationCount_33 : decode cX10_derivationCount 33 = .ok (.aload_n 0, 1) := by decide +kernel
theorem dX10_derivationCount_34 : decode cX10_derivationCount 34 = .ok (.iload_n 3, 1) := by decide +kernel
theorem dX10_derivationCount_35 : decode cX10_derivationCount 35 = .ok (.iload_n 2, 1) := by decide +kernel
theorem dX10_derivationCount_36 : decode cX10_derivationCount 36 = .ok (.iconst 0, 1) := by decide +kernel
theorem dX10_derivationCount_37 : decode cX10_derivationCount 37 = .ok (.invokevirtual 300, 3) := by decide +kernel
theorem dX10_derivationCount_40 : decode cX10_derivationCount 40 = .ok (.aload_n 0, 1) := by decide +kernel
theorem dX10_derivationCount_41 : decode cX10_derivationCount 41 = .ok (.getfield 277, 3) := by decide +kernel
theorem dX10_derivationCount_44 : decode cX10_derivationCount 44 = .ok (.ireturn, 1) := by decide +kernel
set_option maxHeartbeats 4000000 in
set_option maxRecDepth 100000 in
theorem c_X10_derivationCount {l : Launch} {g : Gh} {w : Wd} {k0 : Nat} {v_location : Int32} {v_o : Int32} {rz : Int32} {wz : Wd} (hF : f_X10_derivationCount w k0 v_location v_o = some (rz, wz)) (hk0 : zct zM k0 = 10) : Met l yX10_derivationCount (Cond.code yX10_derivationCount cX10_derivationCount 4 (some .int) :: TT) (rmd 6) (Pcw zM g w [.ref (g.2.2 k0), .int (v_location), .int (v_o)]) (Qw zM g wz (some (.int (rz)))) 0 0 (zA zM g) := by
  refine mt_start (by decide) (Nat.le_of_ble_eq_true rfl) ?_
  intro p e s m args below meth c H locs ls X hr hl hH
  have hx := X.1
  have hb := X.2.1
  have hml := X.2.2.1
  have hown := X.2.2.2.1
  have ht := X.2.2.2.2.1
  have hl : lv_has ls 4 [(0, .ref (g.2.2 (k0))), (1, .int (v_location)), (2, .int (v_o))] := hl
  unfold f_X10_derivationCount at hF
  refine lv_aload_n hx hb dX10_derivationCount_0 rfl (lv_at hl 0 rfl) ?_
  refine lv_iconst (v := (0 : Int32)) hx hb dX10_derivationCount_1 (by decide) ?_
  obtain ⟨w1, h1, hF⟩ := ob hF
  refine w_puti X hH h1 hk0 fs_10_0 nf_10_0 lk_10_85 dX10_derivationCount_2 (fun H locs hH => ?_)
  refine lv_aload_n hx hb dX10_derivationCount_5 rfl (lv_at hl 0 rfl) ?_
  refine lv_iload_n hx hb dX10_derivationCount_6 rfl (lv_at hl 1 rfl) ?_
  refine lv_iload_n hx hb dX10_derivationCount_7 rfl (lv_at hl 2 rfl) ?_
  obtain ⟨x2, h2, hF⟩ := ob hF
  refine w_callV (As := [.int (v_location), .int (v_o)]) (k := k0) (rest := []) (st1 := [.int (bI (x2))]) X hH (c_X10_areValid (l := l) (g := g) (w := w1) (k0 := k0) (v_location := v_location) (v_o := v_o) h2 hk0) (Or.inl tw_6_200) ms_X10_areValid im_X10_areValid hk0 cn_10 ⟨Nat.le_of_ble_eq_true rfl, Nat.le_of_ble_eq_true rfl⟩ rfl rfl hl.1 (Nat.le_of_ble_eq_true rfl) dX10_derivationCount_8 ⟨Nat.le_refl _, Nat.le_refl _⟩ rfl (fun H locs hH => ?_)
  refine w_b_t (tgt := 16) hx hb dX10_derivationCount_11 (by decide) (fun c3 => ?_) (fun c3 => ?_)
  · replace hF := ifn (fun z => z c3) hF
    refine lv_aload_n hx hb dX10_derivationCount_16 rfl (lv_at hl 0 rfl) ?_
    refine lv_iload_n hx hb dX10_derivationCount_17 rfl (lv_at hl 1 rfl) ?_
    obtain ⟨x4, h4, hF⟩ := ob hF
    refine w_callV (As := [.int (v_location)]) (k := k0) (rest := []) (st1 := [.int (x4)]) X hH (c_X10_indexOf (l := l) (g := g) (w := w1) (k0 := k0) (v_location := v_location) h4 hk0) (Or.inl tw_6_172) ms_X10_indexOf im_X10_indexOf hk0 cn_10 ⟨Nat.le_of_ble_eq_true rfl, Nat.le_of_ble_eq_true rfl⟩ rfl rfl hl.1 (Nat.le_of_ble_eq_true rfl) dX10_derivationCount_18 ⟨Nat.le_refl _, Nat.le_refl _⟩ rfl (fun H locs hH => ?_)
    refine lv_istore_n (lv' := [(3, .int (x4)), (0, .ref (g.2.2 (k0))), (1, .int (v_location)), (2, .int (v_o))]) hx hb dX10_derivationCount_21 rfl hl (by decide) rfl (fun ls hl => ?_)
    refine lv_aload_n hx hb dX10_derivationCount_22 rfl (lv_at hl 1 rfl) ?_
    refine lv_iload_n hx hb dX10_derivationCount_23 rfl (lv_at hl 0 rfl) ?_
    refine lv_iload_n hx hb dX10_derivationCount_24 rfl (lv_at hl 3 rfl) ?_
    obtain ⟨x5, h5, hF⟩ := ob hF
    refine w_callV (As := [.int (x4), .int (v_o)]) (k := k0) (rest := []) (st1 := [.int (bI (x5))]) X hH (c_X10_isFact (l := l) (g := g) (w := w1) (k0 := k0) (v_index := x4) (v_o := v_o) h5 hk0) (Or.inl tw_6_204) ms_X10_isFact im_X10_isFact hk0 cn_10 ⟨Nat.le_of_ble_eq_true rfl, Nat.le_of_ble_eq_true rfl⟩ rfl rfl hl.1 (Nat.le_of_ble_eq_true rfl) dX10_derivationCount_25 ⟨Nat.le_refl _, Nat.le_refl _⟩ rfl (fun H locs hH => ?_)
    refine w_b_t (tgt := 33) hx hb dX10_derivationCount_28 (by decide) (fun c6 => ?_) (fun c6 => ?_)
    · replace hF := ifn (fun z => z c6) hF
      refine lv_aload_n hx hb dX10_derivationCount_33 rfl (lv_at hl 1 rfl) ?_
      refine lv_iload_n hx hb dX10_derivationCount_34 rfl (lv_at hl 0 rfl) ?_
      refine lv_iload_n hx hb dX10_derivationCount_35 rfl (lv_at hl 3 rfl) ?_
      refine lv_iconst (v := bI false) hx hb dX10_derivationCount_36 (by decide) ?_
      obtain ⟨w7, h7, hF⟩ := ob hF
      refine w_callV (As := [.int (x4), .int (v_o), .int (bI (false))]) (k := k0) (rest := []) (st1 := []) X hH (c_X10_derive (l := l) (g := g) (w := w1) (k0 := k0) (v_index := x4) (v_o := v_o) (v_primary := false) h7 hk0) (Or.inl tw_6_212) ms_X10_derive im_X10_derive hk0 cn_10 ⟨Nat.le_of_ble_eq_true rfl, Nat.le_of_ble_eq_true rfl⟩ rfl rfl hl.1 (Nat.le_of_ble_eq_true rfl) dX10_derivationCount_37 ⟨Nat.le_refl _, Nat.le_refl _⟩ rfl (fun H locs hH => ?_)
      refine lv_aload_n hx hb dX10_derivationCount_40 rfl (lv_at hl 1 rfl) ?_
      refine w_geti X hH hk0 fs_10_31 lk_10_277 dX10_derivationCount_41 ?_
      obtain ⟨rfl, rfl⟩ := se2 hF
      exact w_iret X hH hr dX10_derivationCount_44
    · replace hF := ifp c6 hF
      refine lv_iconst (v := (0 : Int32)) hx hb dX10_derivationCount_31 (by decide) ?_
      obtain ⟨rfl, rfl⟩ := se2 hF
      exact w_iret X hH hr dX10_derivationCount_32
  · replace hF := ifp c3 hF
    refine lv_iconst (v := (-1 : Int32)) hx hb dX10_derivationCount_14 (by decide) ?_
    obtain ⟨rfl, rfl⟩ := se2 hF
    exact w_iret X hH hr dX10_derivationCount_15

theorem dX10_explain_0 : decode cX10_explain 0 = .ok (.aload_n 0, 1) := by decide +kernel
theorem dX10_explain_1 : decode cX10_explain 1 = .ok (.iload_n 1, 1) := by decide +kernel
theorem dX10_explain_2 : decode cX10_explain 2 = .ok (.invokevirtual 263, 3) := by decide +kernel
theorem dX10_explain_5 : decode cX10_explain 5 = .ok (.istore 4, 2) := by decide +kernel
theorem dX10_explain_7 : decode cX10_explain 7 = .ok (.iconst 0, 1) := by decide +kernel
theorem dX10_explain_8 : decode cX10_explain 8 = .ok (.istore 5, 2) := by decide +kernel
theorem dX10_explain_10 : decode cX10_explain 10 = .ok (.iload 4, 2) := by decide +kernel
theorem dX10_explain_12 : decode cX10_explain 12 = .ok (.ifCond .lt 32, 3) := by decide +kernel
theorem dX10_explain_15 : decode cX10_explain 15 = .ok (.aload_n 0, 1) := by decide +kernel
theorem dX10_explain_16 : decode cX10_explain 16 = .ok (.iload 4, 2) := by decide +kernel
theorem dX10_explain_18 : decode cX10_explain 18 = .ok (.iload_n 2, 1) := by decide +kernel
theorem dX10_explain_19 : decode cX10_explain 19 = .ok (.iconst 1, 1) := by decide +kernel
theorem dX10_explain_20 : decode cX10_explain 20 = .ok (.invokevirtual 300, 3) := by decide +kernel
theorem dX10_explain_23 : decode cX10_explain 23 = .ok (.iload 5, 2) := by decide +kernel
theorem dX10_explain_25 : decode cX10_explain 25 = .ok (.iload_n 3, 1) := by decide +kernel
theorem dX10_explain_26 : decode cX10_explain 26 = .ok (.if_icmp .ne 6, 3) := by decide +kernel
theorem dX10_explain_29 : decode cX10_explain 29 = .ok (.iload 5, 2) := by decide +kernel
theorem dX10_explain_31 : decode cX10_explain 31 = .ok (.ireturn, 1) := by decide +kernel
theorem dX10_explain_32 : decode cX10_explain 32 = .ok (.iinc 5 1, 3) := by decide +kernel
theorem dX10_explain_35 : decode cX10_explain 35 = .ok (.aload_n 0, 1) := by decide +kernel
theorem dX10_explain_36 : decode cX10_explain 36 = .ok (.getfield 286, 3) := by decide +kernel
theorem dX10_explain_39 : decode cX10_explain 39 = .ok (.istore 4, 2) := by decide +kernel
theorem dX10_explain_41 : decode cX10_explain 41 = .ok (.goto (-31), 3) := by decide +kernel
theorem dX10_explain_44 : decode cX10_explain 44 = .ok (.iload 5, 2) := by decide +kernel
theorem dX10_explain_46 : decode cX10_explain 46 = .ok (.ireturn, 1) := by decide +kernel
set_option maxHeartbeats 4000000 in
set_option maxRecDepth 100000 in
theorem c_X10_explain {l : Launch} {g : Gh} {w : Wd} {k0 : Nat} {v_location : Int32} {v_o : Int32} {v_step : Int32} {rz : Int32} {wz : Wd} (hF : f_X10_explain w k0 v_location v_o v_step = some (rz, wz)) (hk0 : zct zM k0 = 10) : Met l yX10_explain (Cond.code yX10_explain cX10_explain 6 (some .int) :: TT) (rmd 6) (Pcw zM g w [.ref (g.2.2 k0), .int (v_location), .int (v_o), .int (v_step)]) (Qw zM g wz (some (.int (rz)))) 0 0 (zA zM g) := by
  refine mt_start (by decide) (Nat.le_of_ble_eq_true rfl) ?_
  intro p e s m args below meth c H locs ls X hr hl hH
  have hx := X.1
  have hb := X.2.1
  have hml := X.2.2.1
  have hown := X.2.2.2.1
  have ht := X.2.2.2.2.1
  have hl : lv_has ls 6 [(0, .ref (g.2.2 (k0))), (1, .int (v_location)), (2, .int (v_o)), (3, .int (v_step))] := hl
  unfold f_X10_explain at hF
  refine lv_aload_n hx hb dX10_explain_0 rfl (lv_at hl 0 rfl) ?_
  refine lv_iload_n hx hb dX10_explain_1 rfl (lv_at hl 1 rfl) ?_
  obtain ⟨x1, h1, hF⟩ := ob hF
  refine w_callV (As := [.int (v_location)]) (k := k0) (rest := []) (st1 := [.int (x1)]) X hH (c_X10_indexOf (l := l) (g := g) (w := w) (k0 := k0) (v_location := v_location) h1 hk0) (Or.inl tw_6_172) ms_X10_indexOf im_X10_indexOf hk0 cn_10 ⟨Nat.le_of_ble_eq_true rfl, Nat.le_of_ble_eq_true rfl⟩ rfl rfl hl.1 (Nat.le_of_ble_eq_true rfl) dX10_explain_2 ⟨Nat.le_refl _, Nat.le_refl _⟩ rfl (fun H locs hH => ?_)
  refine lv_istore (lv' := [(4, .int (x1)), (0, .ref (g.2.2 (k0))), (1, .int (v_location)), (2, .int (v_o)), (3, .int (v_step))]) hx hb dX10_explain_5 hl (by decide) rfl (fun ls hl => ?_)
  refine lv_iconst (v := (0 : Int32)) hx hb dX10_explain_7 (by decide) ?_
  refine lv_istore (lv' := [(5, .int ((0 : Int32))), (4, .int (x1)), (0, .ref (g.2.2 (k0))), (1, .int (v_location)), (2, .int (v_o)), (3, .int (v_step))]) hx hb dX10_explain_8 hl (by decide) rfl (fun ls hl => ?_)
  obtain ⟨r3, hLr3, hF⟩ := ob hF
  have Jr3 : ∀ r3x, r3 = .inl r3x → ∀ (H : Heap) (locs : List Loc) (ls : Array Slot), HW zM g r3x.2.2 s.heap H locs → lv_has ls 6 [(0, .ref (g.2.2 (k0))), (1, .int (v_location)), (2, .int (v_o)), (3, .int (v_step)), (4, .int (r3x.1)), (5, .int (r3x.2.1))] → W p l e (rmd 6) s m args below meth c H locs 0 0 (MQ below (Qw zM g wz (some (.int (rz)))) args s 0 0 (zA zM g)) (F0 m 44 ls []) := by
    intro r3x hrx H locs ls hH hl
    rw [hrx] at hF
    dsimp only at hF
    refine lv_iload hx hb dX10_explain_44 (lv_at hl 5 rfl) ?_
    obtain ⟨rfl, rfl⟩ := se2 hF
    exact w_iret X hH hr dX10_explain_46
  have hor3 := hF
  have Lr3 : ∀ (n : Nat) (s2 : Int32 × Int32 × Wd), lp (b_X10_explain_1 k0 v_o v_step) n s2 = some r3 → ∀ (H : Heap) (locs : List Loc) (ls : Array Slot), HW zM g s2.2.2 s.heap H locs → lv_has ls 6 [(0, .ref (g.2.2 (k0))), (1, .int (v_location)), (2, .int (v_o)), (3, .int (v_step)), (4, .int (s2.1)), (5, .int (s2.2.1))] → W p l e (rmd 6) s m args below meth c H locs 0 0 (MQ below (Qw zM g wz (some (.int (rz)))) args s 0 0 (zA zM g)) (F0 m 10 ls []) := by
    intro n
    induction n with
    | zero => intro s2 hL; exact lp_0 hL
    | succ n ih =>
      intro s2 hL H locs ls hH hl
      obtain ⟨bb, hF, hL⟩ := lp_s hL
      unfold b_X10_explain_1 at hF
      refine lv_iload hx hb dX10_explain_10 (lv_at hl 4 rfl) ?_
      refine w_zge_f (tgt := 44) hx hb dX10_explain_12 (by decide) (fun c4 => ?_) (fun c4 => ?_)
      · replace hF := ifn c4 hF
        obtain rfl := se1 hF
        subst hL
        exact Jr3 _ rfl _ _ _ hH (lv_sub hl [0, 1, 2, 3, 4, 5] rfl)
      · replace hF := ifp c4 hF
        refine lv_aload_n hx hb dX10_explain_15 rfl (lv_at hl 0 rfl) ?_
        refine lv_iload hx hb dX10_explain_16 (lv_at hl 4 rfl) ?_
        refine lv_iload_n hx hb dX10_explain_18 rfl (lv_at hl 2 rfl) ?_
        refine lv_iconst (v := bI true) hx hb dX10_explain_19 (by decide) ?_
        obtain ⟨w5, h5, hF⟩ := ob hF
        refine w_callV (As := [.int (s2.1), .int (v_o), .int (bI (true))]) (k := k0) (rest := []) (st1 := []) X hH (c_X10_derive (l := l) (g := g) (w := s2.2.2) (k0 := k0) (v_index := s2.1) (v_o := v_o) (v_primary := true) h5 hk0) (Or.inl tw_6_212) ms_X10_derive im_X10_derive hk0 cn_10 ⟨Nat.le_of_ble_eq_true rfl, Nat.le_of_ble_eq_true rfl⟩ rfl rfl hl.1 (Nat.le_of_ble_eq_true rfl) dX10_explain_20 ⟨Nat.le_refl _, Nat.le_refl _⟩ rfl (fun H locs hH => ?_)
        refine lv_iload hx hb dX10_explain_23 (lv_at hl 5 rfl) ?_
        refine lv_iload_n hx hb dX10_explain_25 rfl (lv_at hl 3 rfl) ?_
        refine w_ieq_f (tgt := 32) hx hb dX10_explain_26 (by decide) (fun c6 => ?_) (fun c6 => ?_)
        · replace hF := ifn c6 hF
          refine lv_iinc (v := (s2.2.1 + (1 : Int32))) (lv' := [(5, .int ((s2.2.1 + (1 : Int32)))), (0, .ref (g.2.2 (k0))), (1, .int (v_location)), (2, .int (v_o)), (3, .int (v_step)), (4, .int (s2.1))]) hx hb dX10_explain_32 hl (k := 5) rfl rfl (by decide) rfl (fun ls hl => ?_)
          refine lv_aload_n hx hb dX10_explain_35 rfl (lv_at hl 1 rfl) ?_
          refine w_geti X hH hk0 fs_10_30 lk_10_286 dX10_explain_36 ?_
          refine lv_istore (lv' := [(4, .int ((w5.1 (k0) 30))), (5, .int ((s2.2.1 + (1 : Int32)))), (0, .ref (g.2.2 (k0))), (1, .int (v_location)), (2, .int (v_o)), (3, .int (v_step))]) hx hb dX10_explain_39 hl (by decide) rfl (fun ls hl => ?_)
          refine lv_goto (tgt := 10) hx hb dX10_explain_41 (by decide) ?_
          obtain rfl := se1 hF
          exact ih _ hL _ _ _ hH (lv_sub hl [2, 3, 4, 5, 0, 1] rfl)
        · replace hF := ifp c6 hF
          refine lv_iload hx hb dX10_explain_29 (lv_at hl 5 rfl) ?_
          obtain rfl := se1 hF
          subst hL
          have hF := hor3
          obtain ⟨rfl, rfl⟩ := se2 hF
          exact w_iret X hH hr dX10_explain_31
  exact Lr3 NF _ hLr3 _ _ _ hH (lv_sub hl [2, 3, 4, 5, 1, 0] rfl)

theorem dX10_explanationLength_0 : decode cX10_explanationLength 0 = .ok (.aload_n 0, 1) := by decide +kernel
theorem dX10_explanationLength_1 : decode cX10_explanationLength 1 = .ok (.iconst 0, 1) := by decide +kernel
theorem dX10_explanationLength_2 : decode cX10_explanationLength 2 = .ok (.putfield 85, 3) := by decide +kernel
theorem dX10_explanationLength_5 : decode cX10_explanationLength 5 = .ok (.aload_n 0, 1) := by decide +kernel
theorem dX10_explanationLength_6 : decode cX10_explanationLength 6 = .ok (.iload_n 1, 1) := by decide +kernel
theorem dX10_explanationLength_7 : decode cX10_explanationLength 7 = .ok (.iload_n 2, 1) := by decide +kernel
theorem dX10_explanationLength_8 : decode cX10_explanationLength 8 = .ok (.invokevirtual 297, 3) := by decide +kernel
theorem dX10_explanationLength_11 : decode cX10_explanationLength 11 = .ok (.ifCond .ne 5, 3) := by decide +kernel
theorem dX10_explanationLength_14 : decode cX10_explanationLength 14 = .ok (.iconst (-1), 1) := by decide +kernel
theorem dX10_explanationLength_15 : decode cX10_explanationLength 15 = .ok (.ireturn, 1) := by decide +kernel
theorem dX10_explanationLength_16 : decode cX10_explanationLength 16 = .ok (.aload_n 0, 1) := by decide +kernel
theorem dX10_explanationLength_17 : decode cX10_explanationLength 17 = .ok (.aload_n 0, 1) := by decide +kernel
theorem dX10_explanationLength_18 : decode cX10_explanationLength 18 = .ok (.iload_n 1, 1) := by decide +kernel
theorem dX10_explanationLength_19 : decode cX10_explanationLength 19 = .ok (.invokevirtual 263, 3) := by decide +kernel
theorem dX10_explanationLength_22 : decode cX10_explanationLength 22 = .ok (.iload_n 2, 1) := by decide +kernel
theorem dX10_explanationLength_23 : decode cX10_explanationLength 23 = .ok (.invokevirtual 266, 3) := by decide +kernel
theorem dX10_explanationLength_26 : decode cX10_explanationLength 26 = .ok (.ifCond .eq 14, 3) := by decide +kernel
theorem dX10_explanationLength_29 : decode cX10_explanationLength 29 = .ok (.aload_n 0, 1) := by decide +kernel
theorem dX10_explanationLength_30 : decode cX10_explanationLength 30 = .ok (.iload_n 1, 1) := by decide +kernel
theorem dX10_explanationLength_31 : decode cX10_explanationLength 31 = .ok (.iload_n 2, 1) := by decide +kernel
theorem dX10_explanationLength_32 : decode cX10_explanationLength 32 = .ok (.bipush (-2), 2) := by decide +kernel
theorem dX10_explanationLength_34 : decode cX10_explanationLength 34 = .ok (.invokevirtual 304, 3) := by decide +kernel
theorem dX10_explanationLength_37 : decode cX10_explanationLength 37 = .ok (.goto 5, 3) := by decide +kernel
theorem dX10_explanationLength_40 : decode cX10_explanationLength 40 = .ok (.bipush (-2), 2) := by decide +kernel
theorem dX10_explanationLength_42 : decode cX10_explanationLength 42 = .ok (.ireturn, 1) := by decide +kernel
set_option maxHeartbeats 4000000 in
set_option maxRecDepth 100000 in
theorem c_X10_explanationLength {l : Launch} {g : Gh} {w : Wd} {k0 : Nat} {v_location : Int32} {v_o : Int32} {rz : Int32} {wz : Wd} (hF : f_X10_explanationLength w k0 v_location v_o = some (rz, wz)) (hk0 : zct zM k0 = 10) : Met l yX10_explanationLength (Cond.code yX10_explanationLength cX10_explanationLength 3 (some .int) :: TT) (rmd 7) (Pcw zM g w [.ref (g.2.2 k0), .int (v_location), .int (v_o)]) (Qw zM g wz (some (.int (rz)))) 0 0 (zA zM g) := by
  refine mt_start (by decide) (Nat.le_of_ble_eq_true rfl) ?_
  intro p e s m args below meth c H locs ls X hr hl hH
  have hx := X.1
  have hb := X.2.1
  have hml := X.2.2.1
  have hown := X.2.2.2.1
  have ht := X.2.2.2.2.1
  have hl : lv_has ls 3 [(0, .ref (g.2.2 (k0))), (1, .int (v_location)), (2, .int (v_o))] := hl
  unfold f_X10_explanationLength at hF
  refine lv_aload_n hx hb dX10_explanationLength_0 rfl (lv_at hl 0 rfl) ?_
  refine lv_iconst (v := (0 : Int32)) hx hb dX10_explanationLength_1 (by decide) ?_
  obtain ⟨w1, h1, hF⟩ := ob hF
  refine w_puti X hH h1 hk0 fs_10_0 nf_10_0 lk_10_85 dX10_explanationLength_2 (fun H locs hH => ?_)
  refine lv_aload_n hx hb dX10_explanationLength_5 rfl (lv_at hl 0 rfl) ?_
  refine lv_iload_n hx hb dX10_explanationLength_6 rfl (lv_at hl 1 rfl) ?_
  refine lv_iload_n hx hb dX10_explanationLength_7 rfl (lv_at hl 2 rfl) ?_
  obtain ⟨x2, h2, hF⟩ := ob hF
  refine w_callV (As := [.int (v_location), .int (v_o)]) (k := k0) (rest := []) (st1 := [.int (bI (x2))]) X hH (c_X10_areValid (l := l) (g := g) (w := w1) (k0 := k0) (v_location := v_location) (v_o := v_o) h2 hk0) (Or.inl tw_6_200) ms_X10_areValid im_X10_areValid hk0 cn_10 ⟨Nat.le_of_ble_eq_true rfl, Nat.le_of_ble_eq_true rfl⟩ rfl rfl hl.1 (Nat.le_of_ble_eq_true rfl) dX10_explanationLength_8 ⟨Nat.le_refl _, Nat.le_refl _⟩ rfl (fun H locs hH => ?_)
  refine w_b_t (tgt := 16) hx hb dX10_explanationLength_11 (by decide) (fun c3 => ?_) (fun c3 => ?_)
  · replace hF := ifn (fun z => z c3) hF
    obtain ⟨x5, hx5, hF⟩ := ob hF
    have J4 : ∀ (H : Heap) (locs : List Loc), HW zM g x5.2 s.heap H locs → W p l e (rmd 7) s m args below meth c H locs 0 0 (MQ below (Qw zM g wz (some (.int (rz)))) args s 0 0 (zA zM g)) (F0 m 42 ls [.int (x5.1)]) := by
      intro H locs hH
      obtain ⟨rfl, rfl⟩ := se2 hF
      exact w_iret X hH hr dX10_explanationLength_42
    have hF := hx5
    refine lv_aload_n hx hb dX10_explanationLength_16 rfl (lv_at hl 0 rfl) ?_
    refine lv_aload_n hx hb dX10_explanationLength_17 rfl (lv_at hl 0 rfl) ?_
    refine lv_iload_n hx hb dX10_explanationLength_18 rfl (lv_at hl 1 rfl) ?_
    obtain ⟨x6, h6, hF⟩ := ob hF
    refine w_callV (As := [.int (v_location)]) (k := k0) (rest := [.ref (g.2.2 (k0))]) (st1 := [.int (x6), .ref (g.2.2 (k0))]) X hH (c_X10_indexOf (l := l) (g := g) (w := w1) (k0 := k0) (v_location := v_location) h6 hk0) (Or.inl tw_6_172) ms_X10_indexOf im_X10_indexOf hk0 cn_10 ⟨Nat.le_of_ble_eq_true rfl, Nat.le_of_ble_eq_true rfl⟩ rfl rfl hl.1 (Nat.le_of_ble_eq_true rfl) dX10_explanationLength_19 ⟨Nat.le_refl _, Nat.le_refl _⟩ rfl (fun H locs hH => ?_)
    refine lv_iload_n hx hb dX10_explanationLength_22 rfl (lv_at hl 2 rfl) ?_
    obtain ⟨x7, h7, hF⟩ := ob hF
    refine w_callV (As := [.int (x6), .int (v_o)]) (k := k0) (rest := []) (st1 := [.int (bI (x7))]) X hH (c_X10_isFact (l := l) (g := g) (w := w1) (k0 := k0) (v_index := x6) (v_o := v_o) h7 hk0) (Or.inl tw_6_204) ms_X10_isFact im_X10_isFact hk0 cn_10 ⟨Nat.le_of_ble_eq_true rfl, Nat.le_of_ble_eq_true rfl⟩ rfl rfl hl.1 (Nat.le_of_ble_eq_true rfl) dX10_explanationLength_23 ⟨Nat.le_refl _, Nat.le_refl _⟩ rfl (fun H locs hH => ?_)
    refine w_b_f (tgt := 40) hx hb dX10_explanationLength_26 (by decide) (fun c8 => ?_) (fun c8 => ?_)
    · replace hF := ifn c8 hF
      refine lv_bipush (v := (-2 : Int32)) hx hb dX10_explanationLength_40 (by decide) ?_
      obtain rfl := se1 hF
      exact J4 _ _ hH
    · replace hF := ifp c8 hF
      refine lv_aload_n hx hb dX10_explanationLength_29 rfl (lv_at hl 0 rfl) ?_
      refine lv_iload_n hx hb dX10_explanationLength_30 rfl (lv_at hl 1 rfl) ?_
      refine lv_iload_n hx hb dX10_explanationLength_31 rfl (lv_at hl 2 rfl) ?_
      refine lv_bipush (v := (-2 : Int32)) hx hb dX10_explanationLength_32 (by decide) ?_
      obtain ⟨x9, h9, hF⟩ := ob hF
      refine w_callV (As := [.int (v_location), .int (v_o), .int ((-2 : Int32))]) (k := k0) (rest := []) (st1 := [.int (x9.1)]) X hH (c_X10_explain (l := l) (g := g) (w := w1) (k0 := k0) (v_location := v_location) (v_o := v_o) (v_step := (-2 : Int32)) h9 hk0) (Or.inl tw_6_232) ms_X10_explain im_X10_explain hk0 cn_10 ⟨Nat.le_of_ble_eq_true rfl, Nat.le_of_ble_eq_true rfl⟩ rfl rfl hl.1 (Nat.le_of_ble_eq_true rfl) dX10_explanationLength_34 ⟨Nat.le_refl _, Nat.le_refl _⟩ rfl (fun H locs hH => ?_)
      refine lv_goto (tgt := 42) hx hb dX10_explanationLength_37 (by decide) ?_
      obtain rfl := se1 hF
      exact J4 _ _ hH
  · replace hF := ifp c3 hF
    refine lv_iconst (v := (-1 : Int32)) hx hb dX10_explanationLength_14 (by decide) ?_
    obtain ⟨rfl, rfl⟩ := se2 hF
    exact w_iret X hH hr dX10_explanationLength_15

theorem dX10_whyNoStep_0 : decode cX10_whyNoStep 0 = .ok (.aload_n 0, 1) := by decide +kernel
theorem dX10_whyNoStep_1 : decode cX10_whyNoStep 1 = .ok (.iload_n 1, 1) := by decide +kernel
theorem dX10_whyNoStep_2 : decode cX10_whyNoStep 2 = .ok (.iload_n 2, 1) := by decide +kernel
theorem dX10_whyNoStep_3 : decode cX10_whyNoStep 3 = .ok (.invokevirtual 297, 3) := by decide +kernel
theorem dX10_whyNoStep_6 : decode cX10_whyNoStep 6 = .ok (.ifCond .eq 7, 3) := by decide +kernel
theorem dX10_whyNoStep_9 : decode cX10_whyNoStep 9 = .ok (.iload_n 3, 1) := by decide +kernel
theorem dX10_whyNoStep_10 : decode cX10_whyNoStep 10 = .ok (.ifCond .ge 5, 3) := by decide +kernel
theorem dX10_whyNoStep_13 : decode cX10_whyNoStep 13 = .ok (.iconst (-1), 1) := by decide +kernel
theorem dX10_whyNoStep_14 : decode cX10_whyNoStep 14 = .ok (.ireturn, 1) := by decide +kernel
theorem dX10_whyNoStep_15 : decode cX10_whyNoStep 15 = .ok (.aload_n 0, 1) := by decide +kernel
theorem dX10_whyNoStep_16 : decode cX10_whyNoStep 16 = .ok (.aload_n 0, 1) := by decide +kernel
theorem dX10_whyNoStep_17 : decode cX10_whyNoStep 17 = .ok (.iload_n 1, 1) := by decide +kernel
theorem dX10_whyNoStep_18 : decode cX10_whyNoStep 18 = .ok (.invokevirtual 263, 3) := by decide +kernel
theorem dX10_whyNoStep_21 : decode cX10_whyNoStep 21 = .ok (.iload_n 2, 1) := by decide +kernel
theorem dX10_whyNoStep_22 : decode cX10_whyNoStep 22 = .ok (.invokevirtual 266, 3) := by decide +kernel
theorem dX10_whyNoStep_25 : decode cX10_whyNoStep 25 = .ok (.ifCond .ne 6, 3) := by decide +kernel
theorem dX10_whyNoStep_28 : decode cX10_whyNoStep 28 = .ok (.bipush (-2), 2) := by decide +kernel
theorem dX10_whyNoStep_30 : decode cX10_whyNoStep 30 = .ok (.ireturn, 1) := by decide +kernel
theorem dX10_whyNoStep_31 : decode cX10_whyNoStep 31 = .ok (.iload_n 3, 1) := by decide +kernel
theorem dX10_whyNoStep_32 : decode cX10_whyNoStep 32 = .ok (.aload_n 0, 1) := by decide +kernel
theorem dX10_whyNoStep_33 : decode cX10_whyNoStep 33 = .ok (.iload_n 1, 1) := by decide +kernel
theorem dX10_whyNoStep_34 : decode cX10_whyNoStep 34 = .ok (.iload_n 2, 1) := by decide +kernel
theorem dX10_whyNoStep_35 : decode cX10_whyNoStep 35 = .ok (.bipush (-2), 2) := by decide +kernel
theorem dX10_whyNoStep_37 : decode cX10_whyNoStep 37 = .ok (.invokevirtual 304, 3) := by decide +kernel
theorem dX10_whyNoStep_40 : decode cX10_whyNoStep 40 = .ok (.if_icmp .ge 18, 3) := by decide +kernel
theorem dX10_whyNoStep_43 : decode cX10_whyNoStep 43 = .ok (.aload_n 0, 1) := by decide +kernel
theorem dX10_whyNoStep_44 : decode cX10_whyNoStep 44 = .ok (.iload_n 1, 1) := by decide +kernel
theorem dX10_whyNoStep_45 : decode cX10_whyNoStep 45 = .ok (.iload_n 2, 1) := by decide +kernel
theorem dX10_whyNoStep_46 : decode cX10_whyNoStep 46 = .ok (.iload_n 3, 1) := by decide +kernel
theorem dX10_whyNoStep_47 : decode cX10_whyNoStep 47 = .ok (.invokevirtual 304, 3) := by decide +kernel
theorem dX10_whyNoStep_50 : decode cX10_whyNoStep 50 = .ok (.iload_n 3, 1) := by decide +kernel
theorem dX10_whyNoStep_51 : decode cX10_whyNoStep 51 = .ok (.if_icmp .ne 7, 3) := by decide +kernel
theorem dX10_whyNoStep_54 : decode cX10_whyNoStep 54 = .ok (.iconst 0, 1) := by decide +kernel
theorem dX10_whyNoStep_55 : decode cX10_whyNoStep 55 = .ok (.goto 5, 3) := by decide +kernel
theorem dX10_whyNoStep_58 : decode cX10_whyNoStep 58 = .ok (.bipush (-2), 2) := by decide +kernel
theorem dX10_whyNoStep_60 : decode cX10_whyNoStep 60 = .ok (.ireturn, 1) := by decide +kernel
set_option maxHeartbeats 4000000 in
set_option maxRecDepth 100000 in
theorem c_X10_whyNoStep {l : Launch} {g : Gh} {w : Wd} {k0 : Nat} {v_location : Int32} {v_o : Int32} {v_step : Int32} {rz : Int32} {wz : Wd} (hF : f_X10_whyNoStep w k0 v_location v_o v_step = some (rz, wz)) (hk0 : zct zM k0 = 10) : Met l yX10_whyNoStep (Cond.code yX10_whyNoStep cX10_whyNoStep 4 (some .int) :: TT) (rmd 7) (Pcw zM g w [.ref (g.2.2 k0), .int (v_location), .int (v_o), .int (v_step)]) (Qw zM g wz (some (.int (rz)))) 0 0 (zA zM g) := by
  refine mt_start (by decide) (Nat.le_of_ble_eq_true rfl) ?_
  intro p e s m args below meth c H locs ls X hr hl hH
  have hx := X.1
  have hb := X.2.1
  have hml := X.2.2.1
  have hown := X.2.2.2.1
  have ht := X.2.2.2.2.1
  have hl : lv_has ls 4 [(0, .ref (g.2.2 (k0))), (1, .int (v_location)), (2, .int (v_o)), (3, .int (v_step))] := hl
  unfold f_X10_whyNoStep at hF
  refine lv_aload_n hx hb dX10_whyNoStep_0 rfl (lv_at hl 0 rfl) ?_
  refine lv_iload_n hx hb dX10_whyNoStep_1 rfl (lv_at hl 1 rfl) ?_
  refine lv_iload_n hx hb dX10_whyNoStep_2 rfl (lv_at hl 2 rfl) ?_
  obtain ⟨x1, h1, hF⟩ := ob hF
  refine w_callV (As := [.int (v_location), .int (v_o)]) (k := k0) (rest := []) (st1 := [.int (bI (x1))]) X hH (c_X10_areValid (l := l) (g := g) (w := w) (k0 := k0) (v_location := v_location) (v_o := v_o) h1 hk0) (Or.inl tw_6_200) ms_X10_areValid im_X10_areValid hk0 cn_10 ⟨Nat.le_of_ble_eq_true rfl, Nat.le_of_ble_eq_true rfl⟩ rfl rfl hl.1 (Nat.le_of_ble_eq_true rfl) dX10_whyNoStep_3 ⟨Nat.le_refl _, Nat.le_refl _⟩ rfl (fun H locs hH => ?_)
  have J2T : (¬ (x1 = true)) ∨ (v_step < (0 : Int32)) → ∀ (H : Heap) (locs : List Loc), HW zM g w s.heap H locs → W p l e (rmd 7) s m args below meth c H locs 0 0 (MQ below (Qw zM g wz (some (.int (rz)))) args s 0 0 (zA zM g)) (F0 m 13 ls []) := by
    intro hc H locs hH
    replace hF := ifp hc hF
    refine lv_iconst (v := (-1 : Int32)) hx hb dX10_whyNoStep_13 (by decide) ?_
    obtain ⟨rfl, rfl⟩ := se2 hF
    exact w_iret X hH hr dX10_whyNoStep_14
  have J2F : ¬ ((¬ (x1 = true)) ∨ (v_step < (0 : Int32))) → ∀ (H : Heap) (locs : List Loc), HW zM g w s.heap H locs → W p l e (rmd 7) s m args below meth c H locs 0 0 (MQ below (Qw zM g wz (some (.int (rz)))) args s 0 0 (zA zM g)) (F0 m 15 ls []) := by
    intro hc H locs hH
    replace hF := ifn hc hF
    refine lv_aload_n hx hb dX10_whyNoStep_15 rfl (lv_at hl 0 rfl) ?_
    refine lv_aload_n hx hb dX10_whyNoStep_16 rfl (lv_at hl 0 rfl) ?_
    refine lv_iload_n hx hb dX10_whyNoStep_17 rfl (lv_at hl 1 rfl) ?_
    obtain ⟨x5, h5, hF⟩ := ob hF
    refine w_callV (As := [.int (v_location)]) (k := k0) (rest := [.ref (g.2.2 (k0))]) (st1 := [.int (x5), .ref (g.2.2 (k0))]) X hH (c_X10_indexOf (l := l) (g := g) (w := w) (k0 := k0) (v_location := v_location) h5 hk0) (Or.inl tw_6_172) ms_X10_indexOf im_X10_indexOf hk0 cn_10 ⟨Nat.le_of_ble_eq_true rfl, Nat.le_of_ble_eq_true rfl⟩ rfl rfl hl.1 (Nat.le_of_ble_eq_true rfl) dX10_whyNoStep_18 ⟨Nat.le_refl _, Nat.le_refl _⟩ rfl (fun H locs hH => ?_)
    refine lv_iload_n hx hb dX10_whyNoStep_21 rfl (lv_at hl 2 rfl) ?_
    obtain ⟨x6, h6, hF⟩ := ob hF
    refine w_callV (As := [.int (x5), .int (v_o)]) (k := k0) (rest := []) (st1 := [.int (bI (x6))]) X hH (c_X10_isFact (l := l) (g := g) (w := w) (k0 := k0) (v_index := x5) (v_o := v_o) h6 hk0) (Or.inl tw_6_204) ms_X10_isFact im_X10_isFact hk0 cn_10 ⟨Nat.le_of_ble_eq_true rfl, Nat.le_of_ble_eq_true rfl⟩ rfl rfl hl.1 (Nat.le_of_ble_eq_true rfl) dX10_whyNoStep_22 ⟨Nat.le_refl _, Nat.le_refl _⟩ rfl (fun H locs hH => ?_)
    refine w_b_t (tgt := 31) hx hb dX10_whyNoStep_25 (by decide) (fun c7 => ?_) (fun c7 => ?_)
    · replace hF := ifn (fun z => z c7) hF
      obtain ⟨x9, hx9, hF⟩ := ob hF
      have J8 : ∀ (H : Heap) (locs : List Loc), HW zM g x9.2 s.heap H locs → W p l e (rmd 7) s m args below meth c H locs 0 0 (MQ below (Qw zM g wz (some (.int (rz)))) args s 0 0 (zA zM g)) (F0 m 60 ls [.int (x9.1)]) := by
        intro H locs hH
        obtain ⟨rfl, rfl⟩ := se2 hF
        exact w_iret X hH hr dX10_whyNoStep_60
      have hF := hx9
      obtain ⟨b10, hb10, hF⟩ := ob hF
      have Jb10T : b10.1 = true → ∀ (H : Heap) (locs : List Loc), HW zM g b10.2 s.heap H locs → W p l e (rmd 7) s m args below meth c H locs 0 0 (MQ below (Qw zM g wz (some (.int (rz)))) args s 0 0 (zA zM g)) (F0 m 54 ls []) := by
        intro hc H locs hH
        replace hF := ifp hc hF
        refine lv_iconst (v := (0 : Int32)) hx hb dX10_whyNoStep_54 (by decide) ?_
        refine lv_goto (tgt := 60) hx hb dX10_whyNoStep_55 (by decide) ?_
        obtain rfl := se1 hF
        exact J8 _ _ hH
      have Jb10F : ¬ (b10.1 = true) → ∀ (H : Heap) (locs : List Loc), HW zM g b10.2 s.heap H locs → W p l e (rmd 7) s m args below meth c H locs 0 0 (MQ below (Qw zM g wz (some (.int (rz)))) args s 0 0 (zA zM g)) (F0 m 58 ls []) := by
        intro hc H locs hH
        replace hF := ifn hc hF
        refine lv_bipush (v := (-2 : Int32)) hx hb dX10_whyNoStep_58 (by decide) ?_
        obtain rfl := se1 hF
        exact J8 _ _ hH
      have hF := hb10
      refine lv_iload_n hx hb dX10_whyNoStep_31 rfl (lv_at hl 3 rfl) ?_
      refine lv_aload_n hx hb dX10_whyNoStep_32 rfl (lv_at hl 0 rfl) ?_
      refine lv_iload_n hx hb dX10_whyNoStep_33 rfl (lv_at hl 1 rfl) ?_
      refine lv_iload_n hx hb dX10_whyNoStep_34 rfl (lv_at hl 2 rfl) ?_
      refine lv_bipush (v := (-2 : Int32)) hx hb dX10_whyNoStep_35 (by decide) ?_
      obtain ⟨x12, h12, hF⟩ := ob hF
      refine w_callV (As := [.int (v_location), .int (v_o), .int ((-2 : Int32))]) (k := k0) (rest := [.int (v_step)]) (st1 := [.int (x12.1), .int (v_step)]) X hH (c_X10_explain (l := l) (g := g) (w := w) (k0 := k0) (v_location := v_location) (v_o := v_o) (v_step := (-2 : Int32)) h12 hk0) (Or.inl tw_6_232) ms_X10_explain im_X10_explain hk0 cn_10 ⟨Nat.le_of_ble_eq_true rfl, Nat.le_of_ble_eq_true rfl⟩ rfl rfl hl.1 (Nat.le_of_ble_eq_true rfl) dX10_whyNoStep_37 ⟨Nat.le_refl _, Nat.le_refl _⟩ rfl (fun H locs hH => ?_)
      refine w_ilt_f (tgt := 58) hx hb dX10_whyNoStep_40 (by decide) (fun c11 => ?_) (fun c11 => ?_)
      · replace hF := ifn c11 hF
        obtain rfl := se1 hF
        exact Jb10F Bool.false_ne_true _ _ hH
      · replace hF := ifp c11 hF
        refine lv_aload_n hx hb dX10_whyNoStep_43 rfl (lv_at hl 0 rfl) ?_
        refine lv_iload_n hx hb dX10_whyNoStep_44 rfl (lv_at hl 1 rfl) ?_
        refine lv_iload_n hx hb dX10_whyNoStep_45 rfl (lv_at hl 2 rfl) ?_
        refine lv_iload_n hx hb dX10_whyNoStep_46 rfl (lv_at hl 3 rfl) ?_
        obtain ⟨x14, h14, hF⟩ := ob hF
        refine w_callV (As := [.int (v_location), .int (v_o), .int (v_step)]) (k := k0) (rest := []) (st1 := [.int (x14.1)]) X hH (c_X10_explain (l := l) (g := g) (w := x12.2) (k0 := k0) (v_location := v_location) (v_o := v_o) (v_step := v_step) h14 hk0) (Or.inl tw_6_232) ms_X10_explain im_X10_explain hk0 cn_10 ⟨Nat.le_of_ble_eq_true rfl, Nat.le_of_ble_eq_true rfl⟩ rfl rfl hl.1 (Nat.le_of_ble_eq_true rfl) dX10_whyNoStep_47 ⟨Nat.le_refl _, Nat.le_refl _⟩ rfl (fun H locs hH => ?_)
        refine lv_iload_n hx hb dX10_whyNoStep_50 rfl (lv_at hl 3 rfl) ?_
        refine w_ieq_f (tgt := 58) hx hb dX10_whyNoStep_51 (by decide) (fun c13 => ?_) (fun c13 => ?_)
        · replace hF := ifn c13 hF
          obtain rfl := se1 hF
          exact Jb10F Bool.false_ne_true _ _ hH
        · replace hF := ifp c13 hF
          obtain rfl := se1 hF
          exact Jb10T rfl _ _ hH
    · replace hF := ifp c7 hF
      refine lv_bipush (v := (-2 : Int32)) hx hb dX10_whyNoStep_28 (by decide) ?_
      obtain ⟨rfl, rfl⟩ := se2 hF
      exact w_iret X hH hr dX10_whyNoStep_30
  refine w_b_f (tgt := 13) hx hb dX10_whyNoStep_6 (by decide) (fun c3 => ?_) (fun c3 => ?_)
  · exact J2T (Or.inl c3) _ _ hH
  · refine lv_iload_n hx hb dX10_whyNoStep_9 rfl (lv_at hl 3 rfl) ?_
    refine w_zlt_f (tgt := 15) hx hb dX10_whyNoStep_10 (by decide) (fun c4 => ?_) (fun c4 => ?_)
    · exact J2F (fun z => z.elim (fun z => z c3) c4) _ _ hH
    · exact J2T (Or.inr c4) _ _ hH

theorem dX10_explanationConstraint_0 : decode cX10_explanationConstraint 0 = .ok (.aload_n 0, 1) := by decide +kernel
theorem dX10_explanationConstraint_1 : decode cX10_explanationConstraint 1 = .ok (.iconst 0, 1) := by decide +kernel
theorem dX10_explanationConstraint_2 : decode cX10_explanationConstraint 2 = .ok (.putfield 85, 3) := by decide +kernel
theorem dX10_explanationConstraint_5 : decode cX10_explanationConstraint 5 = .ok (.aload_n 0, 1) := by decide +kernel
theorem dX10_explanationConstraint_6 : decode cX10_explanationConstraint 6 = .ok (.iload_n 1, 1) := by decide +kernel
theorem dX10_explanationConstraint_7 : decode cX10_explanationConstraint 7 = .ok (.iload_n 2, 1) := by decide +kernel
theorem dX10_explanationConstraint_8 : decode cX10_explanationConstraint 8 = .ok (.iload_n 3, 1) := by decide +kernel
theorem dX10_explanationConstraint_9 : decode cX10_explanationConstraint 9 = .ok (.invokevirtual 308, 3) := by decide +kernel
theorem dX10_explanationConstraint_12 : decode cX10_explanationConstraint 12 = .ok (.istore 4, 2) := by decide +kernel
theorem dX10_explanationConstraint_14 : decode cX10_explanationConstraint 14 = .ok (.iload 4, 2) := by decide +kernel
theorem dX10_explanationConstraint_16 : decode cX10_explanationConstraint 16 = .ok (.ifCond .eq 8, 3) := by decide +kernel
theorem dX10_explanationConstraint_19 : decode cX10_explanationConstraint 19 = .ok (.iload 4, 2) := by decide +kernel
theorem dX10_explanationConstraint_21 : decode cX10_explanationConstraint 21 = .ok (.goto 7, 3) := by decide +kernel
theorem dX10_explanationConstraint_24 : decode cX10_explanationConstraint 24 = .ok (.aload_n 0, 1) := by decide +kernel
theorem dX10_explanationConstraint_25 : decode cX10_explanationConstraint 25 = .ok (.getfield 280, 3) := by decide +kernel
theorem dX10_explanationConstraint_28 : decode cX10_explanationConstraint 28 = .ok (.ireturn, 1) := by decide +kernel
set_option maxHeartbeats 4000000 in
set_option maxRecDepth 100000 in
theorem c_X10_explanationConstraint {l : Launch} {g : Gh} {w : Wd} {k0 : Nat} {v_location : Int32} {v_o : Int32} {v_step : Int32} {rz : Int32} {wz : Wd} (hF : f_X10_explanationConstraint w k0 v_location v_o v_step = some (rz, wz)) (hk0 : zct zM k0 = 10) : Met l yX10_explanationConstraint (Cond.code yX10_explanationConstraint cX10_explanationConstraint 5 (some .int) :: TT) (rmd 8) (Pcw zM g w [.ref (g.2.2 k0), .int (v_location), .int (v_o), .int (v_step)]) (Qw zM g wz (some (.int (rz)))) 0 0 (zA zM g) := by
  refine mt_start (by decide) (Nat.le_of_ble_eq_true rfl) ?_
  intro p e s m args below meth c H locs ls X hr hl hH
  have hx := X.1
  have hb := X.2.1
  have hml := X.2.2.1
  have hown := X.2.2.2.1
  have ht := X.2.2.2.2.1
  have hl : lv_has ls 5 [(0, .ref (g.2.2 (k0))), (1, .int (v_location)), (2, .int (v_o)), (3, .int (v_step))] := hl
  unfold f_X10_explanationConstraint at hF
  refine lv_aload_n hx hb dX10_explanationConstraint_0 rfl (lv_at hl 0 rfl) ?_
  refine lv_iconst (v := (0 : Int32)) hx hb dX10_explanationConstraint_1 (by decide) ?_
  obtain ⟨w1, h1, hF⟩ := ob hF
  refine w_puti X hH h1 hk0 fs_10_0 nf_10_0 lk_10_85 dX10_explanationConstraint_2 (fun H locs hH => ?_)
  refine lv_aload_n hx hb dX10_explanationConstraint_5 rfl (lv_at hl 0 rfl) ?_
  refine lv_iload_n hx hb dX10_explanationConstraint_6 rfl (lv_at hl 1 rfl) ?_
  refine lv_iload_n hx hb dX10_explanationConstraint_7 rfl (lv_at hl 2 rfl) ?_
  refine lv_iload_n hx hb dX10_explanationConstraint_8 rfl (lv_at hl 3 rfl) ?_
  obtain ⟨x2, h2, hF⟩ := ob hF
  refine w_callV (As := [.int (v_location), .int (v_o), .int (v_step)]) (k := k0) (rest := []) (st1 := [.int (x2.1)]) X hH (c_X10_whyNoStep (l := l) (g := g) (w := w1) (k0 := k0) (v_location := v_location) (v_o := v_o) (v_step := v_step) h2 hk0) (Or.inl tw_7_0) ms_X10_whyNoStep im_X10_whyNoStep hk0 cn_10 ⟨Nat.le_of_ble_eq_true rfl, Nat.le_of_ble_eq_true rfl⟩ rfl rfl hl.1 (Nat.le_of_ble_eq_true rfl) dX10_explanationConstraint_9 ⟨Nat.le_refl _, Nat.le_refl _⟩ rfl (fun H locs hH => ?_)
  refine lv_istore (lv' := [(4, .int (x2.1)), (0, .ref (g.2.2 (k0))), (1, .int (v_location)), (2, .int (v_o)), (3, .int (v_step))]) hx hb dX10_explanationConstraint_12 hl (by decide) rfl (fun ls hl => ?_)
  refine lv_iload hx hb dX10_explanationConstraint_14 (lv_at hl 0 rfl) ?_
  have J3 : ∀ (H : Heap) (locs : List Loc), HW zM g x2.2 s.heap H locs → W p l e (rmd 8) s m args below meth c H locs 0 0 (MQ below (Qw zM g wz (some (.int (rz)))) args s 0 0 (zA zM g)) (F0 m 28 ls [.int ((if ¬ (x2.1 = (0 : Int32)) then x2.1 else (x2.2.1 (k0) 28)))]) := by
    intro H locs hH
    obtain ⟨rfl, rfl⟩ := se2 hF
    exact w_iret X hH hr dX10_explanationConstraint_28
  refine w_zne_f (tgt := 24) hx hb dX10_explanationConstraint_16 (by decide) (fun c4 => ?_) (fun c4 => ?_)
  · refine lv_aload_n hx hb dX10_explanationConstraint_24 rfl (lv_at hl 1 rfl) ?_
    refine w_geti X hH hk0 fs_10_28 lk_10_280 dX10_explanationConstraint_25 ?_
    exact w_in c4 (J3 _ _ hH)
  · refine lv_iload hx hb dX10_explanationConstraint_19 (lv_at hl 0 rfl) ?_
    refine lv_goto (tgt := 28) hx hb dX10_explanationConstraint_21 (by decide) ?_
    exact w_ip c4 (J3 _ _ hH)

theorem dX10_explanationSource_0 : decode cX10_explanationSource 0 = .ok (.aload_n 0, 1) := by decide +kernel
theorem dX10_explanationSource_1 : decode cX10_explanationSource 1 = .ok (.iconst 0, 1) := by decide +kernel
theorem dX10_explanationSource_2 : decode cX10_explanationSource 2 = .ok (.putfield 85, 3) := by decide +kernel
theorem dX10_explanationSource_5 : decode cX10_explanationSource 5 = .ok (.aload_n 0, 1) := by decide +kernel
theorem dX10_explanationSource_6 : decode cX10_explanationSource 6 = .ok (.iload_n 1, 1) := by decide +kernel
theorem dX10_explanationSource_7 : decode cX10_explanationSource 7 = .ok (.iload_n 2, 1) := by decide +kernel
theorem dX10_explanationSource_8 : decode cX10_explanationSource 8 = .ok (.iload_n 3, 1) := by decide +kernel
theorem dX10_explanationSource_9 : decode cX10_explanationSource 9 = .ok (.invokevirtual 308, 3) := by decide +kernel
theorem dX10_explanationSource_12 : decode cX10_explanationSource 12 = .ok (.istore 4, 2) := by decide +kernel
theorem dX10_explanationSource_14 : decode cX10_explanationSource 14 = .ok (.iload 4, 2) := by decide +kernel
theorem dX10_explanationSource_16 : decode cX10_explanationSource 16 = .ok (.ifCond .eq 8, 3) := by decide +kernel
theorem dX10_explanationSource_19 : decode cX10_explanationSource 19 = .ok (.iload 4, 2) := by decide +kernel
theorem dX10_explanationSource_21 : decode cX10_explanationSource 21 = .ok (.goto 22, 3) := by decide +kernel
theorem dX10_explanationSource_24 : decode cX10_explanationSource 24 = .ok (.aload_n 0, 1) := by decide +kernel
theorem dX10_explanationSource_25 : decode cX10_explanationSource 25 = .ok (.getfield 286, 3) := by decide +kernel
theorem dX10_explanationSource_28 : decode cX10_explanationSource 28 = .ok (.ifCond .ge 8, 3) := by decide +kernel
theorem dX10_explanationSource_31 : decode cX10_explanationSource 31 = .ok (.bipush (-2), 2) := by decide +kernel
theorem dX10_explanationSource_33 : decode cX10_explanationSource 33 = .ok (.goto 10, 3) := by decide +kernel
theorem dX10_explanationSource_36 : decode cX10_explanationSource 36 = .ok (.aload_n 0, 1) := by decide +kernel
theorem dX10_explanationSource_37 : decode cX10_explanationSource 37 = .ok (.getfield 286, 3) := by decide +kernel
theorem dX10_explanationSource_40 : decode cX10_explanationSource 40 = .ok (.invokestatic 311, 3) := by decide +kernel
theorem dX10_explanationSource_43 : decode cX10_explanationSource 43 = .ok (.ireturn, 1) := by decide +kernel
set_option maxHeartbeats 4000000 in
set_option maxRecDepth 100000 in
theorem c_X10_explanationSource {l : Launch} {g : Gh} {w : Wd} {k0 : Nat} {v_location : Int32} {v_o : Int32} {v_step : Int32} {rz : Int32} {wz : Wd} (hF : f_X10_explanationSource w k0 v_location v_o v_step = some (rz, wz)) (hk0 : zct zM k0 = 10) : Met l yX10_explanationSource (Cond.code yX10_explanationSource cX10_explanationSource 5 (some .int) :: TT) (rmd 8) (Pcw zM g w [.ref (g.2.2 k0), .int (v_location), .int (v_o), .int (v_step)]) (Qw zM g wz (some (.int (rz)))) 0 0 (zA zM g) := by
  refine mt_start (by decide) (Nat.le_of_ble_eq_true rfl) ?_
  intro p e s m args below meth c H locs ls X hr hl hH
  have hx := X.1
  have hb := X.2.1
  have hml := X.2.2.1
  have hown := X.2.2.2.1
  have ht := X.2.2.2.2.1
  have hl : lv_has ls 5 [(0, .ref (g.2.2 (k0))), (1, .int (v_location)), (2, .int (v_o)), (3, .int (v_step))] := hl
  unfold f_X10_explanationSource at hF
  refine lv_aload_n hx hb dX10_explanationSource_0 rfl (lv_at hl 0 rfl) ?_
  refine lv_iconst (v := (0 : Int32)) hx hb dX10_explanationSource_1 (by decide) ?_
  obtain ⟨w1, h1, hF⟩ := ob hF
  refine w_puti X hH h1 hk0 fs_10_0 nf_10_0 lk_10_85 dX10_explanationSource_2 (fun H locs hH => ?_)
  refine lv_aload_n hx hb dX10_explanationSource_5 rfl (lv_at hl 0 rfl) ?_
  refine lv_iload_n hx hb dX10_explanationSource_6 rfl (lv_at hl 1 rfl) ?_
  refine lv_iload_n hx hb dX10_explanationSource_7 rfl (lv_at hl 2 rfl) ?_
  refine lv_iload_n hx hb dX10_explanationSource_8 rfl (lv_at hl 3 rfl) ?_
  obtain ⟨x2, h2, hF⟩ := ob hF
  refine w_callV (As := [.int (v_location), .int (v_o), .int (v_step)]) (k := k0) (rest := []) (st1 := [.int (x2.1)]) X hH (c_X10_whyNoStep (l := l) (g := g) (w := w1) (k0 := k0) (v_location := v_location) (v_o := v_o) (v_step := v_step) h2 hk0) (Or.inl tw_7_0) ms_X10_whyNoStep im_X10_whyNoStep hk0 cn_10 ⟨Nat.le_of_ble_eq_true rfl, Nat.le_of_ble_eq_true rfl⟩ rfl rfl hl.1 (Nat.le_of_ble_eq_true rfl) dX10_explanationSource_9 ⟨Nat.le_refl _, Nat.le_refl _⟩ rfl (fun H locs hH => ?_)
  refine lv_istore (lv' := [(4, .int (x2.1)), (0, .ref (g.2.2 (k0))), (1, .int (v_location)), (2, .int (v_o)), (3, .int (v_step))]) hx hb dX10_explanationSource_12 hl (by decide) rfl (fun ls hl => ?_)
  refine lv_iload hx hb dX10_explanationSource_14 (lv_at hl 0 rfl) ?_
  have J3 : ∀ (H : Heap) (locs : List Loc), HW zM g x2.2 s.heap H locs → W p l e (rmd 8) s m args below meth c H locs 0 0 (MQ below (Qw zM g wz (some (.int (rz)))) args s 0 0 (zA zM g)) (F0 m 43 ls [.int ((if ¬ (x2.1 = (0 : Int32)) then x2.1 else (if (x2.2.1 (k0) 30) < (0 : Int32) then (-2 : Int32) else (f_X10_locationOf ((x2.2.1 (k0) 30))))))]) := by
    intro H locs hH
    obtain ⟨rfl, rfl⟩ := se2 hF
    exact w_iret X hH hr dX10_explanationSource_43
  refine w_zne_f (tgt := 24) hx hb dX10_explanationSource_16 (by decide) (fun c4 => ?_) (fun c4 => ?_)
  · refine lv_aload_n hx hb dX10_explanationSource_24 rfl (lv_at hl 1 rfl) ?_
    refine w_geti X hH hk0 fs_10_30 lk_10_286 dX10_explanationSource_25 ?_
    have J5 : ∀ (H : Heap) (locs : List Loc), HW zM g x2.2 s.heap H locs → W p l e (rmd 8) s m args below meth c H locs 0 0 (MQ below (Qw zM g wz (some (.int (rz)))) args s 0 0 (zA zM g)) (F0 m 43 ls [.int ((if (x2.2.1 (k0) 30) < (0 : Int32) then (-2 : Int32) else (f_X10_locationOf ((x2.2.1 (k0) 30)))))]) := by
      intro H locs hH
      exact w_in c4 (J3 _ _ hH)
    refine w_zlt_f (tgt := 36) hx hb dX10_explanationSource_28 (by decide) (fun c6 => ?_) (fun c6 => ?_)
    · refine lv_aload_n hx hb dX10_explanationSource_36 rfl (lv_at hl 1 rfl) ?_
      refine w_geti X hH hk0 fs_10_30 lk_10_286 dX10_explanationSource_37 ?_
      refine w_callS (As := [.int ((x2.2.1 (k0) 30))]) (rest := []) (st1 := [.int ((f_X10_locationOf ((x2.2.1 (k0) 30))))]) X hH (c_X10_locationOf (l := l) (g := g) (w := x2.2) (v_index := (x2.2.1 (k0) 30)) rfl) (Or.inl tw_7_8) ms_X10_locationOf tw_7_9 ⟨Nat.le_of_ble_eq_true rfl, Nat.le_of_ble_eq_true rfl⟩ rfl rfl hl.1 (Nat.le_of_ble_eq_true rfl) dX10_explanationSource_40 ⟨Nat.le_refl _, Nat.le_refl _⟩ rfl (fun H locs hH => ?_)
      exact w_in c6 (J5 _ _ hH)
    · refine lv_bipush (v := (-2 : Int32)) hx hb dX10_explanationSource_31 (by decide) ?_
      refine lv_goto (tgt := 43) hx hb dX10_explanationSource_33 (by decide) ?_
      exact w_ip c6 (J5 _ _ hH)
  · refine lv_iload hx hb dX10_explanationSource_19 (lv_at hl 0 rfl) ?_
    refine lv_goto (tgt := 43) hx hb dX10_explanationSource_21 (by decide) ?_
    exact w_ip c4 (J3 _ _ hH)

theorem dX10_explanationVia_0 : decode cX10_explanationVia 0 = .ok (.aload_n 0, 1) := by decide +kernel
theorem dX10_explanationVia_1 : decode cX10_explanationVia 1 = .ok (.iconst 0, 1) := by decide +kernel
theorem dX10_explanationVia_2 : decode cX10_explanationVia 2 = .ok (.putfield 85, 3) := by decide +kernel
theorem dX10_explanationVia_5 : decode cX10_explanationVia 5 = .ok (.aload_n 0, 1) := by decide +kernel
theorem dX10_explanationVia_6 : decode cX10_explanationVia 6 = .ok (.iload_n 1, 1) := by decide +kernel
theorem dX10_explanationVia_7 : decode cX10_explanationVia 7 = .ok (.iload_n 2, 1) := by decide +kernel
theorem dX10_explanationVia_8 : decode cX10_explanationVia 8 = .ok (.iload_n 3, 1) := by decide +kernel
theorem dX10_explanationVia_9 : decode cX10_explanationVia 9 = .ok (.invokevirtual 308, 3) := by decide +kernel
theorem dX10_explanationVia_12 : decode cX10_explanationVia 12 = .ok (.istore 4, 2) := by decide +kernel
theorem dX10_explanationVia_14 : decode cX10_explanationVia 14 = .ok (.iload 4, 2) := by decide +kernel
theorem dX10_explanationVia_16 : decode cX10_explanationVia 16 = .ok (.ifCond .eq 8, 3) := by decide +kernel
theorem dX10_explanationVia_19 : decode cX10_explanationVia 19 = .ok (.iload 4, 2) := by decide +kernel
theorem dX10_explanationVia_21 : decode cX10_explanationVia 21 = .ok (.goto 7, 3) := by decide +kernel
theorem dX10_explanationVia_24 : decode cX10_explanationVia 24 = .ok (.aload_n 0, 1) := by decide +kernel
theorem dX10_explanationVia_25 : decode cX10_explanationVia 25 = .ok (.getfield 283, 3) := by decide +kernel
theorem dX10_explanationVia_28 : decode cX10_explanationVia 28 = .ok (.ireturn, 1) := by decide +kernel
set_option maxHeartbeats 4000000 in
set_option maxRecDepth 100000 in
theorem c_X10_explanationVia {l : Launch} {g : Gh} {w : Wd} {k0 : Nat} {v_location : Int32} {v_o : Int32} {v_step : Int32} {rz : Int32} {wz : Wd} (hF : f_X10_explanationVia w k0 v_location v_o v_step = some (rz, wz)) (hk0 : zct zM k0 = 10) : Met l yX10_explanationVia (Cond.code yX10_explanationVia cX10_explanationVia 5 (some .int) :: TT) (rmd 8) (Pcw zM g w [.ref (g.2.2 k0), .int (v_location), .int (v_o), .int (v_step)]) (Qw zM g wz (some (.int (rz)))) 0 0 (zA zM g) := by
  refine mt_start (by decide) (Nat.le_of_ble_eq_true rfl) ?_
  intro p e s m args below meth c H locs ls X hr hl hH
  have hx := X.1
  have hb := X.2.1
  have hml := X.2.2.1
  have hown := X.2.2.2.1
  have ht := X.2.2.2.2.1
  have hl : lv_has ls 5 [(0, .ref (g.2.2 (k0))), (1, .int (v_location)), (2, .int (v_o)), (3, .int (v_step))] := hl
  unfold f_X10_explanationVia at hF
  refine lv_aload_n hx hb dX10_explanationVia_0 rfl (lv_at hl 0 rfl) ?_
  refine lv_iconst (v := (0 : Int32)) hx hb dX10_explanationVia_1 (by decide) ?_
  obtain ⟨w1, h1, hF⟩ := ob hF
  refine w_puti X hH h1 hk0 fs_10_0 nf_10_0 lk_10_85 dX10_explanationVia_2 (fun H locs hH => ?_)
  refine lv_aload_n hx hb dX10_explanationVia_5 rfl (lv_at hl 0 rfl) ?_
  refine lv_iload_n hx hb dX10_explanationVia_6 rfl (lv_at hl 1 rfl) ?_
  refine lv_iload_n hx hb dX10_explanationVia_7 rfl (lv_at hl 2 rfl) ?_
  refine lv_iload_n hx hb dX10_explanationVia_8 rfl (lv_at hl 3 rfl) ?_
  obtain ⟨x2, h2, hF⟩ := ob hF
  refine w_callV (As := [.int (v_location), .int (v_o), .int (v_step)]) (k := k0) (rest := []) (st1 := [.int (x2.1)]) X hH (c_X10_whyNoStep (l := l) (g := g) (w := w1) (k0 := k0) (v_location := v_location) (v_o := v_o) (v_step := v_step) h2 hk0) (Or.inl tw_7_0) ms_X10_whyNoStep im_X10_whyNoStep hk0 cn_10 ⟨Nat.le_of_ble_eq_true rfl, Nat.le_of_ble_eq_true rfl⟩ rfl rfl hl.1 (Nat.le_of_ble_eq_true rfl) dX10_explanationVia_9 ⟨Nat.le_refl _, Nat.le_refl _⟩ rfl (fun H locs hH => ?_)
  refine lv_istore (lv' := [(4, .int (x2.1)), (0, .ref (g.2.2 (k0))), (1, .int (v_location)), (2, .int (v_o)), (3, .int (v_step))]) hx hb dX10_explanationVia_12 hl (by decide) rfl (fun ls hl => ?_)
  refine lv_iload hx hb dX10_explanationVia_14 (lv_at hl 0 rfl) ?_
  have J3 : ∀ (H : Heap) (locs : List Loc), HW zM g x2.2 s.heap H locs → W p l e (rmd 8) s m args below meth c H locs 0 0 (MQ below (Qw zM g wz (some (.int (rz)))) args s 0 0 (zA zM g)) (F0 m 28 ls [.int ((if ¬ (x2.1 = (0 : Int32)) then x2.1 else (x2.2.1 (k0) 29)))]) := by
    intro H locs hH
    obtain ⟨rfl, rfl⟩ := se2 hF
    exact w_iret X hH hr dX10_explanationVia_28
  refine w_zne_f (tgt := 24) hx hb dX10_explanationVia_16 (by decide) (fun c4 => ?_) (fun c4 => ?_)
  · refine lv_aload_n hx hb dX10_explanationVia_24 rfl (lv_at hl 1 rfl) ?_
    refine w_geti X hH hk0 fs_10_29 lk_10_283 dX10_explanationVia_25 ?_
    exact w_in c4 (J3 _ _ hH)
  · refine lv_iload hx hb dX10_explanationVia_19 (lv_at hl 0 rfl) ?_
    refine lv_goto (tgt := 28) hx hb dX10_explanationVia_21 (by decide) ?_
    exact w_ip c4 (J3 _ _ hH)

theorem dX10_require_0 : decode cX10_require 0 = .ok (.bipush 10, 2) := by decide +kernel
theorem dX10_require_2 : decode cX10_require 2 = .ok (.iload_n 1, 1) := by decide +kernel
theorem dX10_require_3 : decode cX10_require 3 = .ok (.imul, 1) := by decide +kernel
theorem dX10_require_4 : decode cX10_require 4 = .ok (.iload_n 2, 1) := by decide +kernel
theorem dX10_require_5 : decode cX10_require 5 = .ok (.iadd, 1) := by decide +kernel
theorem dX10_require_6 : decode cX10_require 6 = .ok (.istore_n 3, 1) := by decide +kernel
theorem dX10_require_7 : decode cX10_require 7 = .ok (.aload_n 0, 1) := by decide +kernel
theorem dX10_require_8 : decode cX10_require 8 = .ok (.getfield 67, 3) := by decide +kernel
theorem dX10_require_11 : decode cX10_require 11 = .ok (.iload_n 3, 1) := by decide +kernel
theorem dX10_require_12 : decode cX10_require 12 = .ok (.baload, 1) := by decide +kernel
theorem dX10_require_13 : decode cX10_require 13 = .ok (.ifCond .eq 4, 3) := by decide +kernel
theorem dX10_require_16 : decode cX10_require 16 = .ok (.return_, 1) := by decide +kernel
theorem dX10_require_17 : decode cX10_require 17 = .ok (.aload_n 0, 1) := by decide +kernel
theorem dX10_require_18 : decode cX10_require 18 = .ok (.getfield 67, 3) := by decide +kernel
theorem dX10_require_21 : decode cX10_require 21 = .ok (.iload_n 3, 1) := by decide +kernel
theorem dX10_require_22 : decode cX10_require 22 = .ok (.iconst 1, 1) := by decide +kernel
theorem dX10_require_23 : decode cX10_require 23 = .ok (.bastore, 1) := by decide +kernel
theorem dX10_require_24 : decode cX10_require 24 = .ok (.aload_n 0, 1) := by decide +kernel
theorem dX10_require_25 : decode cX10_require 25 = .ok (.getfield 64, 3) := by decide +kernel
theorem dX10_require_28 : decode cX10_require 28 = .ok (.aload_n 0, 1) := by decide +kernel
theorem dX10_require_29 : decode cX10_require 29 = .ok (.getfield 314, 3) := by decide +kernel
theorem dX10_require_32 : decode cX10_require 32 = .ok (.iload_n 3, 1) := by decide +kernel
theorem dX10_require_33 : decode cX10_require 33 = .ok (.iastore, 1) := by decide +kernel
theorem dX10_require_34 : decode cX10_require 34 = .ok (.aload_n 0, 1) := by decide +kernel
theorem dX10_require_35 : decode cX10_require 35 = .ok (.dup, 1) := by decide +kernel
theorem dX10_require_36 : decode cX10_require 36 = .ok (.getfield 314, 3) := by decide +kernel
theorem dX10_require_39 : decode cX10_require 39 = .ok (.iconst 1, 1) := by decide +kernel
theorem dX10_require_40 : decode cX10_require 40 = .ok (.iadd, 1) := by decide +kernel
theorem dX10_require_41 : decode cX10_require 41 = .ok (.putfield 314, 3) := by decide +kernel
theorem dX10_require_44 : decode cX10_require 44 = .ok (.return_, 1) := by decide +kernel
set_option maxHeartbeats 4000000 in
set_option maxRecDepth 100000 in
theorem c_X10_require {l : Launch} {g : Gh} {w : Wd} {k0 : Nat} {v_index : Int32} {v_o : Int32} {wz : Wd} (hF : f_X10_require w k0 v_index v_o = some wz) (hk0 : zct zM k0 = 10) : Met l yX10_require (Cond.code yX10_require cX10_require 4 none :: TT) (rmd 0) (Pcw zM g w [.ref (g.2.2 k0), .int (v_index), .int (v_o)]) (Qw zM g wz none) 0 0 (zA zM g) := by
  refine mt_start (by decide) (Nat.le_of_ble_eq_true rfl) ?_
  intro p e s m args below meth c H locs ls X hr hl hH
  have hx := X.1
  have hb := X.2.1
  have hml := X.2.2.1
  have hown := X.2.2.2.1
  have ht := X.2.2.2.2.1
  have hl : lv_has ls 4 [(0, .ref (g.2.2 (k0))), (1, .int (v_index)), (2, .int (v_o))] := hl
  unfold f_X10_require at hF
  refine lv_bipush (v := (10 : Int32)) hx hb dX10_require_0 (by decide) ?_
  refine lv_iload_n hx hb dX10_require_2 rfl (lv_at hl 1 rfl) ?_
  refine lv_imul hx hb dX10_require_3 ?_
  refine lv_iload_n hx hb dX10_require_4 rfl (lv_at hl 2 rfl) ?_
  refine lv_iadd hx hb dX10_require_5 ?_
  refine lv_istore_n (lv' := [(3, .int ((((10 : Int32) * v_index) + v_o))), (0, .ref (g.2.2 (k0))), (1, .int (v_index)), (2, .int (v_o))]) hx hb dX10_require_6 rfl hl (by decide) rfl (fun ls hl => ?_)
  refine lv_aload_n hx hb dX10_require_7 rfl (lv_at hl 1 rfl) ?_
  refine w_getr X hH hk0 fs_10_34 lk_10_67 dX10_require_8 ?_
  refine lv_iload_n hx hb dX10_require_11 rfl (lv_at hl 0 rfl) ?_
  obtain ⟨x1, h1, hF⟩ := ob hF
  refine w_zald X hH h1 (rt_M_10_34 hk0) dX10_require_12 ?_
  refine w_b_f (tgt := 17) hx hb dX10_require_13 (by decide) (fun c2 => ?_) (fun c2 => ?_)
  · replace hF := ifn c2 hF
    refine lv_aload_n hx hb dX10_require_17 rfl (lv_at hl 1 rfl) ?_
    refine w_getr X hH hk0 fs_10_34 lk_10_67 dX10_require_18 ?_
    refine lv_iload_n hx hb dX10_require_21 rfl (lv_at hl 0 rfl) ?_
    refine lv_iconst (v := bI true) hx hb dX10_require_22 (by decide) ?_
    obtain ⟨w3, h3, hF⟩ := ob hF
    refine w_zast X hH h3 (rt_M_10_34 hk0) dX10_require_23 (fun H locs hH => ?_)
    refine lv_aload_n hx hb dX10_require_24 rfl (lv_at hl 1 rfl) ?_
    refine w_getr X hH hk0 fs_10_33 lk_10_64 dX10_require_25 ?_
    refine lv_aload_n hx hb dX10_require_28 rfl (lv_at hl 1 rfl) ?_
    refine w_geti X hH hk0 fs_10_35 lk_10_314 dX10_require_29 ?_
    refine lv_iload_n hx hb dX10_require_32 rfl (lv_at hl 0 rfl) ?_
    obtain ⟨w4, h4, hF⟩ := ob hF
    refine w_iast X hH h4 (rt_M_10_33 hk0) dX10_require_33 (fun H locs hH => ?_)
    refine lv_aload_n hx hb dX10_require_34 rfl (lv_at hl 1 rfl) ?_
    refine lv_dup hx hb dX10_require_35 rfl ?_
    refine w_geti X hH hk0 fs_10_35 lk_10_314 dX10_require_36 ?_
    refine lv_iconst (v := (1 : Int32)) hx hb dX10_require_39 (by decide) ?_
    refine lv_iadd hx hb dX10_require_40 ?_
    obtain ⟨w5, h5, hF⟩ := ob hF
    refine w_puti X hH h5 hk0 fs_10_35 nf_10_35 lk_10_314 dX10_require_41 (fun H locs hH => ?_)
    obtain rfl := se1 hF
    exact w_vret X hH hr dX10_require_44
  · replace hF := ifp c2 hF
    obtain rfl := se1 hF
    exact w_vret X hH hr dX10_require_16
