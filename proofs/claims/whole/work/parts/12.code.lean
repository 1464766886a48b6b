theorem dX9_reachableObjects_0 : decode cX9_reachableObjects 0 = .ok (.aload_n 0, 1) := by decide +kernel
theorem dX9_reachableObjects_1 : decode cX9_reachableObjects 1 = .ok (.iload_n 1, 1) := by decide +kernel
theorem dX9_reachableObjects_2 : decode cX9_reachableObjects 2 = .ok (.invokevirtual 143, 3) := by decide +kernel
theorem dX9_reachableObjects_5 : decode cX9_reachableObjects 5 = .ok (.ifCond .ne 5, 3) := by decide +kernel
theorem dX9_reachableObjects_8 : decode cX9_reachableObjects 8 = .ok (.iconst (-1), 1) := by decide +kernel
theorem dX9_reachableObjects_9 : decode cX9_reachableObjects 9 = .ok (.ireturn, 1) := by decide +kernel
theorem dX9_reachableObjects_10 : decode cX9_reachableObjects 10 = .ok (.iconst 1, 1) := by decide +kernel
theorem dX9_reachableObjects_11 : decode cX9_reachableObjects 11 = .ok (.iload_n 1, 1) := by decide +kernel
theorem dX9_reachableObjects_12 : decode cX9_reachableObjects 12 = .ok (.ishl, 1) := by decide +kernel
theorem dX9_reachableObjects_13 : decode cX9_reachableObjects 13 = .ok (.istore_n 2, 1) := by decide +kernel
theorem dX9_reachableObjects_14 : decode cX9_reachableObjects 14 = .ok (.iconst 1, 1) := by decide +kernel
theorem dX9_reachableObjects_15 : decode cX9_reachableObjects 15 = .ok (.istore_n 3, 1) := by decide +kernel
theorem dX9_reachableObjects_16 : decode cX9_reachableObjects 16 = .ok (.iload_n 3, 1) := by decide +kernel
theorem dX9_reachableObjects_17 : decode cX9_reachableObjects 17 = .ok (.bipush 10, 2) := by decide +kernel
theorem dX9_reachableObjects_19 : decode cX9_reachableObjects 19 = .ok (.if_icmp .ge 20, 3) := by decide +kernel
theorem dX9_reachableObjects_22 : decode cX9_reachableObjects 22 = .ok (.iload_n 2, 1) := by decide +kernel
theorem dX9_reachableObjects_23 : decode cX9_reachableObjects 23 = .ok (.aload_n 0, 1) := by decide +kernel
theorem dX9_reachableObjects_24 : decode cX9_reachableObjects 24 = .ok (.getfield 47, 3) := by decide +kernel
theorem dX9_reachableObjects_27 : decode cX9_reachableObjects 27 = .ok (.iload_n 2, 1) := by decide +kernel
theorem dX9_reachableObjects_28 : decode cX9_reachableObjects 28 = .ok (.invokevirtual 172, 3) := by decide +kernel
theorem dX9_reachableObjects_31 : decode cX9_reachableObjects 31 = .ok (.ior, 1) := by decide +kernel
theorem dX9_reachableObjects_32 : decode cX9_reachableObjects 32 = .ok (.istore_n 2, 1) := by decide +kernel
theorem dX9_reachableObjects_33 : decode cX9_reachableObjects 33 = .ok (.iinc 3 1, 3) := by decide +kernel
theorem dX9_reachableObjects_36 : decode cX9_reachableObjects 36 = .ok (.goto (-20), 3) := by decide +kernel
theorem dX9_reachableObjects_39 : decode cX9_reachableObjects 39 = .ok (.iload_n 2, 1) := by decide +kernel
theorem dX9_reachableObjects_40 : decode cX9_reachableObjects 40 = .ok (.ireturn, 1) := by decide +kernel
set_option maxHeartbeats 4000000 in
set_option maxRecDepth 100000 in
theorem c_X9_reachableObjects {l : Launch} {g : Gh} {w : Wd} {k0 : Nat} {v_object : Int32} {rz : Int32} (hF : f_X9_reachableObjects w k0 v_object = some rz) (hk0 : zct zC k0 = 9) : Met l yX9_reachableObjects (Cond.code yX9_reachableObjects cX9_reachableObjects 4 (some .int) :: TT) (rmd 2) (Pcw zC g w [.ref (g.2.2 k0), .int (v_object)]) (Qw zC g w (some (.int (rz)))) 0 0 (zA zC g) := by
  refine mt_start (by decide) (Nat.le_of_ble_eq_true rfl) ?_
  intro p e s m args below meth c H locs ls X hr hl hH
  have hx := X.1
  have hb := X.2.1
  have hml := X.2.2.1
  have hown := X.2.2.2.1
  have ht := X.2.2.2.2.1
  have hl : lv_has ls 4 [(0, .ref (g.2.2 (k0))), (1, .int (v_object))] := hl
  unfold f_X9_reachableObjects at hF
  refine lv_aload_n hx hb dX9_reachableObjects_0 rfl (lv_at hl 0 rfl) ?_
  refine lv_iload_n hx hb dX9_reachableObjects_1 rfl (lv_at hl 1 rfl) ?_
  obtain ⟨x1, h1, hF⟩ := ob hF
  refine w_callV (As := [.int (v_object)]) (k := k0) (rest := []) (st1 := [.int (bI (x1))]) X hH (c_X9_isObject (l := l) (g := g) (w := w) (k0 := k0) (v_object := v_object) h1 hk0) (Or.inl tw_3_56) ms_X9_isObject im_X9_isObject hk0 cn_9 ⟨Nat.le_of_ble_eq_true rfl, Nat.le_of_ble_eq_true rfl⟩ rfl rfl hl.1 (Nat.le_of_ble_eq_true rfl) dX9_reachableObjects_2 ⟨Nat.le_refl _, Nat.le_refl _⟩ rfl (fun H locs hH => ?_)
  refine w_b_t (tgt := 10) hx hb dX9_reachableObjects_5 (by decide) (fun c2 => ?_) (fun c2 => ?_)
  · replace hF := ifn (fun z => z c2) hF
    refine lv_iconst (v := (1 : Int32)) hx hb dX9_reachableObjects_10 (by decide) ?_
    refine lv_iload_n hx hb dX9_reachableObjects_11 rfl (lv_at hl 1 rfl) ?_
    refine w_ishl hx hb dX9_reachableObjects_12 ?_
    refine lv_istore_n (lv' := [(2, .int ((jshl ((1 : Int32)) (v_object)))), (0, .ref (g.2.2 (k0))), (1, .int (v_object))]) hx hb dX9_reachableObjects_13 rfl hl (by decide) rfl (fun ls hl => ?_)
    refine lv_iconst (v := (1 : Int32)) hx hb dX9_reachableObjects_14 (by decide) ?_
    refine lv_istore_n (lv' := [(3, .int ((1 : Int32))), (2, .int ((jshl ((1 : Int32)) (v_object)))), (0, .ref (g.2.2 (k0))), (1, .int (v_object))]) hx hb dX9_reachableObjects_15 rfl hl (by decide) rfl (fun ls hl => ?_)
    obtain ⟨r4, hLr4, hF⟩ := ob hF
    have Jr4 : ∀ (H : Heap) (locs : List Loc) (ls : Array Slot), HW zC g w s.heap H locs → lv_has ls 4 [(0, .ref (g.2.2 (k0))), (1, .int (v_object)), (2, .int (r4))] → W p l e (rmd 2) s m args below meth c H locs 0 0 (MQ below (Qw zC g w (some (.int (rz)))) args s 0 0 (zA zC g)) (F0 m 39 ls []) := by
      intro H locs ls hH hl
      refine lv_iload_n hx hb dX9_reachableObjects_39 rfl (lv_at hl 2 rfl) ?_
      obtain rfl := se1 hF
      exact w_iret X hH hr dX9_reachableObjects_40
    have Lr4 : ∀ (n : Nat) (s3 : Int32 × Int32), lp (b_X9_reachableObjects_1 w k0) n s3 = some r4 → ∀ (H : Heap) (locs : List Loc) (ls : Array Slot), HW zC g w s.heap H locs → lv_has ls 4 [(0, .ref (g.2.2 (k0))), (1, .int (v_object)), (2, .int (s3.1)), (3, .int (s3.2))] → W p l e (rmd 2) s m args below meth c H locs 0 0 (MQ below (Qw zC g w (some (.int (rz)))) args s 0 0 (zA zC g)) (F0 m 16 ls []) := by
      intro n
      induction n with
      | zero => intro s3 hL; exact lp_0 hL
      | succ n ih =>
        intro s3 hL H locs ls hH hl
        obtain ⟨bb, hF, hL⟩ := lp_s hL
        unfold b_X9_reachableObjects_1 at hF
        refine lv_iload_n hx hb dX9_reachableObjects_16 rfl (lv_at hl 3 rfl) ?_
        refine lv_bipush (v := (10 : Int32)) hx hb dX9_reachableObjects_17 (by decide) ?_
        refine w_ilt_f (tgt := 39) hx hb dX9_reachableObjects_19 (by decide) (fun c5 => ?_) (fun c5 => ?_)
        · replace hF := ifn c5 hF
          obtain rfl := se1 hF
          subst hL
          exact Jr4 _ _ _ hH (lv_sub hl [0, 1, 2] rfl)
        · replace hF := ifp c5 hF
          refine lv_iload_n hx hb dX9_reachableObjects_22 rfl (lv_at hl 2 rfl) ?_
          refine lv_aload_n hx hb dX9_reachableObjects_23 rfl (lv_at hl 0 rfl) ?_
          refine w_getr X hH hk0 fs_9_6 lk_9_47 dX9_reachableObjects_24 ?_
          refine lv_iload_n hx hb dX9_reachableObjects_27 rfl (lv_at hl 2 rfl) ?_
          obtain ⟨x6, h6, hF⟩ := ob hF
          refine w_callV (As := [.int (s3.1)]) (k := (zrf zC (k0) 6)) (rest := [.int (s3.1)]) (st1 := [.int (x6), .int (s3.1)]) X hH (c_X7_fieldTargets (l := l) (g := g) (w := w) (k0 := (zrf zC (k0) 6)) (v_objects := s3.1) h6 (rt_C_9_6 hk0)) (Or.inr ⟨_, tw_3_94⟩) ms_X7_fieldTargets im_X7_fieldTargets (rt_C_9_6 hk0) cn_7 ⟨Nat.le_of_ble_eq_true rfl, Nat.le_of_ble_eq_true rfl⟩ rfl rfl hl.1 (Nat.le_of_ble_eq_true rfl) dX9_reachableObjects_28 ⟨Nat.le_refl _, Nat.le_refl _⟩ rfl (fun H locs hH => ?_)
          refine lv_ior hx hb dX9_reachableObjects_31 ?_
          refine lv_istore_n (lv' := [(2, .int ((s3.1 ||| x6))), (0, .ref (g.2.2 (k0))), (1, .int (v_object)), (3, .int (s3.2))]) hx hb dX9_reachableObjects_32 rfl hl (by decide) rfl (fun ls hl => ?_)
          refine lv_iinc (v := (s3.2 + (1 : Int32))) (lv' := [(3, .int ((s3.2 + (1 : Int32)))), (2, .int ((s3.1 ||| x6))), (0, .ref (g.2.2 (k0))), (1, .int (v_object))]) hx hb dX9_reachableObjects_33 hl (k := 3) rfl rfl (by decide) rfl (fun ls hl => ?_)
          refine lv_goto (tgt := 16) hx hb dX9_reachableObjects_36 (by decide) ?_
          obtain rfl := se1 hF
          exact ih _ hL _ _ _ hH (lv_sub hl [2, 3, 1, 0] rfl)
    exact Lr4 NF _ hLr4 _ _ _ hH (lv_sub hl [2, 3, 1, 0] rfl)
  · replace hF := ifp c2 hF
    refine lv_iconst (v := (-1 : Int32)) hx hb dX9_reachableObjects_8 (by decide) ?_
    obtain rfl := se1 hF
    exact w_iret X hH hr dX9_reachableObjects_9

theorem dX9_findFact_0 : decode cX9_findFact 0 = .ok (.aload_n 0, 1) := by decide +kernel
theorem dX9_findFact_1 : decode cX9_findFact 1 = .ok (.getfield 19, 3) := by decide +kernel
theorem dX9_findFact_4 : decode cX9_findFact 4 = .ok (.iload_n 1, 1) := by decide +kernel
theorem dX9_findFact_5 : decode cX9_findFact 5 = .ok (.invokevirtual 161, 3) := by decide +kernel
theorem dX9_findFact_8 : decode cX9_findFact 8 = .ok (.istore_n 3, 1) := by decide +kernel
theorem dX9_findFact_9 : decode cX9_findFact 9 = .ok (.iload_n 3, 1) := by decide +kernel
theorem dX9_findFact_10 : decode cX9_findFact 10 = .ok (.iconst (-1), 1) := by decide +kernel
theorem dX9_findFact_11 : decode cX9_findFact 11 = .ok (.if_icmp .eq 11, 3) := by decide +kernel
theorem dX9_findFact_14 : decode cX9_findFact 14 = .ok (.aload_n 0, 1) := by decide +kernel
theorem dX9_findFact_15 : decode cX9_findFact 15 = .ok (.iload_n 2, 1) := by decide +kernel
theorem dX9_findFact_16 : decode cX9_findFact 16 = .ok (.invokevirtual 143, 3) := by decide +kernel
theorem dX9_findFact_19 : decode cX9_findFact 19 = .ok (.ifCond .ne 5, 3) := by decide +kernel
theorem dX9_findFact_22 : decode cX9_findFact 22 = .ok (.iconst (-1), 1) := by decide +kernel
theorem dX9_findFact_23 : decode cX9_findFact 23 = .ok (.ireturn, 1) := by decide +kernel
theorem dX9_findFact_24 : decode cX9_findFact 24 = .ok (.aload_n 0, 1) := by decide +kernel
theorem dX9_findFact_25 : decode cX9_findFact 25 = .ok (.getfield 47, 3) := by decide +kernel
theorem dX9_findFact_28 : decode cX9_findFact 28 = .ok (.getfield 165, 3) := by decide +kernel
theorem dX9_findFact_31 : decode cX9_findFact 31 = .ok (.iload_n 3, 1) := by decide +kernel
theorem dX9_findFact_32 : decode cX9_findFact 32 = .ok (.iaload, 1) := by decide +kernel
theorem dX9_findFact_33 : decode cX9_findFact 33 = .ok (.iload_n 2, 1) := by decide +kernel
theorem dX9_findFact_34 : decode cX9_findFact 34 = .ok (.invokestatic 168, 3) := by decide +kernel
theorem dX9_findFact_37 : decode cX9_findFact 37 = .ok (.ifCond .eq 11, 3) := by decide +kernel
theorem dX9_findFact_40 : decode cX9_findFact 40 = .ok (.iload_n 3, 1) := by decide +kernel
theorem dX9_findFact_41 : decode cX9_findFact 41 = .ok (.iload_n 2, 1) := by decide +kernel
theorem dX9_findFact_42 : decode cX9_findFact 42 = .ok (.invokestatic 316, 3) := by decide +kernel
theorem dX9_findFact_45 : decode cX9_findFact 45 = .ok (.goto 5, 3) := by decide +kernel
theorem dX9_findFact_48 : decode cX9_findFact 48 = .ok (.bipush (-2), 2) := by decide +kernel
theorem dX9_findFact_50 : decode cX9_findFact 50 = .ok (.ireturn, 1) := by decide +kernel
set_option maxHeartbeats 4000000 in
set_option maxRecDepth 100000 in
theorem c_X9_findFact {l : Launch} {g : Gh} {w : Wd} {k0 : Nat} {v_location : Int32} {v_object : Int32} {rz : Int32} (hF : f_X9_findFact w k0 v_location v_object = some rz) (hk0 : zct zC k0 = 9) : Met l yX9_findFact (Cond.code yX9_findFact cX9_findFact 4 (some .int) :: TT) (rmd 2) (Pcw zC g w [.ref (g.2.2 k0), .int (v_location), .int (v_object)]) (Qw zC g w (some (.int (rz)))) 0 0 (zA zC g) := by
  refine mt_start (by decide) (Nat.le_of_ble_eq_true rfl) ?_
  intro p e s m args below meth c H locs ls X hr hl hH
  have hx := X.1
  have hb := X.2.1
  have hml := X.2.2.1
  have hown := X.2.2.2.1
  have ht := X.2.2.2.2.1
  have hl : lv_has ls 4 [(0, .ref (g.2.2 (k0))), (1, .int (v_location)), (2, .int (v_object))] := hl
  unfold f_X9_findFact at hF
  refine lv_aload_n hx hb dX9_findFact_0 rfl (lv_at hl 0 rfl) ?_
  obtain ⟨x1, h1, hF⟩ := ob hF
  refine w_getd X hH h1 hk0 fs_9_1 lk_9_19 dX9_findFact_1 (fun q1 => ?_)
  refine lv_iload_n hx hb dX9_findFact_4 rfl (lv_at hl 1 rfl) ?_
  refine w_callV (As := [.int (v_location)]) (k := x1) (rest := []) (st1 := [.int ((f_X6_slotAt w (x1) (v_location)))]) X hH (c_X6_slotAt (l := l) (g := g) (w := w) (k0 := x1) (v_location := v_location) rfl q1) (Or.inr ⟨_, tw_3_77⟩) ms_X6_slotAt im_X6_slotAt q1 cn_6 ⟨Nat.le_of_ble_eq_true rfl, Nat.le_of_ble_eq_true rfl⟩ rfl rfl hl.1 (Nat.le_of_ble_eq_true rfl) dX9_findFact_5 ⟨Nat.le_refl _, Nat.le_refl _⟩ rfl (fun H locs hH => ?_)
  refine lv_istore_n (lv' := [(3, .int ((f_X6_slotAt w (x1) (v_location)))), (0, .ref (g.2.2 (k0))), (1, .int (v_location)), (2, .int (v_object))]) hx hb dX9_findFact_8 rfl hl (by decide) rfl (fun ls hl => ?_)
  obtain ⟨b2, hb2, hF⟩ := ob hF
  have Jb2T : b2 = true → ∀ (H : Heap) (locs : List Loc), HW zC g w s.heap H locs → W p l e (rmd 2) s m args below meth c H locs 0 0 (MQ below (Qw zC g w (some (.int (rz)))) args s 0 0 (zA zC g)) (F0 m 22 ls []) := by
    intro hc H locs hH
    replace hF := ifp hc hF
    refine lv_iconst (v := (-1 : Int32)) hx hb dX9_findFact_22 (by decide) ?_
    obtain rfl := se1 hF
    exact w_iret X hH hr dX9_findFact_23
  have Jb2F : ¬ (b2 = true) → ∀ (H : Heap) (locs : List Loc), HW zC g w s.heap H locs → W p l e (rmd 2) s m args below meth c H locs 0 0 (MQ below (Qw zC g w (some (.int (rz)))) args s 0 0 (zA zC g)) (F0 m 24 ls []) := by
    intro hc H locs hH
    replace hF := ifn hc hF
    refine lv_aload_n hx hb dX9_findFact_24 rfl (lv_at hl 1 rfl) ?_
    refine w_getr X hH hk0 fs_9_6 lk_9_47 dX9_findFact_25 ?_
    refine w_getr X hH (rt_C_9_6 hk0) fs_7_0 lk_9_165 dX9_findFact_28 ?_
    refine lv_iload_n hx hb dX9_findFact_31 rfl (lv_at hl 0 rfl) ?_
    obtain ⟨x7, h7, hF⟩ := ob hF
    refine w_iald X hH h7 (rt_C_7_0 (rt_C_9_6 hk0)) dX9_findFact_32 ?_
    refine lv_iload_n hx hb dX9_findFact_33 rfl (lv_at hl 3 rfl) ?_
    refine w_callS (As := [.int (x7), .int (v_object)]) (rest := []) (st1 := [.int (bI ((f_X9_contains (x7) (v_object))))]) X hH (c_X9_contains (l := l) (g := g) (w := w) (v_set := x7) (v_number := v_object) rfl) (Or.inl tw_3_85) ms_X9_contains tw_2_174 ⟨Nat.le_of_ble_eq_true rfl, Nat.le_of_ble_eq_true rfl⟩ rfl rfl hl.1 (Nat.le_of_ble_eq_true rfl) dX9_findFact_34 ⟨Nat.le_refl _, Nat.le_refl _⟩ rfl (fun H locs hH => ?_)
    have J6 : ∀ (H : Heap) (locs : List Loc), HW zC g w s.heap H locs → W p l e (rmd 2) s m args below meth c H locs 0 0 (MQ below (Qw zC g w (some (.int (rz)))) args s 0 0 (zA zC g)) (F0 m 50 ls [.int ((if (f_X9_contains (x7) (v_object)) = true then (f_X9_factOf ((f_X6_slotAt w (x1) (v_location))) (v_object)) else (-2 : Int32)))]) := by
      intro H locs hH
      obtain rfl := se1 hF
      exact w_iret X hH hr dX9_findFact_50
    refine w_b_f (tgt := 48) hx hb dX9_findFact_37 (by decide) (fun c8 => ?_) (fun c8 => ?_)
    · refine lv_bipush (v := (-2 : Int32)) hx hb dX9_findFact_48 (by decide) ?_
      exact w_in c8 (J6 _ _ hH)
    · refine lv_iload_n hx hb dX9_findFact_40 rfl (lv_at hl 0 rfl) ?_
      refine lv_iload_n hx hb dX9_findFact_41 rfl (lv_at hl 3 rfl) ?_
      refine w_callS (As := [.int ((f_X6_slotAt w (x1) (v_location))), .int (v_object)]) (rest := []) (st1 := [.int ((f_X9_factOf ((f_X6_slotAt w (x1) (v_location))) (v_object)))]) X hH (c_X9_factOf (l := l) (g := g) (w := w) (v_slot := (f_X6_slotAt w (x1) (v_location))) (v_object := v_object) rfl) (Or.inl tw_3_107) ms_X9_factOf tw_2_226 ⟨Nat.le_of_ble_eq_true rfl, Nat.le_of_ble_eq_true rfl⟩ rfl rfl hl.1 (Nat.le_of_ble_eq_true rfl) dX9_findFact_42 ⟨Nat.le_refl _, Nat.le_refl _⟩ rfl (fun H locs hH => ?_)
      refine lv_goto (tgt := 50) hx hb dX9_findFact_45 (by decide) ?_
      exact w_ip c8 (J6 _ _ hH)
  have hF := hb2
  refine lv_iload_n hx hb dX9_findFact_9 rfl (lv_at hl 0 rfl) ?_
  refine lv_iconst (v := (-1 : Int32)) hx hb dX9_findFact_10 (by decide) ?_
  refine w_ieq_t (tgt := 22) hx hb dX9_findFact_11 (by decide) (fun c3 => ?_) (fun c3 => ?_)
  · replace hF := ifp c3 hF
    obtain rfl := se1 hF
    exact Jb2T rfl _ _ hH
  · replace hF := ifn c3 hF
    refine lv_aload_n hx hb dX9_findFact_14 rfl (lv_at hl 1 rfl) ?_
    refine lv_iload_n hx hb dX9_findFact_15 rfl (lv_at hl 3 rfl) ?_
    obtain ⟨x5, h5, hF⟩ := ob hF
    refine w_callV (As := [.int (v_object)]) (k := k0) (rest := []) (st1 := [.int (bI (x5))]) X hH (c_X9_isObject (l := l) (g := g) (w := w) (k0 := k0) (v_object := v_object) h5 hk0) (Or.inl tw_3_56) ms_X9_isObject im_X9_isObject hk0 cn_9 ⟨Nat.le_of_ble_eq_true rfl, Nat.le_of_ble_eq_true rfl⟩ rfl rfl hl.1 (Nat.le_of_ble_eq_true rfl) dX9_findFact_16 ⟨Nat.le_refl _, Nat.le_refl _⟩ rfl (fun H locs hH => ?_)
    refine w_b_t (tgt := 24) hx hb dX9_findFact_19 (by decide) (fun c4 => ?_) (fun c4 => ?_)
    · replace hF := ifp c4 hF
      obtain rfl := se1 hF
      exact Jb2F Bool.false_ne_true _ _ hH
    · replace hF := ifn c4 hF
      obtain rfl := se1 hF
      exact Jb2T rfl _ _ hH

theorem dX9_roundOf_0 : decode cX9_roundOf 0 = .ok (.aload_n 0, 1) := by decide +kernel
theorem dX9_roundOf_1 : decode cX9_roundOf 1 = .ok (.iload_n 1, 1) := by decide +kernel
theorem dX9_roundOf_2 : decode cX9_roundOf 2 = .ok (.iload_n 2, 1) := by decide +kernel
theorem dX9_roundOf_3 : decode cX9_roundOf 3 = .ok (.invokevirtual 175, 3) := by decide +kernel
theorem dX9_roundOf_6 : decode cX9_roundOf 6 = .ok (.istore_n 3, 1) := by decide +kernel
theorem dX9_roundOf_7 : decode cX9_roundOf 7 = .ok (.iload_n 3, 1) := by decide +kernel
theorem dX9_roundOf_8 : decode cX9_roundOf 8 = .ok (.ifCond .ge 7, 3) := by decide +kernel
theorem dX9_roundOf_11 : decode cX9_roundOf 11 = .ok (.iload_n 3, 1) := by decide +kernel
theorem dX9_roundOf_12 : decode cX9_roundOf 12 = .ok (.goto 12, 3) := by decide +kernel
theorem dX9_roundOf_15 : decode cX9_roundOf 15 = .ok (.aload_n 0, 1) := by decide +kernel
theorem dX9_roundOf_16 : decode cX9_roundOf 16 = .ok (.getfield 47, 3) := by decide +kernel
theorem dX9_roundOf_19 : decode cX9_roundOf 19 = .ok (.getfield 178, 3) := by decide +kernel
theorem dX9_roundOf_22 : decode cX9_roundOf 22 = .ok (.iload_n 3, 1) := by decide +kernel
theorem dX9_roundOf_23 : decode cX9_roundOf 23 = .ok (.iaload, 1) := by decide +kernel
theorem dX9_roundOf_24 : decode cX9_roundOf 24 = .ok (.ireturn, 1) := by decide +kernel
set_option maxHeartbeats 4000000 in
set_option maxRecDepth 100000 in
theorem c_X9_roundOf {l : Launch} {g : Gh} {w : Wd} {k0 : Nat} {v_location : Int32} {v_object : Int32} {rz : Int32} (hF : f_X9_roundOf w k0 v_location v_object = some rz) (hk0 : zct zC k0 = 9) : Met l yX9_roundOf (Cond.code yX9_roundOf cX9_roundOf 4 (some .int) :: TT) (rmd 3) (Pcw zC g w [.ref (g.2.2 k0), .int (v_location), .int (v_object)]) (Qw zC g w (some (.int (rz)))) 0 0 (zA zC g) := by
  refine mt_start (by decide) (Nat.le_of_ble_eq_true rfl) ?_
  intro p e s m args below meth c H locs ls X hr hl hH
  have hx := X.1
  have hb := X.2.1
  have hml := X.2.2.1
  have hown := X.2.2.2.1
  have ht := X.2.2.2.2.1
  have hl : lv_has ls 4 [(0, .ref (g.2.2 (k0))), (1, .int (v_location)), (2, .int (v_object))] := hl
  unfold f_X9_roundOf at hF
  refine lv_aload_n hx hb dX9_roundOf_0 rfl (lv_at hl 0 rfl) ?_
  refine lv_iload_n hx hb dX9_roundOf_1 rfl (lv_at hl 1 rfl) ?_
  refine lv_iload_n hx hb dX9_roundOf_2 rfl (lv_at hl 2 rfl) ?_
  obtain ⟨x1, h1, hF⟩ := ob hF
  refine w_callV (As := [.int (v_location), .int (v_object)]) (k := k0) (rest := []) (st1 := [.int (x1)]) X hH (c_X9_findFact (l := l) (g := g) (w := w) (k0 := k0) (v_location := v_location) (v_object := v_object) h1 hk0) (Or.inl tw_3_103) ms_X9_findFact im_X9_findFact hk0 cn_9 ⟨Nat.le_of_ble_eq_true rfl, Nat.le_of_ble_eq_true rfl⟩ rfl rfl hl.1 (Nat.le_of_ble_eq_true rfl) dX9_roundOf_3 ⟨Nat.le_refl _, Nat.le_refl _⟩ rfl (fun H locs hH => ?_)
  refine lv_istore_n (lv' := [(3, .int (x1)), (0, .ref (g.2.2 (k0))), (1, .int (v_location)), (2, .int (v_object))]) hx hb dX9_roundOf_6 rfl hl (by decide) rfl (fun ls hl => ?_)
  obtain ⟨x3, hx3, hF⟩ := ob hF
  have J2 : ∀ (H : Heap) (locs : List Loc), HW zC g w s.heap H locs → W p l e (rmd 3) s m args below meth c H locs 0 0 (MQ below (Qw zC g w (some (.int (rz)))) args s 0 0 (zA zC g)) (F0 m 24 ls [.int (x3)]) := by
    intro H locs hH
    obtain rfl := se1 hF
    exact w_iret X hH hr dX9_roundOf_24
  have hF := hx3
  refine lv_iload_n hx hb dX9_roundOf_7 rfl (lv_at hl 0 rfl) ?_
  refine w_zlt_f (tgt := 15) hx hb dX9_roundOf_8 (by decide) (fun c4 => ?_) (fun c4 => ?_)
  · replace hF := ifn c4 hF
    refine lv_aload_n hx hb dX9_roundOf_15 rfl (lv_at hl 1 rfl) ?_
    refine w_getr X hH hk0 fs_9_6 lk_9_47 dX9_roundOf_16 ?_
    refine w_getr X hH (rt_C_9_6 hk0) fs_7_5 lk_9_178 dX9_roundOf_19 ?_
    refine lv_iload_n hx hb dX9_roundOf_22 rfl (lv_at hl 0 rfl) ?_
    obtain ⟨x5, h5, hF⟩ := ob hF
    refine w_iald X hH h5 (rt_C_7_5 (rt_C_9_6 hk0)) dX9_roundOf_23 ?_
    obtain rfl := se1 hF
    exact J2 _ _ hH
  · replace hF := ifp c4 hF
    refine lv_iload_n hx hb dX9_roundOf_11 rfl (lv_at hl 0 rfl) ?_
    refine lv_goto (tgt := 24) hx hb dX9_roundOf_12 (by decide) ?_
    obtain rfl := se1 hF
    exact J2 _ _ hH

theorem dX7_countDerivations_0 : decode cX7_countDerivations 0 = .ok (.aload_n 1, 1) := by decide +kernel
theorem dX7_countDerivations_1 : decode cX7_countDerivations 1 = .ok (.getfield 58, 3) := by decide +kernel
theorem dX7_countDerivations_4 : decode cX7_countDerivations 4 = .ok (.astore 5, 2) := by decide +kernel
theorem dX7_countDerivations_6 : decode cX7_countDerivations 6 = .ok (.aload 5, 2) := by decide +kernel
theorem dX7_countDerivations_8 : decode cX7_countDerivations 8 = .ok (.getfield 77, 3) := by decide +kernel
theorem dX7_countDerivations_11 : decode cX7_countDerivations 11 = .ok (.iload_n 2, 1) := by decide +kernel
theorem dX7_countDerivations_12 : decode cX7_countDerivations 12 = .ok (.iaload, 1) := by decide +kernel
theorem dX7_countDerivations_13 : decode cX7_countDerivations 13 = .ok (.ifCond .ne 44, 3) := by decide +kernel
theorem dX7_countDerivations_16 : decode cX7_countDerivations 16 = .ok (.aload 5, 2) := by decide +kernel
theorem dX7_countDerivations_18 : decode cX7_countDerivations 18 = .ok (.getfield 100, 3) := by decide +kernel
theorem dX7_countDerivations_21 : decode cX7_countDerivations 21 = .ok (.iload_n 2, 1) := by decide +kernel
theorem dX7_countDerivations_22 : decode cX7_countDerivations 22 = .ok (.iaload, 1) := by decide +kernel
theorem dX7_countDerivations_23 : decode cX7_countDerivations 23 = .ok (.iload_n 3, 1) := by decide +kernel
theorem dX7_countDerivations_24 : decode cX7_countDerivations 24 = .ok (.if_icmp .ne 19, 3) := by decide +kernel
theorem dX7_countDerivations_27 : decode cX7_countDerivations 27 = .ok (.aload 5, 2) := by decide +kernel
theorem dX7_countDerivations_29 : decode cX7_countDerivations 29 = .ok (.getfield 103, 3) := by decide +kernel
theorem dX7_countDerivations_32 : decode cX7_countDerivations 32 = .ok (.iload_n 2, 1) := by decide +kernel
theorem dX7_countDerivations_33 : decode cX7_countDerivations 33 = .ok (.iaload, 1) := by decide +kernel
theorem dX7_countDerivations_34 : decode cX7_countDerivations 34 = .ok (.iload 4, 2) := by decide +kernel
theorem dX7_countDerivations_36 : decode cX7_countDerivations 36 = .ok (.if_icmp .ne 7, 3) := by decide +kernel
theorem dX7_countDerivations_39 : decode cX7_countDerivations 39 = .ok (.iconst 1, 1) := by decide +kernel
theorem dX7_countDerivations_40 : decode cX7_countDerivations 40 = .ok (.goto 4, 3) := by decide +kernel
theorem dX7_countDerivations_43 : decode cX7_countDerivations 43 = .ok (.iconst 0, 1) := by decide +kernel
theorem dX7_countDerivations_44 : decode cX7_countDerivations 44 = .ok (.istore 6, 2) := by decide +kernel
theorem dX7_countDerivations_46 : decode cX7_countDerivations 46 = .ok (.iload 6, 2) := by decide +kernel
theorem dX7_countDerivations_48 : decode cX7_countDerivations 48 = .ok (.ifCond .eq 7, 3) := by decide +kernel
theorem dX7_countDerivations_51 : decode cX7_countDerivations 51 = .ok (.iconst 1, 1) := by decide +kernel
theorem dX7_countDerivations_52 : decode cX7_countDerivations 52 = .ok (.goto 4, 3) := by decide +kernel
theorem dX7_countDerivations_55 : decode cX7_countDerivations 55 = .ok (.iconst 0, 1) := by decide +kernel
theorem dX7_countDerivations_56 : decode cX7_countDerivations 56 = .ok (.ireturn, 1) := by decide +kernel
theorem dX7_countDerivations_57 : decode cX7_countDerivations 57 = .ok (.aload_n 1, 1) := by decide +kernel
theorem dX7_countDerivations_58 : decode cX7_countDerivations 58 = .ok (.aload_n 0, 1) := by decide +kernel
theorem dX7_countDerivations_59 : decode cX7_countDerivations 59 = .ok (.getfield 9, 3) := by decide +kernel
theorem dX7_countDerivations_62 : decode cX7_countDerivations 62 = .ok (.iload_n 2, 1) := by decide +kernel
theorem dX7_countDerivations_63 : decode cX7_countDerivations 63 = .ok (.invokevirtual 84, 3) := by decide +kernel
theorem dX7_countDerivations_66 : decode cX7_countDerivations 66 = .ok (.istore 6, 2) := by decide +kernel
theorem dX7_countDerivations_68 : decode cX7_countDerivations 68 = .ok (.iconst 0, 1) := by decide +kernel
theorem dX7_countDerivations_69 : decode cX7_countDerivations 69 = .ok (.istore 7, 2) := by decide +kernel
theorem dX7_countDerivations_71 : decode cX7_countDerivations 71 = .ok (.iconst 0, 1) := by decide +kernel
theorem dX7_countDerivations_72 : decode cX7_countDerivations 72 = .ok (.istore 8, 2) := by decide +kernel
theorem dX7_countDerivations_74 : decode cX7_countDerivations 74 = .ok (.iload 8, 2) := by decide +kernel
theorem dX7_countDerivations_76 : decode cX7_countDerivations 76 = .ok (.bipush 10, 2) := by decide +kernel
theorem dX7_countDerivations_78 : decode cX7_countDerivations 78 = .ok (.if_icmp .ge 76, 3) := by decide +kernel
theorem dX7_countDerivations_81 : decode cX7_countDerivations 81 = .ok (.iload 6, 2) := by decide +kernel
theorem dX7_countDerivations_83 : decode cX7_countDerivations 83 = .ok (.iload 8, 2) := by decide +kernel
theorem dX7_countDerivations_85 : decode cX7_countDerivations 85 = .ok (.invokestatic 88, 3) := by decide +kernel
theorem dX7_countDerivations_88 : decode cX7_countDerivations 88 = .ok (.ifCond .eq 60, 3) := by decide +kernel
theorem dX7_countDerivations_91 : decode cX7_countDerivations 91 = .ok (.iconst 0, 1) := by decide +kernel
theorem dX7_countDerivations_92 : decode cX7_countDerivations 92 = .ok (.istore 9, 2) := by decide +kernel
theorem dX7_countDerivations_94 : decode cX7_countDerivations 94 = .ok (.iload 9, 2) := by decide +kernel
theorem dX7_countDerivations_96 : decode cX7_countDerivations 96 = .ok (.aload_n 1, 1) := by decide +kernel
theorem dX7_countDerivations_97 : decode cX7_countDerivations 97 = .ok (.iload_n 2, 1) := by decide +kernel
theorem dX7_countDerivations_98 : decode cX7_countDerivations 98 = .ok (.invokevirtual 92, 3) := by decide +kernel
theorem dX7_countDerivations_101 : decode cX7_countDerivations 101 = .ok (.if_icmp .ge 47, 3) := by decide +kernel
theorem dX7_countDerivations_104 : decode cX7_countDerivations 104 = .ok (.aload_n 1, 1) := by decide +kernel
theorem dX7_countDerivations_105 : decode cX7_countDerivations 105 = .ok (.iload_n 2, 1) := by decide +kernel
theorem dX7_countDerivations_106 : decode cX7_countDerivations 106 = .ok (.iload 8, 2) := by decide +kernel
theorem dX7_countDerivations_108 : decode cX7_countDerivations 108 = .ok (.iload 9, 2) := by decide +kernel
theorem dX7_countDerivations_110 : decode cX7_countDerivations 110 = .ok (.invokevirtual 114, 3) := by decide +kernel
theorem dX7_countDerivations_113 : decode cX7_countDerivations 113 = .ok (.iload_n 3, 1) := by decide +kernel
theorem dX7_countDerivations_114 : decode cX7_countDerivations 114 = .ok (.if_icmp .ne 28, 3) := by decide +kernel
theorem dX7_countDerivations_117 : decode cX7_countDerivations 117 = .ok (.aload_n 0, 1) := by decide +kernel
theorem dX7_countDerivations_118 : decode cX7_countDerivations 118 = .ok (.getfield 9, 3) := by decide +kernel
theorem dX7_countDerivations_121 : decode cX7_countDerivations 121 = .ok (.aload_n 1, 1) := by decide +kernel
theorem dX7_countDerivations_122 : decode cX7_countDerivations 122 = .ok (.iload_n 2, 1) := by decide +kernel
theorem dX7_countDerivations_123 : decode cX7_countDerivations 123 = .ok (.iload 8, 2) := by decide +kernel
theorem dX7_countDerivations_125 : decode cX7_countDerivations 125 = .ok (.iload 9, 2) := by decide +kernel
theorem dX7_countDerivations_127 : decode cX7_countDerivations 127 = .ok (.invokevirtual 110, 3) := by decide +kernel
theorem dX7_countDerivations_130 : decode cX7_countDerivations 130 = .ok (.iaload, 1) := by decide +kernel
theorem dX7_countDerivations_131 : decode cX7_countDerivations 131 = .ok (.iload 4, 2) := by decide +kernel
theorem dX7_countDerivations_133 : decode cX7_countDerivations 133 = .ok (.invokestatic 88, 3) := by decide +kernel
theorem dX7_countDerivations_136 : decode cX7_countDerivations 136 = .ok (.ifCond .eq 6, 3) := by decide +kernel
theorem dX7_countDerivations_139 : decode cX7_countDerivations 139 = .ok (.iinc 7 1, 3) := by decide +kernel
theorem dX7_countDerivations_142 : decode cX7_countDerivations 142 = .ok (.iinc 9 1, 3) := by decide +kernel
theorem dX7_countDerivations_145 : decode cX7_countDerivations 145 = .ok (.goto (-51), 3) := by decide +kernel
theorem dX7_countDerivations_148 : decode cX7_countDerivations 148 = .ok (.iinc 8 1, 3) := by decide +kernel
theorem dX7_countDerivations_151 : decode cX7_countDerivations 151 = .ok (.goto (-77), 3) := by decide +kernel
theorem dX7_countDerivations_154 : decode cX7_countDerivations 154 = .ok (.iload 7, 2) := by decide +kernel
theorem dX7_countDerivations_156 : decode cX7_countDerivations 156 = .ok (.ireturn, 1) := by decide +kernel
set_option maxHeartbeats 4000000 in
set_option maxRecDepth 100000 in
theorem c_X7_countDerivations {l : Launch} {g : Gh} {w : Wd} {k0 : Nat} {v_program : Nat} {v_constraint : Int32} {v_slot : Int32} {v_object : Int32} {rz : Int32} (hF : f_X7_countDerivations w k0 v_program v_constraint v_slot v_object = some rz) (hk0 : zct zC k0 = 7) (hv_program : zct zC v_program = 6) : Met l yX7_countDerivations (Cond.code yX7_countDerivations cX7_countDerivations 10 (some .int) :: TT) (rmd 2) (Pcw zC g w [.ref (g.2.2 k0), .ref (g.2.2 (v_program)), .int (v_constraint), .int (v_slot), .int (v_object)]) (Qw zC g w (some (.int (rz)))) 0 0 (zA zC g) := by
  refine mt_start (by decide) (Nat.le_of_ble_eq_true rfl) ?_
  intro p e s m args below meth c H locs ls X hr hl hH
  have hx := X.1
  have hb := X.2.1
  have hml := X.2.2.1
  have hown := X.2.2.2.1
  have ht := X.2.2.2.2.1
  have hl : lv_has ls 10 [(0, .ref (g.2.2 (k0))), (1, .ref (g.2.2 (v_program))), (2, .int (v_constraint)), (3, .int (v_slot)), (4, .int (v_object))] := hl
  unfold f_X7_countDerivations at hF
  refine lv_aload_n hx hb dX7_countDerivations_0 rfl (lv_at hl 1 rfl) ?_
  refine w_getr X hH hv_program fs_6_6 lk_7_58 dX7_countDerivations_1 ?_
  refine lv_astore (lv' := [(5, .ref (g.2.2 ((zrf zC (v_program) 6)))), (0, .ref (g.2.2 (k0))), (1, .ref (g.2.2 (v_program))), (2, .int (v_constraint)), (3, .int (v_slot)), (4, .int (v_object))]) hx hb dX7_countDerivations_4 hl (by decide) rfl (fun ls hl => ?_)
  refine lv_aload hx hb dX7_countDerivations_6 (lv_at hl 0 rfl) ?_
  refine w_getr X hH (rt_C_6_6 hv_program) fs_0_0 lk_7_77 dX7_countDerivations_8 ?_
  refine lv_iload_n hx hb dX7_countDerivations_11 rfl (lv_at hl 3 rfl) ?_
  obtain ⟨x1, h1, hF⟩ := ob hF
  refine w_iald X hH h1 (rt_C_0_0 (rt_C_6_6 hv_program)) dX7_countDerivations_12 ?_
  refine w_zeq_f (tgt := 57) hx hb dX7_countDerivations_13 (by decide) (fun c2 => ?_) (fun c2 => ?_)
  · replace hF := ifn c2 hF
    refine lv_aload_n hx hb dX7_countDerivations_57 rfl (lv_at hl 2 rfl) ?_
    refine lv_aload_n hx hb dX7_countDerivations_58 rfl (lv_at hl 1 rfl) ?_
    refine w_getr X hH hk0 fs_7_0 lk_7_9 dX7_countDerivations_59 ?_
    refine lv_iload_n hx hb dX7_countDerivations_62 rfl (lv_at hl 3 rfl) ?_
    obtain ⟨x3, h3, hF⟩ := ob hF
    refine w_callV (As := [.ref (g.2.2 ((zrf zC (k0) 0))), .int (v_constraint)]) (k := v_program) (rest := []) (st1 := [.int (x3)]) X hH (c_X6_viasIn (l := l) (g := g) (w := w) (k0 := v_program) (v_sets := (zrf zC (k0) 0)) (v_constraint := v_constraint) h3 hv_program (rt_C_7_0 hk0)) (Or.inr ⟨_, tw_2_228⟩) ms_X6_viasIn im_X6_viasIn hv_program cn_6 ⟨Nat.le_of_ble_eq_true rfl, Nat.le_of_ble_eq_true rfl⟩ rfl rfl hl.1 (Nat.le_of_ble_eq_true rfl) dX7_countDerivations_63 ⟨Nat.le_refl _, Nat.le_refl _⟩ rfl (fun H locs hH => ?_)
    refine lv_istore (lv' := [(6, .int (x3)), (5, .ref (g.2.2 ((zrf zC (v_program) 6)))), (0, .ref (g.2.2 (k0))), (1, .ref (g.2.2 (v_program))), (2, .int (v_constraint)), (3, .int (v_slot)), (4, .int (v_object))]) hx hb dX7_countDerivations_66 hl (by decide) rfl (fun ls hl => ?_)
    refine lv_iconst (v := (0 : Int32)) hx hb dX7_countDerivations_68 (by decide) ?_
    refine lv_istore (lv' := [(7, .int ((0 : Int32))), (6, .int (x3)), (5, .ref (g.2.2 ((zrf zC (v_program) 6)))), (0, .ref (g.2.2 (k0))), (1, .ref (g.2.2 (v_program))), (2, .int (v_constraint)), (3, .int (v_slot)), (4, .int (v_object))]) hx hb dX7_countDerivations_69 hl (by decide) rfl (fun ls hl => ?_)
    refine lv_iconst (v := (0 : Int32)) hx hb dX7_countDerivations_71 (by decide) ?_
    refine lv_istore (lv' := [(8, .int ((0 : Int32))), (7, .int ((0 : Int32))), (6, .int (x3)), (5, .ref (g.2.2 ((zrf zC (v_program) 6)))), (0, .ref (g.2.2 (k0))), (1, .ref (g.2.2 (v_program))), (2, .int (v_constraint)), (3, .int (v_slot)), (4, .int (v_object))]) hx hb dX7_countDerivations_72 hl (by decide) rfl (fun ls hl => ?_)
    obtain ⟨r5, hLr5, hF⟩ := ob hF
    have Jr5 : ∀ (H : Heap) (locs : List Loc) (ls : Array Slot), HW zC g w s.heap H locs → lv_has ls 10 [(0, .ref (g.2.2 (k0))), (1, .ref (g.2.2 (v_program))), (2, .int (v_constraint)), (3, .int (v_slot)), (4, .int (v_object)), (5, .ref (g.2.2 ((zrf zC (v_program) 6)))), (6, .int (x3)), (7, .int (r5))] → W p l e (rmd 2) s m args below meth c H locs 0 0 (MQ below (Qw zC g w (some (.int (rz)))) args s 0 0 (zA zC g)) (F0 m 154 ls []) := by
      intro H locs ls hH hl
      refine lv_iload hx hb dX7_countDerivations_154 (lv_at hl 7 rfl) ?_
      obtain rfl := se1 hF
      exact w_iret X hH hr dX7_countDerivations_156
    have Lr5 : ∀ (n : Nat) (s4 : Int32 × Int32), lp (b_X7_countDerivations_1 x3 w v_program v_constraint v_slot k0 v_object) n s4 = some r5 → ∀ (H : Heap) (locs : List Loc) (ls : Array Slot), HW zC g w s.heap H locs → lv_has ls 10 [(0, .ref (g.2.2 (k0))), (1, .ref (g.2.2 (v_program))), (2, .int (v_constraint)), (3, .int (v_slot)), (4, .int (v_object)), (5, .ref (g.2.2 ((zrf zC (v_program) 6)))), (6, .int (x3)), (7, .int (s4.1)), (8, .int (s4.2))] → W p l e (rmd 2) s m args below meth c H locs 0 0 (MQ below (Qw zC g w (some (.int (rz)))) args s 0 0 (zA zC g)) (F0 m 74 ls []) := by
      intro n
      induction n with
      | zero => intro s4 hL; exact lp_0 hL
      | succ n ih =>
        intro s4 hL H locs ls hH hl
        obtain ⟨bb, hF, hL⟩ := lp_s hL
        unfold b_X7_countDerivations_1 at hF
        refine lv_iload hx hb dX7_countDerivations_74 (lv_at hl 8 rfl) ?_
        refine lv_bipush (v := (10 : Int32)) hx hb dX7_countDerivations_76 (by decide) ?_
        refine w_ilt_f (tgt := 154) hx hb dX7_countDerivations_78 (by decide) (fun c6 => ?_) (fun c6 => ?_)
        · replace hF := ifn c6 hF
          obtain rfl := se1 hF
          subst hL
          exact Jr5 _ _ _ hH (lv_sub hl [0, 1, 2, 3, 4, 5, 6, 7] rfl)
        · replace hF := ifp c6 hF
          obtain ⟨s7, hs7, hF⟩ := ob hF
          have Js7 : ∀ (H : Heap) (locs : List Loc) (ls : Array Slot), HW zC g w s.heap H locs → lv_has ls 10 [(0, .ref (g.2.2 (k0))), (1, .ref (g.2.2 (v_program))), (2, .int (v_constraint)), (3, .int (v_slot)), (4, .int (v_object)), (5, .ref (g.2.2 ((zrf zC (v_program) 6)))), (6, .int (x3)), (7, .int (s7)), (8, .int (s4.2))] → W p l e (rmd 2) s m args below meth c H locs 0 0 (MQ below (Qw zC g w (some (.int (rz)))) args s 0 0 (zA zC g)) (F0 m 148 ls []) := by
            intro H locs ls hH hl
            refine lv_iinc (v := (s4.2 + (1 : Int32))) (lv' := [(8, .int ((s4.2 + (1 : Int32)))), (0, .ref (g.2.2 (k0))), (1, .ref (g.2.2 (v_program))), (2, .int (v_constraint)), (3, .int (v_slot)), (4, .int (v_object)), (5, .ref (g.2.2 ((zrf zC (v_program) 6)))), (6, .int (x3)), (7, .int (s7))]) hx hb dX7_countDerivations_148 hl (k := 8) rfl rfl (by decide) rfl (fun ls hl => ?_)
            refine lv_goto (tgt := 74) hx hb dX7_countDerivations_151 (by decide) ?_
            obtain rfl := se1 hF
            exact ih _ hL _ _ _ hH (lv_sub hl [1, 2, 3, 4, 5, 6, 7, 8, 0] rfl)
          have hF := hs7
          refine lv_iload hx hb dX7_countDerivations_81 (lv_at hl 6 rfl) ?_
          refine lv_iload hx hb dX7_countDerivations_83 (lv_at hl 8 rfl) ?_
          refine w_callS (As := [.int (x3), .int (s4.2)]) (rest := []) (st1 := [.int (bI ((f_X9_contains (x3) (s4.2))))]) X hH (c_X9_contains (l := l) (g := g) (w := w) (v_set := x3) (v_number := s4.2) rfl) (Or.inr ⟨_, tw_2_220⟩) ms_X9_contains tw_2_174 ⟨Nat.le_of_ble_eq_true rfl, Nat.le_of_ble_eq_true rfl⟩ rfl rfl hl.1 (Nat.le_of_ble_eq_true rfl) dX7_countDerivations_85 ⟨Nat.le_refl _, Nat.le_refl _⟩ rfl (fun H locs hH => ?_)
          refine w_b_f (tgt := 148) hx hb dX7_countDerivations_88 (by decide) (fun c8 => ?_) (fun c8 => ?_)
          · replace hF := ifn c8 hF
            obtain rfl := se1 hF
            exact Js7 _ _ _ hH (lv_sub hl [0, 1, 2, 3, 4, 5, 6, 7, 8] rfl)
          · replace hF := ifp c8 hF
            refine lv_iconst (v := (0 : Int32)) hx hb dX7_countDerivations_91 (by decide) ?_
            refine lv_istore (lv' := [(9, .int ((0 : Int32))), (0, .ref (g.2.2 (k0))), (1, .ref (g.2.2 (v_program))), (2, .int (v_constraint)), (3, .int (v_slot)), (4, .int (v_object)), (5, .ref (g.2.2 ((zrf zC (v_program) 6)))), (6, .int (x3)), (7, .int (s4.1)), (8, .int (s4.2))]) hx hb dX7_countDerivations_92 hl (by decide) rfl (fun ls hl => ?_)
            obtain ⟨r10, hLr10, hF⟩ := ob hF
            have Jr10 : ∀ (H : Heap) (locs : List Loc) (ls : Array Slot), HW zC g w s.heap H locs → lv_has ls 10 [(0, .ref (g.2.2 (k0))), (1, .ref (g.2.2 (v_program))), (2, .int (v_constraint)), (3, .int (v_slot)), (4, .int (v_object)), (5, .ref (g.2.2 ((zrf zC (v_program) 6)))), (6, .int (x3)), (7, .int (r10)), (8, .int (s4.2))] → W p l e (rmd 2) s m args below meth c H locs 0 0 (MQ below (Qw zC g w (some (.int (rz)))) args s 0 0 (zA zC g)) (F0 m 148 ls []) := by
              intro H locs ls hH hl
              obtain rfl := se1 hF
              exact Js7 _ _ _ hH (lv_sub hl [0, 1, 2, 3, 4, 5, 6, 7, 8] rfl)
            have Lr10 : ∀ (n : Nat) (s9 : Int32 × Int32), lp (b_X7_countDerivations_2 w v_program v_constraint s4 v_slot k0 v_object) n s9 = some r10 → ∀ (H : Heap) (locs : List Loc) (ls : Array Slot), HW zC g w s.heap H locs → lv_has ls 10 [(0, .ref (g.2.2 (k0))), (1, .ref (g.2.2 (v_program))), (2, .int (v_constraint)), (3, .int (v_slot)), (4, .int (v_object)), (5, .ref (g.2.2 ((zrf zC (v_program) 6)))), (6, .int (x3)), (7, .int (s9.1)), (8, .int (s4.2)), (9, .int (s9.2))] → W p l e (rmd 2) s m args below meth c H locs 0 0 (MQ below (Qw zC g w (some (.int (rz)))) args s 0 0 (zA zC g)) (F0 m 94 ls []) := by
              intro n
              induction n with
              | zero => intro s9 hL; exact lp_0 hL
              | succ n ih =>
                intro s9 hL H locs ls hH hl
                obtain ⟨bb, hF, hL⟩ := lp_s hL
                unfold b_X7_countDerivations_2 at hF
                refine lv_iload hx hb dX7_countDerivations_94 (lv_at hl 9 rfl) ?_
                refine lv_aload_n hx hb dX7_countDerivations_96 rfl (lv_at hl 1 rfl) ?_
                refine lv_iload_n hx hb dX7_countDerivations_97 rfl (lv_at hl 2 rfl) ?_
                obtain ⟨x11, h11, hF⟩ := ob hF
                refine w_callV (As := [.int (v_constraint)]) (k := v_program) (rest := [.int (s9.2)]) (st1 := [.int (x11), .int (s9.2)]) X hH (c_X6_flowCount (l := l) (g := g) (w := w) (k0 := v_program) (v_constraint := v_constraint) h11 hv_program) (Or.inr ⟨_, tw_2_236⟩) ms_X6_flowCount im_X6_flowCount hv_program cn_6 ⟨Nat.le_of_ble_eq_true rfl, Nat.le_of_ble_eq_true rfl⟩ rfl rfl hl.1 (Nat.le_of_ble_eq_true rfl) dX7_countDerivations_98 ⟨Nat.le_refl _, Nat.le_refl _⟩ rfl (fun H locs hH => ?_)
                refine w_ilt_f (tgt := 148) hx hb dX7_countDerivations_101 (by decide) (fun c12 => ?_) (fun c12 => ?_)
                · replace hF := ifn c12 hF
                  obtain rfl := se1 hF
                  subst hL
                  exact Jr10 _ _ _ hH (lv_sub hl [0, 1, 2, 3, 4, 5, 6, 7, 8] rfl)
                · replace hF := ifp c12 hF
                  obtain ⟨s13, hs13, hF⟩ := ob hF
                  have Js13 : ∀ (H : Heap) (locs : List Loc) (ls : Array Slot), HW zC g w s.heap H locs → lv_has ls 10 [(0, .ref (g.2.2 (k0))), (1, .ref (g.2.2 (v_program))), (2, .int (v_constraint)), (3, .int (v_slot)), (4, .int (v_object)), (5, .ref (g.2.2 ((zrf zC (v_program) 6)))), (6, .int (x3)), (7, .int (s13)), (8, .int (s4.2)), (9, .int (s9.2))] → W p l e (rmd 2) s m args below meth c H locs 0 0 (MQ below (Qw zC g w (some (.int (rz)))) args s 0 0 (zA zC g)) (F0 m 142 ls []) := by
                    intro H locs ls hH hl
                    refine lv_iinc (v := (s9.2 + (1 : Int32))) (lv' := [(9, .int ((s9.2 + (1 : Int32)))), (0, .ref (g.2.2 (k0))), (1, .ref (g.2.2 (v_program))), (2, .int (v_constraint)), (3, .int (v_slot)), (4, .int (v_object)), (5, .ref (g.2.2 ((zrf zC (v_program) 6)))), (6, .int (x3)), (7, .int (s13)), (8, .int (s4.2))]) hx hb dX7_countDerivations_142 hl (k := 9) rfl rfl (by decide) rfl (fun ls hl => ?_)
                    refine lv_goto (tgt := 94) hx hb dX7_countDerivations_145 (by decide) ?_
                    obtain rfl := se1 hF
                    exact ih _ hL _ _ _ hH (lv_sub hl [1, 2, 3, 4, 5, 6, 7, 8, 9, 0] rfl)
                  have hF := hs13
                  obtain ⟨b14, hb14, hF⟩ := ob hF
                  have Jb14T : b14 = true → ∀ (H : Heap) (locs : List Loc), HW zC g w s.heap H locs → W p l e (rmd 2) s m args below meth c H locs 0 0 (MQ below (Qw zC g w (some (.int (rz)))) args s 0 0 (zA zC g)) (F0 m 139 ls []) := by
                    intro hc H locs hH
                    replace hF := ifp hc hF
                    refine lv_iinc (v := (s9.1 + (1 : Int32))) (lv' := [(7, .int ((s9.1 + (1 : Int32)))), (0, .ref (g.2.2 (k0))), (1, .ref (g.2.2 (v_program))), (2, .int (v_constraint)), (3, .int (v_slot)), (4, .int (v_object)), (5, .ref (g.2.2 ((zrf zC (v_program) 6)))), (6, .int (x3)), (8, .int (s4.2)), (9, .int (s9.2))]) hx hb dX7_countDerivations_139 hl (k := 7) rfl rfl (by decide) rfl (fun ls hl => ?_)
                    obtain rfl := se1 hF
                    exact Js13 _ _ _ hH (lv_sub hl [1, 2, 3, 4, 5, 6, 7, 0, 8, 9] rfl)
                  have Jb14F : ¬ (b14 = true) → ∀ (H : Heap) (locs : List Loc), HW zC g w s.heap H locs → W p l e (rmd 2) s m args below meth c H locs 0 0 (MQ below (Qw zC g w (some (.int (rz)))) args s 0 0 (zA zC g)) (F0 m 142 ls []) := by
                    intro hc H locs hH
                    replace hF := ifn hc hF
                    obtain rfl := se1 hF
                    exact Js13 _ _ _ hH (lv_sub hl [0, 1, 2, 3, 4, 5, 6, 7, 8, 9] rfl)
                  have hF := hb14
                  refine lv_aload_n hx hb dX7_countDerivations_104 rfl (lv_at hl 1 rfl) ?_
                  refine lv_iload_n hx hb dX7_countDerivations_105 rfl (lv_at hl 2 rfl) ?_
                  refine lv_iload hx hb dX7_countDerivations_106 (lv_at hl 8 rfl) ?_
                  refine lv_iload hx hb dX7_countDerivations_108 (lv_at hl 9 rfl) ?_
                  obtain ⟨x16, h16, hF⟩ := ob hF
                  refine w_callV (As := [.int (v_constraint), .int (s4.2), .int (s9.2)]) (k := v_program) (rest := []) (st1 := [.int (x16)]) X hH (c_X6_flowTarget (l := l) (g := g) (w := w) (k0 := v_program) (v_constraint := v_constraint) (v_via := s4.2) (v_flow := s9.2) h16 hv_program) (Or.inr ⟨_, tw_3_11⟩) ms_X6_flowTarget im_X6_flowTarget hv_program cn_6 ⟨Nat.le_of_ble_eq_true rfl, Nat.le_of_ble_eq_true rfl⟩ rfl rfl hl.1 (Nat.le_of_ble_eq_true rfl) dX7_countDerivations_110 ⟨Nat.le_refl _, Nat.le_refl _⟩ rfl (fun H locs hH => ?_)
                  refine lv_iload_n hx hb dX7_countDerivations_113 rfl (lv_at hl 3 rfl) ?_
                  refine w_ieq_f (tgt := 142) hx hb dX7_countDerivations_114 (by decide) (fun c15 => ?_) (fun c15 => ?_)
                  · replace hF := ifn c15 hF
                    obtain rfl := se1 hF
                    exact Jb14F Bool.false_ne_true _ _ hH
                  · replace hF := ifp c15 hF
                    refine lv_aload_n hx hb dX7_countDerivations_117 rfl (lv_at hl 0 rfl) ?_
                    refine w_getr X hH hk0 fs_7_0 lk_7_9 dX7_countDerivations_118 ?_
                    refine lv_aload_n hx hb dX7_countDerivations_121 rfl (lv_at hl 1 rfl) ?_
                    refine lv_iload_n hx hb dX7_countDerivations_122 rfl (lv_at hl 2 rfl) ?_
                    refine lv_iload hx hb dX7_countDerivations_123 (lv_at hl 8 rfl) ?_
                    refine lv_iload hx hb dX7_countDerivations_125 (lv_at hl 9 rfl) ?_
                    obtain ⟨x18, h18, hF⟩ := ob hF
                    refine w_callV (As := [.int (v_constraint), .int (s4.2), .int (s9.2)]) (k := v_program) (rest := [.ref (g.2.2 ((zrf zC (k0) 0)))]) (st1 := [.int (x18), .ref (g.2.2 ((zrf zC (k0) 0)))]) X hH (c_X6_flowSource (l := l) (g := g) (w := w) (k0 := v_program) (v_constraint := v_constraint) (v_via := s4.2) (v_flow := s9.2) h18 hv_program) (Or.inr ⟨_, tw_3_4⟩) ms_X6_flowSource im_X6_flowSource hv_program cn_6 ⟨Nat.le_of_ble_eq_true rfl, Nat.le_of_ble_eq_true rfl⟩ rfl rfl hl.1 (Nat.le_of_ble_eq_true rfl) dX7_countDerivations_127 ⟨Nat.le_refl _, Nat.le_refl _⟩ rfl (fun H locs hH => ?_)
                    obtain ⟨x19, h19, hF⟩ := ob hF
                    refine w_iald X hH h19 (rt_C_7_0 hk0) dX7_countDerivations_130 ?_
                    refine lv_iload hx hb dX7_countDerivations_131 (lv_at hl 4 rfl) ?_
                    refine w_callS (As := [.int (x19), .int (v_object)]) (rest := []) (st1 := [.int (bI ((f_X9_contains (x19) (v_object))))]) X hH (c_X9_contains (l := l) (g := g) (w := w) (v_set := x19) (v_number := v_object) rfl) (Or.inr ⟨_, tw_2_220⟩) ms_X9_contains tw_2_174 ⟨Nat.le_of_ble_eq_true rfl, Nat.le_of_ble_eq_true rfl⟩ rfl rfl hl.1 (Nat.le_of_ble_eq_true rfl) dX7_countDerivations_133 ⟨Nat.le_refl _, Nat.le_refl _⟩ rfl (fun H locs hH => ?_)
                    refine w_b_f (tgt := 142) hx hb dX7_countDerivations_136 (by decide) (fun c17 => ?_) (fun c17 => ?_)
                    · replace hF := ifn c17 hF
                      obtain rfl := se1 hF
                      exact Jb14F Bool.false_ne_true _ _ hH
                    · replace hF := ifp c17 hF
                      obtain rfl := se1 hF
                      exact Jb14T rfl _ _ hH
            exact Lr10 NF _ hLr10 _ _ _ hH (lv_sub hl [1, 2, 3, 4, 5, 6, 7, 8, 9, 0] rfl)
    exact Lr5 NF _ hLr5 _ _ _ hH (lv_sub hl [4, 5, 6, 7, 8, 3, 2, 1, 0] rfl)
  · replace hF := ifp c2 hF
    obtain ⟨b21, hb21, hF⟩ := ob hF
    have J20 : ∀ (H : Heap) (locs : List Loc), HW zC g w s.heap H locs → W p l e (rmd 2) s m args below meth c H locs 0 0 (MQ below (Qw zC g w (some (.int (rz)))) args s 0 0 (zA zC g)) (F0 m 44 ls [.int (bI (b21))]) := by
      intro H locs hH
      refine lv_istore (lv' := [(6, .int (bI (b21))), (5, .ref (g.2.2 ((zrf zC (v_program) 6)))), (0, .ref (g.2.2 (k0))), (1, .ref (g.2.2 (v_program))), (2, .int (v_constraint)), (3, .int (v_slot)), (4, .int (v_object))]) hx hb dX7_countDerivations_44 hl (by decide) rfl (fun ls hl => ?_)
      refine lv_iload hx hb dX7_countDerivations_46 (lv_at hl 0 rfl) ?_
      have J26 : ∀ (H : Heap) (locs : List Loc), HW zC g w s.heap H locs → W p l e (rmd 2) s m args below meth c H locs 0 0 (MQ below (Qw zC g w (some (.int (rz)))) args s 0 0 (zA zC g)) (F0 m 56 ls [.int ((if b21 = true then (1 : Int32) else (0 : Int32)))]) := by
        intro H locs hH
        obtain rfl := se1 hF
        exact w_iret X hH hr dX7_countDerivations_56
      refine w_b_f (tgt := 55) hx hb dX7_countDerivations_48 (by decide) (fun c27 => ?_) (fun c27 => ?_)
      · refine lv_iconst (v := (0 : Int32)) hx hb dX7_countDerivations_55 (by decide) ?_
        exact w_in c27 (J26 _ _ hH)
      · refine lv_iconst (v := (1 : Int32)) hx hb dX7_countDerivations_51 (by decide) ?_
        refine lv_goto (tgt := 56) hx hb dX7_countDerivations_52 (by decide) ?_
        exact w_ip c27 (J26 _ _ hH)
    have hF := hb21
    refine lv_aload hx hb dX7_countDerivations_16 (lv_at hl 0 rfl) ?_
    refine w_getr X hH (rt_C_6_6 hv_program) fs_0_1 lk_7_100 dX7_countDerivations_18 ?_
    refine lv_iload_n hx hb dX7_countDerivations_21 rfl (lv_at hl 3 rfl) ?_
    obtain ⟨x23, h23, hF⟩ := ob hF
    refine w_iald X hH h23 (rt_C_0_1 (rt_C_6_6 hv_program)) dX7_countDerivations_22 ?_
    refine lv_iload_n hx hb dX7_countDerivations_23 rfl (lv_at hl 4 rfl) ?_
    refine w_ieq_f (tgt := 43) hx hb dX7_countDerivations_24 (by decide) (fun c22 => ?_) (fun c22 => ?_)
    · replace hF := ifn c22 hF
      refine lv_iconst (v := (0 : Int32)) hx hb dX7_countDerivations_43 (by decide) ?_
      obtain rfl := se1 hF
      exact J20 _ _ hH
    · replace hF := ifp c22 hF
      refine lv_aload hx hb dX7_countDerivations_27 (lv_at hl 0 rfl) ?_
      refine w_getr X hH (rt_C_6_6 hv_program) fs_0_2 lk_7_103 dX7_countDerivations_29 ?_
      refine lv_iload_n hx hb dX7_countDerivations_32 rfl (lv_at hl 3 rfl) ?_
      obtain ⟨x25, h25, hF⟩ := ob hF
      refine w_iald X hH h25 (rt_C_0_2 (rt_C_6_6 hv_program)) dX7_countDerivations_33 ?_
      refine lv_iload hx hb dX7_countDerivations_34 (lv_at hl 5 rfl) ?_
      refine w_ieq_f (tgt := 43) hx hb dX7_countDerivations_36 (by decide) (fun c24 => ?_) (fun c24 => ?_)
      · replace hF := ifn c24 hF
        refine lv_iconst (v := (0 : Int32)) hx hb dX7_countDerivations_43 (by decide) ?_
        obtain rfl := se1 hF
        exact J20 _ _ hH
      · replace hF := ifp c24 hF
        refine lv_iconst (v := (1 : Int32)) hx hb dX7_countDerivations_39 (by decide) ?_
        refine lv_goto (tgt := 44) hx hb dX7_countDerivations_40 (by decide) ?_
        obtain rfl := se1 hF
        exact J20 _ _ hH

theorem dX9_derivationCount_0 : decode cX9_derivationCount 0 = .ok (.aload_n 0, 1) := by decide +kernel
theorem dX9_derivationCount_1 : decode cX9_derivationCount 1 = .ok (.iload_n 1, 1) := by decide +kernel
theorem dX9_derivationCount_2 : decode cX9_derivationCount 2 = .ok (.iload_n 2, 1) := by decide +kernel
theorem dX9_derivationCount_3 : decode cX9_derivationCount 3 = .ok (.invokevirtual 175, 3) := by decide +kernel
theorem dX9_derivationCount_6 : decode cX9_derivationCount 6 = .ok (.istore_n 3, 1) := by decide +kernel
theorem dX9_derivationCount_7 : decode cX9_derivationCount 7 = .ok (.iload_n 3, 1) := by decide +kernel
theorem dX9_derivationCount_8 : decode cX9_derivationCount 8 = .ok (.ifCond .ge 15, 3) := by decide +kernel
theorem dX9_derivationCount_11 : decode cX9_derivationCount 11 = .ok (.iload_n 3, 1) := by decide +kernel
theorem dX9_derivationCount_12 : decode cX9_derivationCount 12 = .ok (.bipush (-2), 2) := by decide +kernel
theorem dX9_derivationCount_14 : decode cX9_derivationCount 14 = .ok (.if_icmp .ne 7, 3) := by decide +kernel
theorem dX9_derivationCount_17 : decode cX9_derivationCount 17 = .ok (.iconst 0, 1) := by decide +kernel
theorem dX9_derivationCount_18 : decode cX9_derivationCount 18 = .ok (.goto 4, 3) := by decide +kernel
theorem dX9_derivationCount_21 : decode cX9_derivationCount 21 = .ok (.iconst (-1), 1) := by decide +kernel
theorem dX9_derivationCount_22 : decode cX9_derivationCount 22 = .ok (.ireturn, 1) := by decide +kernel
theorem dX9_derivationCount_23 : decode cX9_derivationCount 23 = .ok (.aload_n 0, 1) := by decide +kernel
theorem dX9_derivationCount_24 : decode cX9_derivationCount 24 = .ok (.getfield 19, 3) := by decide +kernel
theorem dX9_derivationCount_27 : decode cX9_derivationCount 27 = .ok (.iload_n 1, 1) := by decide +kernel
theorem dX9_derivationCount_28 : decode cX9_derivationCount 28 = .ok (.invokevirtual 161, 3) := by decide +kernel
theorem dX9_derivationCount_31 : decode cX9_derivationCount 31 = .ok (.istore 4, 2) := by decide +kernel
theorem dX9_derivationCount_33 : decode cX9_derivationCount 33 = .ok (.iconst 0, 1) := by decide +kernel
theorem dX9_derivationCount_34 : decode cX9_derivationCount 34 = .ok (.istore 5, 2) := by decide +kernel
theorem dX9_derivationCount_36 : decode cX9_derivationCount 36 = .ok (.iconst 0, 1) := by decide +kernel
theorem dX9_derivationCount_37 : decode cX9_derivationCount 37 = .ok (.istore 6, 2) := by decide +kernel
theorem dX9_derivationCount_39 : decode cX9_derivationCount 39 = .ok (.iload 6, 2) := by decide +kernel
theorem dX9_derivationCount_41 : decode cX9_derivationCount 41 = .ok (.aload_n 0, 1) := by decide +kernel
theorem dX9_derivationCount_42 : decode cX9_derivationCount 42 = .ok (.getfield 19, 3) := by decide +kernel
theorem dX9_derivationCount_45 : decode cX9_derivationCount 45 = .ok (.getfield 96, 3) := by decide +kernel
theorem dX9_derivationCount_48 : decode cX9_derivationCount 48 = .ok (.getfield 100, 3) := by decide +kernel
theorem dX9_derivationCount_51 : decode cX9_derivationCount 51 = .ok (.if_icmp .ge 45, 3) := by decide +kernel
theorem dX9_derivationCount_54 : decode cX9_derivationCount 54 = .ok (.aload_n 0, 1) := by decide +kernel
theorem dX9_derivationCount_55 : decode cX9_derivationCount 55 = .ok (.getfield 19, 3) := by decide +kernel
theorem dX9_derivationCount_58 : decode cX9_derivationCount 58 = .ok (.getfield 96, 3) := by decide +kernel
theorem dX9_derivationCount_61 : decode cX9_derivationCount 61 = .ok (.iload 6, 2) := by decide +kernel
theorem dX9_derivationCount_63 : decode cX9_derivationCount 63 = .ok (.invokevirtual 181, 3) := by decide +kernel
theorem dX9_derivationCount_66 : decode cX9_derivationCount 66 = .ok (.ifCond .eq 24, 3) := by decide +kernel
theorem dX9_derivationCount_69 : decode cX9_derivationCount 69 = .ok (.iload 5, 2) := by decide +kernel
theorem dX9_derivationCount_71 : decode cX9_derivationCount 71 = .ok (.aload_n 0, 1) := by decide +kernel
theorem dX9_derivationCount_72 : decode cX9_derivationCount 72 = .ok (.getfield 47, 3) := by decide +kernel
theorem dX9_derivationCount_75 : decode cX9_derivationCount 75 = .ok (.aload_n 0, 1) := by decide +kernel
theorem dX9_derivationCount_76 : decode cX9_derivationCount 76 = .ok (.getfield 19, 3) := by decide +kernel
theorem dX9_derivationCount_79 : decode cX9_derivationCount 79 = .ok (.iload 6, 2) := by decide +kernel
theorem dX9_derivationCount_81 : decode cX9_derivationCount 81 = .ok (.iload 4, 2) := by decide +kernel
theorem dX9_derivationCount_83 : decode cX9_derivationCount 83 = .ok (.iload_n 2, 1) := by decide +kernel
theorem dX9_derivationCount_84 : decode cX9_derivationCount 84 = .ok (.invokevirtual 184, 3) := by decide +kernel
theorem dX9_derivationCount_87 : decode cX9_derivationCount 87 = .ok (.iadd, 1) := by decide +kernel
theorem dX9_derivationCount_88 : decode cX9_derivationCount 88 = .ok (.istore 5, 2) := by decide +kernel
theorem dX9_derivationCount_90 : decode cX9_derivationCount 90 = .ok (.iinc 6 1, 3) := by decide +kernel
theorem dX9_derivationCount_93 : decode cX9_derivationCount 93 = .ok (.goto (-54), 3) := by decide +kernel
theorem dX9_derivationCount_96 : decode cX9_derivationCount 96 = .ok (.iload 5, 2) := by decide +kernel
theorem dX9_derivationCount_98 : decode cX9_derivationCount 98 = .ok (.ireturn, 1) := by decide +kernel
set_option maxHeartbeats 4000000 in
set_option maxRecDepth 100000 in
theorem c_X9_derivationCount {l : Launch} {g : Gh} {w : Wd} {k0 : Nat} {v_location : Int32} {v_object : Int32} {rz : Int32} (hF : f_X9_derivationCount w k0 v_location v_object = some rz) (hk0 : zct zC k0 = 9) : Met l yX9_derivationCount (Cond.code yX9_derivationCount cX9_derivationCount 7 (some .int) :: TT) (rmd 3) (Pcw zC g w [.ref (g.2.2 k0), .int (v_location), .int (v_object)]) (Qw zC g w (some (.int (rz)))) 0 0 (zA zC g) := by
  refine mt_start (by decide) (Nat.le_of_ble_eq_true rfl) ?_
  intro p e s m args below meth c H locs ls X hr hl hH
  have hx := X.1
  have hb := X.2.1
  have hml := X.2.2.1
  have hown := X.2.2.2.1
  have ht := X.2.2.2.2.1
  have hl : lv_has ls 7 [(0, .ref (g.2.2 (k0))), (1, .int (v_location)), (2, .int (v_object))] := hl
  unfold f_X9_derivationCount at hF
  refine lv_aload_n hx hb dX9_derivationCount_0 rfl (lv_at hl 0 rfl) ?_
  refine lv_iload_n hx hb dX9_derivationCount_1 rfl (lv_at hl 1 rfl) ?_
  refine lv_iload_n hx hb dX9_derivationCount_2 rfl (lv_at hl 2 rfl) ?_
  obtain ⟨x1, h1, hF⟩ := ob hF
  refine w_callV (As := [.int (v_location), .int (v_object)]) (k := k0) (rest := []) (st1 := [.int (x1)]) X hH (c_X9_findFact (l := l) (g := g) (w := w) (k0 := k0) (v_location := v_location) (v_object := v_object) h1 hk0) (Or.inl tw_3_103) ms_X9_findFact im_X9_findFact hk0 cn_9 ⟨Nat.le_of_ble_eq_true rfl, Nat.le_of_ble_eq_true rfl⟩ rfl rfl hl.1 (Nat.le_of_ble_eq_true rfl) dX9_derivationCount_3 ⟨Nat.le_refl _, Nat.le_refl _⟩ rfl (fun H locs hH => ?_)
  refine lv_istore_n (lv' := [(3, .int (x1)), (0, .ref (g.2.2 (k0))), (1, .int (v_location)), (2, .int (v_object))]) hx hb dX9_derivationCount_6 rfl hl (by decide) rfl (fun ls hl => ?_)
  refine lv_iload_n hx hb dX9_derivationCount_7 rfl (lv_at hl 0 rfl) ?_
  refine w_zlt_f (tgt := 23) hx hb dX9_derivationCount_8 (by decide) (fun c2 => ?_) (fun c2 => ?_)
  · replace hF := ifn c2 hF
    refine lv_aload_n hx hb dX9_derivationCount_23 rfl (lv_at hl 1 rfl) ?_
    obtain ⟨x3, h3, hF⟩ := ob hF
    refine w_getd X hH h3 hk0 fs_9_1 lk_9_19 dX9_derivationCount_24 (fun q3 => ?_)
    refine lv_iload_n hx hb dX9_derivationCount_27 rfl (lv_at hl 2 rfl) ?_
    refine w_callV (As := [.int (v_location)]) (k := x3) (rest := []) (st1 := [.int ((f_X6_slotAt w (x3) (v_location)))]) X hH (c_X6_slotAt (l := l) (g := g) (w := w) (k0 := x3) (v_location := v_location) rfl q3) (Or.inr ⟨_, tw_3_77⟩) ms_X6_slotAt im_X6_slotAt q3 cn_6 ⟨Nat.le_of_ble_eq_true rfl, Nat.le_of_ble_eq_true rfl⟩ rfl rfl hl.1 (Nat.le_of_ble_eq_true rfl) dX9_derivationCount_28 ⟨Nat.le_refl _, Nat.le_refl _⟩ rfl (fun H locs hH => ?_)
    refine lv_istore (lv' := [(4, .int ((f_X6_slotAt w (x3) (v_location)))), (3, .int (x1)), (0, .ref (g.2.2 (k0))), (1, .int (v_location)), (2, .int (v_object))]) hx hb dX9_derivationCount_31 hl (by decide) rfl (fun ls hl => ?_)
    refine lv_iconst (v := (0 : Int32)) hx hb dX9_derivationCount_33 (by decide) ?_
    refine lv_istore (lv' := [(5, .int ((0 : Int32))), (4, .int ((f_X6_slotAt w (x3) (v_location)))), (3, .int (x1)), (0, .ref (g.2.2 (k0))), (1, .int (v_location)), (2, .int (v_object))]) hx hb dX9_derivationCount_34 hl (by decide) rfl (fun ls hl => ?_)
    refine lv_iconst (v := (0 : Int32)) hx hb dX9_derivationCount_36 (by decide) ?_
    refine lv_istore (lv' := [(6, .int ((0 : Int32))), (5, .int ((0 : Int32))), (4, .int ((f_X6_slotAt w (x3) (v_location)))), (3, .int (x1)), (0, .ref (g.2.2 (k0))), (1, .int (v_location)), (2, .int (v_object))]) hx hb dX9_derivationCount_37 hl (by decide) rfl (fun ls hl => ?_)
    obtain ⟨r5, hLr5, hF⟩ := ob hF
    have Jr5 : ∀ (H : Heap) (locs : List Loc) (ls : Array Slot), HW zC g w s.heap H locs → lv_has ls 7 [(0, .ref (g.2.2 (k0))), (1, .int (v_location)), (2, .int (v_object)), (3, .int (x1)), (4, .int ((f_X6_slotAt w (x3) (v_location)))), (5, .int (r5))] → W p l e (rmd 3) s m args below meth c H locs 0 0 (MQ below (Qw zC g w (some (.int (rz)))) args s 0 0 (zA zC g)) (F0 m 96 ls []) := by
      intro H locs ls hH hl
      refine lv_iload hx hb dX9_derivationCount_96 (lv_at hl 5 rfl) ?_
      obtain rfl := se1 hF
      exact w_iret X hH hr dX9_derivationCount_98
    have Lr5 : ∀ (n : Nat) (s4 : Int32 × Int32), lp (b_X9_derivationCount_1 w k0 x3 v_location v_object) n s4 = some r5 → ∀ (H : Heap) (locs : List Loc) (ls : Array Slot), HW zC g w s.heap H locs → lv_has ls 7 [(0, .ref (g.2.2 (k0))), (1, .int (v_location)), (2, .int (v_object)), (3, .int (x1)), (4, .int ((f_X6_slotAt w (x3) (v_location)))), (5, .int (s4.1)), (6, .int (s4.2))] → W p l e (rmd 3) s m args below meth c H locs 0 0 (MQ below (Qw zC g w (some (.int (rz)))) args s 0 0 (zA zC g)) (F0 m 39 ls []) := by
      intro n
      induction n with
      | zero => intro s4 hL; exact lp_0 hL
      | succ n ih =>
        intro s4 hL H locs ls hH hl
        obtain ⟨bb, hF, hL⟩ := lp_s hL
        unfold b_X9_derivationCount_1 at hF
        refine lv_iload hx hb dX9_derivationCount_39 (lv_at hl 6 rfl) ?_
        refine lv_aload_n hx hb dX9_derivationCount_41 rfl (lv_at hl 0 rfl) ?_
        obtain ⟨x6, h6, hF⟩ := ob hF
        refine w_getd X hH h6 hk0 fs_9_1 lk_9_19 dX9_derivationCount_42 (fun q6 => ?_)
        refine w_getr X hH q6 fs_6_6 lk_9_96 dX9_derivationCount_45 ?_
        refine w_geti X hH (rt_C_6_6 q6) fs_0_4 lk_9_100 dX9_derivationCount_48 ?_
        refine w_ilt_f (tgt := 96) hx hb dX9_derivationCount_51 (by decide) (fun c7 => ?_) (fun c7 => ?_)
        · replace hF := ifn c7 hF
          obtain rfl := se1 hF
          subst hL
          exact Jr5 _ _ _ hH (lv_sub hl [0, 1, 2, 3, 4, 5] rfl)
        · replace hF := ifp c7 hF
          obtain ⟨s8, hs8, hF⟩ := ob hF
          have Js8 : ∀ (H : Heap) (locs : List Loc) (ls : Array Slot), HW zC g w s.heap H locs → lv_has ls 7 [(0, .ref (g.2.2 (k0))), (1, .int (v_location)), (2, .int (v_object)), (3, .int (x1)), (4, .int ((f_X6_slotAt w (x3) (v_location)))), (5, .int (s8)), (6, .int (s4.2))] → W p l e (rmd 3) s m args below meth c H locs 0 0 (MQ below (Qw zC g w (some (.int (rz)))) args s 0 0 (zA zC g)) (F0 m 90 ls []) := by
            intro H locs ls hH hl
            refine lv_iinc (v := (s4.2 + (1 : Int32))) (lv' := [(6, .int ((s4.2 + (1 : Int32)))), (0, .ref (g.2.2 (k0))), (1, .int (v_location)), (2, .int (v_object)), (3, .int (x1)), (4, .int ((f_X6_slotAt w (x3) (v_location)))), (5, .int (s8))]) hx hb dX9_derivationCount_90 hl (k := 6) rfl rfl (by decide) rfl (fun ls hl => ?_)
            refine lv_goto (tgt := 39) hx hb dX9_derivationCount_93 (by decide) ?_
            obtain rfl := se1 hF
            exact ih _ hL _ _ _ hH (lv_sub hl [1, 2, 3, 4, 5, 6, 0] rfl)
          have hF := hs8
          refine lv_aload_n hx hb dX9_derivationCount_54 rfl (lv_at hl 0 rfl) ?_
          obtain ⟨x9, h9, hF⟩ := ob hF
          refine w_getd X hH h9 hk0 fs_9_1 lk_9_19 dX9_derivationCount_55 (fun q9 => ?_)
          refine w_getr X hH q9 fs_6_6 lk_9_96 dX9_derivationCount_58 ?_
          refine lv_iload hx hb dX9_derivationCount_61 (lv_at hl 6 rfl) ?_
          refine w_callV (As := [.int (s4.2)]) (k := (zrf zC (x9) 6)) (rest := []) (st1 := [.int (bI ((f_X0_isEnabled w ((zrf zC (x9) 6)) (s4.2))))]) X hH (c_X0_isEnabled (l := l) (g := g) (w := w) (k0 := (zrf zC (x9) 6)) (v_constraint := s4.2) rfl (rt_C_6_6 q9)) (Or.inr ⟨_, tw_3_112⟩) ms_X0_isEnabled im_X0_isEnabled (rt_C_6_6 q9) cn_0 ⟨Nat.le_of_ble_eq_true rfl, Nat.le_of_ble_eq_true rfl⟩ rfl rfl hl.1 (Nat.le_of_ble_eq_true rfl) dX9_derivationCount_63 ⟨Nat.le_refl _, Nat.le_refl _⟩ rfl (fun H locs hH => ?_)
          refine w_b_f (tgt := 90) hx hb dX9_derivationCount_66 (by decide) (fun c10 => ?_) (fun c10 => ?_)
          · replace hF := ifn c10 hF
            obtain rfl := se1 hF
            exact Js8 _ _ _ hH (lv_sub hl [0, 1, 2, 3, 4, 5, 6] rfl)
          · replace hF := ifp c10 hF
            refine lv_iload hx hb dX9_derivationCount_69 (lv_at hl 5 rfl) ?_
            refine lv_aload_n hx hb dX9_derivationCount_71 rfl (lv_at hl 0 rfl) ?_
            refine w_getr X hH hk0 fs_9_6 lk_9_47 dX9_derivationCount_72 ?_
            refine lv_aload_n hx hb dX9_derivationCount_75 rfl (lv_at hl 0 rfl) ?_
            obtain ⟨x11, h11, hF⟩ := ob hF
            refine w_getd X hH h11 hk0 fs_9_1 lk_9_19 dX9_derivationCount_76 (fun q11 => ?_)
            refine lv_iload hx hb dX9_derivationCount_79 (lv_at hl 6 rfl) ?_
            refine lv_iload hx hb dX9_derivationCount_81 (lv_at hl 4 rfl) ?_
            refine lv_iload_n hx hb dX9_derivationCount_83 rfl (lv_at hl 2 rfl) ?_
            obtain ⟨x12, h12, hF⟩ := ob hF
            refine w_callV (As := [.ref (g.2.2 (x11)), .int (s4.2), .int ((f_X6_slotAt w (x3) (v_location))), .int (v_object)]) (k := (zrf zC (k0) 6)) (rest := [.int (s4.1)]) (st1 := [.int (x12), .int (s4.1)]) X hH (c_X7_countDerivations (l := l) (g := g) (w := w) (k0 := (zrf zC (k0) 6)) (v_program := x11) (v_constraint := s4.2) (v_slot := (f_X6_slotAt w (x3) (v_location))) (v_object := v_object) h12 (rt_C_9_6 hk0) q11) (Or.inr ⟨_, tw_3_113⟩) ms_X7_countDerivations im_X7_countDerivations (rt_C_9_6 hk0) cn_7 ⟨Nat.le_of_ble_eq_true rfl, Nat.le_of_ble_eq_true rfl⟩ rfl rfl hl.1 (Nat.le_of_ble_eq_true rfl) dX9_derivationCount_84 ⟨Nat.le_refl _, Nat.le_refl _⟩ rfl (fun H locs hH => ?_)
            refine lv_iadd hx hb dX9_derivationCount_87 ?_
            refine lv_istore (lv' := [(5, .int ((s4.1 + x12))), (0, .ref (g.2.2 (k0))), (1, .int (v_location)), (2, .int (v_object)), (3, .int (x1)), (4, .int ((f_X6_slotAt w (x3) (v_location)))), (6, .int (s4.2))]) hx hb dX9_derivationCount_88 hl (by decide) rfl (fun ls hl => ?_)
            obtain rfl := se1 hF
            exact Js8 _ _ _ hH (lv_sub hl [1, 2, 3, 4, 5, 0, 6] rfl)
    exact Lr5 NF _ hLr5 _ _ _ hH (lv_sub hl [4, 5, 6, 3, 2, 1, 0] rfl)
  · replace hF := ifp c2 hF
    refine lv_iload_n hx hb dX9_derivationCount_11 rfl (lv_at hl 0 rfl) ?_
    refine lv_bipush (v := (-2 : Int32)) hx hb dX9_derivationCount_12 (by decide) ?_
    have J13 : ∀ (H : Heap) (locs : List Loc), HW zC g w s.heap H locs → W p l e (rmd 3) s m args below meth c H locs 0 0 (MQ below (Qw zC g w (some (.int (rz)))) args s 0 0 (zA zC g)) (F0 m 22 ls [.int ((if x1 = (-2 : Int32) then (0 : Int32) else (-1 : Int32)))]) := by
      intro H locs hH
      obtain rfl := se1 hF
      exact w_iret X hH hr dX9_derivationCount_22
    refine w_ieq_f (tgt := 21) hx hb dX9_derivationCount_14 (by decide) (fun c14 => ?_) (fun c14 => ?_)
    · refine lv_iconst (v := (-1 : Int32)) hx hb dX9_derivationCount_21 (by decide) ?_
      exact w_in c14 (J13 _ _ hH)
    · refine lv_iconst (v := (0 : Int32)) hx hb dX9_derivationCount_17 (by decide) ?_
      refine lv_goto (tgt := 22) hx hb dX9_derivationCount_18 (by decide) ?_
      exact w_ip c14 (J13 _ _ hH)

theorem dX9_explanationLength_0 : decode cX9_explanationLength 0 = .ok (.aload_n 0, 1) := by decide +kernel
theorem dX9_explanationLength_1 : decode cX9_explanationLength 1 = .ok (.iload_n 1, 1) := by decide +kernel
theorem dX9_explanationLength_2 : decode cX9_explanationLength 2 = .ok (.iload_n 2, 1) := by decide +kernel
theorem dX9_explanationLength_3 : decode cX9_explanationLength 3 = .ok (.invokevirtual 175, 3) := by decide +kernel
theorem dX9_explanationLength_6 : decode cX9_explanationLength 6 = .ok (.istore_n 3, 1) := by decide +kernel
theorem dX9_explanationLength_7 : decode cX9_explanationLength 7 = .ok (.iload_n 3, 1) := by decide +kernel
theorem dX9_explanationLength_8 : decode cX9_explanationLength 8 = .ok (.ifCond .ge 7, 3) := by decide +kernel
theorem dX9_explanationLength_11 : decode cX9_explanationLength 11 = .ok (.iload_n 3, 1) := by decide +kernel
theorem dX9_explanationLength_12 : decode cX9_explanationLength 12 = .ok (.goto 12, 3) := by decide +kernel
theorem dX9_explanationLength_15 : decode cX9_explanationLength 15 = .ok (.aload_n 0, 1) := by decide +kernel
theorem dX9_explanationLength_16 : decode cX9_explanationLength 16 = .ok (.getfield 47, 3) := by decide +kernel
theorem dX9_explanationLength_19 : decode cX9_explanationLength 19 = .ok (.getfield 188, 3) := by decide +kernel
theorem dX9_explanationLength_22 : decode cX9_explanationLength 22 = .ok (.iload_n 3, 1) := by decide +kernel
theorem dX9_explanationLength_23 : decode cX9_explanationLength 23 = .ok (.iaload, 1) := by decide +kernel
theorem dX9_explanationLength_24 : decode cX9_explanationLength 24 = .ok (.ireturn, 1) := by decide +kernel
set_option maxHeartbeats 4000000 in
set_option maxRecDepth 100000 in
theorem c_X9_explanationLength {l : Launch} {g : Gh} {w : Wd} {k0 : Nat} {v_location : Int32} {v_object : Int32} {rz : Int32} (hF : f_X9_explanationLength w k0 v_location v_object = some rz) (hk0 : zct zC k0 = 9) : Met l yX9_explanationLength (Cond.code yX9_explanationLength cX9_explanationLength 4 (some .int) :: TT) (rmd 3) (Pcw zC g w [.ref (g.2.2 k0), .int (v_location), .int (v_object)]) (Qw zC g w (some (.int (rz)))) 0 0 (zA zC g) := by
  refine mt_start (by decide) (Nat.le_of_ble_eq_true rfl) ?_
  intro p e s m args below meth c H locs ls X hr hl hH
  have hx := X.1
  have hb := X.2.1
  have hml := X.2.2.1
  have hown := X.2.2.2.1
  have ht := X.2.2.2.2.1
  have hl : lv_has ls 4 [(0, .ref (g.2.2 (k0))), (1, .int (v_location)), (2, .int (v_object))] := hl
  unfold f_X9_explanationLength at hF
  refine lv_aload_n hx hb dX9_explanationLength_0 rfl (lv_at hl 0 rfl) ?_
  refine lv_iload_n hx hb dX9_explanationLength_1 rfl (lv_at hl 1 rfl) ?_
  refine lv_iload_n hx hb dX9_explanationLength_2 rfl (lv_at hl 2 rfl) ?_
  obtain ⟨x1, h1, hF⟩ := ob hF
  refine w_callV (As := [.int (v_location), .int (v_object)]) (k := k0) (rest := []) (st1 := [.int (x1)]) X hH (c_X9_findFact (l := l) (g := g) (w := w) (k0 := k0) (v_location := v_location) (v_object := v_object) h1 hk0) (Or.inl tw_3_103) ms_X9_findFact im_X9_findFact hk0 cn_9 ⟨Nat.le_of_ble_eq_true rfl, Nat.le_of_ble_eq_true rfl⟩ rfl rfl hl.1 (Nat.le_of_ble_eq_true rfl) dX9_explanationLength_3 ⟨Nat.le_refl _, Nat.le_refl _⟩ rfl (fun H locs hH => ?_)
  refine lv_istore_n (lv' := [(3, .int (x1)), (0, .ref (g.2.2 (k0))), (1, .int (v_location)), (2, .int (v_object))]) hx hb dX9_explanationLength_6 rfl hl (by decide) rfl (fun ls hl => ?_)
  obtain ⟨x3, hx3, hF⟩ := ob hF
  have J2 : ∀ (H : Heap) (locs : List Loc), HW zC g w s.heap H locs → W p l e (rmd 3) s m args below meth c H locs 0 0 (MQ below (Qw zC g w (some (.int (rz)))) args s 0 0 (zA zC g)) (F0 m 24 ls [.int (x3)]) := by
    intro H locs hH
    obtain rfl := se1 hF
    exact w_iret X hH hr dX9_explanationLength_24
  have hF := hx3
  refine lv_iload_n hx hb dX9_explanationLength_7 rfl (lv_at hl 0 rfl) ?_
  refine w_zlt_f (tgt := 15) hx hb dX9_explanationLength_8 (by decide) (fun c4 => ?_) (fun c4 => ?_)
  · replace hF := ifn c4 hF
    refine lv_aload_n hx hb dX9_explanationLength_15 rfl (lv_at hl 1 rfl) ?_
    refine w_getr X hH hk0 fs_9_6 lk_9_47 dX9_explanationLength_16 ?_
    refine w_getr X hH (rt_C_9_6 hk0) fs_7_9 lk_9_188 dX9_explanationLength_19 ?_
    refine lv_iload_n hx hb dX9_explanationLength_22 rfl (lv_at hl 0 rfl) ?_
    obtain ⟨x5, h5, hF⟩ := ob hF
    refine w_iald X hH h5 (rt_C_7_9 (rt_C_9_6 hk0)) dX9_explanationLength_23 ?_
    obtain rfl := se1 hF
    exact J2 _ _ hH
  · replace hF := ifp c4 hF
    refine lv_iload_n hx hb dX9_explanationLength_11 rfl (lv_at hl 0 rfl) ?_
    refine lv_goto (tgt := 24) hx hb dX9_explanationLength_12 (by decide) ?_
    obtain rfl := se1 hF
    exact J2 _ _ hH

theorem dX9_findStep_0 : decode cX9_findStep 0 = .ok (.aload_n 0, 1) := by decide +kernel
theorem dX9_findStep_1 : decode cX9_findStep 1 = .ok (.iload_n 1, 1) := by decide +kernel
theorem dX9_findStep_2 : decode cX9_findStep 2 = .ok (.iload_n 2, 1) := by decide +kernel
theorem dX9_findStep_3 : decode cX9_findStep 3 = .ok (.invokevirtual 175, 3) := by decide +kernel
theorem dX9_findStep_6 : decode cX9_findStep 6 = .ok (.istore 4, 2) := by decide +kernel
theorem dX9_findStep_8 : decode cX9_findStep 8 = .ok (.iload 4, 2) := by decide +kernel
theorem dX9_findStep_10 : decode cX9_findStep 10 = .ok (.iconst (-1), 1) := by decide +kernel
theorem dX9_findStep_11 : decode cX9_findStep 11 = .ok (.if_icmp .eq 7, 3) := by decide +kernel
theorem dX9_findStep_14 : decode cX9_findStep 14 = .ok (.iload_n 3, 1) := by decide +kernel
theorem dX9_findStep_15 : decode cX9_findStep 15 = .ok (.ifCond .ge 5, 3) := by decide +kernel
theorem dX9_findStep_18 : decode cX9_findStep 18 = .ok (.iconst (-1), 1) := by decide +kernel
theorem dX9_findStep_19 : decode cX9_findStep 19 = .ok (.ireturn, 1) := by decide +kernel
theorem dX9_findStep_20 : decode cX9_findStep 20 = .ok (.iload 4, 2) := by decide +kernel
theorem dX9_findStep_22 : decode cX9_findStep 22 = .ok (.bipush (-2), 2) := by decide +kernel
theorem dX9_findStep_24 : decode cX9_findStep 24 = .ok (.if_icmp .eq 17, 3) := by decide +kernel
theorem dX9_findStep_27 : decode cX9_findStep 27 = .ok (.iload_n 3, 1) := by decide +kernel
theorem dX9_findStep_28 : decode cX9_findStep 28 = .ok (.aload_n 0, 1) := by decide +kernel
theorem dX9_findStep_29 : decode cX9_findStep 29 = .ok (.getfield 47, 3) := by decide +kernel
theorem dX9_findStep_32 : decode cX9_findStep 32 = .ok (.getfield 188, 3) := by decide +kernel
theorem dX9_findStep_35 : decode cX9_findStep 35 = .ok (.iload 4, 2) := by decide +kernel
theorem dX9_findStep_37 : decode cX9_findStep 37 = .ok (.iaload, 1) := by decide +kernel
theorem dX9_findStep_38 : decode cX9_findStep 38 = .ok (.if_icmp .lt 6, 3) := by decide +kernel
theorem dX9_findStep_41 : decode cX9_findStep 41 = .ok (.bipush (-2), 2) := by decide +kernel
theorem dX9_findStep_43 : decode cX9_findStep 43 = .ok (.ireturn, 1) := by decide +kernel
theorem dX9_findStep_44 : decode cX9_findStep 44 = .ok (.iconst 0, 1) := by decide +kernel
theorem dX9_findStep_45 : decode cX9_findStep 45 = .ok (.istore 5, 2) := by decide +kernel
theorem dX9_findStep_47 : decode cX9_findStep 47 = .ok (.iload 5, 2) := by decide +kernel
theorem dX9_findStep_49 : decode cX9_findStep 49 = .ok (.iload_n 3, 1) := by decide +kernel
theorem dX9_findStep_50 : decode cX9_findStep 50 = .ok (.if_icmp .ge 38, 3) := by decide +kernel
theorem dX9_findStep_53 : decode cX9_findStep 53 = .ok (.aload_n 0, 1) := by decide +kernel
theorem dX9_findStep_54 : decode cX9_findStep 54 = .ok (.getfield 47, 3) := by decide +kernel
theorem dX9_findStep_57 : decode cX9_findStep 57 = .ok (.getfield 198, 3) := by decide +kernel
theorem dX9_findStep_60 : decode cX9_findStep 60 = .ok (.iload 4, 2) := by decide +kernel
theorem dX9_findStep_62 : decode cX9_findStep 62 = .ok (.iaload, 1) := by decide +kernel
theorem dX9_findStep_63 : decode cX9_findStep 63 = .ok (.istore 6, 2) := by decide +kernel
theorem dX9_findStep_65 : decode cX9_findStep 65 = .ok (.iload 6, 2) := by decide +kernel
theorem dX9_findStep_67 : decode cX9_findStep 67 = .ok (.iconst (-1), 1) := by decide +kernel
theorem dX9_findStep_68 : decode cX9_findStep 68 = .ok (.if_icmp .ne 6, 3) := by decide +kernel
theorem dX9_findStep_71 : decode cX9_findStep 71 = .ok (.bipush (-2), 2) := by decide +kernel
theorem dX9_findStep_73 : decode cX9_findStep 73 = .ok (.ireturn, 1) := by decide +kernel
theorem dX9_findStep_74 : decode cX9_findStep 74 = .ok (.iload 6, 2) := by decide +kernel
theorem dX9_findStep_76 : decode cX9_findStep 76 = .ok (.iload_n 2, 1) := by decide +kernel
theorem dX9_findStep_77 : decode cX9_findStep 77 = .ok (.invokestatic 316, 3) := by decide +kernel
theorem dX9_findStep_80 : decode cX9_findStep 80 = .ok (.istore 4, 2) := by decide +kernel
theorem dX9_findStep_82 : decode cX9_findStep 82 = .ok (.iinc 5 1, 3) := by decide +kernel
theorem dX9_findStep_85 : decode cX9_findStep 85 = .ok (.goto (-38), 3) := by decide +kernel
theorem dX9_findStep_88 : decode cX9_findStep 88 = .ok (.iload 4, 2) := by decide +kernel
theorem dX9_findStep_90 : decode cX9_findStep 90 = .ok (.ireturn, 1) := by decide +kernel
set_option maxHeartbeats 4000000 in
set_option maxRecDepth 100000 in
theorem c_X9_findStep {l : Launch} {g : Gh} {w : Wd} {k0 : Nat} {v_location : Int32} {v_object : Int32} {v_step : Int32} {rz : Int32} (hF : f_X9_findStep w k0 v_location v_object v_step = some rz) (hk0 : zct zC k0 = 9) : Met l yX9_findStep (Cond.code yX9_findStep cX9_findStep 7 (some .int) :: TT) (rmd 3) (Pcw zC g w [.ref (g.2.2 k0), .int (v_location), .int (v_object), .int (v_step)]) (Qw zC g w (some (.int (rz)))) 0 0 (zA zC g) := by
  refine mt_start (by decide) (Nat.le_of_ble_eq_true rfl) ?_
  intro p e s m args below meth c H locs ls X hr hl hH
  have hx := X.1
  have hb := X.2.1
  have hml := X.2.2.1
  have hown := X.2.2.2.1
  have ht := X.2.2.2.2.1
  have hl : lv_has ls 7 [(0, .ref (g.2.2 (k0))), (1, .int (v_location)), (2, .int (v_object)), (3, .int (v_step))] := hl
  unfold f_X9_findStep at hF
  refine lv_aload_n hx hb dX9_findStep_0 rfl (lv_at hl 0 rfl) ?_
  refine lv_iload_n hx hb dX9_findStep_1 rfl (lv_at hl 1 rfl) ?_
  refine lv_iload_n hx hb dX9_findStep_2 rfl (lv_at hl 2 rfl) ?_
  obtain ⟨x1, h1, hF⟩ := ob hF
  refine w_callV (As := [.int (v_location), .int (v_object)]) (k := k0) (rest := []) (st1 := [.int (x1)]) X hH (c_X9_findFact (l := l) (g := g) (w := w) (k0 := k0) (v_location := v_location) (v_object := v_object) h1 hk0) (Or.inl tw_3_103) ms_X9_findFact im_X9_findFact hk0 cn_9 ⟨Nat.le_of_ble_eq_true rfl, Nat.le_of_ble_eq_true rfl⟩ rfl rfl hl.1 (Nat.le_of_ble_eq_true rfl) dX9_findStep_3 ⟨Nat.le_refl _, Nat.le_refl _⟩ rfl (fun H locs hH => ?_)
  refine lv_istore (lv' := [(4, .int (x1)), (0, .ref (g.2.2 (k0))), (1, .int (v_location)), (2, .int (v_object)), (3, .int (v_step))]) hx hb dX9_findStep_6 hl (by decide) rfl (fun ls hl => ?_)
  refine lv_iload hx hb dX9_findStep_8 (lv_at hl 0 rfl) ?_
  refine lv_iconst (v := (-1 : Int32)) hx hb dX9_findStep_10 (by decide) ?_
  have J2T : (x1 = (-1 : Int32)) ∨ (v_step < (0 : Int32)) → ∀ (H : Heap) (locs : List Loc), HW zC g w s.heap H locs → W p l e (rmd 3) s m args below meth c H locs 0 0 (MQ below (Qw zC g w (some (.int (rz)))) args s 0 0 (zA zC g)) (F0 m 18 ls []) := by
    intro hc H locs hH
    replace hF := ifp hc hF
    refine lv_iconst (v := (-1 : Int32)) hx hb dX9_findStep_18 (by decide) ?_
    obtain rfl := se1 hF
    exact w_iret X hH hr dX9_findStep_19
  have J2F : ¬ ((x1 = (-1 : Int32)) ∨ (v_step < (0 : Int32))) → ∀ (H : Heap) (locs : List Loc), HW zC g w s.heap H locs → W p l e (rmd 3) s m args below meth c H locs 0 0 (MQ below (Qw zC g w (some (.int (rz)))) args s 0 0 (zA zC g)) (F0 m 20 ls []) := by
    intro hc H locs hH
    replace hF := ifn hc hF
    obtain ⟨b5, hb5, hF⟩ := ob hF
    have Jb5T : b5 = true → ∀ (H : Heap) (locs : List Loc), HW zC g w s.heap H locs → W p l e (rmd 3) s m args below meth c H locs 0 0 (MQ below (Qw zC g w (some (.int (rz)))) args s 0 0 (zA zC g)) (F0 m 41 ls []) := by
      intro hc H locs hH
      replace hF := ifp hc hF
      refine lv_bipush (v := (-2 : Int32)) hx hb dX9_findStep_41 (by decide) ?_
      obtain rfl := se1 hF
      exact w_iret X hH hr dX9_findStep_43
    have Jb5F : ¬ (b5 = true) → ∀ (H : Heap) (locs : List Loc), HW zC g w s.heap H locs → W p l e (rmd 3) s m args below meth c H locs 0 0 (MQ below (Qw zC g w (some (.int (rz)))) args s 0 0 (zA zC g)) (F0 m 44 ls []) := by
      intro hc H locs hH
      replace hF := ifn hc hF
      refine lv_iconst (v := (0 : Int32)) hx hb dX9_findStep_44 (by decide) ?_
      refine lv_istore (lv' := [(5, .int ((0 : Int32))), (4, .int (x1)), (0, .ref (g.2.2 (k0))), (1, .int (v_location)), (2, .int (v_object)), (3, .int (v_step))]) hx hb dX9_findStep_45 hl (by decide) rfl (fun ls hl => ?_)
      obtain ⟨r10, hLr10, hF⟩ := ob hF
      have Jr10 : ∀ r10x, r10 = .inl r10x → ∀ (H : Heap) (locs : List Loc) (ls : Array Slot), HW zC g w s.heap H locs → lv_has ls 7 [(0, .ref (g.2.2 (k0))), (1, .int (v_location)), (2, .int (v_object)), (3, .int (v_step)), (4, .int (r10x))] → W p l e (rmd 3) s m args below meth c H locs 0 0 (MQ below (Qw zC g w (some (.int (rz)))) args s 0 0 (zA zC g)) (F0 m 88 ls []) := by
        intro r10x hrx H locs ls hH hl
        rw [hrx] at hF
        dsimp only at hF
        refine lv_iload hx hb dX9_findStep_88 (lv_at hl 4 rfl) ?_
        obtain rfl := se1 hF
        exact w_iret X hH hr dX9_findStep_90
      have hor10 := hF
      have Lr10 : ∀ (n : Nat) (s9 : Int32 × Int32), lp (b_X9_findStep_1 v_step w k0 v_object) n s9 = some r10 → ∀ (H : Heap) (locs : List Loc) (ls : Array Slot), HW zC g w s.heap H locs → lv_has ls 7 [(0, .ref (g.2.2 (k0))), (1, .int (v_location)), (2, .int (v_object)), (3, .int (v_step)), (4, .int (s9.1)), (5, .int (s9.2))] → W p l e (rmd 3) s m args below meth c H locs 0 0 (MQ below (Qw zC g w (some (.int (rz)))) args s 0 0 (zA zC g)) (F0 m 47 ls []) := by
        intro n
        induction n with
        | zero => intro s9 hL; exact lp_0 hL
        | succ n ih =>
          intro s9 hL H locs ls hH hl
          obtain ⟨bb, hF, hL⟩ := lp_s hL
          unfold b_X9_findStep_1 at hF
          refine lv_iload hx hb dX9_findStep_47 (lv_at hl 5 rfl) ?_
          refine lv_iload_n hx hb dX9_findStep_49 rfl (lv_at hl 3 rfl) ?_
          refine w_ilt_f (tgt := 88) hx hb dX9_findStep_50 (by decide) (fun c11 => ?_) (fun c11 => ?_)
          · replace hF := ifn c11 hF
            obtain rfl := se1 hF
            subst hL
            exact Jr10 _ rfl _ _ _ hH (lv_sub hl [0, 1, 2, 3, 4] rfl)
          · replace hF := ifp c11 hF
            refine lv_aload_n hx hb dX9_findStep_53 rfl (lv_at hl 0 rfl) ?_
            refine w_getr X hH hk0 fs_9_6 lk_9_47 dX9_findStep_54 ?_
            refine w_getr X hH (rt_C_9_6 hk0) fs_7_7 lk_9_198 dX9_findStep_57 ?_
            refine lv_iload hx hb dX9_findStep_60 (lv_at hl 4 rfl) ?_
            obtain ⟨x12, h12, hF⟩ := ob hF
            refine w_iald X hH h12 (rt_C_7_7 (rt_C_9_6 hk0)) dX9_findStep_62 ?_
            refine lv_istore (lv' := [(6, .int (x12)), (0, .ref (g.2.2 (k0))), (1, .int (v_location)), (2, .int (v_object)), (3, .int (v_step)), (4, .int (s9.1)), (5, .int (s9.2))]) hx hb dX9_findStep_63 hl (by decide) rfl (fun ls hl => ?_)
            refine lv_iload hx hb dX9_findStep_65 (lv_at hl 0 rfl) ?_
            refine lv_iconst (v := (-1 : Int32)) hx hb dX9_findStep_67 (by decide) ?_
            refine w_ieq_f (tgt := 74) hx hb dX9_findStep_68 (by decide) (fun c13 => ?_) (fun c13 => ?_)
            · replace hF := ifn c13 hF
              refine lv_iload hx hb dX9_findStep_74 (lv_at hl 0 rfl) ?_
              refine lv_iload_n hx hb dX9_findStep_76 rfl (lv_at hl 3 rfl) ?_
              refine w_callS (As := [.int (x12), .int (v_object)]) (rest := []) (st1 := [.int ((f_X9_factOf (x12) (v_object)))]) X hH (c_X9_factOf (l := l) (g := g) (w := w) (v_slot := x12) (v_object := v_object) rfl) (Or.inl tw_3_107) ms_X9_factOf tw_2_226 ⟨Nat.le_of_ble_eq_true rfl, Nat.le_of_ble_eq_true rfl⟩ rfl rfl hl.1 (Nat.le_of_ble_eq_true rfl) dX9_findStep_77 ⟨Nat.le_refl _, Nat.le_refl _⟩ rfl (fun H locs hH => ?_)
              refine lv_istore (lv' := [(4, .int ((f_X9_factOf (x12) (v_object)))), (6, .int (x12)), (0, .ref (g.2.2 (k0))), (1, .int (v_location)), (2, .int (v_object)), (3, .int (v_step)), (5, .int (s9.2))]) hx hb dX9_findStep_80 hl (by decide) rfl (fun ls hl => ?_)
              refine lv_iinc (v := (s9.2 + (1 : Int32))) (lv' := [(5, .int ((s9.2 + (1 : Int32)))), (4, .int ((f_X9_factOf (x12) (v_object)))), (6, .int (x12)), (0, .ref (g.2.2 (k0))), (1, .int (v_location)), (2, .int (v_object)), (3, .int (v_step))]) hx hb dX9_findStep_82 hl (k := 6) rfl rfl (by decide) rfl (fun ls hl => ?_)
              refine lv_goto (tgt := 47) hx hb dX9_findStep_85 (by decide) ?_
              obtain rfl := se1 hF
              exact ih _ hL _ _ _ hH (lv_sub hl [3, 4, 5, 6, 1, 0] rfl)
            · replace hF := ifp c13 hF
              refine lv_bipush (v := (-2 : Int32)) hx hb dX9_findStep_71 (by decide) ?_
              obtain rfl := se1 hF
              subst hL
              have hF := hor10
              obtain rfl := se1 hF
              exact w_iret X hH hr dX9_findStep_73
      exact Lr10 NF _ hLr10 _ _ _ hH (lv_sub hl [2, 3, 4, 5, 1, 0] rfl)
    have hF := hb5
    refine lv_iload hx hb dX9_findStep_20 (lv_at hl 0 rfl) ?_
    refine lv_bipush (v := (-2 : Int32)) hx hb dX9_findStep_22 (by decide) ?_
    refine w_ieq_t (tgt := 41) hx hb dX9_findStep_24 (by decide) (fun c6 => ?_) (fun c6 => ?_)
    · replace hF := ifp c6 hF
      obtain rfl := se1 hF
      exact Jb5T rfl _ _ hH
    · replace hF := ifn c6 hF
      refine lv_iload_n hx hb dX9_findStep_27 rfl (lv_at hl 4 rfl) ?_
      refine lv_aload_n hx hb dX9_findStep_28 rfl (lv_at hl 1 rfl) ?_
      refine w_getr X hH hk0 fs_9_6 lk_9_47 dX9_findStep_29 ?_
      refine w_getr X hH (rt_C_9_6 hk0) fs_7_9 lk_9_188 dX9_findStep_32 ?_
      refine lv_iload hx hb dX9_findStep_35 (lv_at hl 0 rfl) ?_
      obtain ⟨x8, h8, hF⟩ := ob hF
      refine w_iald X hH h8 (rt_C_7_9 (rt_C_9_6 hk0)) dX9_findStep_37 ?_
      refine w_ige_f (tgt := 44) hx hb dX9_findStep_38 (by decide) (fun c7 => ?_) (fun c7 => ?_)
      · replace hF := ifn c7 hF
        obtain rfl := se1 hF
        exact Jb5F Bool.false_ne_true _ _ hH
      · replace hF := ifp c7 hF
        obtain rfl := se1 hF
        exact Jb5T rfl _ _ hH
  refine w_ieq_t (tgt := 18) hx hb dX9_findStep_11 (by decide) (fun c3 => ?_) (fun c3 => ?_)
  · exact J2T (Or.inl c3) _ _ hH
  · refine lv_iload_n hx hb dX9_findStep_14 rfl (lv_at hl 4 rfl) ?_
    refine w_zlt_f (tgt := 20) hx hb dX9_findStep_15 (by decide) (fun c4 => ?_) (fun c4 => ?_)
    · exact J2F (fun z => z.elim c3 c4) _ _ hH
    · exact J2T (Or.inr c4) _ _ hH

theorem dX9_explanationConstraint_0 : decode cX9_explanationConstraint 0 = .ok (.aload_n 0, 1) := by decide +kernel
theorem dX9_explanationConstraint_1 : decode cX9_explanationConstraint 1 = .ok (.iload_n 1, 1) := by decide +kernel
theorem dX9_explanationConstraint_2 : decode cX9_explanationConstraint 2 = .ok (.iload_n 2, 1) := by decide +kernel
theorem dX9_explanationConstraint_3 : decode cX9_explanationConstraint 3 = .ok (.iload_n 3, 1) := by decide +kernel
theorem dX9_explanationConstraint_4 : decode cX9_explanationConstraint 4 = .ok (.invokevirtual 191, 3) := by decide +kernel
theorem dX9_explanationConstraint_7 : decode cX9_explanationConstraint 7 = .ok (.istore 4, 2) := by decide +kernel
theorem dX9_explanationConstraint_9 : decode cX9_explanationConstraint 9 = .ok (.iload 4, 2) := by decide +kernel
theorem dX9_explanationConstraint_11 : decode cX9_explanationConstraint 11 = .ok (.ifCond .ge 8, 3) := by decide +kernel
theorem dX9_explanationConstraint_14 : decode cX9_explanationConstraint 14 = .ok (.iload 4, 2) := by decide +kernel
theorem dX9_explanationConstraint_16 : decode cX9_explanationConstraint 16 = .ok (.goto 13, 3) := by decide +kernel
theorem dX9_explanationConstraint_19 : decode cX9_explanationConstraint 19 = .ok (.aload_n 0, 1) := by decide +kernel
theorem dX9_explanationConstraint_20 : decode cX9_explanationConstraint 20 = .ok (.getfield 47, 3) := by decide +kernel
theorem dX9_explanationConstraint_23 : decode cX9_explanationConstraint 23 = .ok (.getfield 195, 3) := by decide +kernel
theorem dX9_explanationConstraint_26 : decode cX9_explanationConstraint 26 = .ok (.iload 4, 2) := by decide +kernel
theorem dX9_explanationConstraint_28 : decode cX9_explanationConstraint 28 = .ok (.iaload, 1) := by decide +kernel
theorem dX9_explanationConstraint_29 : decode cX9_explanationConstraint 29 = .ok (.ireturn, 1) := by decide +kernel
set_option maxHeartbeats 4000000 in
set_option maxRecDepth 100000 in
theorem c_X9_explanationConstraint {l : Launch} {g : Gh} {w : Wd} {k0 : Nat} {v_location : Int32} {v_object : Int32} {v_step : Int32} {rz : Int32} (hF : f_X9_explanationConstraint w k0 v_location v_object v_step = some rz) (hk0 : zct zC k0 = 9) : Met l yX9_explanationConstraint (Cond.code yX9_explanationConstraint cX9_explanationConstraint 5 (some .int) :: TT) (rmd 4) (Pcw zC g w [.ref (g.2.2 k0), .int (v_location), .int (v_object), .int (v_step)]) (Qw zC g w (some (.int (rz)))) 0 0 (zA zC g) := by
  refine mt_start (by decide) (Nat.le_of_ble_eq_true rfl) ?_
  intro p e s m args below meth c H locs ls X hr hl hH
  have hx := X.1
  have hb := X.2.1
  have hml := X.2.2.1
  have hown := X.2.2.2.1
  have ht := X.2.2.2.2.1
  have hl : lv_has ls 5 [(0, .ref (g.2.2 (k0))), (1, .int (v_location)), (2, .int (v_object)), (3, .int (v_step))] := hl
  unfold f_X9_explanationConstraint at hF
  refine lv_aload_n hx hb dX9_explanationConstraint_0 rfl (lv_at hl 0 rfl) ?_
  refine lv_iload_n hx hb dX9_explanationConstraint_1 rfl (lv_at hl 1 rfl) ?_
  refine lv_iload_n hx hb dX9_explanationConstraint_2 rfl (lv_at hl 2 rfl) ?_
  refine lv_iload_n hx hb dX9_explanationConstraint_3 rfl (lv_at hl 3 rfl) ?_
  obtain ⟨x1, h1, hF⟩ := ob hF
  refine w_callV (As := [.int (v_location), .int (v_object), .int (v_step)]) (k := k0) (rest := []) (st1 := [.int (x1)]) X hH (c_X9_findStep (l := l) (g := g) (w := w) (k0 := k0) (v_location := v_location) (v_object := v_object) (v_step := v_step) h1 hk0) (Or.inl tw_3_125) ms_X9_findStep im_X9_findStep hk0 cn_9 ⟨Nat.le_of_ble_eq_true rfl, Nat.le_of_ble_eq_true rfl⟩ rfl rfl hl.1 (Nat.le_of_ble_eq_true rfl) dX9_explanationConstraint_4 ⟨Nat.le_refl _, Nat.le_refl _⟩ rfl (fun H locs hH => ?_)
  refine lv_istore (lv' := [(4, .int (x1)), (0, .ref (g.2.2 (k0))), (1, .int (v_location)), (2, .int (v_object)), (3, .int (v_step))]) hx hb dX9_explanationConstraint_7 hl (by decide) rfl (fun ls hl => ?_)
  obtain ⟨x3, hx3, hF⟩ := ob hF
  have J2 : ∀ (H : Heap) (locs : List Loc), HW zC g w s.heap H locs → W p l e (rmd 4) s m args below meth c H locs 0 0 (MQ below (Qw zC g w (some (.int (rz)))) args s 0 0 (zA zC g)) (F0 m 29 ls [.int (x3)]) := by
    intro H locs hH
    obtain rfl := se1 hF
    exact w_iret X hH hr dX9_explanationConstraint_29
  have hF := hx3
  refine lv_iload hx hb dX9_explanationConstraint_9 (lv_at hl 0 rfl) ?_
  refine w_zlt_f (tgt := 19) hx hb dX9_explanationConstraint_11 (by decide) (fun c4 => ?_) (fun c4 => ?_)
  · replace hF := ifn c4 hF
    refine lv_aload_n hx hb dX9_explanationConstraint_19 rfl (lv_at hl 1 rfl) ?_
    refine w_getr X hH hk0 fs_9_6 lk_9_47 dX9_explanationConstraint_20 ?_
    refine w_getr X hH (rt_C_9_6 hk0) fs_7_6 lk_9_195 dX9_explanationConstraint_23 ?_
    refine lv_iload hx hb dX9_explanationConstraint_26 (lv_at hl 0 rfl) ?_
    obtain ⟨x5, h5, hF⟩ := ob hF
    refine w_iald X hH h5 (rt_C_7_6 (rt_C_9_6 hk0)) dX9_explanationConstraint_28 ?_
    obtain rfl := se1 hF
    exact J2 _ _ hH
  · replace hF := ifp c4 hF
    refine lv_iload hx hb dX9_explanationConstraint_14 (lv_at hl 0 rfl) ?_
    refine lv_goto (tgt := 29) hx hb dX9_explanationConstraint_16 (by decide) ?_
    obtain rfl := se1 hF
    exact J2 _ _ hH

theorem dX9_locationOf_0 : decode cX9_locationOf 0 = .ok (.iload_n 0, 1) := by decide +kernel
theorem dX9_locationOf_1 : decode cX9_locationOf 1 = .ok (.bipush 16, 2) := by decide +kernel
theorem dX9_locationOf_3 : decode cX9_locationOf 3 = .ok (.if_icmp .ge 7, 3) := by decide +kernel
theorem dX9_locationOf_6 : decode cX9_locationOf 6 = .ok (.iload_n 0, 1) := by decide +kernel
theorem dX9_locationOf_7 : decode cX9_locationOf 7 = .ok (.goto 10, 3) := by decide +kernel
theorem dX9_locationOf_10 : decode cX9_locationOf 10 = .ok (.iload_n 0, 1) := by decide +kernel
theorem dX9_locationOf_11 : decode cX9_locationOf 11 = .ok (.bipush 16, 2) := by decide +kernel
theorem dX9_locationOf_13 : decode cX9_locationOf 13 = .ok (.isub, 1) := by decide +kernel
theorem dX9_locationOf_14 : decode cX9_locationOf 14 = .ok (.bipush 100, 2) := by decide +kernel
theorem dX9_locationOf_16 : decode cX9_locationOf 16 = .ok (.iadd, 1) := by decide +kernel
theorem dX9_locationOf_17 : decode cX9_locationOf 17 = .ok (.ireturn, 1) := by decide +kernel
set_option maxHeartbeats 4000000 in
set_option maxRecDepth 100000 in
theorem c_X9_locationOf {l : Launch} {g : Gh} {w : Wd} {v_slot : Int32} {rz : Int32} (hF : f_X9_locationOf v_slot = rz)  : Met l yX9_locationOf (Cond.code yX9_locationOf cX9_locationOf 1 (some .int) :: TT) (rmd 0) (Pcw zC g w [.int (v_slot)]) (Qw zC g w (some (.int (rz)))) 0 0 (zA zC g) := by
  refine mt_start (by decide) (Nat.le_of_ble_eq_true rfl) ?_
  intro p e s m args below meth c H locs ls X hr hl hH
  have hx := X.1
  have hb := X.2.1
  have hml := X.2.2.1
  have hown := X.2.2.2.1
  have ht := X.2.2.2.2.1
  have hl : lv_has ls 1 [(0, .int (v_slot))] := hl
  unfold f_X9_locationOf at hF
  refine lv_iload_n hx hb dX9_locationOf_0 rfl (lv_at hl 0 rfl) ?_
  refine lv_bipush (v := (16 : Int32)) hx hb dX9_locationOf_1 (by decide) ?_
  have J1 : ∀ (H : Heap) (locs : List Loc), HW zC g w s.heap H locs → W p l e (rmd 0) s m args below meth c H locs 0 0 (MQ below (Qw zC g w (some (.int (rz)))) args s 0 0 (zA zC g)) (F0 m 17 ls [.int ((if v_slot < (16 : Int32) then v_slot else ((v_slot - (16 : Int32)) + (100 : Int32))))]) := by
    intro H locs hH
    subst hF
    exact w_iret X hH hr dX9_locationOf_17
  refine w_ilt_f (tgt := 10) hx hb dX9_locationOf_3 (by decide) (fun c2 => ?_) (fun c2 => ?_)
  · refine lv_iload_n hx hb dX9_locationOf_10 rfl (lv_at hl 0 rfl) ?_
    refine lv_bipush (v := (16 : Int32)) hx hb dX9_locationOf_11 (by decide) ?_
    refine lv_isub hx hb dX9_locationOf_13 ?_
    refine lv_bipush (v := (100 : Int32)) hx hb dX9_locationOf_14 (by decide) ?_
    refine lv_iadd hx hb dX9_locationOf_16 ?_
    exact w_in c2 (J1 _ _ hH)
  · refine lv_iload_n hx hb dX9_locationOf_6 rfl (lv_at hl 0 rfl) ?_
    refine lv_goto (tgt := 17) hx hb dX9_locationOf_7 (by decide) ?_
    exact w_ip c2 (J1 _ _ hH)

theorem dX9_explanationSource_0 : decode cX9_explanationSource 0 = .ok (.aload_n 0, 1) := by decide +kernel
theorem dX9_explanationSource_1 : decode cX9_explanationSource 1 = .ok (.iload_n 1, 1) := by decide +kernel
theorem dX9_explanationSource_2 : decode cX9_explanationSource 2 = .ok (.iload_n 2, 1) := by decide +kernel
theorem dX9_explanationSource_3 : decode cX9_explanationSource 3 = .ok (.iload_n 3, 1) := by decide +kernel
theorem dX9_explanationSource_4 : decode cX9_explanationSource 4 = .ok (.invokevirtual 191, 3) := by decide +kernel
theorem dX9_explanationSource_7 : decode cX9_explanationSource 7 = .ok (.istore 4, 2) := by decide +kernel
theorem dX9_explanationSource_9 : decode cX9_explanationSource 9 = .ok (.iload 4, 2) := by decide +kernel
theorem dX9_explanationSource_11 : decode cX9_explanationSource 11 = .ok (.ifCond .ge 6, 3) := by decide +kernel
theorem dX9_explanationSource_14 : decode cX9_explanationSource 14 = .ok (.iload 4, 2) := by decide +kernel
theorem dX9_explanationSource_16 : decode cX9_explanationSource 16 = .ok (.ireturn, 1) := by decide +kernel
theorem dX9_explanationSource_17 : decode cX9_explanationSource 17 = .ok (.aload_n 0, 1) := by decide +kernel
theorem dX9_explanationSource_18 : decode cX9_explanationSource 18 = .ok (.getfield 47, 3) := by decide +kernel
theorem dX9_explanationSource_21 : decode cX9_explanationSource 21 = .ok (.getfield 198, 3) := by decide +kernel
theorem dX9_explanationSource_24 : decode cX9_explanationSource 24 = .ok (.iload 4, 2) := by decide +kernel
theorem dX9_explanationSource_26 : decode cX9_explanationSource 26 = .ok (.iaload, 1) := by decide +kernel
theorem dX9_explanationSource_27 : decode cX9_explanationSource 27 = .ok (.istore 5, 2) := by decide +kernel
theorem dX9_explanationSource_29 : decode cX9_explanationSource 29 = .ok (.iload 5, 2) := by decide +kernel
theorem dX9_explanationSource_31 : decode cX9_explanationSource 31 = .ok (.iconst (-1), 1) := by decide +kernel
theorem dX9_explanationSource_32 : decode cX9_explanationSource 32 = .ok (.if_icmp .ne 8, 3) := by decide +kernel
theorem dX9_explanationSource_35 : decode cX9_explanationSource 35 = .ok (.bipush (-2), 2) := by decide +kernel
theorem dX9_explanationSource_37 : decode cX9_explanationSource 37 = .ok (.goto 8, 3) := by decide +kernel
theorem dX9_explanationSource_40 : decode cX9_explanationSource 40 = .ok (.iload 5, 2) := by decide +kernel
theorem dX9_explanationSource_42 : decode cX9_explanationSource 42 = .ok (.invokestatic 201, 3) := by decide +kernel
theorem dX9_explanationSource_45 : decode cX9_explanationSource 45 = .ok (.ireturn, 1) := by decide +kernel
set_option maxHeartbeats 4000000 in
set_option maxRecDepth 100000 in
theorem c_X9_explanationSource {l : Launch} {g : Gh} {w : Wd} {k0 : Nat} {v_location : Int32} {v_object : Int32} {v_step : Int32} {rz : Int32} (hF : f_X9_explanationSource w k0 v_location v_object v_step = some rz) (hk0 : zct zC k0 = 9) : Met l yX9_explanationSource (Cond.code yX9_explanationSource cX9_explanationSource 6 (some .int) :: TT) (rmd 4) (Pcw zC g w [.ref (g.2.2 k0), .int (v_location), .int (v_object), .int (v_step)]) (Qw zC g w (some (.int (rz)))) 0 0 (zA zC g) := by
  refine mt_start (by decide) (Nat.le_of_ble_eq_true rfl) ?_
  intro p e s m args below meth c H locs ls X hr hl hH
  have hx := X.1
  have hb := X.2.1
  have hml := X.2.2.1
  have hown := X.2.2.2.1
  have ht := X.2.2.2.2.1
  have hl : lv_has ls 6 [(0, .ref (g.2.2 (k0))), (1, .int (v_location)), (2, .int (v_object)), (3, .int (v_step))] := hl
  unfold f_X9_explanationSource at hF
  refine lv_aload_n hx hb dX9_explanationSource_0 rfl (lv_at hl 0 rfl) ?_
  refine lv_iload_n hx hb dX9_explanationSource_1 rfl (lv_at hl 1 rfl) ?_
  refine lv_iload_n hx hb dX9_explanationSource_2 rfl (lv_at hl 2 rfl) ?_
  refine lv_iload_n hx hb dX9_explanationSource_3 rfl (lv_at hl 3 rfl) ?_
  obtain ⟨x1, h1, hF⟩ := ob hF
  refine w_callV (As := [.int (v_location), .int (v_object), .int (v_step)]) (k := k0) (rest := []) (st1 := [.int (x1)]) X hH (c_X9_findStep (l := l) (g := g) (w := w) (k0 := k0) (v_location := v_location) (v_object := v_object) (v_step := v_step) h1 hk0) (Or.inl tw_3_125) ms_X9_findStep im_X9_findStep hk0 cn_9 ⟨Nat.le_of_ble_eq_true rfl, Nat.le_of_ble_eq_true rfl⟩ rfl rfl hl.1 (Nat.le_of_ble_eq_true rfl) dX9_explanationSource_4 ⟨Nat.le_refl _, Nat.le_refl _⟩ rfl (fun H locs hH => ?_)
  refine lv_istore (lv' := [(4, .int (x1)), (0, .ref (g.2.2 (k0))), (1, .int (v_location)), (2, .int (v_object)), (3, .int (v_step))]) hx hb dX9_explanationSource_7 hl (by decide) rfl (fun ls hl => ?_)
  refine lv_iload hx hb dX9_explanationSource_9 (lv_at hl 0 rfl) ?_
  refine w_zlt_f (tgt := 17) hx hb dX9_explanationSource_11 (by decide) (fun c2 => ?_) (fun c2 => ?_)
  · replace hF := ifn c2 hF
    refine lv_aload_n hx hb dX9_explanationSource_17 rfl (lv_at hl 1 rfl) ?_
    refine w_getr X hH hk0 fs_9_6 lk_9_47 dX9_explanationSource_18 ?_
    refine w_getr X hH (rt_C_9_6 hk0) fs_7_7 lk_9_198 dX9_explanationSource_21 ?_
    refine lv_iload hx hb dX9_explanationSource_24 (lv_at hl 0 rfl) ?_
    obtain ⟨x3, h3, hF⟩ := ob hF
    refine w_iald X hH h3 (rt_C_7_7 (rt_C_9_6 hk0)) dX9_explanationSource_26 ?_
    refine lv_istore (lv' := [(5, .int (x3)), (4, .int (x1)), (0, .ref (g.2.2 (k0))), (1, .int (v_location)), (2, .int (v_object)), (3, .int (v_step))]) hx hb dX9_explanationSource_27 hl (by decide) rfl (fun ls hl => ?_)
    refine lv_iload hx hb dX9_explanationSource_29 (lv_at hl 0 rfl) ?_
    refine lv_iconst (v := (-1 : Int32)) hx hb dX9_explanationSource_31 (by decide) ?_
    have J4 : ∀ (H : Heap) (locs : List Loc), HW zC g w s.heap H locs → W p l e (rmd 4) s m args below meth c H locs 0 0 (MQ below (Qw zC g w (some (.int (rz)))) args s 0 0 (zA zC g)) (F0 m 45 ls [.int ((if x3 = (-1 : Int32) then (-2 : Int32) else (f_X9_locationOf (x3))))]) := by
      intro H locs hH
      obtain rfl := se1 hF
      exact w_iret X hH hr dX9_explanationSource_45
    refine w_ieq_f (tgt := 40) hx hb dX9_explanationSource_32 (by decide) (fun c5 => ?_) (fun c5 => ?_)
    · refine lv_iload hx hb dX9_explanationSource_40 (lv_at hl 0 rfl) ?_
      refine w_callS (As := [.int (x3)]) (rest := []) (st1 := [.int ((f_X9_locationOf (x3)))]) X hH (c_X9_locationOf (l := l) (g := g) (w := w) (v_slot := x3) rfl) (Or.inl tw_3_133) ms_X9_locationOf tw_3_134 ⟨Nat.le_of_ble_eq_true rfl, Nat.le_of_ble_eq_true rfl⟩ rfl rfl hl.1 (Nat.le_of_ble_eq_true rfl) dX9_explanationSource_42 ⟨Nat.le_refl _, Nat.le_refl _⟩ rfl (fun H locs hH => ?_)
      exact w_in c5 (J4 _ _ hH)
    · refine lv_bipush (v := (-2 : Int32)) hx hb dX9_explanationSource_35 (by decide) ?_
      refine lv_goto (tgt := 45) hx hb dX9_explanationSource_37 (by decide) ?_
      exact w_ip c5 (J4 _ _ hH)
  · replace hF := ifp c2 hF
    refine lv_iload hx hb dX9_explanationSource_14 (lv_at hl 0 rfl) ?_
    obtain rfl := se1 hF
    exact w_iret X hH hr dX9_explanationSource_16

theorem dX9_explanationVia_0 : decode cX9_explanationVia 0 = .ok (.aload_n 0, 1) := by decide +kernel
theorem dX9_explanationVia_1 : decode cX9_explanationVia 1 = .ok (.iload_n 1, 1) := by decide +kernel
theorem dX9_explanationVia_2 : decode cX9_explanationVia 2 = .ok (.iload_n 2, 1) := by decide +kernel
theorem dX9_explanationVia_3 : decode cX9_explanationVia 3 = .ok (.iload_n 3, 1) := by decide +kernel
theorem dX9_explanationVia_4 : decode cX9_explanationVia 4 = .ok (.invokevirtual 191, 3) := by decide +kernel
theorem dX9_explanationVia_7 : decode cX9_explanationVia 7 = .ok (.istore 4, 2) := by decide +kernel
theorem dX9_explanationVia_9 : decode cX9_explanationVia 9 = .ok (.iload 4, 2) := by decide +kernel
theorem dX9_explanationVia_11 : decode cX9_explanationVia 11 = .ok (.ifCond .ge 6, 3) := by decide +kernel
theorem dX9_explanationVia_14 : decode cX9_explanationVia 14 = .ok (.iload 4, 2) := by decide +kernel
theorem dX9_explanationVia_16 : decode cX9_explanationVia 16 = .ok (.ireturn, 1) := by decide +kernel
theorem dX9_explanationVia_17 : decode cX9_explanationVia 17 = .ok (.aload_n 0, 1) := by decide +kernel
theorem dX9_explanationVia_18 : decode cX9_explanationVia 18 = .ok (.getfield 47, 3) := by decide +kernel
theorem dX9_explanationVia_21 : decode cX9_explanationVia 21 = .ok (.getfield 204, 3) := by decide +kernel
theorem dX9_explanationVia_24 : decode cX9_explanationVia 24 = .ok (.iload 4, 2) := by decide +kernel
theorem dX9_explanationVia_26 : decode cX9_explanationVia 26 = .ok (.iaload, 1) := by decide +kernel
theorem dX9_explanationVia_27 : decode cX9_explanationVia 27 = .ok (.istore 5, 2) := by decide +kernel
theorem dX9_explanationVia_29 : decode cX9_explanationVia 29 = .ok (.iload 5, 2) := by decide +kernel
theorem dX9_explanationVia_31 : decode cX9_explanationVia 31 = .ok (.iconst (-1), 1) := by decide +kernel
theorem dX9_explanationVia_32 : decode cX9_explanationVia 32 = .ok (.if_icmp .ne 8, 3) := by decide +kernel
theorem dX9_explanationVia_35 : decode cX9_explanationVia 35 = .ok (.bipush (-2), 2) := by decide +kernel
theorem dX9_explanationVia_37 : decode cX9_explanationVia 37 = .ok (.goto 5, 3) := by decide +kernel
theorem dX9_explanationVia_40 : decode cX9_explanationVia 40 = .ok (.iload 5, 2) := by decide +kernel
theorem dX9_explanationVia_42 : decode cX9_explanationVia 42 = .ok (.ireturn, 1) := by decide +kernel
set_option maxHeartbeats 4000000 in
set_option maxRecDepth 100000 in
theorem c_X9_explanationVia {l : Launch} {g : Gh} {w : Wd} {k0 : Nat} {v_location : Int32} {v_object : Int32} {v_step : Int32} {rz : Int32} (hF : f_X9_explanationVia w k0 v_location v_object v_step = some rz) (hk0 : zct zC k0 = 9) : Met l yX9_explanationVia (Cond.code yX9_explanationVia cX9_explanationVia 6 (some .int) :: TT) (rmd 4) (Pcw zC g w [.ref (g.2.2 k0), .int (v_location), .int (v_object), .int (v_step)]) (Qw zC g w (some (.int (rz)))) 0 0 (zA zC g) := by
  refine mt_start (by decide) (Nat.le_of_ble_eq_true rfl) ?_
  intro p e s m args below meth c H locs ls X hr hl hH
  have hx := X.1
  have hb := X.2.1
  have hml := X.2.2.1
  have hown := X.2.2.2.1
  have ht := X.2.2.2.2.1
  have hl : lv_has ls 6 [(0, .ref (g.2.2 (k0))), (1, .int (v_location)), (2, .int (v_object)), (3, .int (v_step))] := hl
  unfold f_X9_explanationVia at hF
  refine lv_aload_n hx hb dX9_explanationVia_0 rfl (lv_at hl 0 rfl) ?_
  refine lv_iload_n hx hb dX9_explanationVia_1 rfl (lv_at hl 1 rfl) ?_
  refine lv_iload_n hx hb dX9_explanationVia_2 rfl (lv_at hl 2 rfl) ?_
  refine lv_iload_n hx hb dX9_explanationVia_3 rfl (lv_at hl 3 rfl) ?_
  obtain ⟨x1, h1, hF⟩ := ob hF
  refine w_callV (As := [.int (v_location), .int (v_object), .int (v_step)]) (k := k0) (rest := []) (st1 := [.int (x1)]) X hH (c_X9_findStep (l := l) (g := g) (w := w) (k0 := k0) (v_location := v_location) (v_object := v_object) (v_step := v_step) h1 hk0) (Or.inl tw_3_125) ms_X9_findStep im_X9_findStep hk0 cn_9 ⟨Nat.le_of_ble_eq_true rfl, Nat.le_of_ble_eq_true rfl⟩ rfl rfl hl.1 (Nat.le_of_ble_eq_true rfl) dX9_explanationVia_4 ⟨Nat.le_refl _, Nat.le_refl _⟩ rfl (fun H locs hH => ?_)
  refine lv_istore (lv' := [(4, .int (x1)), (0, .ref (g.2.2 (k0))), (1, .int (v_location)), (2, .int (v_object)), (3, .int (v_step))]) hx hb dX9_explanationVia_7 hl (by decide) rfl (fun ls hl => ?_)
  refine lv_iload hx hb dX9_explanationVia_9 (lv_at hl 0 rfl) ?_
  refine w_zlt_f (tgt := 17) hx hb dX9_explanationVia_11 (by decide) (fun c2 => ?_) (fun c2 => ?_)
  · replace hF := ifn c2 hF
    refine lv_aload_n hx hb dX9_explanationVia_17 rfl (lv_at hl 1 rfl) ?_
    refine w_getr X hH hk0 fs_9_6 lk_9_47 dX9_explanationVia_18 ?_
    refine w_getr X hH (rt_C_9_6 hk0) fs_7_8 lk_9_204 dX9_explanationVia_21 ?_
    refine lv_iload hx hb dX9_explanationVia_24 (lv_at hl 0 rfl) ?_
    obtain ⟨x3, h3, hF⟩ := ob hF
    refine w_iald X hH h3 (rt_C_7_8 (rt_C_9_6 hk0)) dX9_explanationVia_26 ?_
    refine lv_istore (lv' := [(5, .int (x3)), (4, .int (x1)), (0, .ref (g.2.2 (k0))), (1, .int (v_location)), (2, .int (v_object)), (3, .int (v_step))]) hx hb dX9_explanationVia_27 hl (by decide) rfl (fun ls hl => ?_)
    refine lv_iload hx hb dX9_explanationVia_29 (lv_at hl 0 rfl) ?_
    refine lv_iconst (v := (-1 : Int32)) hx hb dX9_explanationVia_31 (by decide) ?_
    have J4 : ∀ (H : Heap) (locs : List Loc), HW zC g w s.heap H locs → W p l e (rmd 4) s m args below meth c H locs 0 0 (MQ below (Qw zC g w (some (.int (rz)))) args s 0 0 (zA zC g)) (F0 m 42 ls [.int ((if x3 = (-1 : Int32) then (-2 : Int32) else x3))]) := by
      intro H locs hH
      obtain rfl := se1 hF
      exact w_iret X hH hr dX9_explanationVia_42
    refine w_ieq_f (tgt := 40) hx hb dX9_explanationVia_32 (by decide) (fun c5 => ?_) (fun c5 => ?_)
    · refine lv_iload hx hb dX9_explanationVia_40 (lv_at hl 0 rfl) ?_
      exact w_in c5 (J4 _ _ hH)
    · refine lv_bipush (v := (-2 : Int32)) hx hb dX9_explanationVia_35 (by decide) ?_
      refine lv_goto (tgt := 42) hx hb dX9_explanationVia_37 (by decide) ?_
      exact w_ip c5 (J4 _ _ hH)
  · replace hF := ifp c2 hF
    refine lv_iload hx hb dX9_explanationVia_14 (lv_at hl 0 rfl) ?_
    obtain rfl := se1 hF
    exact w_iret X hH hr dX9_explanationVia_16

theorem dX9_proof_0 : decode cX9_proof 0 = .ok (.aload_n 0, 1) := by decide +kernel
theorem dX9_proof_1 : decode cX9_proof 1 = .ok (.iload_n 1, 1) := by decide +kernel
theorem dX9_proof_2 : decode cX9_proof 2 = .ok (.iload_n 2, 1) := by decide +kernel
theorem dX9_proof_3 : decode cX9_proof 3 = .ok (.invokevirtual 175, 3) := by decide +kernel
theorem dX9_proof_6 : decode cX9_proof 6 = .ok (.istore_n 3, 1) := by decide +kernel
theorem dX9_proof_7 : decode cX9_proof 7 = .ok (.iload_n 3, 1) := by decide +kernel
theorem dX9_proof_8 : decode cX9_proof 8 = .ok (.ifCond .ge 15, 3) := by decide +kernel
theorem dX9_proof_11 : decode cX9_proof 11 = .ok (.iload_n 3, 1) := by decide +kernel
theorem dX9_proof_12 : decode cX9_proof 12 = .ok (.bipush (-2), 2) := by decide +kernel
theorem dX9_proof_14 : decode cX9_proof 14 = .ok (.if_icmp .ne 7, 3) := by decide +kernel
theorem dX9_proof_17 : decode cX9_proof 17 = .ok (.iconst 0, 1) := by decide +kernel
theorem dX9_proof_18 : decode cX9_proof 18 = .ok (.goto 4, 3) := by decide +kernel
theorem dX9_proof_21 : decode cX9_proof 21 = .ok (.iconst (-1), 1) := by decide +kernel
theorem dX9_proof_22 : decode cX9_proof 22 = .ok (.ireturn, 1) := by decide +kernel
theorem dX9_proof_23 : decode cX9_proof 23 = .ok (.aload_n 0, 1) := by decide +kernel
theorem dX9_proof_24 : decode cX9_proof 24 = .ok (.getfield 47, 3) := by decide +kernel
theorem dX9_proof_27 : decode cX9_proof 27 = .ok (.getfield 207, 3) := by decide +kernel
theorem dX9_proof_30 : decode cX9_proof 30 = .ok (.iload_n 3, 1) := by decide +kernel
theorem dX9_proof_31 : decode cX9_proof 31 = .ok (.iaload, 1) := by decide +kernel
theorem dX9_proof_32 : decode cX9_proof 32 = .ok (.ireturn, 1) := by decide +kernel
set_option maxHeartbeats 4000000 in
set_option maxRecDepth 100000 in
theorem c_X9_proof {l : Launch} {g : Gh} {w : Wd} {k0 : Nat} {v_location : Int32} {v_object : Int32} {rz : Int32} (hF : f_X9_proof w k0 v_location v_object = some rz) (hk0 : zct zC k0 = 9) : Met l yX9_proof (Cond.code yX9_proof cX9_proof 4 (some .int) :: TT) (rmd 3) (Pcw zC g w [.ref (g.2.2 k0), .int (v_location), .int (v_object)]) (Qw zC g w (some (.int (rz)))) 0 0 (zA zC g) := by
  refine mt_start (by decide) (Nat.le_of_ble_eq_true rfl) ?_
  intro p e s m args below meth c H locs ls X hr hl hH
  have hx := X.1
  have hb := X.2.1
  have hml := X.2.2.1
  have hown := X.2.2.2.1
  have ht := X.2.2.2.2.1
  have hl : lv_has ls 4 [(0, .ref (g.2.2 (k0))), (1, .int (v_location)), (2, .int (v_object))] := hl
  unfold f_X9_proof at hF
  refine lv_aload_n hx hb dX9_proof_0 rfl (lv_at hl 0 rfl) ?_
  refine lv_iload_n hx hb dX9_proof_1 rfl (lv_at hl 1 rfl) ?_
  refine lv_iload_n hx hb dX9_proof_2 rfl (lv_at hl 2 rfl) ?_
  obtain ⟨x1, h1, hF⟩ := ob hF
  refine w_callV (As := [.int (v_location), .int (v_object)]) (k := k0) (rest := []) (st1 := [.int (x1)]) X hH (c_X9_findFact (l := l) (g := g) (w := w) (k0 := k0) (v_location := v_location) (v_object := v_object) h1 hk0) (Or.inl tw_3_103) ms_X9_findFact im_X9_findFact hk0 cn_9 ⟨Nat.le_of_ble_eq_true rfl, Nat.le_of_ble_eq_true rfl⟩ rfl rfl hl.1 (Nat.le_of_ble_eq_true rfl) dX9_proof_3 ⟨Nat.le_refl _, Nat.le_refl _⟩ rfl (fun H locs hH => ?_)
  refine lv_istore_n (lv' := [(3, .int (x1)), (0, .ref (g.2.2 (k0))), (1, .int (v_location)), (2, .int (v_object))]) hx hb dX9_proof_6 rfl hl (by decide) rfl (fun ls hl => ?_)
  refine lv_iload_n hx hb dX9_proof_7 rfl (lv_at hl 0 rfl) ?_
  refine w_zlt_f (tgt := 23) hx hb dX9_proof_8 (by decide) (fun c2 => ?_) (fun c2 => ?_)
  · replace hF := ifn c2 hF
    refine lv_aload_n hx hb dX9_proof_23 rfl (lv_at hl 1 rfl) ?_
    refine w_getr X hH hk0 fs_9_6 lk_9_47 dX9_proof_24 ?_
    refine w_getr X hH (rt_C_9_6 hk0) fs_7_10 lk_9_207 dX9_proof_27 ?_
    refine lv_iload_n hx hb dX9_proof_30 rfl (lv_at hl 0 rfl) ?_
    obtain ⟨x3, h3, hF⟩ := ob hF
    refine w_iald X hH h3 (rt_C_7_10 (rt_C_9_6 hk0)) dX9_proof_31 ?_
    obtain rfl := se1 hF
    exact w_iret X hH hr dX9_proof_32
  · replace hF := ifp c2 hF
    refine lv_iload_n hx hb dX9_proof_11 rfl (lv_at hl 0 rfl) ?_
    refine lv_bipush (v := (-2 : Int32)) hx hb dX9_proof_12 (by decide) ?_
    have J4 : ∀ (H : Heap) (locs : List Loc), HW zC g w s.heap H locs → W p l e (rmd 3) s m args below meth c H locs 0 0 (MQ below (Qw zC g w (some (.int (rz)))) args s 0 0 (zA zC g)) (F0 m 22 ls [.int ((if x1 = (-2 : Int32) then (0 : Int32) else (-1 : Int32)))]) := by
      intro H locs hH
      obtain rfl := se1 hF
      exact w_iret X hH hr dX9_proof_22
    refine w_ieq_f (tgt := 21) hx hb dX9_proof_14 (by decide) (fun c5 => ?_) (fun c5 => ?_)
    · refine lv_iconst (v := (-1 : Int32)) hx hb dX9_proof_21 (by decide) ?_
      exact w_in c5 (J4 _ _ hH)
    · refine lv_iconst (v := (0 : Int32)) hx hb dX9_proof_17 (by decide) ?_
      refine lv_goto (tgt := 22) hx hb dX9_proof_18 (by decide) ?_
      exact w_ip c5 (J4 _ _ hH)

theorem dX8_widen_0 : decode cX8_widen 0 = .ok (.iload_n 2, 1) := by decide +kernel
theorem dX8_widen_1 : decode cX8_widen 1 = .ok (.aload_n 0, 1) := by decide +kernel
theorem dX8_widen_2 : decode cX8_widen 2 = .ok (.getfield 9, 3) := by decide +kernel
theorem dX8_widen_5 : decode cX8_widen 5 = .ok (.iload_n 1, 1) := by decide +kernel
theorem dX8_widen_6 : decode cX8_widen 6 = .ok (.iaload, 1) := by decide +kernel
theorem dX8_widen_7 : decode cX8_widen 7 = .ok (.iconst (-1), 1) := by decide +kernel
theorem dX8_widen_8 : decode cX8_widen 8 = .ok (.ixor, 1) := by decide +kernel
theorem dX8_widen_9 : decode cX8_widen 9 = .ok (.iand, 1) := by decide +kernel
theorem dX8_widen_10 : decode cX8_widen 10 = .ok (.ifCond .ne 5, 3) := by decide +kernel
theorem dX8_widen_13 : decode cX8_widen 13 = .ok (.iconst 0, 1) := by decide +kernel
theorem dX8_widen_14 : decode cX8_widen 14 = .ok (.ireturn, 1) := by decide +kernel
theorem dX8_widen_15 : decode cX8_widen 15 = .ok (.aload_n 0, 1) := by decide +kernel
theorem dX8_widen_16 : decode cX8_widen 16 = .ok (.getfield 9, 3) := by decide +kernel
theorem dX8_widen_19 : decode cX8_widen 19 = .ok (.iload_n 1, 1) := by decide +kernel
theorem dX8_widen_20 : decode cX8_widen 20 = .ok (.dup2, 1) := by decide +kernel
theorem dX8_widen_21 : decode cX8_widen 21 = .ok (.iaload, 1) := by decide +kernel
theorem dX8_widen_22 : decode cX8_widen 22 = .ok (.iload_n 2, 1) := by decide +kernel
theorem dX8_widen_23 : decode cX8_widen 23 = .ok (.ior, 1) := by decide +kernel
theorem dX8_widen_24 : decode cX8_widen 24 = .ok (.iastore, 1) := by decide +kernel
theorem dX8_widen_25 : decode cX8_widen 25 = .ok (.iconst 1, 1) := by decide +kernel
theorem dX8_widen_26 : decode cX8_widen 26 = .ok (.ireturn, 1) := by decide +kernel
set_option maxHeartbeats 4000000 in
set_option maxRecDepth 100000 in
theorem c_X8_widen {l : Launch} {g : Gh} {w : Wd} {k0 : Nat} {v_slot : Int32} {v_objects : Int32} {rz : Bool} {wz : Wd} (hF : f_X8_widen w k0 v_slot v_objects = some (rz, wz)) (hk0 : zct zC k0 = 8) : Met l yX8_widen (Cond.code yX8_widen cX8_widen 3 (some .boolean) :: TT) (rmd 0) (Pcw zC g w [.ref (g.2.2 k0), .int (v_slot), .int (v_objects)]) (Qw zC g wz (some (.int (bI (rz))))) 0 0 (zA zC g) := by
  refine mt_start (by decide) (Nat.le_of_ble_eq_true rfl) ?_
  intro p e s m args below meth c H locs ls X hr hl hH
  have hx := X.1
  have hb := X.2.1
  have hml := X.2.2.1
  have hown := X.2.2.2.1
  have ht := X.2.2.2.2.1
  have hl : lv_has ls 3 [(0, .ref (g.2.2 (k0))), (1, .int (v_slot)), (2, .int (v_objects))] := hl
  unfold f_X8_widen at hF
  refine lv_iload_n hx hb dX8_widen_0 rfl (lv_at hl 2 rfl) ?_
  refine lv_aload_n hx hb dX8_widen_1 rfl (lv_at hl 0 rfl) ?_
  refine w_getr X hH hk0 fs_8_0 lk_8_9 dX8_widen_2 ?_
  refine lv_iload_n hx hb dX8_widen_5 rfl (lv_at hl 1 rfl) ?_
  obtain ⟨x1, h1, hF⟩ := ob hF
  refine w_iald X hH h1 (rt_C_8_0 hk0) dX8_widen_6 ?_
  refine lv_iconst (v := (-1 : Int32)) hx hb dX8_widen_7 (by decide) ?_
  refine lv_ixor hx hb dX8_widen_8 ?_
  refine lv_iand hx hb dX8_widen_9 ?_
  refine w_zeq_f (tgt := 15) hx hb dX8_widen_10 (by decide) (fun c2 => ?_) (fun c2 => ?_)
  · replace hF := ifn c2 hF
    refine lv_aload_n hx hb dX8_widen_15 rfl (lv_at hl 0 rfl) ?_
    refine w_getr X hH hk0 fs_8_0 lk_8_9 dX8_widen_16 ?_
    refine lv_iload_n hx hb dX8_widen_19 rfl (lv_at hl 1 rfl) ?_
    refine lv_dup2_11 hx hb dX8_widen_20 rfl rfl ?_
    obtain ⟨x3, h3, hF⟩ := ob hF
    refine w_iald X hH h3 (rt_C_8_0 hk0) dX8_widen_21 ?_
    refine lv_iload_n hx hb dX8_widen_22 rfl (lv_at hl 2 rfl) ?_
    refine lv_ior hx hb dX8_widen_23 ?_
    obtain ⟨w4, h4, hF⟩ := ob hF
    refine w_iast X hH h4 (rt_C_8_0 hk0) dX8_widen_24 (fun H locs hH => ?_)
    refine lv_iconst (v := bI true) hx hb dX8_widen_25 (by decide) ?_
    obtain ⟨rfl, rfl⟩ := se2 hF
    exact w_zret X hH hr dX8_widen_26
  · replace hF := ifp c2 hF
    refine lv_iconst (v := bI false) hx hb dX8_widen_13 (by decide) ?_
    obtain ⟨rfl, rfl⟩ := se2 hF
    exact w_zret X hH hr dX8_widen_14

theorem dX8_apply_0 : decode cX8_apply 0 = .ok (.aload_n 1, 1) := by decide +kernel
theorem dX8_apply_1 : decode cX8_apply 1 = .ok (.getfield 21, 3) := by decide +kernel
theorem dX8_apply_4 : decode cX8_apply 4 = .ok (.getfield 41, 3) := by decide +kernel
theorem dX8_apply_7 : decode cX8_apply 7 = .ok (.iload_n 2, 1) := by decide +kernel
theorem dX8_apply_8 : decode cX8_apply 8 = .ok (.iaload, 1) := by decide +kernel
theorem dX8_apply_9 : decode cX8_apply 9 = .ok (.ifCond .ne 30, 3) := by decide +kernel
theorem dX8_apply_12 : decode cX8_apply 12 = .ok (.aload_n 1, 1) := by decide +kernel
theorem dX8_apply_13 : decode cX8_apply 13 = .ok (.getfield 21, 3) := by decide +kernel
theorem dX8_apply_16 : decode cX8_apply 16 = .ok (.getfield 44, 3) := by decide +kernel
theorem dX8_apply_19 : decode cX8_apply 19 = .ok (.iload_n 2, 1) := by decide +kernel
theorem dX8_apply_20 : decode cX8_apply 20 = .ok (.iaload, 1) := by decide +kernel
theorem dX8_apply_21 : decode cX8_apply 21 = .ok (.istore_n 3, 1) := by decide +kernel
theorem dX8_apply_22 : decode cX8_apply 22 = .ok (.aload_n 0, 1) := by decide +kernel
theorem dX8_apply_23 : decode cX8_apply 23 = .ok (.aload_n 1, 1) := by decide +kernel
theorem dX8_apply_24 : decode cX8_apply 24 = .ok (.getfield 21, 3) := by decide +kernel
theorem dX8_apply_27 : decode cX8_apply 27 = .ok (.getfield 47, 3) := by decide +kernel
theorem dX8_apply_30 : decode cX8_apply 30 = .ok (.iload_n 2, 1) := by decide +kernel
theorem dX8_apply_31 : decode cX8_apply 31 = .ok (.iaload, 1) := by decide +kernel
theorem dX8_apply_32 : decode cX8_apply 32 = .ok (.iconst 1, 1) := by decide +kernel
theorem dX8_apply_33 : decode cX8_apply 33 = .ok (.iload_n 3, 1) := by decide +kernel
theorem dX8_apply_34 : decode cX8_apply 34 = .ok (.ishl, 1) := by decide +kernel
theorem dX8_apply_35 : decode cX8_apply 35 = .ok (.invokevirtual 50, 3) := by decide +kernel
theorem dX8_apply_38 : decode cX8_apply 38 = .ok (.ireturn, 1) := by decide +kernel
theorem dX8_apply_39 : decode cX8_apply 39 = .ok (.aload_n 1, 1) := by decide +kernel
theorem dX8_apply_40 : decode cX8_apply 40 = .ok (.aload_n 0, 1) := by decide +kernel
theorem dX8_apply_41 : decode cX8_apply 41 = .ok (.getfield 9, 3) := by decide +kernel
theorem dX8_apply_44 : decode cX8_apply 44 = .ok (.iload_n 2, 1) := by decide +kernel
theorem dX8_apply_45 : decode cX8_apply 45 = .ok (.invokevirtual 53, 3) := by decide +kernel
theorem dX8_apply_48 : decode cX8_apply 48 = .ok (.istore_n 3, 1) := by decide +kernel
theorem dX8_apply_49 : decode cX8_apply 49 = .ok (.iconst 0, 1) := by decide +kernel
theorem dX8_apply_50 : decode cX8_apply 50 = .ok (.istore 4, 2) := by decide +kernel
theorem dX8_apply_52 : decode cX8_apply 52 = .ok (.iconst 0, 1) := by decide +kernel
theorem dX8_apply_53 : decode cX8_apply 53 = .ok (.istore 5, 2) := by decide +kernel
theorem dX8_apply_55 : decode cX8_apply 55 = .ok (.iload 5, 2) := by decide +kernel
theorem dX8_apply_57 : decode cX8_apply 57 = .ok (.bipush 10, 2) := by decide +kernel
theorem dX8_apply_59 : decode cX8_apply 59 = .ok (.if_icmp .ge 74, 3) := by decide +kernel
theorem dX8_apply_62 : decode cX8_apply 62 = .ok (.iload_n 3, 1) := by decide +kernel
theorem dX8_apply_63 : decode cX8_apply 63 = .ok (.iload 5, 2) := by decide +kernel
theorem dX8_apply_65 : decode cX8_apply 65 = .ok (.invokestatic 33, 3) := by decide +kernel
theorem dX8_apply_68 : decode cX8_apply 68 = .ok (.ifCond .eq 59, 3) := by decide +kernel
theorem dX8_apply_71 : decode cX8_apply 71 = .ok (.iconst 0, 1) := by decide +kernel
theorem dX8_apply_72 : decode cX8_apply 72 = .ok (.istore 6, 2) := by decide +kernel
theorem dX8_apply_74 : decode cX8_apply 74 = .ok (.iload 6, 2) := by decide +kernel
theorem dX8_apply_76 : decode cX8_apply 76 = .ok (.aload_n 1, 1) := by decide +kernel
theorem dX8_apply_77 : decode cX8_apply 77 = .ok (.iload_n 2, 1) := by decide +kernel
theorem dX8_apply_78 : decode cX8_apply 78 = .ok (.invokevirtual 57, 3) := by decide +kernel
theorem dX8_apply_81 : decode cX8_apply 81 = .ok (.if_icmp .ge 46, 3) := by decide +kernel
theorem dX8_apply_84 : decode cX8_apply 84 = .ok (.aload_n 1, 1) := by decide +kernel
theorem dX8_apply_85 : decode cX8_apply 85 = .ok (.iload_n 2, 1) := by decide +kernel
theorem dX8_apply_86 : decode cX8_apply 86 = .ok (.iload 5, 2) := by decide +kernel
theorem dX8_apply_88 : decode cX8_apply 88 = .ok (.iload 6, 2) := by decide +kernel
theorem dX8_apply_90 : decode cX8_apply 90 = .ok (.invokevirtual 61, 3) := by decide +kernel
theorem dX8_apply_93 : decode cX8_apply 93 = .ok (.istore 7, 2) := by decide +kernel
theorem dX8_apply_95 : decode cX8_apply 95 = .ok (.aload_n 0, 1) := by decide +kernel
theorem dX8_apply_96 : decode cX8_apply 96 = .ok (.aload_n 1, 1) := by decide +kernel
theorem dX8_apply_97 : decode cX8_apply 97 = .ok (.iload_n 2, 1) := by decide +kernel
theorem dX8_apply_98 : decode cX8_apply 98 = .ok (.iload 5, 2) := by decide +kernel
theorem dX8_apply_100 : decode cX8_apply 100 = .ok (.iload 6, 2) := by decide +kernel
theorem dX8_apply_102 : decode cX8_apply 102 = .ok (.invokevirtual 65, 3) := by decide +kernel
theorem dX8_apply_105 : decode cX8_apply 105 = .ok (.aload_n 0, 1) := by decide +kernel
theorem dX8_apply_106 : decode cX8_apply 106 = .ok (.getfield 9, 3) := by decide +kernel
theorem dX8_apply_109 : decode cX8_apply 109 = .ok (.iload 7, 2) := by decide +kernel
theorem dX8_apply_111 : decode cX8_apply 111 = .ok (.iaload, 1) := by decide +kernel
theorem dX8_apply_112 : decode cX8_apply 112 = .ok (.invokevirtual 50, 3) := by decide +kernel
theorem dX8_apply_115 : decode cX8_apply 115 = .ok (.ifCond .eq 6, 3) := by decide +kernel
theorem dX8_apply_118 : decode cX8_apply 118 = .ok (.iconst 1, 1) := by decide +kernel
theorem dX8_apply_119 : decode cX8_apply 119 = .ok (.istore 4, 2) := by decide +kernel
theorem dX8_apply_121 : decode cX8_apply 121 = .ok (.iinc 6 1, 3) := by decide +kernel
theorem dX8_apply_124 : decode cX8_apply 124 = .ok (.goto (-50), 3) := by decide +kernel
theorem dX8_apply_127 : decode cX8_apply 127 = .ok (.iinc 5 1, 3) := by decide +kernel
theorem dX8_apply_130 : decode cX8_apply 130 = .ok (.goto (-75), 3) := by decide +kernel
theorem dX8_apply_133 : decode cX8_apply 133 = .ok (.iload 4, 2) := by decide +kernel
theorem dX8_apply_135 : decode cX8_apply 135 = .ok (.ireturn, 1) := by decide +kernel
set_option maxHeartbeats 4000000 in
set_option maxRecDepth 100000 in
theorem c_X8_apply {l : Launch} {g : Gh} {w : Wd} {k0 : Nat} {v_program : Nat} {v_constraint : Int32} {rz : Bool} {wz : Wd} (hF : f_X8_apply w k0 v_program v_constraint = some (rz, wz)) (hk0 : zct zC k0 = 8) (hv_program : zct zC v_program = 6) : Met l yX8_apply (Cond.code yX8_apply cX8_apply 8 (some .boolean) :: TT) (rmd 2) (Pcw zC g w [.ref (g.2.2 k0), .ref (g.2.2 (v_program)), .int (v_constraint)]) (Qw zC g wz (some (.int (bI (rz))))) 0 0 (zA zC g) := by
  refine mt_start (by decide) (Nat.le_of_ble_eq_true rfl) ?_
  intro p e s m args below meth c H locs ls X hr hl hH
  have hx := X.1
  have hb := X.2.1
  have hml := X.2.2.1
  have hown := X.2.2.2.1
  have ht := X.2.2.2.2.1
  have hl : lv_has ls 8 [(0, .ref (g.2.2 (k0))), (1, .ref (g.2.2 (v_program))), (2, .int (v_constraint))] := hl
  unfold f_X8_apply at hF
  refine lv_aload_n hx hb dX8_apply_0 rfl (lv_at hl 1 rfl) ?_
  refine w_getr X hH hv_program fs_6_6 lk_8_21 dX8_apply_1 ?_
  refine w_getr X hH (rt_C_6_6 hv_program) fs_0_0 lk_8_41 dX8_apply_4 ?_
  refine lv_iload_n hx hb dX8_apply_7 rfl (lv_at hl 2 rfl) ?_
  obtain ⟨x1, h1, hF⟩ := ob hF
  refine w_iald X hH h1 (rt_C_0_0 (rt_C_6_6 hv_program)) dX8_apply_8 ?_
  refine w_zeq_f (tgt := 39) hx hb dX8_apply_9 (by decide) (fun c2 => ?_) (fun c2 => ?_)
  · replace hF := ifn c2 hF
    refine lv_aload_n hx hb dX8_apply_39 rfl (lv_at hl 1 rfl) ?_
    refine lv_aload_n hx hb dX8_apply_40 rfl (lv_at hl 0 rfl) ?_
    refine w_getr X hH hk0 fs_8_0 lk_8_9 dX8_apply_41 ?_
    refine lv_iload_n hx hb dX8_apply_44 rfl (lv_at hl 2 rfl) ?_
    obtain ⟨x3, h3, hF⟩ := ob hF
    refine w_callV (As := [.ref (g.2.2 ((zrf zC (k0) 0))), .int (v_constraint)]) (k := v_program) (rest := []) (st1 := [.int (x3)]) X hH (c_X6_viasIn (l := l) (g := g) (w := w) (k0 := v_program) (v_sets := (zrf zC (k0) 0)) (v_constraint := v_constraint) h3 hv_program (rt_C_8_0 hk0)) (Or.inr ⟨_, tw_3_162⟩) ms_X6_viasIn im_X6_viasIn hv_program cn_6 ⟨Nat.le_of_ble_eq_true rfl, Nat.le_of_ble_eq_true rfl⟩ rfl rfl hl.1 (Nat.le_of_ble_eq_true rfl) dX8_apply_45 ⟨Nat.le_refl _, Nat.le_refl _⟩ rfl (fun H locs hH => ?_)
    refine lv_istore_n (lv' := [(3, .int (x3)), (0, .ref (g.2.2 (k0))), (1, .ref (g.2.2 (v_program))), (2, .int (v_constraint))]) hx hb dX8_apply_48 rfl hl (by decide) rfl (fun ls hl => ?_)
    refine lv_iconst (v := bI false) hx hb dX8_apply_49 (by decide) ?_
    refine lv_istore (lv' := [(4, .int (bI (false))), (3, .int (x3)), (0, .ref (g.2.2 (k0))), (1, .ref (g.2.2 (v_program))), (2, .int (v_constraint))]) hx hb dX8_apply_50 hl (by decide) rfl (fun ls hl => ?_)
    refine lv_iconst (v := (0 : Int32)) hx hb dX8_apply_52 (by decide) ?_
    refine lv_istore (lv' := [(5, .int ((0 : Int32))), (4, .int (bI (false))), (3, .int (x3)), (0, .ref (g.2.2 (k0))), (1, .ref (g.2.2 (v_program))), (2, .int (v_constraint))]) hx hb dX8_apply_53 hl (by decide) rfl (fun ls hl => ?_)
    obtain ⟨r5, hLr5, hF⟩ := ob hF
    have Jr5 : ∀ (H : Heap) (locs : List Loc) (ls : Array Slot), HW zC g r5.2 s.heap H locs → lv_has ls 8 [(0, .ref (g.2.2 (k0))), (1, .ref (g.2.2 (v_program))), (2, .int (v_constraint)), (3, .int (x3)), (4, .int (bI (r5.1)))] → W p l e (rmd 2) s m args below meth c H locs 0 0 (MQ below (Qw zC g wz (some (.int (bI (rz))))) args s 0 0 (zA zC g)) (F0 m 133 ls []) := by
      intro H locs ls hH hl
      refine lv_iload hx hb dX8_apply_133 (lv_at hl 4 rfl) ?_
      obtain ⟨rfl, rfl⟩ := se2 hF
      exact w_zret X hH hr dX8_apply_135
    have Lr5 : ∀ (n : Nat) (s4 : Bool × Int32 × Wd), lp (b_X8_apply_1 x3 v_program v_constraint k0) n s4 = some r5 → ∀ (H : Heap) (locs : List Loc) (ls : Array Slot), HW zC g s4.2.2 s.heap H locs → lv_has ls 8 [(0, .ref (g.2.2 (k0))), (1, .ref (g.2.2 (v_program))), (2, .int (v_constraint)), (3, .int (x3)), (4, .int (bI (s4.1))), (5, .int (s4.2.1))] → W p l e (rmd 2) s m args below meth c H locs 0 0 (MQ below (Qw zC g wz (some (.int (bI (rz))))) args s 0 0 (zA zC g)) (F0 m 55 ls []) := by
      intro n
      induction n with
      | zero => intro s4 hL; exact lp_0 hL
      | succ n ih =>
        intro s4 hL H locs ls hH hl
        obtain ⟨bb, hF, hL⟩ := lp_s hL
        unfold b_X8_apply_1 at hF
        refine lv_iload hx hb dX8_apply_55 (lv_at hl 5 rfl) ?_
        refine lv_bipush (v := (10 : Int32)) hx hb dX8_apply_57 (by decide) ?_
        refine w_ilt_f (tgt := 133) hx hb dX8_apply_59 (by decide) (fun c6 => ?_) (fun c6 => ?_)
        · replace hF := ifn c6 hF
          obtain rfl := se1 hF
          subst hL
          exact Jr5 _ _ _ hH (lv_sub hl [0, 1, 2, 3, 4] rfl)
        · replace hF := ifp c6 hF
          obtain ⟨s7, hs7, hF⟩ := ob hF
          have Js7 : ∀ (H : Heap) (locs : List Loc) (ls : Array Slot), HW zC g s7.2 s.heap H locs → lv_has ls 8 [(0, .ref (g.2.2 (k0))), (1, .ref (g.2.2 (v_program))), (2, .int (v_constraint)), (3, .int (x3)), (4, .int (bI (s7.1))), (5, .int (s4.2.1))] → W p l e (rmd 2) s m args below meth c H locs 0 0 (MQ below (Qw zC g wz (some (.int (bI (rz))))) args s 0 0 (zA zC g)) (F0 m 127 ls []) := by
            intro H locs ls hH hl
            refine lv_iinc (v := (s4.2.1 + (1 : Int32))) (lv' := [(5, .int ((s4.2.1 + (1 : Int32)))), (0, .ref (g.2.2 (k0))), (1, .ref (g.2.2 (v_program))), (2, .int (v_constraint)), (3, .int (x3)), (4, .int (bI (s7.1)))]) hx hb dX8_apply_127 hl (k := 5) rfl rfl (by decide) rfl (fun ls hl => ?_)
            refine lv_goto (tgt := 55) hx hb dX8_apply_130 (by decide) ?_
            obtain rfl := se1 hF
            exact ih _ hL _ _ _ hH (lv_sub hl [1, 2, 3, 4, 5, 0] rfl)
          have hF := hs7
          refine lv_iload_n hx hb dX8_apply_62 rfl (lv_at hl 3 rfl) ?_
          refine lv_iload hx hb dX8_apply_63 (lv_at hl 5 rfl) ?_
          refine w_callS (As := [.int (x3), .int (s4.2.1)]) (rest := []) (st1 := [.int (bI ((f_X9_contains (x3) (s4.2.1))))]) X hH (c_X9_contains (l := l) (g := g) (w := s4.2.2) (v_set := x3) (v_number := s4.2.1) rfl) (Or.inr ⟨_, tw_3_153⟩) ms_X9_contains tw_2_174 ⟨Nat.le_of_ble_eq_true rfl, Nat.le_of_ble_eq_true rfl⟩ rfl rfl hl.1 (Nat.le_of_ble_eq_true rfl) dX8_apply_65 ⟨Nat.le_refl _, Nat.le_refl _⟩ rfl (fun H locs hH => ?_)
          refine w_b_f (tgt := 127) hx hb dX8_apply_68 (by decide) (fun c8 => ?_) (fun c8 => ?_)
          · replace hF := ifn c8 hF
            obtain rfl := se1 hF
            exact Js7 _ _ _ hH (lv_sub hl [0, 1, 2, 3, 4, 5] rfl)
          · replace hF := ifp c8 hF
            refine lv_iconst (v := (0 : Int32)) hx hb dX8_apply_71 (by decide) ?_
            refine lv_istore (lv' := [(6, .int ((0 : Int32))), (0, .ref (g.2.2 (k0))), (1, .ref (g.2.2 (v_program))), (2, .int (v_constraint)), (3, .int (x3)), (4, .int (bI (s4.1))), (5, .int (s4.2.1))]) hx hb dX8_apply_72 hl (by decide) rfl (fun ls hl => ?_)
            obtain ⟨r10, hLr10, hF⟩ := ob hF
            have Jr10 : ∀ (H : Heap) (locs : List Loc) (ls : Array Slot), HW zC g r10.2 s.heap H locs → lv_has ls 8 [(0, .ref (g.2.2 (k0))), (1, .ref (g.2.2 (v_program))), (2, .int (v_constraint)), (3, .int (x3)), (4, .int (bI (r10.1))), (5, .int (s4.2.1))] → W p l e (rmd 2) s m args below meth c H locs 0 0 (MQ below (Qw zC g wz (some (.int (bI (rz))))) args s 0 0 (zA zC g)) (F0 m 127 ls []) := by
              intro H locs ls hH hl
              obtain rfl := se1 hF
              exact Js7 _ _ _ hH (lv_sub hl [0, 1, 2, 3, 4, 5] rfl)
            have Lr10 : ∀ (n : Nat) (s9 : Bool × Int32 × Wd), lp (b_X8_apply_2 v_program v_constraint s4 k0) n s9 = some r10 → ∀ (H : Heap) (locs : List Loc) (ls : Array Slot), HW zC g s9.2.2 s.heap H locs → lv_has ls 8 [(0, .ref (g.2.2 (k0))), (1, .ref (g.2.2 (v_program))), (2, .int (v_constraint)), (3, .int (x3)), (4, .int (bI (s9.1))), (5, .int (s4.2.1)), (6, .int (s9.2.1))] → W p l e (rmd 2) s m args below meth c H locs 0 0 (MQ below (Qw zC g wz (some (.int (bI (rz))))) args s 0 0 (zA zC g)) (F0 m 74 ls []) := by
              intro n
              induction n with
              | zero => intro s9 hL; exact lp_0 hL
              | succ n ih =>
                intro s9 hL H locs ls hH hl
                obtain ⟨bb, hF, hL⟩ := lp_s hL
                unfold b_X8_apply_2 at hF
                refine lv_iload hx hb dX8_apply_74 (lv_at hl 6 rfl) ?_
                refine lv_aload_n hx hb dX8_apply_76 rfl (lv_at hl 1 rfl) ?_
                refine lv_iload_n hx hb dX8_apply_77 rfl (lv_at hl 2 rfl) ?_
                obtain ⟨x11, h11, hF⟩ := ob hF
                refine w_callV (As := [.int (v_constraint)]) (k := v_program) (rest := [.int (s9.2.1)]) (st1 := [.int (x11), .int (s9.2.1)]) X hH (c_X6_flowCount (l := l) (g := g) (w := s9.2.2) (k0 := v_program) (v_constraint := v_constraint) h11 hv_program) (Or.inr ⟨_, tw_3_163⟩) ms_X6_flowCount im_X6_flowCount hv_program cn_6 ⟨Nat.le_of_ble_eq_true rfl, Nat.le_of_ble_eq_true rfl⟩ rfl rfl hl.1 (Nat.le_of_ble_eq_true rfl) dX8_apply_78 ⟨Nat.le_refl _, Nat.le_refl _⟩ rfl (fun H locs hH => ?_)
                refine w_ilt_f (tgt := 127) hx hb dX8_apply_81 (by decide) (fun c12 => ?_) (fun c12 => ?_)
                · replace hF := ifn c12 hF
                  obtain rfl := se1 hF
                  subst hL
                  exact Jr10 _ _ _ hH (lv_sub hl [0, 1, 2, 3, 4, 5] rfl)
                · replace hF := ifp c12 hF
                  refine lv_aload_n hx hb dX8_apply_84 rfl (lv_at hl 1 rfl) ?_
                  refine lv_iload_n hx hb dX8_apply_85 rfl (lv_at hl 2 rfl) ?_
                  refine lv_iload hx hb dX8_apply_86 (lv_at hl 5 rfl) ?_
                  refine lv_iload hx hb dX8_apply_88 (lv_at hl 6 rfl) ?_
                  obtain ⟨x13, h13, hF⟩ := ob hF
                  refine w_callV (As := [.int (v_constraint), .int (s4.2.1), .int (s9.2.1)]) (k := v_program) (rest := []) (st1 := [.int (x13)]) X hH (c_X6_flowSource (l := l) (g := g) (w := s9.2.2) (k0 := v_program) (v_constraint := v_constraint) (v_via := s4.2.1) (v_flow := s9.2.1) h13 hv_program) (Or.inr ⟨_, tw_3_164⟩) ms_X6_flowSource im_X6_flowSource hv_program cn_6 ⟨Nat.le_of_ble_eq_true rfl, Nat.le_of_ble_eq_true rfl⟩ rfl rfl hl.1 (Nat.le_of_ble_eq_true rfl) dX8_apply_90 ⟨Nat.le_refl _, Nat.le_refl _⟩ rfl (fun H locs hH => ?_)
                  refine lv_istore (lv' := [(7, .int (x13)), (0, .ref (g.2.2 (k0))), (1, .ref (g.2.2 (v_program))), (2, .int (v_constraint)), (3, .int (x3)), (4, .int (bI (s9.1))), (5, .int (s4.2.1)), (6, .int (s9.2.1))]) hx hb dX8_apply_93 hl (by decide) rfl (fun ls hl => ?_)
                  obtain ⟨s14, hs14, hF⟩ := ob hF
                  have Js14 : ∀ (H : Heap) (locs : List Loc) (ls : Array Slot), HW zC g s14.2 s.heap H locs → lv_has ls 8 [(0, .ref (g.2.2 (k0))), (1, .ref (g.2.2 (v_program))), (2, .int (v_constraint)), (3, .int (x3)), (4, .int (bI (s14.1))), (5, .int (s4.2.1)), (6, .int (s9.2.1)), (7, .int (x13))] → W p l e (rmd 2) s m args below meth c H locs 0 0 (MQ below (Qw zC g wz (some (.int (bI (rz))))) args s 0 0 (zA zC g)) (F0 m 121 ls []) := by
                    intro H locs ls hH hl
                    refine lv_iinc (v := (s9.2.1 + (1 : Int32))) (lv' := [(6, .int ((s9.2.1 + (1 : Int32)))), (0, .ref (g.2.2 (k0))), (1, .ref (g.2.2 (v_program))), (2, .int (v_constraint)), (3, .int (x3)), (4, .int (bI (s14.1))), (5, .int (s4.2.1)), (7, .int (x13))]) hx hb dX8_apply_121 hl (k := 6) rfl rfl (by decide) rfl (fun ls hl => ?_)
                    refine lv_goto (tgt := 74) hx hb dX8_apply_124 (by decide) ?_
                    obtain rfl := se1 hF
                    exact ih _ hL _ _ _ hH (lv_sub hl [1, 2, 3, 4, 5, 6, 0] rfl)
                  have hF := hs14
                  refine lv_aload_n hx hb dX8_apply_95 rfl (lv_at hl 1 rfl) ?_
                  refine lv_aload_n hx hb dX8_apply_96 rfl (lv_at hl 2 rfl) ?_
                  refine lv_iload_n hx hb dX8_apply_97 rfl (lv_at hl 3 rfl) ?_
                  refine lv_iload hx hb dX8_apply_98 (lv_at hl 6 rfl) ?_
                  refine lv_iload hx hb dX8_apply_100 (lv_at hl 7 rfl) ?_
                  obtain ⟨x15, h15, hF⟩ := ob hF
                  refine w_callV (As := [.int (v_constraint), .int (s4.2.1), .int (s9.2.1)]) (k := v_program) (rest := [.ref (g.2.2 (k0))]) (st1 := [.int (x15), .ref (g.2.2 (k0))]) X hH (c_X6_flowTarget (l := l) (g := g) (w := s9.2.2) (k0 := v_program) (v_constraint := v_constraint) (v_via := s4.2.1) (v_flow := s9.2.1) h15 hv_program) (Or.inr ⟨_, tw_3_165⟩) ms_X6_flowTarget im_X6_flowTarget hv_program cn_6 ⟨Nat.le_of_ble_eq_true rfl, Nat.le_of_ble_eq_true rfl⟩ rfl rfl hl.1 (Nat.le_of_ble_eq_true rfl) dX8_apply_102 ⟨Nat.le_refl _, Nat.le_refl _⟩ rfl (fun H locs hH => ?_)
                  refine lv_aload_n hx hb dX8_apply_105 rfl (lv_at hl 1 rfl) ?_
                  refine w_getr X hH hk0 fs_8_0 lk_8_9 dX8_apply_106 ?_
                  refine lv_iload hx hb dX8_apply_109 (lv_at hl 0 rfl) ?_
                  obtain ⟨x16, h16, hF⟩ := ob hF
                  refine w_iald X hH h16 (rt_C_8_0 hk0) dX8_apply_111 ?_
                  obtain ⟨x17, h17, hF⟩ := ob hF
                  refine w_callV (As := [.int (x15), .int (x16)]) (k := k0) (rest := []) (st1 := [.int (bI (x17.1))]) X hH (c_X8_widen (l := l) (g := g) (w := s9.2.2) (k0 := k0) (v_slot := x15) (v_objects := x16) h17 hk0) (Or.inl tw_3_158) ms_X8_widen im_X8_widen hk0 cn_8 ⟨Nat.le_of_ble_eq_true rfl, Nat.le_of_ble_eq_true rfl⟩ rfl rfl hl.1 (Nat.le_of_ble_eq_true rfl) dX8_apply_112 ⟨Nat.le_refl _, Nat.le_refl _⟩ rfl (fun H locs hH => ?_)
                  refine w_b_f (tgt := 121) hx hb dX8_apply_115 (by decide) (fun c18 => ?_) (fun c18 => ?_)
                  · replace hF := ifn c18 hF
                    obtain rfl := se1 hF
                    exact Js14 _ _ _ hH (lv_sub hl [1, 2, 3, 4, 5, 6, 7, 0] rfl)
                  · replace hF := ifp c18 hF
                    refine lv_iconst (v := bI true) hx hb dX8_apply_118 (by decide) ?_
                    refine lv_istore (lv' := [(4, .int (bI (true))), (7, .int (x13)), (0, .ref (g.2.2 (k0))), (1, .ref (g.2.2 (v_program))), (2, .int (v_constraint)), (3, .int (x3)), (5, .int (s4.2.1)), (6, .int (s9.2.1))]) hx hb dX8_apply_119 hl (by decide) rfl (fun ls hl => ?_)
                    obtain rfl := se1 hF
                    exact Js14 _ _ _ hH (lv_sub hl [2, 3, 4, 5, 0, 6, 7, 1] rfl)
            exact Lr10 NF _ hLr10 _ _ _ hH (lv_sub hl [1, 2, 3, 4, 5, 6, 0] rfl)
    exact Lr5 NF _ hLr5 _ _ _ hH (lv_sub hl [3, 4, 5, 2, 1, 0] rfl)
  · replace hF := ifp c2 hF
    refine lv_aload_n hx hb dX8_apply_12 rfl (lv_at hl 1 rfl) ?_
    refine w_getr X hH hv_program fs_6_6 lk_8_21 dX8_apply_13 ?_
    refine w_getr X hH (rt_C_6_6 hv_program) fs_0_2 lk_8_44 dX8_apply_16 ?_
    refine lv_iload_n hx hb dX8_apply_19 rfl (lv_at hl 2 rfl) ?_
    obtain ⟨x19, h19, hF⟩ := ob hF
    refine w_iald X hH h19 (rt_C_0_2 (rt_C_6_6 hv_program)) dX8_apply_20 ?_
    refine lv_istore_n (lv' := [(3, .int (x19)), (0, .ref (g.2.2 (k0))), (1, .ref (g.2.2 (v_program))), (2, .int (v_constraint))]) hx hb dX8_apply_21 rfl hl (by decide) rfl (fun ls hl => ?_)
    refine lv_aload_n hx hb dX8_apply_22 rfl (lv_at hl 1 rfl) ?_
    refine lv_aload_n hx hb dX8_apply_23 rfl (lv_at hl 2 rfl) ?_
    refine w_getr X hH hv_program fs_6_6 lk_8_21 dX8_apply_24 ?_
    refine w_getr X hH (rt_C_6_6 hv_program) fs_0_1 lk_8_47 dX8_apply_27 ?_
    refine lv_iload_n hx hb dX8_apply_30 rfl (lv_at hl 3 rfl) ?_
    obtain ⟨x20, h20, hF⟩ := ob hF
    refine w_iald X hH h20 (rt_C_0_1 (rt_C_6_6 hv_program)) dX8_apply_31 ?_
    refine lv_iconst (v := (1 : Int32)) hx hb dX8_apply_32 (by decide) ?_
    refine lv_iload_n hx hb dX8_apply_33 rfl (lv_at hl 0 rfl) ?_
    refine w_ishl hx hb dX8_apply_34 ?_
    obtain ⟨x21, h21, hF⟩ := ob hF
    refine w_callV (As := [.int (x20), .int ((jshl ((1 : Int32)) (x19)))]) (k := k0) (rest := []) (st1 := [.int (bI (x21.1))]) X hH (c_X8_widen (l := l) (g := g) (w := w) (k0 := k0) (v_slot := x20) (v_objects := (jshl ((1 : Int32)) (x19))) h21 hk0) (Or.inl tw_3_158) ms_X8_widen im_X8_widen hk0 cn_8 ⟨Nat.le_of_ble_eq_true rfl, Nat.le_of_ble_eq_true rfl⟩ rfl rfl hl.1 (Nat.le_of_ble_eq_true rfl) dX8_apply_35 ⟨Nat.le_refl _, Nat.le_refl _⟩ rfl (fun H locs hH => ?_)
    obtain ⟨rfl, rfl⟩ := se2 hF
    exact w_zret X hH hr dX8_apply_38

theorem dX8_solve_0 : decode cX8_solve 0 = .ok (.aload_n 0, 1) := by decide +kernel
theorem dX8_solve_1 : decode cX8_solve 1 = .ok (.getfield 9, 3) := by decide +kernel
theorem dX8_solve_4 : decode cX8_solve 4 = .ok (.iconst 0, 1) := by decide +kernel
theorem dX8_solve_5 : decode cX8_solve 5 = .ok (.invokestatic 15, 3) := by decide +kernel
theorem dX8_solve_8 : decode cX8_solve 8 = .ok (.iconst 1, 1) := by decide +kernel
theorem dX8_solve_9 : decode cX8_solve 9 = .ok (.istore_n 3, 1) := by decide +kernel
theorem dX8_solve_10 : decode cX8_solve 10 = .ok (.iconst 0, 1) := by decide +kernel
theorem dX8_solve_11 : decode cX8_solve 11 = .ok (.istore 4, 2) := by decide +kernel
theorem dX8_solve_13 : decode cX8_solve 13 = .ok (.iload_n 3, 1) := by decide +kernel
theorem dX8_solve_14 : decode cX8_solve 14 = .ok (.ifCond .eq 61, 3) := by decide +kernel
theorem dX8_solve_17 : decode cX8_solve 17 = .ok (.iload 4, 2) := by decide +kernel
theorem dX8_solve_19 : decode cX8_solve 19 = .ok (.sipush 560, 3) := by decide +kernel
theorem dX8_solve_22 : decode cX8_solve 22 = .ok (.if_icmp .gt 53, 3) := by decide +kernel
theorem dX8_solve_25 : decode cX8_solve 25 = .ok (.iconst 0, 1) := by decide +kernel
theorem dX8_solve_26 : decode cX8_solve 26 = .ok (.istore_n 3, 1) := by decide +kernel
theorem dX8_solve_27 : decode cX8_solve 27 = .ok (.iconst 0, 1) := by decide +kernel
theorem dX8_solve_28 : decode cX8_solve 28 = .ok (.istore 5, 2) := by decide +kernel
theorem dX8_solve_30 : decode cX8_solve 30 = .ok (.iload 5, 2) := by decide +kernel
theorem dX8_solve_32 : decode cX8_solve 32 = .ok (.aload_n 1, 1) := by decide +kernel
theorem dX8_solve_33 : decode cX8_solve 33 = .ok (.getfield 21, 3) := by decide +kernel
theorem dX8_solve_36 : decode cX8_solve 36 = .ok (.getfield 27, 3) := by decide +kernel
theorem dX8_solve_39 : decode cX8_solve 39 = .ok (.if_icmp .ge 30, 3) := by decide +kernel
theorem dX8_solve_42 : decode cX8_solve 42 = .ok (.iload_n 2, 1) := by decide +kernel
theorem dX8_solve_43 : decode cX8_solve 43 = .ok (.iload 5, 2) := by decide +kernel
theorem dX8_solve_45 : decode cX8_solve 45 = .ok (.invokestatic 33, 3) := by decide +kernel
theorem dX8_solve_48 : decode cX8_solve 48 = .ok (.ifCond .eq 15, 3) := by decide +kernel
theorem dX8_solve_51 : decode cX8_solve 51 = .ok (.aload_n 0, 1) := by decide +kernel
theorem dX8_solve_52 : decode cX8_solve 52 = .ok (.aload_n 1, 1) := by decide +kernel
theorem dX8_solve_53 : decode cX8_solve 53 = .ok (.iload 5, 2) := by decide +kernel
theorem dX8_solve_55 : decode cX8_solve 55 = .ok (.invokevirtual 37, 3) := by decide +kernel
theorem dX8_solve_58 : decode cX8_solve 58 = .ok (.ifCond .eq 5, 3) := by decide +kernel
theorem dX8_solve_61 : decode cX8_solve 61 = .ok (.iconst 1, 1) := by decide +kernel
theorem dX8_solve_62 : decode cX8_solve 62 = .ok (.istore_n 3, 1) := by decide +kernel
theorem dX8_solve_63 : decode cX8_solve 63 = .ok (.iinc 5 1, 3) := by decide +kernel
theorem dX8_solve_66 : decode cX8_solve 66 = .ok (.goto (-36), 3) := by decide +kernel
theorem dX8_solve_69 : decode cX8_solve 69 = .ok (.iinc 4 1, 3) := by decide +kernel
theorem dX8_solve_72 : decode cX8_solve 72 = .ok (.goto (-59), 3) := by decide +kernel
theorem dX8_solve_75 : decode cX8_solve 75 = .ok (.return_, 1) := by decide +kernel
set_option maxHeartbeats 4000000 in
set_option maxRecDepth 100000 in
theorem c_X8_solve {l : Launch} {g : Gh} {w : Wd} {k0 : Nat} {v_program : Nat} {v_enabled : Int32} {wz : Wd} (hF : f_X8_solve w k0 v_program v_enabled = some wz) (hk0 : zct zC k0 = 8) (hv_program : zct zC v_program = 6) : Met l yX8_solve (Cond.code yX8_solve cX8_solve 6 none :: TT) (rmd 3) (Pcw zC g w [.ref (g.2.2 k0), .ref (g.2.2 (v_program)), .int (v_enabled)]) (Qw zC g wz none) 0 0 (zA zC g) := by
  refine mt_start (by decide) (Nat.le_of_ble_eq_true rfl) ?_
  intro p e s m args below meth c H locs ls X hr hl hH
  have hx := X.1
  have hb := X.2.1
  have hml := X.2.2.1
  have hown := X.2.2.2.1
  have ht := X.2.2.2.2.1
  have hl : lv_has ls 6 [(0, .ref (g.2.2 (k0))), (1, .ref (g.2.2 (v_program))), (2, .int (v_enabled))] := hl
  unfold f_X8_solve at hF
  refine lv_aload_n hx hb dX8_solve_0 rfl (lv_at hl 0 rfl) ?_
  refine w_getr X hH hk0 fs_8_0 lk_8_9 dX8_solve_1 ?_
  refine lv_iconst (v := (0 : Int32)) hx hb dX8_solve_4 (by decide) ?_
  obtain ⟨w1, h1, hF⟩ := ob hF
  refine w_callS (As := [.ref (g.2.2 ((zrf zC (k0) 0))), .int ((0 : Int32))]) (rest := []) (st1 := []) X hH (c_J7_fill (l := l) (g := g) (w := w) (v_a := (zrf zC (k0) 0)) (v_val := (0 : Int32)) h1 (rt_C_8_0 hk0)) (Or.inl tw_3_152) ms_J7_fill tw_2_202 ⟨Nat.le_of_ble_eq_true rfl, Nat.le_of_ble_eq_true rfl⟩ rfl rfl hl.1 (Nat.le_of_ble_eq_true rfl) dX8_solve_5 ⟨Nat.le_refl _, Nat.le_refl _⟩ rfl (fun H locs hH => ?_)
  refine lv_iconst (v := bI true) hx hb dX8_solve_8 (by decide) ?_
  refine lv_istore_n (lv' := [(3, .int (bI (true))), (0, .ref (g.2.2 (k0))), (1, .ref (g.2.2 (v_program))), (2, .int (v_enabled))]) hx hb dX8_solve_9 rfl hl (by decide) rfl (fun ls hl => ?_)
  refine lv_iconst (v := (0 : Int32)) hx hb dX8_solve_10 (by decide) ?_
  refine lv_istore (lv' := [(4, .int ((0 : Int32))), (3, .int (bI (true))), (0, .ref (g.2.2 (k0))), (1, .ref (g.2.2 (v_program))), (2, .int (v_enabled))]) hx hb dX8_solve_11 hl (by decide) rfl (fun ls hl => ?_)
  obtain ⟨r3, hLr3, hF⟩ := ob hF
  have Jr3 : ∀ (H : Heap) (locs : List Loc) (ls : Array Slot), HW zC g r3.2 s.heap H locs → lv_has ls 6 [(0, .ref (g.2.2 (k0))), (1, .ref (g.2.2 (v_program))), (2, .int (v_enabled)), (3, .int (bI (r3.1)))] → W p l e (rmd 3) s m args below meth c H locs 0 0 (MQ below (Qw zC g wz none) args s 0 0 (zA zC g)) (F0 m 75 ls []) := by
    intro H locs ls hH hl
    obtain rfl := se1 hF
    exact w_vret X hH hr dX8_solve_75
  have Lr3 : ∀ (n : Nat) (s2 : Bool × Int32 × Wd), lp (b_X8_solve_1 v_program v_enabled k0) n s2 = some r3 → ∀ (H : Heap) (locs : List Loc) (ls : Array Slot), HW zC g s2.2.2 s.heap H locs → lv_has ls 6 [(0, .ref (g.2.2 (k0))), (1, .ref (g.2.2 (v_program))), (2, .int (v_enabled)), (3, .int (bI (s2.1))), (4, .int (s2.2.1))] → W p l e (rmd 3) s m args below meth c H locs 0 0 (MQ below (Qw zC g wz none) args s 0 0 (zA zC g)) (F0 m 13 ls []) := by
    intro n
    induction n with
    | zero => intro s2 hL; exact lp_0 hL
    | succ n ih =>
      intro s2 hL H locs ls hH hl
      obtain ⟨bb, hF, hL⟩ := lp_s hL
      unfold b_X8_solve_1 at hF
      refine lv_iload_n hx hb dX8_solve_13 rfl (lv_at hl 3 rfl) ?_
      have J4T : (s2.1 = true) ∧ (s2.2.1 ≤ (560 : Int32)) → ∀ (H : Heap) (locs : List Loc), HW zC g s2.2.2 s.heap H locs → W p l e (rmd 3) s m args below meth c H locs 0 0 (MQ below (Qw zC g wz none) args s 0 0 (zA zC g)) (F0 m 25 ls []) := by
        intro hc H locs hH
        replace hF := ifp hc hF
        refine lv_iconst (v := bI false) hx hb dX8_solve_25 (by decide) ?_
        refine lv_istore_n (lv' := [(3, .int (bI (false))), (0, .ref (g.2.2 (k0))), (1, .ref (g.2.2 (v_program))), (2, .int (v_enabled)), (4, .int (s2.2.1))]) hx hb dX8_solve_26 rfl hl (by decide) rfl (fun ls hl => ?_)
        refine lv_iconst (v := (0 : Int32)) hx hb dX8_solve_27 (by decide) ?_
        refine lv_istore (lv' := [(5, .int ((0 : Int32))), (3, .int (bI (false))), (0, .ref (g.2.2 (k0))), (1, .ref (g.2.2 (v_program))), (2, .int (v_enabled)), (4, .int (s2.2.1))]) hx hb dX8_solve_28 hl (by decide) rfl (fun ls hl => ?_)
        obtain ⟨r8, hLr8, hF⟩ := ob hF
        have Jr8 : ∀ (H : Heap) (locs : List Loc) (ls : Array Slot), HW zC g r8.2 s.heap H locs → lv_has ls 6 [(0, .ref (g.2.2 (k0))), (1, .ref (g.2.2 (v_program))), (2, .int (v_enabled)), (3, .int (bI (r8.1))), (4, .int (s2.2.1))] → W p l e (rmd 3) s m args below meth c H locs 0 0 (MQ below (Qw zC g wz none) args s 0 0 (zA zC g)) (F0 m 69 ls []) := by
          intro H locs ls hH hl
          refine lv_iinc (v := (s2.2.1 + (1 : Int32))) (lv' := [(4, .int ((s2.2.1 + (1 : Int32)))), (0, .ref (g.2.2 (k0))), (1, .ref (g.2.2 (v_program))), (2, .int (v_enabled)), (3, .int (bI (r8.1)))]) hx hb dX8_solve_69 hl (k := 4) rfl rfl (by decide) rfl (fun ls hl => ?_)
          refine lv_goto (tgt := 13) hx hb dX8_solve_72 (by decide) ?_
          obtain rfl := se1 hF
          exact ih _ hL _ _ _ hH (lv_sub hl [1, 2, 3, 4, 0] rfl)
        have Lr8 : ∀ (n : Nat) (s7 : Bool × Int32 × Wd), lp (b_X8_solve_2 v_program v_enabled k0) n s7 = some r8 → ∀ (H : Heap) (locs : List Loc) (ls : Array Slot), HW zC g s7.2.2 s.heap H locs → lv_has ls 6 [(0, .ref (g.2.2 (k0))), (1, .ref (g.2.2 (v_program))), (2, .int (v_enabled)), (3, .int (bI (s7.1))), (4, .int (s2.2.1)), (5, .int (s7.2.1))] → W p l e (rmd 3) s m args below meth c H locs 0 0 (MQ below (Qw zC g wz none) args s 0 0 (zA zC g)) (F0 m 30 ls []) := by
          intro n
          induction n with
          | zero => intro s7 hL; exact lp_0 hL
          | succ n ih =>
            intro s7 hL H locs ls hH hl
            obtain ⟨bb, hF, hL⟩ := lp_s hL
            unfold b_X8_solve_2 at hF
            refine lv_iload hx hb dX8_solve_30 (lv_at hl 5 rfl) ?_
            refine lv_aload_n hx hb dX8_solve_32 rfl (lv_at hl 1 rfl) ?_
            refine w_getr X hH hv_program fs_6_6 lk_8_21 dX8_solve_33 ?_
            refine w_geti X hH (rt_C_6_6 hv_program) fs_0_4 lk_8_27 dX8_solve_36 ?_
            refine w_ilt_f (tgt := 69) hx hb dX8_solve_39 (by decide) (fun c9 => ?_) (fun c9 => ?_)
            · replace hF := ifn c9 hF
              obtain rfl := se1 hF
              subst hL
              exact Jr8 _ _ _ hH (lv_sub hl [0, 1, 2, 3, 4] rfl)
            · replace hF := ifp c9 hF
              obtain ⟨s10, hs10, hF⟩ := ob hF
              have Js10 : ∀ (H : Heap) (locs : List Loc) (ls : Array Slot), HW zC g s10.2 s.heap H locs → lv_has ls 6 [(0, .ref (g.2.2 (k0))), (1, .ref (g.2.2 (v_program))), (2, .int (v_enabled)), (3, .int (bI (s10.1))), (4, .int (s2.2.1)), (5, .int (s7.2.1))] → W p l e (rmd 3) s m args below meth c H locs 0 0 (MQ below (Qw zC g wz none) args s 0 0 (zA zC g)) (F0 m 63 ls []) := by
                intro H locs ls hH hl
                refine lv_iinc (v := (s7.2.1 + (1 : Int32))) (lv' := [(5, .int ((s7.2.1 + (1 : Int32)))), (0, .ref (g.2.2 (k0))), (1, .ref (g.2.2 (v_program))), (2, .int (v_enabled)), (3, .int (bI (s10.1))), (4, .int (s2.2.1))]) hx hb dX8_solve_63 hl (k := 5) rfl rfl (by decide) rfl (fun ls hl => ?_)
                refine lv_goto (tgt := 30) hx hb dX8_solve_66 (by decide) ?_
                obtain rfl := se1 hF
                exact ih _ hL _ _ _ hH (lv_sub hl [1, 2, 3, 4, 5, 0] rfl)
              have hF := hs10
              obtain ⟨b11, hb11, hF⟩ := ob hF
              have Jb11T : b11.1 = true → ∀ (H : Heap) (locs : List Loc), HW zC g b11.2 s.heap H locs → W p l e (rmd 3) s m args below meth c H locs 0 0 (MQ below (Qw zC g wz none) args s 0 0 (zA zC g)) (F0 m 61 ls []) := by
                intro hc H locs hH
                replace hF := ifp hc hF
                refine lv_iconst (v := bI true) hx hb dX8_solve_61 (by decide) ?_
                refine lv_istore_n (lv' := [(3, .int (bI (true))), (0, .ref (g.2.2 (k0))), (1, .ref (g.2.2 (v_program))), (2, .int (v_enabled)), (4, .int (s2.2.1)), (5, .int (s7.2.1))]) hx hb dX8_solve_62 rfl hl (by decide) rfl (fun ls hl => ?_)
                obtain rfl := se1 hF
                exact Js10 _ _ _ hH (lv_sub hl [1, 2, 3, 0, 4, 5] rfl)
              have Jb11F : ¬ (b11.1 = true) → ∀ (H : Heap) (locs : List Loc), HW zC g b11.2 s.heap H locs → W p l e (rmd 3) s m args below meth c H locs 0 0 (MQ below (Qw zC g wz none) args s 0 0 (zA zC g)) (F0 m 63 ls []) := by
                intro hc H locs hH
                replace hF := ifn hc hF
                obtain rfl := se1 hF
                exact Js10 _ _ _ hH (lv_sub hl [0, 1, 2, 3, 4, 5] rfl)
              have hF := hb11
              refine lv_iload_n hx hb dX8_solve_42 rfl (lv_at hl 2 rfl) ?_
              refine lv_iload hx hb dX8_solve_43 (lv_at hl 5 rfl) ?_
              refine w_callS (As := [.int (v_enabled), .int (s7.2.1)]) (rest := []) (st1 := [.int (bI ((f_X9_contains (v_enabled) (s7.2.1))))]) X hH (c_X9_contains (l := l) (g := g) (w := s7.2.2) (v_set := v_enabled) (v_number := s7.2.1) rfl) (Or.inr ⟨_, tw_3_153⟩) ms_X9_contains tw_2_174 ⟨Nat.le_of_ble_eq_true rfl, Nat.le_of_ble_eq_true rfl⟩ rfl rfl hl.1 (Nat.le_of_ble_eq_true rfl) dX8_solve_45 ⟨Nat.le_refl _, Nat.le_refl _⟩ rfl (fun H locs hH => ?_)
              refine w_b_f (tgt := 63) hx hb dX8_solve_48 (by decide) (fun c12 => ?_) (fun c12 => ?_)
              · replace hF := ifn c12 hF
                obtain rfl := se1 hF
                exact Jb11F Bool.false_ne_true _ _ hH
              · replace hF := ifp c12 hF
                refine lv_aload_n hx hb dX8_solve_51 rfl (lv_at hl 0 rfl) ?_
                refine lv_aload_n hx hb dX8_solve_52 rfl (lv_at hl 1 rfl) ?_
                refine lv_iload hx hb dX8_solve_53 (lv_at hl 5 rfl) ?_
                obtain ⟨x14, h14, hF⟩ := ob hF
                refine w_callV (As := [.ref (g.2.2 (v_program)), .int (s7.2.1)]) (k := k0) (rest := []) (st1 := [.int (bI (x14.1))]) X hH (c_X8_apply (l := l) (g := g) (w := s7.2.2) (k0 := k0) (v_program := v_program) (v_constraint := s7.2.1) h14 hk0 hv_program) (Or.inl tw_3_154) ms_X8_apply im_X8_apply hk0 cn_8 ⟨Nat.le_of_ble_eq_true rfl, Nat.le_of_ble_eq_true rfl⟩ rfl rfl hl.1 (Nat.le_of_ble_eq_true rfl) dX8_solve_55 ⟨Nat.le_refl _, Nat.le_refl _⟩ rfl (fun H locs hH => ?_)
                refine w_b_f (tgt := 63) hx hb dX8_solve_58 (by decide) (fun c13 => ?_) (fun c13 => ?_)
                · replace hF := ifn c13 hF
                  obtain rfl := se1 hF
                  exact Jb11F Bool.false_ne_true _ _ hH
                · replace hF := ifp c13 hF
                  obtain rfl := se1 hF
                  exact Jb11T rfl _ _ hH
        exact Lr8 NF _ hLr8 _ _ _ hH (lv_sub hl [2, 3, 4, 1, 5, 0] rfl)
      have J4F : ¬ ((s2.1 = true) ∧ (s2.2.1 ≤ (560 : Int32))) → ∀ (H : Heap) (locs : List Loc), HW zC g s2.2.2 s.heap H locs → W p l e (rmd 3) s m args below meth c H locs 0 0 (MQ below (Qw zC g wz none) args s 0 0 (zA zC g)) (F0 m 75 ls []) := by
        intro hc H locs hH
        replace hF := ifn hc hF
        obtain rfl := se1 hF
        subst hL
        exact Jr3 _ _ _ hH (lv_sub hl [0, 1, 2, 3] rfl)
      refine w_b_f (tgt := 75) hx hb dX8_solve_14 (by decide) (fun c5 => ?_) (fun c5 => ?_)
      · exact J4F (fun z => c5 z.1) _ _ hH
      · refine lv_iload hx hb dX8_solve_17 (lv_at hl 4 rfl) ?_
        refine lv_sipush (v := (560 : Int32)) hx hb dX8_solve_19 (by decide) ?_
        refine w_ile_f (tgt := 75) hx hb dX8_solve_22 (by decide) (fun c6 => ?_) (fun c6 => ?_)
        · exact J4F (fun z => c6 z.2) _ _ hH
        · exact J4T ⟨c5, c6⟩ _ _ hH
  exact Lr3 NF _ hLr3 _ _ _ hH (lv_sub hl [2, 3, 4, 1, 0] rfl)

theorem dX9_necessaryConstraints_0 : decode cX9_necessaryConstraints 0 = .ok (.aload_n 0, 1) := by decide +kernel
theorem dX9_necessaryConstraints_1 : decode cX9_necessaryConstraints 1 = .ok (.iload_n 1, 1) := by decide +kernel
theorem dX9_necessaryConstraints_2 : decode cX9_necessaryConstraints 2 = .ok (.iload_n 2, 1) := by decide +kernel
theorem dX9_necessaryConstraints_3 : decode cX9_necessaryConstraints 3 = .ok (.invokevirtual 175, 3) := by decide +kernel
theorem dX9_necessaryConstraints_6 : decode cX9_necessaryConstraints 6 = .ok (.istore_n 3, 1) := by decide +kernel
theorem dX9_necessaryConstraints_7 : decode cX9_necessaryConstraints 7 = .ok (.iload_n 3, 1) := by decide +kernel
theorem dX9_necessaryConstraints_8 : decode cX9_necessaryConstraints 8 = .ok (.ifCond .ge 15, 3) := by decide +kernel
theorem dX9_necessaryConstraints_11 : decode cX9_necessaryConstraints 11 = .ok (.iload_n 3, 1) := by decide +kernel
theorem dX9_necessaryConstraints_12 : decode cX9_necessaryConstraints 12 = .ok (.bipush (-2), 2) := by decide +kernel
theorem dX9_necessaryConstraints_14 : decode cX9_necessaryConstraints 14 = .ok (.if_icmp .ne 7, 3) := by decide +kernel
theorem dX9_necessaryConstraints_17 : decode cX9_necessaryConstraints 17 = .ok (.iconst 0, 1) := by decide +kernel
theorem dX9_necessaryConstraints_18 : decode cX9_necessaryConstraints 18 = .ok (.goto 4, 3) := by decide +kernel
theorem dX9_necessaryConstraints_21 : decode cX9_necessaryConstraints 21 = .ok (.iconst (-1), 1) := by decide +kernel
theorem dX9_necessaryConstraints_22 : decode cX9_necessaryConstraints 22 = .ok (.ireturn, 1) := by decide +kernel
theorem dX9_necessaryConstraints_23 : decode cX9_necessaryConstraints 23 = .ok (.aload_n 0, 1) := by decide +kernel
theorem dX9_necessaryConstraints_24 : decode cX9_necessaryConstraints 24 = .ok (.getfield 19, 3) := by decide +kernel
theorem dX9_necessaryConstraints_27 : decode cX9_necessaryConstraints 27 = .ok (.iload_n 1, 1) := by decide +kernel
theorem dX9_necessaryConstraints_28 : decode cX9_necessaryConstraints 28 = .ok (.invokevirtual 161, 3) := by decide +kernel
theorem dX9_necessaryConstraints_31 : decode cX9_necessaryConstraints 31 = .ok (.istore 4, 2) := by decide +kernel
theorem dX9_necessaryConstraints_33 : decode cX9_necessaryConstraints 33 = .ok (.iconst 0, 1) := by decide +kernel
theorem dX9_necessaryConstraints_34 : decode cX9_necessaryConstraints 34 = .ok (.istore 5, 2) := by decide +kernel
theorem dX9_necessaryConstraints_36 : decode cX9_necessaryConstraints 36 = .ok (.iconst 0, 1) := by decide +kernel
theorem dX9_necessaryConstraints_37 : decode cX9_necessaryConstraints 37 = .ok (.istore 6, 2) := by decide +kernel
theorem dX9_necessaryConstraints_39 : decode cX9_necessaryConstraints 39 = .ok (.iload 6, 2) := by decide +kernel
theorem dX9_necessaryConstraints_41 : decode cX9_necessaryConstraints 41 = .ok (.aload_n 0, 1) := by decide +kernel
theorem dX9_necessaryConstraints_42 : decode cX9_necessaryConstraints 42 = .ok (.getfield 19, 3) := by decide +kernel
theorem dX9_necessaryConstraints_45 : decode cX9_necessaryConstraints 45 = .ok (.getfield 96, 3) := by decide +kernel
theorem dX9_necessaryConstraints_48 : decode cX9_necessaryConstraints 48 = .ok (.getfield 100, 3) := by decide +kernel
theorem dX9_necessaryConstraints_51 : decode cX9_necessaryConstraints 51 = .ok (.if_icmp .ge 80, 3) := by decide +kernel
theorem dX9_necessaryConstraints_54 : decode cX9_necessaryConstraints 54 = .ok (.aload_n 0, 1) := by decide +kernel
theorem dX9_necessaryConstraints_55 : decode cX9_necessaryConstraints 55 = .ok (.getfield 47, 3) := by decide +kernel
theorem dX9_necessaryConstraints_58 : decode cX9_necessaryConstraints 58 = .ok (.getfield 207, 3) := by decide +kernel
theorem dX9_necessaryConstraints_61 : decode cX9_necessaryConstraints 61 = .ok (.iload_n 3, 1) := by decide +kernel
theorem dX9_necessaryConstraints_62 : decode cX9_necessaryConstraints 62 = .ok (.iaload, 1) := by decide +kernel
theorem dX9_necessaryConstraints_63 : decode cX9_necessaryConstraints 63 = .ok (.iload 6, 2) := by decide +kernel
theorem dX9_necessaryConstraints_65 : decode cX9_necessaryConstraints 65 = .ok (.invokestatic 168, 3) := by decide +kernel
theorem dX9_necessaryConstraints_68 : decode cX9_necessaryConstraints 68 = .ok (.ifCond .eq 57, 3) := by decide +kernel
theorem dX9_necessaryConstraints_71 : decode cX9_necessaryConstraints 71 = .ok (.aload_n 0, 1) := by decide +kernel
theorem dX9_necessaryConstraints_72 : decode cX9_necessaryConstraints 72 = .ok (.getfield 75, 3) := by decide +kernel
theorem dX9_necessaryConstraints_75 : decode cX9_necessaryConstraints 75 = .ok (.aload_n 0, 1) := by decide +kernel
theorem dX9_necessaryConstraints_76 : decode cX9_necessaryConstraints 76 = .ok (.getfield 19, 3) := by decide +kernel
theorem dX9_necessaryConstraints_79 : decode cX9_necessaryConstraints 79 = .ok (.aload_n 0, 1) := by decide +kernel
theorem dX9_necessaryConstraints_80 : decode cX9_necessaryConstraints 80 = .ok (.getfield 19, 3) := by decide +kernel
theorem dX9_necessaryConstraints_83 : decode cX9_necessaryConstraints 83 = .ok (.getfield 96, 3) := by decide +kernel
theorem dX9_necessaryConstraints_86 : decode cX9_necessaryConstraints 86 = .ok (.getfield 116, 3) := by decide +kernel
theorem dX9_necessaryConstraints_89 : decode cX9_necessaryConstraints 89 = .ok (.iconst 1, 1) := by decide +kernel
theorem dX9_necessaryConstraints_90 : decode cX9_necessaryConstraints 90 = .ok (.iload 6, 2) := by decide +kernel
theorem dX9_necessaryConstraints_92 : decode cX9_necessaryConstraints 92 = .ok (.ishl, 1) := by decide +kernel
theorem dX9_necessaryConstraints_93 : decode cX9_necessaryConstraints 93 = .ok (.iconst (-1), 1) := by decide +kernel
theorem dX9_necessaryConstraints_94 : decode cX9_necessaryConstraints 94 = .ok (.ixor, 1) := by decide +kernel
theorem dX9_necessaryConstraints_95 : decode cX9_necessaryConstraints 95 = .ok (.iand, 1) := by decide +kernel
theorem dX9_necessaryConstraints_96 : decode cX9_necessaryConstraints 96 = .ok (.invokevirtual 210, 3) := by decide +kernel
theorem dX9_necessaryConstraints_99 : decode cX9_necessaryConstraints 99 = .ok (.aload_n 0, 1) := by decide +kernel
theorem dX9_necessaryConstraints_100 : decode cX9_necessaryConstraints 100 = .ok (.getfield 75, 3) := by decide +kernel
theorem dX9_necessaryConstraints_103 : decode cX9_necessaryConstraints 103 = .ok (.getfield 214, 3) := by decide +kernel
theorem dX9_necessaryConstraints_106 : decode cX9_necessaryConstraints 106 = .ok (.iload 4, 2) := by decide +kernel
theorem dX9_necessaryConstraints_108 : decode cX9_necessaryConstraints 108 = .ok (.iaload, 1) := by decide +kernel
theorem dX9_necessaryConstraints_109 : decode cX9_necessaryConstraints 109 = .ok (.iload_n 2, 1) := by decide +kernel
theorem dX9_necessaryConstraints_110 : decode cX9_necessaryConstraints 110 = .ok (.invokestatic 168, 3) := by decide +kernel
theorem dX9_necessaryConstraints_113 : decode cX9_necessaryConstraints 113 = .ok (.ifCond .ne 12, 3) := by decide +kernel
theorem dX9_necessaryConstraints_116 : decode cX9_necessaryConstraints 116 = .ok (.iload 5, 2) := by decide +kernel
theorem dX9_necessaryConstraints_118 : decode cX9_necessaryConstraints 118 = .ok (.iconst 1, 1) := by decide +kernel
theorem dX9_necessaryConstraints_119 : decode cX9_necessaryConstraints 119 = .ok (.iload 6, 2) := by decide +kernel
theorem dX9_necessaryConstraints_121 : decode cX9_necessaryConstraints 121 = .ok (.ishl, 1) := by decide +kernel
theorem dX9_necessaryConstraints_122 : decode cX9_necessaryConstraints 122 = .ok (.ior, 1) := by decide +kernel
theorem dX9_necessaryConstraints_123 : decode cX9_necessaryConstraints 123 = .ok (.istore 5, 2) := by decide +kernel
theorem dX9_necessaryConstraints_125 : decode cX9_necessaryConstraints 125 = .ok (.iinc 6 1, 3) := by decide +kernel
theorem dX9_necessaryConstraints_128 : decode cX9_necessaryConstraints 128 = .ok (.goto (-89), 3) := by decide +kernel
theorem dX9_necessaryConstraints_131 : decode cX9_necessaryConstraints 131 = .ok (.iload 5, 2) := by decide +kernel
theorem dX9_necessaryConstraints_133 : decode cX9_necessaryConstraints 133 = .ok (.ireturn, 1) := by decide +kernel
set_option maxHeartbeats 4000000 in
set_option maxRecDepth 100000 in
theorem c_X9_necessaryConstraints {l : Launch} {g : Gh} {w : Wd} {k0 : Nat} {v_location : Int32} {v_object : Int32} {rz : Int32} {wz : Wd} (hF : f_X9_necessaryConstraints w k0 v_location v_object = some (rz, wz)) (hk0 : zct zC k0 = 9) : Met l yX9_necessaryConstraints (Cond.code yX9_necessaryConstraints cX9_necessaryConstraints 7 (some .int) :: TT) (rmd 4) (Pcw zC g w [.ref (g.2.2 k0), .int (v_location), .int (v_object)]) (Qw zC g wz (some (.int (rz)))) 0 0 (zA zC g) := by
  refine mt_start (by decide) (Nat.le_of_ble_eq_true rfl) ?_
  intro p e s m args below meth c H locs ls X hr hl hH
  have hx := X.1
  have hb := X.2.1
  have hml := X.2.2.1
  have hown := X.2.2.2.1
  have ht := X.2.2.2.2.1
  have hl : lv_has ls 7 [(0, .ref (g.2.2 (k0))), (1, .int (v_location)), (2, .int (v_object))] := hl
  unfold f_X9_necessaryConstraints at hF
  refine lv_aload_n hx hb dX9_necessaryConstraints_0 rfl (lv_at hl 0 rfl) ?_
  refine lv_iload_n hx hb dX9_necessaryConstraints_1 rfl (lv_at hl 1 rfl) ?_
  refine lv_iload_n hx hb dX9_necessaryConstraints_2 rfl (lv_at hl 2 rfl) ?_
  obtain ⟨x1, h1, hF⟩ := ob hF
  refine w_callV (As := [.int (v_location), .int (v_object)]) (k := k0) (rest := []) (st1 := [.int (x1)]) X hH (c_X9_findFact (l := l) (g := g) (w := w) (k0 := k0) (v_location := v_location) (v_object := v_object) h1 hk0) (Or.inl tw_3_103) ms_X9_findFact im_X9_findFact hk0 cn_9 ⟨Nat.le_of_ble_eq_true rfl, Nat.le_of_ble_eq_true rfl⟩ rfl rfl hl.1 (Nat.le_of_ble_eq_true rfl) dX9_necessaryConstraints_3 ⟨Nat.le_refl _, Nat.le_refl _⟩ rfl (fun H locs hH => ?_)
  refine lv_istore_n (lv' := [(3, .int (x1)), (0, .ref (g.2.2 (k0))), (1, .int (v_location)), (2, .int (v_object))]) hx hb dX9_necessaryConstraints_6 rfl hl (by decide) rfl (fun ls hl => ?_)
  refine lv_iload_n hx hb dX9_necessaryConstraints_7 rfl (lv_at hl 0 rfl) ?_
  refine w_zlt_f (tgt := 23) hx hb dX9_necessaryConstraints_8 (by decide) (fun c2 => ?_) (fun c2 => ?_)
  · replace hF := ifn c2 hF
    refine lv_aload_n hx hb dX9_necessaryConstraints_23 rfl (lv_at hl 1 rfl) ?_
    obtain ⟨x3, h3, hF⟩ := ob hF
    refine w_getd X hH h3 hk0 fs_9_1 lk_9_19 dX9_necessaryConstraints_24 (fun q3 => ?_)
    refine lv_iload_n hx hb dX9_necessaryConstraints_27 rfl (lv_at hl 2 rfl) ?_
    refine w_callV (As := [.int (v_location)]) (k := x3) (rest := []) (st1 := [.int ((f_X6_slotAt w (x3) (v_location)))]) X hH (c_X6_slotAt (l := l) (g := g) (w := w) (k0 := x3) (v_location := v_location) rfl q3) (Or.inr ⟨_, tw_3_77⟩) ms_X6_slotAt im_X6_slotAt q3 cn_6 ⟨Nat.le_of_ble_eq_true rfl, Nat.le_of_ble_eq_true rfl⟩ rfl rfl hl.1 (Nat.le_of_ble_eq_true rfl) dX9_necessaryConstraints_28 ⟨Nat.le_refl _, Nat.le_refl _⟩ rfl (fun H locs hH => ?_)
    refine lv_istore (lv' := [(4, .int ((f_X6_slotAt w (x3) (v_location)))), (3, .int (x1)), (0, .ref (g.2.2 (k0))), (1, .int (v_location)), (2, .int (v_object))]) hx hb dX9_necessaryConstraints_31 hl (by decide) rfl (fun ls hl => ?_)
    refine lv_iconst (v := (0 : Int32)) hx hb dX9_necessaryConstraints_33 (by decide) ?_
    refine lv_istore (lv' := [(5, .int ((0 : Int32))), (4, .int ((f_X6_slotAt w (x3) (v_location)))), (3, .int (x1)), (0, .ref (g.2.2 (k0))), (1, .int (v_location)), (2, .int (v_object))]) hx hb dX9_necessaryConstraints_34 hl (by decide) rfl (fun ls hl => ?_)
    refine lv_iconst (v := (0 : Int32)) hx hb dX9_necessaryConstraints_36 (by decide) ?_
    refine lv_istore (lv' := [(6, .int ((0 : Int32))), (5, .int ((0 : Int32))), (4, .int ((f_X6_slotAt w (x3) (v_location)))), (3, .int (x1)), (0, .ref (g.2.2 (k0))), (1, .int (v_location)), (2, .int (v_object))]) hx hb dX9_necessaryConstraints_37 hl (by decide) rfl (fun ls hl => ?_)
    obtain ⟨r5, hLr5, hF⟩ := ob hF
    have Jr5 : ∀ (H : Heap) (locs : List Loc) (ls : Array Slot), HW zC g r5.2 s.heap H locs → lv_has ls 7 [(0, .ref (g.2.2 (k0))), (1, .int (v_location)), (2, .int (v_object)), (3, .int (x1)), (4, .int ((f_X6_slotAt w (x3) (v_location)))), (5, .int (r5.1))] → W p l e (rmd 4) s m args below meth c H locs 0 0 (MQ below (Qw zC g wz (some (.int (rz)))) args s 0 0 (zA zC g)) (F0 m 131 ls []) := by
      intro H locs ls hH hl
      refine lv_iload hx hb dX9_necessaryConstraints_131 (lv_at hl 5 rfl) ?_
      obtain ⟨rfl, rfl⟩ := se2 hF
      exact w_iret X hH hr dX9_necessaryConstraints_133
    have Lr5 : ∀ (n : Nat) (s4 : Int32 × Int32 × Wd), lp (b_X9_necessaryConstraints_1 k0 x1 w x3 v_location v_object) n s4 = some r5 → ∀ (H : Heap) (locs : List Loc) (ls : Array Slot), HW zC g s4.2.2 s.heap H locs → lv_has ls 7 [(0, .ref (g.2.2 (k0))), (1, .int (v_location)), (2, .int (v_object)), (3, .int (x1)), (4, .int ((f_X6_slotAt w (x3) (v_location)))), (5, .int (s4.1)), (6, .int (s4.2.1))] → W p l e (rmd 4) s m args below meth c H locs 0 0 (MQ below (Qw zC g wz (some (.int (rz)))) args s 0 0 (zA zC g)) (F0 m 39 ls []) := by
      intro n
      induction n with
      | zero => intro s4 hL; exact lp_0 hL
      | succ n ih =>
        intro s4 hL H locs ls hH hl
        obtain ⟨bb, hF, hL⟩ := lp_s hL
        unfold b_X9_necessaryConstraints_1 at hF
        refine lv_iload hx hb dX9_necessaryConstraints_39 (lv_at hl 6 rfl) ?_
        refine lv_aload_n hx hb dX9_necessaryConstraints_41 rfl (lv_at hl 0 rfl) ?_
        obtain ⟨x6, h6, hF⟩ := ob hF
        refine w_getd X hH h6 hk0 fs_9_1 lk_9_19 dX9_necessaryConstraints_42 (fun q6 => ?_)
        refine w_getr X hH q6 fs_6_6 lk_9_96 dX9_necessaryConstraints_45 ?_
        refine w_geti X hH (rt_C_6_6 q6) fs_0_4 lk_9_100 dX9_necessaryConstraints_48 ?_
        refine w_ilt_f (tgt := 131) hx hb dX9_necessaryConstraints_51 (by decide) (fun c7 => ?_) (fun c7 => ?_)
        · replace hF := ifn c7 hF
          obtain rfl := se1 hF
          subst hL
          exact Jr5 _ _ _ hH (lv_sub hl [0, 1, 2, 3, 4, 5] rfl)
        · replace hF := ifp c7 hF
          obtain ⟨s8, hs8, hF⟩ := ob hF
          have Js8 : ∀ (H : Heap) (locs : List Loc) (ls : Array Slot), HW zC g s8.2 s.heap H locs → lv_has ls 7 [(0, .ref (g.2.2 (k0))), (1, .int (v_location)), (2, .int (v_object)), (3, .int (x1)), (4, .int ((f_X6_slotAt w (x3) (v_location)))), (5, .int (s8.1)), (6, .int (s4.2.1))] → W p l e (rmd 4) s m args below meth c H locs 0 0 (MQ below (Qw zC g wz (some (.int (rz)))) args s 0 0 (zA zC g)) (F0 m 125 ls []) := by
            intro H locs ls hH hl
            refine lv_iinc (v := (s4.2.1 + (1 : Int32))) (lv' := [(6, .int ((s4.2.1 + (1 : Int32)))), (0, .ref (g.2.2 (k0))), (1, .int (v_location)), (2, .int (v_object)), (3, .int (x1)), (4, .int ((f_X6_slotAt w (x3) (v_location)))), (5, .int (s8.1))]) hx hb dX9_necessaryConstraints_125 hl (k := 6) rfl rfl (by decide) rfl (fun ls hl => ?_)
            refine lv_goto (tgt := 39) hx hb dX9_necessaryConstraints_128 (by decide) ?_
            obtain rfl := se1 hF
            exact ih _ hL _ _ _ hH (lv_sub hl [1, 2, 3, 4, 5, 6, 0] rfl)
          have hF := hs8
          refine lv_aload_n hx hb dX9_necessaryConstraints_54 rfl (lv_at hl 0 rfl) ?_
          refine w_getr X hH hk0 fs_9_6 lk_9_47 dX9_necessaryConstraints_55 ?_
          refine w_getr X hH (rt_C_9_6 hk0) fs_7_10 lk_9_207 dX9_necessaryConstraints_58 ?_
          refine lv_iload_n hx hb dX9_necessaryConstraints_61 rfl (lv_at hl 3 rfl) ?_
          obtain ⟨x9, h9, hF⟩ := ob hF
          refine w_iald X hH h9 (rt_C_7_10 (rt_C_9_6 hk0)) dX9_necessaryConstraints_62 ?_
          refine lv_iload hx hb dX9_necessaryConstraints_63 (lv_at hl 6 rfl) ?_
          refine w_callS (As := [.int (x9), .int (s4.2.1)]) (rest := []) (st1 := [.int (bI ((f_X9_contains (x9) (s4.2.1))))]) X hH (c_X9_contains (l := l) (g := g) (w := s4.2.2) (v_set := x9) (v_number := s4.2.1) rfl) (Or.inl tw_3_85) ms_X9_contains tw_2_174 ⟨Nat.le_of_ble_eq_true rfl, Nat.le_of_ble_eq_true rfl⟩ rfl rfl hl.1 (Nat.le_of_ble_eq_true rfl) dX9_necessaryConstraints_65 ⟨Nat.le_refl _, Nat.le_refl _⟩ rfl (fun H locs hH => ?_)
          refine w_b_f (tgt := 125) hx hb dX9_necessaryConstraints_68 (by decide) (fun c10 => ?_) (fun c10 => ?_)
          · replace hF := ifn c10 hF
            obtain rfl := se1 hF
            exact Js8 _ _ _ hH (lv_sub hl [0, 1, 2, 3, 4, 5, 6] rfl)
          · replace hF := ifp c10 hF
            refine lv_aload_n hx hb dX9_necessaryConstraints_71 rfl (lv_at hl 0 rfl) ?_
            refine w_getr X hH hk0 fs_9_11 lk_9_75 dX9_necessaryConstraints_72 ?_
            refine lv_aload_n hx hb dX9_necessaryConstraints_75 rfl (lv_at hl 0 rfl) ?_
            obtain ⟨x11, h11, hF⟩ := ob hF
            refine w_getd X hH h11 hk0 fs_9_1 lk_9_19 dX9_necessaryConstraints_76 (fun q11 => ?_)
            refine lv_aload_n hx hb dX9_necessaryConstraints_79 rfl (lv_at hl 0 rfl) ?_
            obtain ⟨x12, h12, hF⟩ := ob hF
            refine w_getd X hH h12 hk0 fs_9_1 lk_9_19 dX9_necessaryConstraints_80 (fun q12 => ?_)
            refine w_getr X hH q12 fs_6_6 lk_9_96 dX9_necessaryConstraints_83 ?_
            refine w_geti X hH (rt_C_6_6 q12) fs_0_5 lk_9_116 dX9_necessaryConstraints_86 ?_
            refine lv_iconst (v := (1 : Int32)) hx hb dX9_necessaryConstraints_89 (by decide) ?_
            refine lv_iload hx hb dX9_necessaryConstraints_90 (lv_at hl 6 rfl) ?_
            refine w_ishl hx hb dX9_necessaryConstraints_92 ?_
            refine lv_iconst (v := (-1 : Int32)) hx hb dX9_necessaryConstraints_93 (by decide) ?_
            refine lv_ixor hx hb dX9_necessaryConstraints_94 ?_
            refine lv_iand hx hb dX9_necessaryConstraints_95 ?_
            obtain ⟨w13, h13, hF⟩ := ob hF
            refine w_callV (As := [.ref (g.2.2 (x11)), .int (((s4.2.2.1 ((zrf zC (x12) 6)) 5) &&& ((jshl ((1 : Int32)) (s4.2.1)) ^^^ (-1 : Int32))))]) (k := (zrf zC (k0) 11)) (rest := []) (st1 := []) X hH (c_X8_solve (l := l) (g := g) (w := s4.2.2) (k0 := (zrf zC (k0) 11)) (v_program := x11) (v_enabled := ((s4.2.2.1 ((zrf zC (x12) 6)) 5) &&& ((jshl ((1 : Int32)) (s4.2.1)) ^^^ (-1 : Int32)))) h13 (rt_C_9_11 hk0) q11) (Or.inr ⟨_, tw_3_148⟩) ms_X8_solve im_X8_solve (rt_C_9_11 hk0) cn_8 ⟨Nat.le_of_ble_eq_true rfl, Nat.le_of_ble_eq_true rfl⟩ rfl rfl hl.1 (Nat.le_of_ble_eq_true rfl) dX9_necessaryConstraints_96 ⟨Nat.le_refl _, Nat.le_refl _⟩ rfl (fun H locs hH => ?_)
            obtain ⟨s14, hs14, hF⟩ := ob hF
            have Js14 : ∀ (H : Heap) (locs : List Loc) (ls : Array Slot), HW zC g w13 s.heap H locs → lv_has ls 7 [(0, .ref (g.2.2 (k0))), (1, .int (v_location)), (2, .int (v_object)), (3, .int (x1)), (4, .int ((f_X6_slotAt w (x3) (v_location)))), (5, .int (s14)), (6, .int (s4.2.1))] → W p l e (rmd 4) s m args below meth c H locs 0 0 (MQ below (Qw zC g wz (some (.int (rz)))) args s 0 0 (zA zC g)) (F0 m 125 ls []) := by
              intro H locs ls hH hl
              obtain rfl := se1 hF
              exact Js8 _ _ _ hH (lv_sub hl [0, 1, 2, 3, 4, 5, 6] rfl)
            have hF := hs14
            refine lv_aload_n hx hb dX9_necessaryConstraints_99 rfl (lv_at hl 0 rfl) ?_
            refine w_getr X hH hk0 fs_9_11 lk_9_75 dX9_necessaryConstraints_100 ?_
            refine w_getr X hH (rt_C_9_11 hk0) fs_8_0 lk_9_214 dX9_necessaryConstraints_103 ?_
            refine lv_iload hx hb dX9_necessaryConstraints_106 (lv_at hl 4 rfl) ?_
            obtain ⟨x15, h15, hF⟩ := ob hF
            refine w_iald X hH h15 (rt_C_8_0 (rt_C_9_11 hk0)) dX9_necessaryConstraints_108 ?_
            refine lv_iload_n hx hb dX9_necessaryConstraints_109 rfl (lv_at hl 2 rfl) ?_
            refine w_callS (As := [.int (x15), .int (v_object)]) (rest := []) (st1 := [.int (bI ((f_X9_contains (x15) (v_object))))]) X hH (c_X9_contains (l := l) (g := g) (w := w13) (v_set := x15) (v_number := v_object) rfl) (Or.inl tw_3_85) ms_X9_contains tw_2_174 ⟨Nat.le_of_ble_eq_true rfl, Nat.le_of_ble_eq_true rfl⟩ rfl rfl hl.1 (Nat.le_of_ble_eq_true rfl) dX9_necessaryConstraints_110 ⟨Nat.le_refl _, Nat.le_refl _⟩ rfl (fun H locs hH => ?_)
            refine w_b_t (tgt := 125) hx hb dX9_necessaryConstraints_113 (by decide) (fun c16 => ?_) (fun c16 => ?_)
            · replace hF := ifn (fun z => z c16) hF
              obtain rfl := se1 hF
              exact Js14 _ _ _ hH (lv_sub hl [0, 1, 2, 3, 4, 5, 6] rfl)
            · replace hF := ifp c16 hF
              refine lv_iload hx hb dX9_necessaryConstraints_116 (lv_at hl 5 rfl) ?_
              refine lv_iconst (v := (1 : Int32)) hx hb dX9_necessaryConstraints_118 (by decide) ?_
              refine lv_iload hx hb dX9_necessaryConstraints_119 (lv_at hl 6 rfl) ?_
              refine w_ishl hx hb dX9_necessaryConstraints_121 ?_
              refine lv_ior hx hb dX9_necessaryConstraints_122 ?_
              refine lv_istore (lv' := [(5, .int ((s4.1 ||| (jshl ((1 : Int32)) (s4.2.1))))), (0, .ref (g.2.2 (k0))), (1, .int (v_location)), (2, .int (v_object)), (3, .int (x1)), (4, .int ((f_X6_slotAt w (x3) (v_location)))), (6, .int (s4.2.1))]) hx hb dX9_necessaryConstraints_123 hl (by decide) rfl (fun ls hl => ?_)
              obtain rfl := se1 hF
              exact Js14 _ _ _ hH (lv_sub hl [1, 2, 3, 4, 5, 0, 6] rfl)
    exact Lr5 NF _ hLr5 _ _ _ hH (lv_sub hl [4, 5, 6, 3, 2, 1, 0] rfl)
  · replace hF := ifp c2 hF
    refine lv_iload_n hx hb dX9_necessaryConstraints_11 rfl (lv_at hl 0 rfl) ?_
    refine lv_bipush (v := (-2 : Int32)) hx hb dX9_necessaryConstraints_12 (by decide) ?_
    have J17 : ∀ (H : Heap) (locs : List Loc), HW zC g w s.heap H locs → W p l e (rmd 4) s m args below meth c H locs 0 0 (MQ below (Qw zC g wz (some (.int (rz)))) args s 0 0 (zA zC g)) (F0 m 22 ls [.int ((if x1 = (-2 : Int32) then (0 : Int32) else (-1 : Int32)))]) := by
      intro H locs hH
      obtain ⟨rfl, rfl⟩ := se2 hF
      exact w_iret X hH hr dX9_necessaryConstraints_22
    refine w_ieq_f (tgt := 21) hx hb dX9_necessaryConstraints_14 (by decide) (fun c18 => ?_) (fun c18 => ?_)
    · refine lv_iconst (v := (-1 : Int32)) hx hb dX9_necessaryConstraints_21 (by decide) ?_
      exact w_in c18 (J17 _ _ hH)
    · refine lv_iconst (v := (0 : Int32)) hx hb dX9_necessaryConstraints_17 (by decide) ?_
      refine lv_goto (tgt := 22) hx hb dX9_necessaryConstraints_18 (by decide) ?_
      exact w_ip c18 (J17 _ _ hH)

theorem dJ13_bitCount_95d88_0 : decode cJ13_bitCount_95d88 0 = .ok (.lload_n 0, 1) := by decide +kernel
theorem dJ13_bitCount_95d88_1 : decode cJ13_bitCount_95d88 1 = .ok (.lload_n 0, 1) := by decide +kernel
theorem dJ13_bitCount_95d88_2 : decode cJ13_bitCount_95d88 2 = .ok (.iconst 1, 1) := by decide +kernel
theorem dJ13_bitCount_95d88_3 : decode cJ13_bitCount_95d88 3 = .ok (.lushr, 1) := by decide +kernel
theorem dJ13_bitCount_95d88_4 : decode cJ13_bitCount_95d88 4 = .ok (.ldc2_w 314, 3) := by decide +kernel
theorem dJ13_bitCount_95d88_7 : decode cJ13_bitCount_95d88 7 = .ok (.land, 1) := by decide +kernel
theorem dJ13_bitCount_95d88_8 : decode cJ13_bitCount_95d88 8 = .ok (.lsub, 1) := by decide +kernel
theorem dJ13_bitCount_95d88_9 : decode cJ13_bitCount_95d88 9 = .ok (.lstore_n 0, 1) := by decide +kernel
theorem dJ13_bitCount_95d88_10 : decode cJ13_bitCount_95d88 10 = .ok (.lload_n 0, 1) := by decide +kernel
theorem dJ13_bitCount_95d88_11 : decode cJ13_bitCount_95d88 11 = .ok (.ldc2_w 316, 3) := by decide +kernel
theorem dJ13_bitCount_95d88_14 : decode cJ13_bitCount_95d88 14 = .ok (.land, 1) := by decide +kernel
theorem dJ13_bitCount_95d88_15 : decode cJ13_bitCount_95d88 15 = .ok (.lload_n 0, 1) := by decide +kernel
theorem dJ13_bitCount_95d88_16 : decode cJ13_bitCount_95d88 16 = .ok (.iconst 2, 1) := by decide +kernel
theorem dJ13_bitCount_95d88_17 : decode cJ13_bitCount_95d88 17 = .ok (.lushr, 1) := by decide +kernel
theorem dJ13_bitCount_95d88_18 : decode cJ13_bitCount_95d88 18 = .ok (.ldc2_w 316, 3) := by decide +kernel
theorem dJ13_bitCount_95d88_21 : decode cJ13_bitCount_95d88 21 = .ok (.land, 1) := by decide +kernel
theorem dJ13_bitCount_95d88_22 : decode cJ13_bitCount_95d88 22 = .ok (.ladd, 1) := by decide +kernel
theorem dJ13_bitCount_95d88_23 : decode cJ13_bitCount_95d88 23 = .ok (.lstore_n 0, 1) := by decide +kernel
theorem dJ13_bitCount_95d88_24 : decode cJ13_bitCount_95d88 24 = .ok (.lload_n 0, 1) := by decide +kernel
theorem dJ13_bitCount_95d88_25 : decode cJ13_bitCount_95d88 25 = .ok (.lload_n 0, 1) := by decide +kernel
theorem dJ13_bitCount_95d88_26 : decode cJ13_bitCount_95d88 26 = .ok (.iconst 4, 1) := by decide +kernel
theorem dJ13_bitCount_95d88_27 : decode cJ13_bitCount_95d88 27 = .ok (.lushr, 1) := by decide +kernel
theorem dJ13_bitCount_95d88_28 : decode cJ13_bitCount_95d88 28 = .ok (.ladd, 1) := by decide +kernel
theorem dJ13_bitCount_95d88_29 : decode cJ13_bitCount_95d88 29 = .ok (.ldc2_w 318, 3) := by decide +kernel
theorem dJ13_bitCount_95d88_32 : decode cJ13_bitCount_95d88 32 = .ok (.land, 1) := by decide +kernel
theorem dJ13_bitCount_95d88_33 : decode cJ13_bitCount_95d88 33 = .ok (.lstore_n 0, 1) := by decide +kernel
theorem dJ13_bitCount_95d88_34 : decode cJ13_bitCount_95d88 34 = .ok (.lload_n 0, 1) := by decide +kernel
theorem dJ13_bitCount_95d88_35 : decode cJ13_bitCount_95d88 35 = .ok (.lload_n 0, 1) := by decide +kernel
theorem dJ13_bitCount_95d88_36 : decode cJ13_bitCount_95d88 36 = .ok (.bipush 8, 2) := by decide +kernel
theorem dJ13_bitCount_95d88_38 : decode cJ13_bitCount_95d88 38 = .ok (.lushr, 1) := by decide +kernel
theorem dJ13_bitCount_95d88_39 : decode cJ13_bitCount_95d88 39 = .ok (.ladd, 1) := by decide +kernel
theorem dJ13_bitCount_95d88_40 : decode cJ13_bitCount_95d88 40 = .ok (.lstore_n 0, 1) := by decide +kernel
theorem dJ13_bitCount_95d88_41 : decode cJ13_bitCount_95d88 41 = .ok (.lload_n 0, 1) := by decide +kernel
theorem dJ13_bitCount_95d88_42 : decode cJ13_bitCount_95d88 42 = .ok (.lload_n 0, 1) := by decide +kernel
theorem dJ13_bitCount_95d88_43 : decode cJ13_bitCount_95d88 43 = .ok (.bipush 16, 2) := by decide +kernel
theorem dJ13_bitCount_95d88_45 : decode cJ13_bitCount_95d88 45 = .ok (.lushr, 1) := by decide +kernel
theorem dJ13_bitCount_95d88_46 : decode cJ13_bitCount_95d88 46 = .ok (.ladd, 1) := by decide +kernel
theorem dJ13_bitCount_95d88_47 : decode cJ13_bitCount_95d88 47 = .ok (.lstore_n 0, 1) := by decide +kernel
theorem dJ13_bitCount_95d88_48 : decode cJ13_bitCount_95d88 48 = .ok (.lload_n 0, 1) := by decide +kernel
theorem dJ13_bitCount_95d88_49 : decode cJ13_bitCount_95d88 49 = .ok (.lload_n 0, 1) := by decide +kernel
theorem dJ13_bitCount_95d88_50 : decode cJ13_bitCount_95d88 50 = .ok (.bipush 32, 2) := by decide +kernel
theorem dJ13_bitCount_95d88_52 : decode cJ13_bitCount_95d88 52 = .ok (.lushr, 1) := by decide +kernel
theorem dJ13_bitCount_95d88_53 : decode cJ13_bitCount_95d88 53 = .ok (.ladd, 1) := by decide +kernel
theorem dJ13_bitCount_95d88_54 : decode cJ13_bitCount_95d88 54 = .ok (.lstore_n 0, 1) := by decide +kernel
theorem dJ13_bitCount_95d88_55 : decode cJ13_bitCount_95d88 55 = .ok (.lload_n 0, 1) := by decide +kernel
theorem dJ13_bitCount_95d88_56 : decode cJ13_bitCount_95d88 56 = .ok (.l2i, 1) := by decide +kernel
theorem dJ13_bitCount_95d88_57 : decode cJ13_bitCount_95d88 57 = .ok (.bipush 127, 2) := by decide +kernel
theorem dJ13_bitCount_95d88_59 : decode cJ13_bitCount_95d88 59 = .ok (.iand, 1) := by decide +kernel
theorem dJ13_bitCount_95d88_60 : decode cJ13_bitCount_95d88 60 = .ok (.ireturn, 1) := by decide +kernel
set_option maxHeartbeats 4000000 in
set_option maxRecDepth 100000 in
theorem c_J13_bitCount {l : Launch} {g : Gh} {w : Wd} {v_i : Int64} {rz : Int32} (hF : f_J13_bitCount v_i = rz)  : Met l yJ13_bitCount_95d88 (Cond.code yJ13_bitCount_95d88 cJ13_bitCount_95d88 2 (some .int) :: TT) (rmd 0) (Pcw zC g w [.long (v_i)]) (Qw zC g w (some (.int (rz)))) 0 0 (zA zC g) := by
  refine mt_start (by decide) (Nat.le_of_ble_eq_true rfl) ?_
  intro p e s m args below meth c H locs ls X hr hl hH
  have hx := X.1
  have hb := X.2.1
  have hml := X.2.2.1
  have hown := X.2.2.2.1
  have ht := X.2.2.2.2.1
  have hl : lv_has ls 2 [(0, .long (v_i))] := hl
  unfold f_J13_bitCount at hF
  refine lv_lload_n hx hb dJ13_bitCount_95d88_0 rfl (lv_at hl 0 rfl) ?_
  refine lv_lload_n hx hb dJ13_bitCount_95d88_1 rfl (lv_at hl 0 rfl) ?_
  refine lv_iconst (v := (1 : Int32)) hx hb dJ13_bitCount_95d88_2 (by decide) ?_
  refine w_lushr hx hb dJ13_bitCount_95d88_3 ?_
  refine lv_ldc2 (own := RJ13) (v := (6148914691236517205 : Int64)) hx hb hown (ht _ tw_3_215) dJ13_bitCount_95d88_4 ?_
  refine lv_land hx hb dJ13_bitCount_95d88_7 ?_
  refine lv_lsub hx hb dJ13_bitCount_95d88_8 ?_
  refine lv_lstore_n (lv' := [(0, .long ((v_i - ((jlushr (v_i) ((1 : Int32))) &&& (6148914691236517205 : Int64)))))]) hx hb dJ13_bitCount_95d88_9 rfl hl (by decide) rfl (fun ls hl => ?_)
  refine lv_lload_n hx hb dJ13_bitCount_95d88_10 rfl (lv_at hl 0 rfl) ?_
  refine lv_ldc2 (own := RJ13) (v := (3689348814741910323 : Int64)) hx hb hown (ht _ tw_3_216) dJ13_bitCount_95d88_11 ?_
  refine lv_land hx hb dJ13_bitCount_95d88_14 ?_
  refine lv_lload_n hx hb dJ13_bitCount_95d88_15 rfl (lv_at hl 0 rfl) ?_
  refine lv_iconst (v := (2 : Int32)) hx hb dJ13_bitCount_95d88_16 (by decide) ?_
  refine w_lushr hx hb dJ13_bitCount_95d88_17 ?_
  refine lv_ldc2 (own := RJ13) (v := (3689348814741910323 : Int64)) hx hb hown (ht _ tw_3_216) dJ13_bitCount_95d88_18 ?_
  refine lv_land hx hb dJ13_bitCount_95d88_21 ?_
  refine lv_ladd hx hb dJ13_bitCount_95d88_22 ?_
  refine lv_lstore_n (lv' := [(0, .long ((((v_i - ((jlushr (v_i) ((1 : Int32))) &&& (6148914691236517205 : Int64))) &&& (3689348814741910323 : Int64)) + ((jlushr ((v_i - ((jlushr (v_i) ((1 : Int32))) &&& (6148914691236517205 : Int64)))) ((2 : Int32))) &&& (3689348814741910323 : Int64)))))]) hx hb dJ13_bitCount_95d88_23 rfl hl (by decide) rfl (fun ls hl => ?_)
  refine lv_lload_n hx hb dJ13_bitCount_95d88_24 rfl (lv_at hl 0 rfl) ?_
  refine lv_lload_n hx hb dJ13_bitCount_95d88_25 rfl (lv_at hl 0 rfl) ?_
  refine lv_iconst (v := (4 : Int32)) hx hb dJ13_bitCount_95d88_26 (by decide) ?_
  refine w_lushr hx hb dJ13_bitCount_95d88_27 ?_
  refine lv_ladd hx hb dJ13_bitCount_95d88_28 ?_
  refine lv_ldc2 (own := RJ13) (v := (1085102592571150095 : Int64)) hx hb hown (ht _ tw_3_217) dJ13_bitCount_95d88_29 ?_
  refine lv_land hx hb dJ13_bitCount_95d88_32 ?_
  refine lv_lstore_n (lv' := [(0, .long ((((((v_i - ((jlushr (v_i) ((1 : Int32))) &&& (6148914691236517205 : Int64))) &&& (3689348814741910323 : Int64)) + ((jlushr ((v_i - ((jlushr (v_i) ((1 : Int32))) &&& (6148914691236517205 : Int64)))) ((2 : Int32))) &&& (3689348814741910323 : Int64))) + (jlushr ((((v_i - ((jlushr (v_i) ((1 : Int32))) &&& (6148914691236517205 : Int64))) &&& (3689348814741910323 : Int64)) + ((jlushr ((v_i - ((jlushr (v_i) ((1 : Int32))) &&& (6148914691236517205 : Int64)))) ((2 : Int32))) &&& (3689348814741910323 : Int64)))) ((4 : Int32)))) &&& (1085102592571150095 : Int64))))]) hx hb dJ13_bitCount_95d88_33 rfl hl (by decide) rfl (fun ls hl => ?_)
  refine lv_lload_n hx hb dJ13_bitCount_95d88_34 rfl (lv_at hl 0 rfl) ?_
  refine lv_lload_n hx hb dJ13_bitCount_95d88_35 rfl (lv_at hl 0 rfl) ?_
  refine lv_bipush (v := (8 : Int32)) hx hb dJ13_bitCount_95d88_36 (by decide) ?_
  refine w_lushr hx hb dJ13_bitCount_95d88_38 ?_
  refine lv_ladd hx hb dJ13_bitCount_95d88_39 ?_
  refine lv_lstore_n (lv' := [(0, .long (((((((v_i - ((jlushr (v_i) ((1 : Int32))) &&& (6148914691236517205 : Int64))) &&& (3689348814741910323 : Int64)) + ((jlushr ((v_i - ((jlushr (v_i) ((1 : Int32))) &&& (6148914691236517205 : Int64)))) ((2 : Int32))) &&& (3689348814741910323 : Int64))) + (jlushr ((((v_i - ((jlushr (v_i) ((1 : Int32))) &&& (6148914691236517205 : Int64))) &&& (3689348814741910323 : Int64)) + ((jlushr ((v_i - ((jlushr (v_i) ((1 : Int32))) &&& (6148914691236517205 : Int64)))) ((2 : Int32))) &&& (3689348814741910323 : Int64)))) ((4 : Int32)))) &&& (1085102592571150095 : Int64)) + (jlushr ((((((v_i - ((jlushr (v_i) ((1 : Int32))) &&& (6148914691236517205 : Int64))) &&& (3689348814741910323 : Int64)) + ((jlushr ((v_i - ((jlushr (v_i) ((1 : Int32))) &&& (6148914691236517205 : Int64)))) ((2 : Int32))) &&& (3689348814741910323 : Int64))) + (jlushr ((((v_i - ((jlushr (v_i) ((1 : Int32))) &&& (6148914691236517205 : Int64))) &&& (3689348814741910323 : Int64)) + ((jlushr ((v_i - ((jlushr (v_i) ((1 : Int32))) &&& (6148914691236517205 : Int64)))) ((2 : Int32))) &&& (3689348814741910323 : Int64)))) ((4 : Int32)))) &&& (1085102592571150095 : Int64))) ((8 : Int32))))))]) hx hb dJ13_bitCount_95d88_40 rfl hl (by decide) rfl (fun ls hl => ?_)
  refine lv_lload_n hx hb dJ13_bitCount_95d88_41 rfl (lv_at hl 0 rfl) ?_
  refine lv_lload_n hx hb dJ13_bitCount_95d88_42 rfl (lv_at hl 0 rfl) ?_
  refine lv_bipush (v := (16 : Int32)) hx hb dJ13_bitCount_95d88_43 (by decide) ?_
  refine w_lushr hx hb dJ13_bitCount_95d88_45 ?_
  refine lv_ladd hx hb dJ13_bitCount_95d88_46 ?_
  refine lv_lstore_n (lv' := [(0, .long ((((((((v_i - ((jlushr (v_i) ((1 : Int32))) &&& (6148914691236517205 : Int64))) &&& (3689348814741910323 : Int64)) + ((jlushr ((v_i - ((jlushr (v_i) ((1 : Int32))) &&& (6148914691236517205 : Int64)))) ((2 : Int32))) &&& (3689348814741910323 : Int64))) + (jlushr ((((v_i - ((jlushr (v_i) ((1 : Int32))) &&& (6148914691236517205 : Int64))) &&& (3689348814741910323 : Int64)) + ((jlushr ((v_i - ((jlushr (v_i) ((1 : Int32))) &&& (6148914691236517205 : Int64)))) ((2 : Int32))) &&& (3689348814741910323 : Int64)))) ((4 : Int32)))) &&& (1085102592571150095 : Int64)) + (jlushr ((((((v_i - ((jlushr (v_i) ((1 : Int32))) &&& (6148914691236517205 : Int64))) &&& (3689348814741910323 : Int64)) + ((jlushr ((v_i - ((jlushr (v_i) ((1 : Int32))) &&& (6148914691236517205 : Int64)))) ((2 : Int32))) &&& (3689348814741910323 : Int64))) + (jlushr ((((v_i - ((jlushr (v_i) ((1 : Int32))) &&& (6148914691236517205 : Int64))) &&& (3689348814741910323 : Int64)) + ((jlushr ((v_i - ((jlushr (v_i) ((1 : Int32))) &&& (6148914691236517205 : Int64)))) ((2 : Int32))) &&& (3689348814741910323 : Int64)))) ((4 : Int32)))) &&& (1085102592571150095 : Int64))) ((8 : Int32)))) + (jlushr (((((((v_i - ((jlushr (v_i) ((1 : Int32))) &&& (6148914691236517205 : Int64))) &&& (3689348814741910323 : Int64)) + ((jlushr ((v_i - ((jlushr (v_i) ((1 : Int32))) &&& (6148914691236517205 : Int64)))) ((2 : Int32))) &&& (3689348814741910323 : Int64))) + (jlushr ((((v_i - ((jlushr (v_i) ((1 : Int32))) &&& (6148914691236517205 : Int64))) &&& (3689348814741910323 : Int64)) + ((jlushr ((v_i - ((jlushr (v_i) ((1 : Int32))) &&& (6148914691236517205 : Int64)))) ((2 : Int32))) &&& (3689348814741910323 : Int64)))) ((4 : Int32)))) &&& (1085102592571150095 : Int64)) + (jlushr ((((((v_i - ((jlushr (v_i) ((1 : Int32))) &&& (6148914691236517205 : Int64))) &&& (3689348814741910323 : Int64)) + ((jlushr ((v_i - ((jlushr (v_i) ((1 : Int32))) &&& (6148914691236517205 : Int64)))) ((2 : Int32))) &&& (3689348814741910323 : Int64))) + (jlushr ((((v_i - ((jlushr (v_i) ((1 : Int32))) &&& (6148914691236517205 : Int64))) &&& (3689348814741910323 : Int64)) + ((jlushr ((v_i - ((jlushr (v_i) ((1 : Int32))) &&& (6148914691236517205 : Int64)))) ((2 : Int32))) &&& (3689348814741910323 : Int64)))) ((4 : Int32)))) &&& (1085102592571150095 : Int64))) ((8 : Int32))))) ((16 : Int32))))))]) hx hb dJ13_bitCount_95d88_47 rfl hl (by decide) rfl (fun ls hl => ?_)
  refine lv_lload_n hx hb dJ13_bitCount_95d88_48 rfl (lv_at hl 0 rfl) ?_
  refine lv_lload_n hx hb dJ13_bitCount_95d88_49 rfl (lv_at hl 0 rfl) ?_
  refine lv_bipush (v := (32 : Int32)) hx hb dJ13_bitCount_95d88_50 (by decide) ?_
  refine w_lushr hx hb dJ13_bitCount_95d88_52 ?_
  refine lv_ladd hx hb dJ13_bitCount_95d88_53 ?_
  refine lv_lstore_n (lv' := [(0, .long (((((((((v_i - ((jlushr (v_i) ((1 : Int32))) &&& (6148914691236517205 : Int64))) &&& (3689348814741910323 : Int64)) + ((jlushr ((v_i - ((jlushr (v_i) ((1 : Int32))) &&& (6148914691236517205 : Int64)))) ((2 : Int32))) &&& (3689348814741910323 : Int64))) + (jlushr ((((v_i - ((jlushr (v_i) ((1 : Int32))) &&& (6148914691236517205 : Int64))) &&& (3689348814741910323 : Int64)) + ((jlushr ((v_i - ((jlushr (v_i) ((1 : Int32))) &&& (6148914691236517205 : Int64)))) ((2 : Int32))) &&& (3689348814741910323 : Int64)))) ((4 : Int32)))) &&& (1085102592571150095 : Int64)) + (jlushr ((((((v_i - ((jlushr (v_i) ((1 : Int32))) &&& (6148914691236517205 : Int64))) &&& (3689348814741910323 : Int64)) + ((jlushr ((v_i - ((jlushr (v_i) ((1 : Int32))) &&& (6148914691236517205 : Int64)))) ((2 : Int32))) &&& (3689348814741910323 : Int64))) + (jlushr ((((v_i - ((jlushr (v_i) ((1 : Int32))) &&& (6148914691236517205 : Int64))) &&& (3689348814741910323 : Int64)) + ((jlushr ((v_i - ((jlushr (v_i) ((1 : Int32))) &&& (6148914691236517205 : Int64)))) ((2 : Int32))) &&& (3689348814741910323 : Int64)))) ((4 : Int32)))) &&& (1085102592571150095 : Int64))) ((8 : Int32)))) + (jlushr (((((((v_i - ((jlushr (v_i) ((1 : Int32))) &&& (6148914691236517205 : Int64))) &&& (3689348814741910323 : Int64)) + ((jlushr ((v_i - ((jlushr (v_i) ((1 : Int32))) &&& (6148914691236517205 : Int64)))) ((2 : Int32))) &&& (3689348814741910323 : Int64))) + (jlushr ((((v_i - ((jlushr (v_i) ((1 : Int32))) &&& (6148914691236517205 : Int64))) &&& (3689348814741910323 : Int64)) + ((jlushr ((v_i - ((jlushr (v_i) ((1 : Int32))) &&& (6148914691236517205 : Int64)))) ((2 : Int32))) &&& (3689348814741910323 : Int64)))) ((4 : Int32)))) &&& (1085102592571150095 : Int64)) + (jlushr ((((((v_i - ((jlushr (v_i) ((1 : Int32))) &&& (6148914691236517205 : Int64))) &&& (3689348814741910323 : Int64)) + ((jlushr ((v_i - ((jlushr (v_i) ((1 : Int32))) &&& (6148914691236517205 : Int64)))) ((2 : Int32))) &&& (3689348814741910323 : Int64))) + (jlushr ((((v_i - ((jlushr (v_i) ((1 : Int32))) &&& (6148914691236517205 : Int64))) &&& (3689348814741910323 : Int64)) + ((jlushr ((v_i - ((jlushr (v_i) ((1 : Int32))) &&& (6148914691236517205 : Int64)))) ((2 : Int32))) &&& (3689348814741910323 : Int64)))) ((4 : Int32)))) &&& (1085102592571150095 : Int64))) ((8 : Int32))))) ((16 : Int32)))) + (jlushr ((((((((v_i - ((jlushr (v_i) ((1 : Int32))) &&& (6148914691236517205 : Int64))) &&& (3689348814741910323 : Int64)) + ((jlushr ((v_i - ((jlushr (v_i) ((1 : Int32))) &&& (6148914691236517205 : Int64)))) ((2 : Int32))) &&& (3689348814741910323 : Int64))) + (jlushr ((((v_i - ((jlushr (v_i) ((1 : Int32))) &&& (6148914691236517205 : Int64))) &&& (3689348814741910323 : Int64)) + ((jlushr ((v_i - ((jlushr (v_i) ((1 : Int32))) &&& (6148914691236517205 : Int64)))) ((2 : Int32))) &&& (3689348814741910323 : Int64)))) ((4 : Int32)))) &&& (1085102592571150095 : Int64)) + (jlushr ((((((v_i - ((jlushr (v_i) ((1 : Int32))) &&& (6148914691236517205 : Int64))) &&& (3689348814741910323 : Int64)) + ((jlushr ((v_i - ((jlushr (v_i) ((1 : Int32))) &&& (6148914691236517205 : Int64)))) ((2 : Int32))) &&& (3689348814741910323 : Int64))) + (jlushr ((((v_i - ((jlushr (v_i) ((1 : Int32))) &&& (6148914691236517205 : Int64))) &&& (3689348814741910323 : Int64)) + ((jlushr ((v_i - ((jlushr (v_i) ((1 : Int32))) &&& (6148914691236517205 : Int64)))) ((2 : Int32))) &&& (3689348814741910323 : Int64)))) ((4 : Int32)))) &&& (1085102592571150095 : Int64))) ((8 : Int32)))) + (jlushr (((((((v_i - ((jlushr (v_i) ((1 : Int32))) &&& (6148914691236517205 : Int64))) &&& (3689348814741910323 : Int64)) + ((jlushr ((v_i - ((jlushr (v_i) ((1 : Int32))) &&& (6148914691236517205 : Int64)))) ((2 : Int32))) &&& (3689348814741910323 : Int64))) + (jlushr ((((v_i - ((jlushr (v_i) ((1 : Int32))) &&& (6148914691236517205 : Int64))) &&& (3689348814741910323 : Int64)) + ((jlushr ((v_i - ((jlushr (v_i) ((1 : Int32))) &&& (6148914691236517205 : Int64)))) ((2 : Int32))) &&& (3689348814741910323 : Int64)))) ((4 : Int32)))) &&& (1085102592571150095 : Int64)) + (jlushr ((((((v_i - ((jlushr (v_i) ((1 : Int32))) &&& (6148914691236517205 : Int64))) &&& (3689348814741910323 : Int64)) + ((jlushr ((v_i - ((jlushr (v_i) ((1 : Int32))) &&& (6148914691236517205 : Int64)))) ((2 : Int32))) &&& (3689348814741910323 : Int64))) + (jlushr ((((v_i - ((jlushr (v_i) ((1 : Int32))) &&& (6148914691236517205 : Int64))) &&& (3689348814741910323 : Int64)) + ((jlushr ((v_i - ((jlushr (v_i) ((1 : Int32))) &&& (6148914691236517205 : Int64)))) ((2 : Int32))) &&& (3689348814741910323 : Int64)))) ((4 : Int32)))) &&& (1085102592571150095 : Int64))) ((8 : Int32))))) ((16 : Int32))))) ((32 : Int32))))))]) hx hb dJ13_bitCount_95d88_54 rfl hl (by decide) rfl (fun ls hl => ?_)
  refine lv_lload_n hx hb dJ13_bitCount_95d88_55 rfl (lv_at hl 0 rfl) ?_
  refine w_l2i hx hb dJ13_bitCount_95d88_56 ?_
  refine lv_bipush (v := (127 : Int32)) hx hb dJ13_bitCount_95d88_57 (by decide) ?_
  refine lv_iand hx hb dJ13_bitCount_95d88_59 ?_
  subst hF
  exact w_iret X hH hr dJ13_bitCount_95d88_60

theorem dX1_countEdges_0 : decode cX1_countEdges 0 = .ok (.iconst 0, 1) := by decide +kernel
theorem dX1_countEdges_1 : decode cX1_countEdges 1 = .ok (.istore_n 1, 1) := by decide +kernel
theorem dX1_countEdges_2 : decode cX1_countEdges 2 = .ok (.iconst 0, 1) := by decide +kernel
theorem dX1_countEdges_3 : decode cX1_countEdges 3 = .ok (.istore_n 2, 1) := by decide +kernel
theorem dX1_countEdges_4 : decode cX1_countEdges 4 = .ok (.iload_n 2, 1) := by decide +kernel
theorem dX1_countEdges_5 : decode cX1_countEdges 5 = .ok (.bipush 56, 2) := by decide +kernel
theorem dX1_countEdges_7 : decode cX1_countEdges 7 = .ok (.if_icmp .ge 21, 3) := by decide +kernel
theorem dX1_countEdges_10 : decode cX1_countEdges 10 = .ok (.iload_n 1, 1) := by decide +kernel
theorem dX1_countEdges_11 : decode cX1_countEdges 11 = .ok (.aload_n 0, 1) := by decide +kernel
theorem dX1_countEdges_12 : decode cX1_countEdges 12 = .ok (.getfield 9, 3) := by decide +kernel
theorem dX1_countEdges_15 : decode cX1_countEdges 15 = .ok (.iload_n 2, 1) := by decide +kernel
theorem dX1_countEdges_16 : decode cX1_countEdges 16 = .ok (.laload, 1) := by decide +kernel
theorem dX1_countEdges_17 : decode cX1_countEdges 17 = .ok (.invokestatic 105, 3) := by decide +kernel
theorem dX1_countEdges_20 : decode cX1_countEdges 20 = .ok (.iadd, 1) := by decide +kernel
theorem dX1_countEdges_21 : decode cX1_countEdges 21 = .ok (.istore_n 1, 1) := by decide +kernel
theorem dX1_countEdges_22 : decode cX1_countEdges 22 = .ok (.iinc 2 1, 3) := by decide +kernel
theorem dX1_countEdges_25 : decode cX1_countEdges 25 = .ok (.goto (-21), 3) := by decide +kernel
theorem dX1_countEdges_28 : decode cX1_countEdges 28 = .ok (.iload_n 1, 1) := by decide +kernel
theorem dX1_countEdges_29 : decode cX1_countEdges 29 = .ok (.ireturn, 1) := by decide +kernel
set_option maxHeartbeats 4000000 in
set_option maxRecDepth 100000 in
theorem c_X1_countEdges {l : Launch} {g : Gh} {w : Wd} {k0 : Nat} {rz : Int32} (hF : f_X1_countEdges w k0 = some rz) (hk0 : zct zC k0 = 1) : Met l yX1_countEdges (Cond.code yX1_countEdges cX1_countEdges 3 (some .int) :: TT) (rmd 1) (Pcw zC g w [.ref (g.2.2 k0)]) (Qw zC g w (some (.int (rz)))) 0 0 (zA zC g) := by
  refine mt_start (by decide) (Nat.le_of_ble_eq_true rfl) ?_
  intro p e s m args below meth c H locs ls X hr hl hH
  have hx := X.1
  have hb := X.2.1
  have hml := X.2.2.1
  have hown := X.2.2.2.1
  have ht := X.2.2.2.2.1
  have hl : lv_has ls 3 [(0, .ref (g.2.2 (k0)))] := hl
  unfold f_X1_countEdges at hF
  refine lv_iconst (v := (0 : Int32)) hx hb dX1_countEdges_0 (by decide) ?_
  refine lv_istore_n (lv' := [(1, .int ((0 : Int32))), (0, .ref (g.2.2 (k0)))]) hx hb dX1_countEdges_1 rfl hl (by decide) rfl (fun ls hl => ?_)
  refine lv_iconst (v := (0 : Int32)) hx hb dX1_countEdges_2 (by decide) ?_
  refine lv_istore_n (lv' := [(2, .int ((0 : Int32))), (1, .int ((0 : Int32))), (0, .ref (g.2.2 (k0)))]) hx hb dX1_countEdges_3 rfl hl (by decide) rfl (fun ls hl => ?_)
  obtain ⟨r2, hLr2, hF⟩ := ob hF
  have Jr2 : ∀ (H : Heap) (locs : List Loc) (ls : Array Slot), HW zC g w s.heap H locs → lv_has ls 3 [(0, .ref (g.2.2 (k0))), (1, .int (r2))] → W p l e (rmd 1) s m args below meth c H locs 0 0 (MQ below (Qw zC g w (some (.int (rz)))) args s 0 0 (zA zC g)) (F0 m 28 ls []) := by
    intro H locs ls hH hl
    refine lv_iload_n hx hb dX1_countEdges_28 rfl (lv_at hl 1 rfl) ?_
    obtain rfl := se1 hF
    exact w_iret X hH hr dX1_countEdges_29
  have Lr2 : ∀ (n : Nat) (s1 : Int32 × Int32), lp (b_X1_countEdges_1 w k0) n s1 = some r2 → ∀ (H : Heap) (locs : List Loc) (ls : Array Slot), HW zC g w s.heap H locs → lv_has ls 3 [(0, .ref (g.2.2 (k0))), (1, .int (s1.1)), (2, .int (s1.2))] → W p l e (rmd 1) s m args below meth c H locs 0 0 (MQ below (Qw zC g w (some (.int (rz)))) args s 0 0 (zA zC g)) (F0 m 4 ls []) := by
    intro n
    induction n with
    | zero => intro s1 hL; exact lp_0 hL
    | succ n ih =>
      intro s1 hL H locs ls hH hl
      obtain ⟨bb, hF, hL⟩ := lp_s hL
      unfold b_X1_countEdges_1 at hF
      refine lv_iload_n hx hb dX1_countEdges_4 rfl (lv_at hl 2 rfl) ?_
      refine lv_bipush (v := (56 : Int32)) hx hb dX1_countEdges_5 (by decide) ?_
      refine w_ilt_f (tgt := 28) hx hb dX1_countEdges_7 (by decide) (fun c3 => ?_) (fun c3 => ?_)
      · replace hF := ifn c3 hF
        obtain rfl := se1 hF
        subst hL
        exact Jr2 _ _ _ hH (lv_sub hl [0, 1] rfl)
      · replace hF := ifp c3 hF
        refine lv_iload_n hx hb dX1_countEdges_10 rfl (lv_at hl 1 rfl) ?_
        refine lv_aload_n hx hb dX1_countEdges_11 rfl (lv_at hl 0 rfl) ?_
        refine w_getr X hH hk0 fs_1_0 lk_1_9 dX1_countEdges_12 ?_
        refine lv_iload_n hx hb dX1_countEdges_15 rfl (lv_at hl 2 rfl) ?_
        obtain ⟨x4, h4, hF⟩ := ob hF
        refine w_lald X hH h4 (rt_C_1_0 hk0) dX1_countEdges_16 ?_
        refine w_callS (As := [.long (x4)]) (rest := [.int (s1.1)]) (st1 := [.int ((f_J13_bitCount (x4))), .int (s1.1)]) X hH (c_J13_bitCount (l := l) (g := g) (w := w) (v_i := x4) rfl) (Or.inl tw_3_212) ms_J13_bitCount tw_3_213 ⟨Nat.le_of_ble_eq_true rfl, Nat.le_of_ble_eq_true rfl⟩ rfl rfl hl.1 (Nat.le_of_ble_eq_true rfl) dX1_countEdges_17 ⟨Nat.le_refl _, Nat.le_refl _⟩ rfl (fun H locs hH => ?_)
        refine lv_iadd hx hb dX1_countEdges_20 ?_
        refine lv_istore_n (lv' := [(1, .int ((s1.1 + (f_J13_bitCount (x4))))), (0, .ref (g.2.2 (k0))), (2, .int (s1.2))]) hx hb dX1_countEdges_21 rfl hl (by decide) rfl (fun ls hl => ?_)
        refine lv_iinc (v := (s1.2 + (1 : Int32))) (lv' := [(2, .int ((s1.2 + (1 : Int32)))), (1, .int ((s1.1 + (f_J13_bitCount (x4))))), (0, .ref (g.2.2 (k0)))]) hx hb dX1_countEdges_22 hl (k := 2) rfl rfl (by decide) rfl (fun ls hl => ?_)
        refine lv_goto (tgt := 4) hx hb dX1_countEdges_25 (by decide) ?_
        obtain rfl := se1 hF
        exact ih _ hL _ _ _ hH (lv_sub hl [2, 1, 0] rfl)
  exact Lr2 NF _ hLr2 _ _ _ hH (lv_sub hl [2, 1, 0] rfl)

theorem dJ7_fill_d0a16_0 : decode cJ7_fill_d0a16 0 = .ok (.iconst 0, 1) := by decide +kernel
theorem dJ7_fill_d0a16_1 : decode cJ7_fill_d0a16 1 = .ok (.istore_n 3, 1) := by decide +kernel
theorem dJ7_fill_d0a16_2 : decode cJ7_fill_d0a16 2 = .ok (.aload_n 0, 1) := by decide +kernel
theorem dJ7_fill_d0a16_3 : decode cJ7_fill_d0a16 3 = .ok (.arraylength, 1) := by decide +kernel
theorem dJ7_fill_d0a16_4 : decode cJ7_fill_d0a16 4 = .ok (.istore 4, 2) := by decide +kernel
theorem dJ7_fill_d0a16_6 : decode cJ7_fill_d0a16 6 = .ok (.iload_n 3, 1) := by decide +kernel
theorem dJ7_fill_d0a16_7 : decode cJ7_fill_d0a16 7 = .ok (.iload 4, 2) := by decide +kernel
theorem dJ7_fill_d0a16_9 : decode cJ7_fill_d0a16 9 = .ok (.if_icmp .ge 13, 3) := by decide +kernel
theorem dJ7_fill_d0a16_12 : decode cJ7_fill_d0a16 12 = .ok (.aload_n 0, 1) := by decide +kernel
theorem dJ7_fill_d0a16_13 : decode cJ7_fill_d0a16 13 = .ok (.iload_n 3, 1) := by decide +kernel
theorem dJ7_fill_d0a16_14 : decode cJ7_fill_d0a16 14 = .ok (.lload_n 1, 1) := by decide +kernel
theorem dJ7_fill_d0a16_15 : decode cJ7_fill_d0a16 15 = .ok (.lastore, 1) := by decide +kernel
theorem dJ7_fill_d0a16_16 : decode cJ7_fill_d0a16 16 = .ok (.iinc 3 1, 3) := by decide +kernel
theorem dJ7_fill_d0a16_19 : decode cJ7_fill_d0a16 19 = .ok (.goto (-13), 3) := by decide +kernel
theorem dJ7_fill_d0a16_22 : decode cJ7_fill_d0a16 22 = .ok (.return_, 1) := by decide +kernel
set_option maxHeartbeats 4000000 in
set_option maxRecDepth 100000 in
theorem c_J7_fillL {l : Launch} {g : Gh} {w : Wd} {v_a : Nat} {v_val : Int64} {wz : Wd} (hF : f_J7_fillL w v_a v_val = some wz) (hv_a : zct zC v_a = 21) : Met l yJ7_fill_d0a16 (Cond.code yJ7_fill_d0a16 cJ7_fill_d0a16 5 none :: TT) (rmd 0) (Pcw zC g w [.ref (g.2.2 (v_a)), .long (v_val)]) (Qw zC g wz none) 0 0 (zA zC g) := by
  refine mt_start (by decide) (Nat.le_of_ble_eq_true rfl) ?_
  intro p e s m args below meth c H locs ls X hr hl hH
  have hx := X.1
  have hb := X.2.1
  have hml := X.2.2.1
  have hown := X.2.2.2.1
  have ht := X.2.2.2.2.1
  have hl : lv_has ls 5 [(0, .ref (g.2.2 (v_a))), (1, .long (v_val))] := hl
  unfold f_J7_fillL at hF
  refine lv_iconst (v := (0 : Int32)) hx hb dJ7_fill_d0a16_0 (by decide) ?_
  refine lv_istore_n (lv' := [(3, .int ((0 : Int32))), (0, .ref (g.2.2 (v_a))), (1, .long (v_val))]) hx hb dJ7_fill_d0a16_1 rfl hl (by decide) rfl (fun ls hl => ?_)
  refine lv_aload_n hx hb dJ7_fill_d0a16_2 rfl (lv_at hl 1 rfl) ?_
  refine w_alen X hH hv_a (by decide) dJ7_fill_d0a16_3 ?_
  refine lv_istore (lv' := [(4, .int ((nI (zln zC (v_a))))), (3, .int ((0 : Int32))), (0, .ref (g.2.2 (v_a))), (1, .long (v_val))]) hx hb dJ7_fill_d0a16_4 hl (by decide) rfl (fun ls hl => ?_)
  obtain ⟨r2, hLr2, hF⟩ := ob hF
  have Jr2 : ∀ (H : Heap) (locs : List Loc) (ls : Array Slot), HW zC g r2 s.heap H locs → lv_has ls 5 [(0, .ref (g.2.2 (v_a))), (1, .long (v_val))] → W p l e (rmd 0) s m args below meth c H locs 0 0 (MQ below (Qw zC g wz none) args s 0 0 (zA zC g)) (F0 m 22 ls []) := by
    intro H locs ls hH hl
    obtain rfl := se1 hF
    exact w_vret X hH hr dJ7_fill_d0a16_22
  have Lr2 : ∀ (n : Nat) (s1 : Int32 × Wd), lp (b_J7_fillL_1 v_a v_val) n s1 = some r2 → ∀ (H : Heap) (locs : List Loc) (ls : Array Slot), HW zC g s1.2 s.heap H locs → lv_has ls 5 [(0, .ref (g.2.2 (v_a))), (1, .long (v_val)), (3, .int (s1.1)), (4, .int ((nI (zln zC (v_a)))))] → W p l e (rmd 0) s m args below meth c H locs 0 0 (MQ below (Qw zC g wz none) args s 0 0 (zA zC g)) (F0 m 6 ls []) := by
    intro n
    induction n with
    | zero => intro s1 hL; exact lp_0 hL
    | succ n ih =>
      intro s1 hL H locs ls hH hl
      obtain ⟨bb, hF, hL⟩ := lp_s hL
      unfold b_J7_fillL_1 at hF
      refine lv_iload_n hx hb dJ7_fill_d0a16_6 rfl (lv_at hl 2 rfl) ?_
      refine lv_iload hx hb dJ7_fill_d0a16_7 (lv_at hl 3 rfl) ?_
      refine w_ilt_f (tgt := 22) hx hb dJ7_fill_d0a16_9 (by decide) (fun c3 => ?_) (fun c3 => ?_)
      · replace hF := ifn c3 hF
        obtain rfl := se1 hF
        subst hL
        exact Jr2 _ _ _ hH (lv_sub hl [0, 1] rfl)
      · replace hF := ifp c3 hF
        refine lv_aload_n hx hb dJ7_fill_d0a16_12 rfl (lv_at hl 0 rfl) ?_
        refine lv_iload_n hx hb dJ7_fill_d0a16_13 rfl (lv_at hl 2 rfl) ?_
        refine lv_lload_n hx hb dJ7_fill_d0a16_14 rfl (lv_at hl 1 rfl) ?_
        obtain ⟨w4, h4, hF⟩ := ob hF
        refine w_last X hH h4 hv_a dJ7_fill_d0a16_15 (fun H locs hH => ?_)
        refine lv_iinc (v := (s1.1 + (1 : Int32))) (lv' := [(3, .int ((s1.1 + (1 : Int32)))), (0, .ref (g.2.2 (v_a))), (1, .long (v_val)), (4, .int ((nI (zln zC (v_a)))))]) hx hb dJ7_fill_d0a16_16 hl (k := 2) rfl rfl (by decide) rfl (fun ls hl => ?_)
        refine lv_goto (tgt := 6) hx hb dJ7_fill_d0a16_19 (by decide) ?_
        obtain rfl := se1 hF
        exact ih _ hL _ _ _ hH (lv_sub hl [1, 2, 0, 3] rfl)
  exact Lr2 NF _ hLr2 _ _ _ hH (lv_sub hl [2, 3, 1, 0] rfl)

theorem dX1_addEdges_0 : decode cX1_addEdges 0 = .ok (.iconst 0, 1) := by decide +kernel
theorem dX1_addEdges_1 : decode cX1_addEdges 1 = .ok (.istore 4, 2) := by decide +kernel
theorem dX1_addEdges_3 : decode cX1_addEdges 3 = .ok (.iload 4, 2) := by decide +kernel
theorem dX1_addEdges_5 : decode cX1_addEdges 5 = .ok (.bipush 10, 2) := by decide +kernel
theorem dX1_addEdges_7 : decode cX1_addEdges 7 = .ok (.if_icmp .ge 80, 3) := by decide +kernel
theorem dX1_addEdges_10 : decode cX1_addEdges 10 = .ok (.iload_n 3, 1) := by decide +kernel
theorem dX1_addEdges_11 : decode cX1_addEdges 11 = .ok (.iload 4, 2) := by decide +kernel
theorem dX1_addEdges_13 : decode cX1_addEdges 13 = .ok (.invokestatic 71, 3) := by decide +kernel
theorem dX1_addEdges_16 : decode cX1_addEdges 16 = .ok (.ifCond .eq 65, 3) := by decide +kernel
theorem dX1_addEdges_19 : decode cX1_addEdges 19 = .ok (.iconst 0, 1) := by decide +kernel
theorem dX1_addEdges_20 : decode cX1_addEdges 20 = .ok (.istore 5, 2) := by decide +kernel
theorem dX1_addEdges_22 : decode cX1_addEdges 22 = .ok (.iload 5, 2) := by decide +kernel
theorem dX1_addEdges_24 : decode cX1_addEdges 24 = .ok (.aload_n 1, 1) := by decide +kernel
theorem dX1_addEdges_25 : decode cX1_addEdges 25 = .ok (.iload_n 2, 1) := by decide +kernel
theorem dX1_addEdges_26 : decode cX1_addEdges 26 = .ok (.invokevirtual 75, 3) := by decide +kernel
theorem dX1_addEdges_29 : decode cX1_addEdges 29 = .ok (.if_icmp .ge 52, 3) := by decide +kernel
theorem dX1_addEdges_32 : decode cX1_addEdges 32 = .ok (.aload_n 1, 1) := by decide +kernel
theorem dX1_addEdges_33 : decode cX1_addEdges 33 = .ok (.iload_n 2, 1) := by decide +kernel
theorem dX1_addEdges_34 : decode cX1_addEdges 34 = .ok (.iload 4, 2) := by decide +kernel
theorem dX1_addEdges_36 : decode cX1_addEdges 36 = .ok (.iload 5, 2) := by decide +kernel
theorem dX1_addEdges_38 : decode cX1_addEdges 38 = .ok (.invokevirtual 79, 3) := by decide +kernel
theorem dX1_addEdges_41 : decode cX1_addEdges 41 = .ok (.istore 6, 2) := by decide +kernel
theorem dX1_addEdges_43 : decode cX1_addEdges 43 = .ok (.aload_n 1, 1) := by decide +kernel
theorem dX1_addEdges_44 : decode cX1_addEdges 44 = .ok (.iload_n 2, 1) := by decide +kernel
theorem dX1_addEdges_45 : decode cX1_addEdges 45 = .ok (.iload 4, 2) := by decide +kernel
theorem dX1_addEdges_47 : decode cX1_addEdges 47 = .ok (.iload 5, 2) := by decide +kernel
theorem dX1_addEdges_49 : decode cX1_addEdges 49 = .ok (.invokevirtual 83, 3) := by decide +kernel
theorem dX1_addEdges_52 : decode cX1_addEdges 52 = .ok (.istore 7, 2) := by decide +kernel
theorem dX1_addEdges_54 : decode cX1_addEdges 54 = .ok (.iload 6, 2) := by decide +kernel
theorem dX1_addEdges_56 : decode cX1_addEdges 56 = .ok (.iload 7, 2) := by decide +kernel
theorem dX1_addEdges_58 : decode cX1_addEdges 58 = .ok (.if_icmp .eq 17, 3) := by decide +kernel
theorem dX1_addEdges_61 : decode cX1_addEdges 61 = .ok (.aload_n 0, 1) := by decide +kernel
theorem dX1_addEdges_62 : decode cX1_addEdges 62 = .ok (.getfield 9, 3) := by decide +kernel
theorem dX1_addEdges_65 : decode cX1_addEdges 65 = .ok (.iload 6, 2) := by decide +kernel
theorem dX1_addEdges_67 : decode cX1_addEdges 67 = .ok (.dup2, 1) := by decide +kernel
theorem dX1_addEdges_68 : decode cX1_addEdges 68 = .ok (.laload, 1) := by decide +kernel
theorem dX1_addEdges_69 : decode cX1_addEdges 69 = .ok (.lconst 1, 1) := by decide +kernel
theorem dX1_addEdges_70 : decode cX1_addEdges 70 = .ok (.iload 7, 2) := by decide +kernel
theorem dX1_addEdges_72 : decode cX1_addEdges 72 = .ok (.lshl, 1) := by decide +kernel
theorem dX1_addEdges_73 : decode cX1_addEdges 73 = .ok (.lor, 1) := by decide +kernel
theorem dX1_addEdges_74 : decode cX1_addEdges 74 = .ok (.lastore, 1) := by decide +kernel
theorem dX1_addEdges_75 : decode cX1_addEdges 75 = .ok (.iinc 5 1, 3) := by decide +kernel
theorem dX1_addEdges_78 : decode cX1_addEdges 78 = .ok (.goto (-56), 3) := by decide +kernel
theorem dX1_addEdges_81 : decode cX1_addEdges 81 = .ok (.iinc 4 1, 3) := by decide +kernel
theorem dX1_addEdges_84 : decode cX1_addEdges 84 = .ok (.goto (-81), 3) := by decide +kernel
theorem dX1_addEdges_87 : decode cX1_addEdges 87 = .ok (.return_, 1) := by decide +kernel
set_option maxHeartbeats 4000000 in
set_option maxRecDepth 100000 in
theorem c_X1_addEdges {l : Launch} {g : Gh} {w : Wd} {k0 : Nat} {v_program : Nat} {v_constraint : Int32} {v_viaSet : Int32} {wz : Wd} (hF : f_X1_addEdges w k0 v_program v_constraint v_viaSet = some wz) (hk0 : zct zC k0 = 1) (hv_program : zct zC v_program = 6) : Met l yX1_addEdges (Cond.code yX1_addEdges cX1_addEdges 8 none :: TT) (rmd 2) (Pcw zC g w [.ref (g.2.2 k0), .ref (g.2.2 (v_program)), .int (v_constraint), .int (v_viaSet)]) (Qw zC g wz none) 0 0 (zA zC g) := by
  refine mt_start (by decide) (Nat.le_of_ble_eq_true rfl) ?_
  intro p e s m args below meth c H locs ls X hr hl hH
  have hx := X.1
  have hb := X.2.1
  have hml := X.2.2.1
  have hown := X.2.2.2.1
  have ht := X.2.2.2.2.1
  have hl : lv_has ls 8 [(0, .ref (g.2.2 (k0))), (1, .ref (g.2.2 (v_program))), (2, .int (v_constraint)), (3, .int (v_viaSet))] := hl
  unfold f_X1_addEdges at hF
  refine lv_iconst (v := (0 : Int32)) hx hb dX1_addEdges_0 (by decide) ?_
  refine lv_istore (lv' := [(4, .int ((0 : Int32))), (0, .ref (g.2.2 (k0))), (1, .ref (g.2.2 (v_program))), (2, .int (v_constraint)), (3, .int (v_viaSet))]) hx hb dX1_addEdges_1 hl (by decide) rfl (fun ls hl => ?_)
  obtain ⟨r2, hLr2, hF⟩ := ob hF
  have Jr2 : ∀ (H : Heap) (locs : List Loc) (ls : Array Slot), HW zC g r2 s.heap H locs → lv_has ls 8 [(0, .ref (g.2.2 (k0))), (1, .ref (g.2.2 (v_program))), (2, .int (v_constraint)), (3, .int (v_viaSet))] → W p l e (rmd 2) s m args below meth c H locs 0 0 (MQ below (Qw zC g wz none) args s 0 0 (zA zC g)) (F0 m 87 ls []) := by
    intro H locs ls hH hl
    obtain rfl := se1 hF
    exact w_vret X hH hr dX1_addEdges_87
  have Lr2 : ∀ (n : Nat) (s1 : Int32 × Wd), lp (b_X1_addEdges_1 v_viaSet v_program v_constraint k0) n s1 = some r2 → ∀ (H : Heap) (locs : List Loc) (ls : Array Slot), HW zC g s1.2 s.heap H locs → lv_has ls 8 [(0, .ref (g.2.2 (k0))), (1, .ref (g.2.2 (v_program))), (2, .int (v_constraint)), (3, .int (v_viaSet)), (4, .int (s1.1))] → W p l e (rmd 2) s m args below meth c H locs 0 0 (MQ below (Qw zC g wz none) args s 0 0 (zA zC g)) (F0 m 3 ls []) := by
    intro n
    induction n with
    | zero => intro s1 hL; exact lp_0 hL
    | succ n ih =>
      intro s1 hL H locs ls hH hl
      obtain ⟨bb, hF, hL⟩ := lp_s hL
      unfold b_X1_addEdges_1 at hF
      refine lv_iload hx hb dX1_addEdges_3 (lv_at hl 4 rfl) ?_
      refine lv_bipush (v := (10 : Int32)) hx hb dX1_addEdges_5 (by decide) ?_
      refine w_ilt_f (tgt := 87) hx hb dX1_addEdges_7 (by decide) (fun c3 => ?_) (fun c3 => ?_)
      · replace hF := ifn c3 hF
        obtain rfl := se1 hF
        subst hL
        exact Jr2 _ _ _ hH (lv_sub hl [0, 1, 2, 3] rfl)
      · replace hF := ifp c3 hF
        obtain ⟨s4, hs4, hF⟩ := ob hF
        have Js4 : ∀ (H : Heap) (locs : List Loc) (ls : Array Slot), HW zC g s4 s.heap H locs → lv_has ls 8 [(0, .ref (g.2.2 (k0))), (1, .ref (g.2.2 (v_program))), (2, .int (v_constraint)), (3, .int (v_viaSet)), (4, .int (s1.1))] → W p l e (rmd 2) s m args below meth c H locs 0 0 (MQ below (Qw zC g wz none) args s 0 0 (zA zC g)) (F0 m 81 ls []) := by
          intro H locs ls hH hl
          refine lv_iinc (v := (s1.1 + (1 : Int32))) (lv' := [(4, .int ((s1.1 + (1 : Int32)))), (0, .ref (g.2.2 (k0))), (1, .ref (g.2.2 (v_program))), (2, .int (v_constraint)), (3, .int (v_viaSet))]) hx hb dX1_addEdges_81 hl (k := 4) rfl rfl (by decide) rfl (fun ls hl => ?_)
          refine lv_goto (tgt := 3) hx hb dX1_addEdges_84 (by decide) ?_
          obtain rfl := se1 hF
          exact ih _ hL _ _ _ hH (lv_sub hl [1, 2, 3, 4, 0] rfl)
        have hF := hs4
        refine lv_iload_n hx hb dX1_addEdges_10 rfl (lv_at hl 3 rfl) ?_
        refine lv_iload hx hb dX1_addEdges_11 (lv_at hl 4 rfl) ?_
        refine w_callS (As := [.int (v_viaSet), .int (s1.1)]) (rest := []) (st1 := [.int (bI ((f_X9_contains (v_viaSet) (s1.1))))]) X hH (c_X9_contains (l := l) (g := g) (w := s1.2) (v_set := v_viaSet) (v_number := s1.1) rfl) (Or.inr ⟨_, tw_3_187⟩) ms_X9_contains tw_2_174 ⟨Nat.le_of_ble_eq_true rfl, Nat.le_of_ble_eq_true rfl⟩ rfl rfl hl.1 (Nat.le_of_ble_eq_true rfl) dX1_addEdges_13 ⟨Nat.le_refl _, Nat.le_refl _⟩ rfl (fun H locs hH => ?_)
        refine w_b_f (tgt := 81) hx hb dX1_addEdges_16 (by decide) (fun c5 => ?_) (fun c5 => ?_)
        · replace hF := ifn c5 hF
          obtain rfl := se1 hF
          exact Js4 _ _ _ hH (lv_sub hl [0, 1, 2, 3, 4] rfl)
        · replace hF := ifp c5 hF
          refine lv_iconst (v := (0 : Int32)) hx hb dX1_addEdges_19 (by decide) ?_
          refine lv_istore (lv' := [(5, .int ((0 : Int32))), (0, .ref (g.2.2 (k0))), (1, .ref (g.2.2 (v_program))), (2, .int (v_constraint)), (3, .int (v_viaSet)), (4, .int (s1.1))]) hx hb dX1_addEdges_20 hl (by decide) rfl (fun ls hl => ?_)
          obtain ⟨r7, hLr7, hF⟩ := ob hF
          have Jr7 : ∀ (H : Heap) (locs : List Loc) (ls : Array Slot), HW zC g r7 s.heap H locs → lv_has ls 8 [(0, .ref (g.2.2 (k0))), (1, .ref (g.2.2 (v_program))), (2, .int (v_constraint)), (3, .int (v_viaSet)), (4, .int (s1.1))] → W p l e (rmd 2) s m args below meth c H locs 0 0 (MQ below (Qw zC g wz none) args s 0 0 (zA zC g)) (F0 m 81 ls []) := by
            intro H locs ls hH hl
            obtain rfl := se1 hF
            exact Js4 _ _ _ hH (lv_sub hl [0, 1, 2, 3, 4] rfl)
          have Lr7 : ∀ (n : Nat) (s6 : Int32 × Wd), lp (b_X1_addEdges_2 v_program v_constraint s1 k0) n s6 = some r7 → ∀ (H : Heap) (locs : List Loc) (ls : Array Slot), HW zC g s6.2 s.heap H locs → lv_has ls 8 [(0, .ref (g.2.2 (k0))), (1, .ref (g.2.2 (v_program))), (2, .int (v_constraint)), (3, .int (v_viaSet)), (4, .int (s1.1)), (5, .int (s6.1))] → W p l e (rmd 2) s m args below meth c H locs 0 0 (MQ below (Qw zC g wz none) args s 0 0 (zA zC g)) (F0 m 22 ls []) := by
            intro n
            induction n with
            | zero => intro s6 hL; exact lp_0 hL
            | succ n ih =>
              intro s6 hL H locs ls hH hl
              obtain ⟨bb, hF, hL⟩ := lp_s hL
              unfold b_X1_addEdges_2 at hF
              refine lv_iload hx hb dX1_addEdges_22 (lv_at hl 5 rfl) ?_
              refine lv_aload_n hx hb dX1_addEdges_24 rfl (lv_at hl 1 rfl) ?_
              refine lv_iload_n hx hb dX1_addEdges_25 rfl (lv_at hl 2 rfl) ?_
              obtain ⟨x8, h8, hF⟩ := ob hF
              refine w_callV (As := [.int (v_constraint)]) (k := v_program) (rest := [.int (s6.1)]) (st1 := [.int (x8), .int (s6.1)]) X hH (c_X6_flowCount (l := l) (g := g) (w := s6.2) (k0 := v_program) (v_constraint := v_constraint) h8 hv_program) (Or.inr ⟨_, tw_3_188⟩) ms_X6_flowCount im_X6_flowCount hv_program cn_6 ⟨Nat.le_of_ble_eq_true rfl, Nat.le_of_ble_eq_true rfl⟩ rfl rfl hl.1 (Nat.le_of_ble_eq_true rfl) dX1_addEdges_26 ⟨Nat.le_refl _, Nat.le_refl _⟩ rfl (fun H locs hH => ?_)
              refine w_ilt_f (tgt := 81) hx hb dX1_addEdges_29 (by decide) (fun c9 => ?_) (fun c9 => ?_)
              · replace hF := ifn c9 hF
                obtain rfl := se1 hF
                subst hL
                exact Jr7 _ _ _ hH (lv_sub hl [0, 1, 2, 3, 4] rfl)
              · replace hF := ifp c9 hF
                refine lv_aload_n hx hb dX1_addEdges_32 rfl (lv_at hl 1 rfl) ?_
                refine lv_iload_n hx hb dX1_addEdges_33 rfl (lv_at hl 2 rfl) ?_
                refine lv_iload hx hb dX1_addEdges_34 (lv_at hl 4 rfl) ?_
                refine lv_iload hx hb dX1_addEdges_36 (lv_at hl 5 rfl) ?_
                obtain ⟨x10, h10, hF⟩ := ob hF
                refine w_callV (As := [.int (v_constraint), .int (s1.1), .int (s6.1)]) (k := v_program) (rest := []) (st1 := [.int (x10)]) X hH (c_X6_flowSource (l := l) (g := g) (w := s6.2) (k0 := v_program) (v_constraint := v_constraint) (v_via := s1.1) (v_flow := s6.1) h10 hv_program) (Or.inr ⟨_, tw_3_189⟩) ms_X6_flowSource im_X6_flowSource hv_program cn_6 ⟨Nat.le_of_ble_eq_true rfl, Nat.le_of_ble_eq_true rfl⟩ rfl rfl hl.1 (Nat.le_of_ble_eq_true rfl) dX1_addEdges_38 ⟨Nat.le_refl _, Nat.le_refl _⟩ rfl (fun H locs hH => ?_)
                refine lv_istore (lv' := [(6, .int (x10)), (0, .ref (g.2.2 (k0))), (1, .ref (g.2.2 (v_program))), (2, .int (v_constraint)), (3, .int (v_viaSet)), (4, .int (s1.1)), (5, .int (s6.1))]) hx hb dX1_addEdges_41 hl (by decide) rfl (fun ls hl => ?_)
                refine lv_aload_n hx hb dX1_addEdges_43 rfl (lv_at hl 2 rfl) ?_
                refine lv_iload_n hx hb dX1_addEdges_44 rfl (lv_at hl 3 rfl) ?_
                refine lv_iload hx hb dX1_addEdges_45 (lv_at hl 5 rfl) ?_
                refine lv_iload hx hb dX1_addEdges_47 (lv_at hl 6 rfl) ?_
                obtain ⟨x11, h11, hF⟩ := ob hF
                refine w_callV (As := [.int (v_constraint), .int (s1.1), .int (s6.1)]) (k := v_program) (rest := []) (st1 := [.int (x11)]) X hH (c_X6_flowTarget (l := l) (g := g) (w := s6.2) (k0 := v_program) (v_constraint := v_constraint) (v_via := s1.1) (v_flow := s6.1) h11 hv_program) (Or.inr ⟨_, tw_3_190⟩) ms_X6_flowTarget im_X6_flowTarget hv_program cn_6 ⟨Nat.le_of_ble_eq_true rfl, Nat.le_of_ble_eq_true rfl⟩ rfl rfl hl.1 (Nat.le_of_ble_eq_true rfl) dX1_addEdges_49 ⟨Nat.le_refl _, Nat.le_refl _⟩ rfl (fun H locs hH => ?_)
                refine lv_istore (lv' := [(7, .int (x11)), (6, .int (x10)), (0, .ref (g.2.2 (k0))), (1, .ref (g.2.2 (v_program))), (2, .int (v_constraint)), (3, .int (v_viaSet)), (4, .int (s1.1)), (5, .int (s6.1))]) hx hb dX1_addEdges_52 hl (by decide) rfl (fun ls hl => ?_)
                obtain ⟨s12, hs12, hF⟩ := ob hF
                have Js12 : ∀ (H : Heap) (locs : List Loc) (ls : Array Slot), HW zC g s12 s.heap H locs → lv_has ls 8 [(0, .ref (g.2.2 (k0))), (1, .ref (g.2.2 (v_program))), (2, .int (v_constraint)), (3, .int (v_viaSet)), (4, .int (s1.1)), (5, .int (s6.1)), (6, .int (x10)), (7, .int (x11))] → W p l e (rmd 2) s m args below meth c H locs 0 0 (MQ below (Qw zC g wz none) args s 0 0 (zA zC g)) (F0 m 75 ls []) := by
                  intro H locs ls hH hl
                  refine lv_iinc (v := (s6.1 + (1 : Int32))) (lv' := [(5, .int ((s6.1 + (1 : Int32)))), (0, .ref (g.2.2 (k0))), (1, .ref (g.2.2 (v_program))), (2, .int (v_constraint)), (3, .int (v_viaSet)), (4, .int (s1.1)), (6, .int (x10)), (7, .int (x11))]) hx hb dX1_addEdges_75 hl (k := 5) rfl rfl (by decide) rfl (fun ls hl => ?_)
                  refine lv_goto (tgt := 22) hx hb dX1_addEdges_78 (by decide) ?_
                  obtain rfl := se1 hF
                  exact ih _ hL _ _ _ hH (lv_sub hl [1, 2, 3, 4, 5, 0] rfl)
                have hF := hs12
                refine lv_iload hx hb dX1_addEdges_54 (lv_at hl 1 rfl) ?_
                refine lv_iload hx hb dX1_addEdges_56 (lv_at hl 0 rfl) ?_
                refine w_ine_f (tgt := 75) hx hb dX1_addEdges_58 (by decide) (fun c13 => ?_) (fun c13 => ?_)
                · replace hF := ifn c13 hF
                  obtain rfl := se1 hF
                  exact Js12 _ _ _ hH (lv_sub hl [2, 3, 4, 5, 6, 7, 1, 0] rfl)
                · replace hF := ifp c13 hF
                  refine lv_aload_n hx hb dX1_addEdges_61 rfl (lv_at hl 2 rfl) ?_
                  refine w_getr X hH hk0 fs_1_0 lk_1_9 dX1_addEdges_62 ?_
                  refine lv_iload hx hb dX1_addEdges_65 (lv_at hl 1 rfl) ?_
                  refine lv_dup2_11 hx hb dX1_addEdges_67 rfl rfl ?_
                  obtain ⟨x14, h14, hF⟩ := ob hF
                  refine w_lald X hH h14 (rt_C_1_0 hk0) dX1_addEdges_68 ?_
                  refine lv_lconst (v := 1) hx hb dX1_addEdges_69 (by decide) ?_
                  refine lv_iload hx hb dX1_addEdges_70 (lv_at hl 0 rfl) ?_
                  refine w_lshl hx hb dX1_addEdges_72 ?_
                  refine lv_lor hx hb dX1_addEdges_73 ?_
                  obtain ⟨w15, h15, hF⟩ := ob hF
                  refine w_last X hH h15 (rt_C_1_0 hk0) dX1_addEdges_74 (fun H locs hH => ?_)
                  obtain rfl := se1 hF
                  exact Js12 _ _ _ hH (lv_sub hl [2, 3, 4, 5, 6, 7, 1, 0] rfl)
          exact Lr7 NF _ hLr7 _ _ _ hH (lv_sub hl [1, 2, 3, 4, 5, 0] rfl)
  exact Lr2 NF _ hLr2 _ _ _ hH (lv_sub hl [1, 2, 3, 4, 0] rfl)
