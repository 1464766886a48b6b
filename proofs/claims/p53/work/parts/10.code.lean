theorem dX5_appendWord_0 : decode cX5_appendWord 0 = .ok (.bipush 24, 2) := by decide +kernel
theorem dX5_appendWord_2 : decode cX5_appendWord 2 = .ok (.istore_n 2, 1) := by decide +kernel
theorem dX5_appendWord_3 : decode cX5_appendWord 3 = .ok (.iload_n 2, 1) := by decide +kernel
theorem dX5_appendWord_4 : decode cX5_appendWord 4 = .ok (.ifCond .lt 42, 3) := by decide +kernel
theorem dX5_appendWord_7 : decode cX5_appendWord 7 = .ok (.aload_n 0, 1) := by decide +kernel
theorem dX5_appendWord_8 : decode cX5_appendWord 8 = .ok (.getfield 15, 3) := by decide +kernel
theorem dX5_appendWord_11 : decode cX5_appendWord 11 = .ok (.sipush 600, 3) := by decide +kernel
theorem dX5_appendWord_14 : decode cX5_appendWord 14 = .ok (.if_icmp .ge 26, 3) := by decide +kernel
theorem dX5_appendWord_17 : decode cX5_appendWord 17 = .ok (.aload_n 0, 1) := by decide +kernel
theorem dX5_appendWord_18 : decode cX5_appendWord 18 = .ok (.getfield 9, 3) := by decide +kernel
theorem dX5_appendWord_21 : decode cX5_appendWord 21 = .ok (.aload_n 0, 1) := by decide +kernel
theorem dX5_appendWord_22 : decode cX5_appendWord 22 = .ok (.getfield 15, 3) := by decide +kernel
theorem dX5_appendWord_25 : decode cX5_appendWord 25 = .ok (.iload_n 1, 1) := by decide +kernel
theorem dX5_appendWord_26 : decode cX5_appendWord 26 = .ok (.iload_n 2, 1) := by decide +kernel
theorem dX5_appendWord_27 : decode cX5_appendWord 27 = .ok (.iushr, 1) := by decide +kernel
theorem dX5_appendWord_28 : decode cX5_appendWord 28 = .ok (.i2b, 1) := by decide +kernel
theorem dX5_appendWord_29 : decode cX5_appendWord 29 = .ok (.bastore, 1) := by decide +kernel
theorem dX5_appendWord_30 : decode cX5_appendWord 30 = .ok (.aload_n 0, 1) := by decide +kernel
theorem dX5_appendWord_31 : decode cX5_appendWord 31 = .ok (.dup, 1) := by decide +kernel
theorem dX5_appendWord_32 : decode cX5_appendWord 32 = .ok (.getfield 15, 3) := by decide +kernel
theorem dX5_appendWord_35 : decode cX5_appendWord 35 = .ok (.iconst 1, 1) := by decide +kernel
theorem dX5_appendWord_36 : decode cX5_appendWord 36 = .ok (.iadd, 1) := by decide +kernel
theorem dX5_appendWord_37 : decode cX5_appendWord 37 = .ok (.putfield 15, 3) := by decide +kernel
theorem dX5_appendWord_40 : decode cX5_appendWord 40 = .ok (.iinc 2 (-8), 3) := by decide +kernel
theorem dX5_appendWord_43 : decode cX5_appendWord 43 = .ok (.goto (-40), 3) := by decide +kernel
theorem dX5_appendWord_46 : decode cX5_appendWord 46 = .ok (.return_, 1) := by decide +kernel
set_option maxHeartbeats 4000000 in
set_option maxRecDepth 100000 in
theorem c_X5_appendWord {l : Launch} {g : Gh} {w : Wd} {k0 : Nat} {v_word : Int32} {wz : Wd} (hF : f_X5_appendWord w k0 v_word = some wz) (hk0 : zct zC k0 = 5) : Met l yX5_appendWord (Cond.code yX5_appendWord cX5_appendWord 3 none :: TT) (rmd 0) (Pcw zC g w [.ref (g.2.2 k0), .int (v_word)]) (Qw zC g wz none) 0 0 (zA zC g) := by
  refine mt_start (by decide) (Nat.le_of_ble_eq_true rfl) ?_
  intro p e s m args below meth c H locs ls X hr hl hH
  have hx := X.1
  have hb := X.2.1
  have hml := X.2.2.1
  have hown := X.2.2.2.1
  have ht := X.2.2.2.2.1
  have hl : lv_has ls 3 [(0, .ref (g.2.2 (k0))), (1, .int (v_word))] := hl
  unfold f_X5_appendWord at hF
  refine lv_bipush (v := (24 : Int32)) hx hb dX5_appendWord_0 (by decide) ?_
  refine lv_istore_n (lv' := [(2, .int ((24 : Int32))), (0, .ref (g.2.2 (k0))), (1, .int (v_word))]) hx hb dX5_appendWord_2 rfl hl (by decide) rfl (fun ls hl => ?_)
  obtain ⟨r2, hLr2, hF⟩ := ob hF
  have Jr2 : ∀ (H : Heap) (locs : List Loc) (ls : Array Slot), HW zC g r2 s.heap H locs → lv_has ls 3 [(0, .ref (g.2.2 (k0))), (1, .int (v_word))] → W p l e (rmd 0) s m args below meth c H locs 0 0 (MQ below (Qw zC g wz none) args s 0 0 (zA zC g)) (F0 m 46 ls []) := by
    intro H locs ls hH hl
    obtain rfl := se1 hF
    exact w_vret X hH hr dX5_appendWord_46
  have Lr2 : ∀ (n : Nat) (s1 : Int32 × Wd), lp (b_X5_appendWord_1 k0 v_word) n s1 = some r2 → ∀ (H : Heap) (locs : List Loc) (ls : Array Slot), HW zC g s1.2 s.heap H locs → lv_has ls 3 [(0, .ref (g.2.2 (k0))), (1, .int (v_word)), (2, .int (s1.1))] → W p l e (rmd 0) s m args below meth c H locs 0 0 (MQ below (Qw zC g wz none) args s 0 0 (zA zC g)) (F0 m 3 ls []) := by
    intro n
    induction n with
    | zero => intro s1 hL; exact lp_0 hL
    | succ n ih =>
      intro s1 hL H locs ls hH hl
      obtain ⟨bb, hF, hL⟩ := lp_s hL
      unfold b_X5_appendWord_1 at hF
      refine lv_iload_n hx hb dX5_appendWord_3 rfl (lv_at hl 2 rfl) ?_
      refine w_zge_f (tgt := 46) hx hb dX5_appendWord_4 (by decide) (fun c3 => ?_) (fun c3 => ?_)
      · replace hF := ifn c3 hF
        obtain rfl := se1 hF
        subst hL
        exact Jr2 _ _ _ hH (lv_sub hl [0, 1] rfl)
      · replace hF := ifp c3 hF
        obtain ⟨s4, hs4, hF⟩ := ob hF
        have Js4 : ∀ (H : Heap) (locs : List Loc) (ls : Array Slot), HW zC g s4 s.heap H locs → lv_has ls 3 [(0, .ref (g.2.2 (k0))), (1, .int (v_word)), (2, .int (s1.1))] → W p l e (rmd 0) s m args below meth c H locs 0 0 (MQ below (Qw zC g wz none) args s 0 0 (zA zC g)) (F0 m 40 ls []) := by
          intro H locs ls hH hl
          refine lv_iinc (v := (s1.1 + (-8 : Int32))) (lv' := [(2, .int ((s1.1 + (-8 : Int32)))), (0, .ref (g.2.2 (k0))), (1, .int (v_word))]) hx hb dX5_appendWord_40 hl (k := 2) rfl rfl (by decide) rfl (fun ls hl => ?_)
          refine lv_goto (tgt := 3) hx hb dX5_appendWord_43 (by decide) ?_
          obtain rfl := se1 hF
          exact ih _ hL _ _ _ hH (lv_sub hl [1, 2, 0] rfl)
        have hF := hs4
        refine lv_aload_n hx hb dX5_appendWord_7 rfl (lv_at hl 0 rfl) ?_
        refine w_geti X hH hk0 fs_5_1 lk_5_15 dX5_appendWord_8 ?_
        refine lv_sipush (v := (600 : Int32)) hx hb dX5_appendWord_11 (by decide) ?_
        refine w_ilt_f (tgt := 40) hx hb dX5_appendWord_14 (by decide) (fun c5 => ?_) (fun c5 => ?_)
        · replace hF := ifn c5 hF
          obtain rfl := se1 hF
          exact Js4 _ _ _ hH (lv_sub hl [0, 1, 2] rfl)
        · replace hF := ifp c5 hF
          refine lv_aload_n hx hb dX5_appendWord_17 rfl (lv_at hl 0 rfl) ?_
          refine w_getr X hH hk0 fs_5_0 lk_5_9 dX5_appendWord_18 ?_
          refine lv_aload_n hx hb dX5_appendWord_21 rfl (lv_at hl 0 rfl) ?_
          refine w_geti X hH hk0 fs_5_1 lk_5_15 dX5_appendWord_22 ?_
          refine lv_iload_n hx hb dX5_appendWord_25 rfl (lv_at hl 1 rfl) ?_
          refine lv_iload_n hx hb dX5_appendWord_26 rfl (lv_at hl 2 rfl) ?_
          refine w_iushr hx hb dX5_appendWord_27 ?_
          refine w_i2b hx hb dX5_appendWord_28 ?_
          obtain ⟨w6, h6, hF⟩ := ob hF
          refine w_bast X hH h6 (rt_C_5_0 hk0) dX5_appendWord_29 (fun H locs hH => ?_)
          refine lv_aload_n hx hb dX5_appendWord_30 rfl (lv_at hl 0 rfl) ?_
          refine lv_dup hx hb dX5_appendWord_31 rfl ?_
          refine w_geti X hH hk0 fs_5_1 lk_5_15 dX5_appendWord_32 ?_
          refine lv_iconst (v := (1 : Int32)) hx hb dX5_appendWord_35 (by decide) ?_
          refine lv_iadd hx hb dX5_appendWord_36 ?_
          obtain ⟨w7, h7, hF⟩ := ob hF
          refine w_puti X hH h7 hk0 fs_5_1 nf_5_1 lk_5_15 dX5_appendWord_37 (fun H locs hH => ?_)
          obtain rfl := se1 hF
          exact Js4 _ _ _ hH (lv_sub hl [0, 1, 2] rfl)
  exact Lr2 NF _ hLr2 _ _ _ hH (lv_sub hl [1, 2, 0] rfl)

theorem dX9_append_0 : decode cX9_append 0 = .ok (.aload_n 0, 1) := by decide +kernel
theorem dX9_append_1 : decode cX9_append 1 = .ok (.getfield 12, 3) := by decide +kernel
theorem dX9_append_4 : decode cX9_append 4 = .ok (.getfield 79, 3) := by decide +kernel
theorem dX9_append_7 : decode cX9_append 7 = .ok (.bipush 20, 2) := by decide +kernel
theorem dX9_append_9 : decode cX9_append 9 = .ok (.iadd, 1) := by decide +kernel
theorem dX9_append_10 : decode cX9_append 10 = .ok (.sipush 600, 3) := by decide +kernel
theorem dX9_append_13 : decode cX9_append 13 = .ok (.if_icmp .le 5, 3) := by decide +kernel
theorem dX9_append_16 : decode cX9_append 16 = .ok (.iconst (-1), 1) := by decide +kernel
theorem dX9_append_17 : decode cX9_append 17 = .ok (.ireturn, 1) := by decide +kernel
theorem dX9_append_18 : decode cX9_append 18 = .ok (.aload_n 0, 1) := by decide +kernel
theorem dX9_append_19 : decode cX9_append 19 = .ok (.getfield 12, 3) := by decide +kernel
theorem dX9_append_22 : decode cX9_append 22 = .ok (.iload_n 1, 1) := by decide +kernel
theorem dX9_append_23 : decode cX9_append 23 = .ok (.invokevirtual 82, 3) := by decide +kernel
theorem dX9_append_26 : decode cX9_append 26 = .ok (.aload_n 0, 1) := by decide +kernel
theorem dX9_append_27 : decode cX9_append 27 = .ok (.getfield 12, 3) := by decide +kernel
theorem dX9_append_30 : decode cX9_append 30 = .ok (.iload_n 2, 1) := by decide +kernel
theorem dX9_append_31 : decode cX9_append 31 = .ok (.invokevirtual 82, 3) := by decide +kernel
theorem dX9_append_34 : decode cX9_append 34 = .ok (.aload_n 0, 1) := by decide +kernel
theorem dX9_append_35 : decode cX9_append 35 = .ok (.getfield 12, 3) := by decide +kernel
theorem dX9_append_38 : decode cX9_append 38 = .ok (.iload_n 3, 1) := by decide +kernel
theorem dX9_append_39 : decode cX9_append 39 = .ok (.invokevirtual 82, 3) := by decide +kernel
theorem dX9_append_42 : decode cX9_append 42 = .ok (.aload_n 0, 1) := by decide +kernel
theorem dX9_append_43 : decode cX9_append 43 = .ok (.getfield 12, 3) := by decide +kernel
theorem dX9_append_46 : decode cX9_append 46 = .ok (.iload 4, 2) := by decide +kernel
theorem dX9_append_48 : decode cX9_append 48 = .ok (.invokevirtual 82, 3) := by decide +kernel
theorem dX9_append_51 : decode cX9_append 51 = .ok (.aload_n 0, 1) := by decide +kernel
theorem dX9_append_52 : decode cX9_append 52 = .ok (.getfield 12, 3) := by decide +kernel
theorem dX9_append_55 : decode cX9_append 55 = .ok (.iload 5, 2) := by decide +kernel
theorem dX9_append_57 : decode cX9_append 57 = .ok (.invokevirtual 82, 3) := by decide +kernel
theorem dX9_append_60 : decode cX9_append 60 = .ok (.aload_n 0, 1) := by decide +kernel
theorem dX9_append_61 : decode cX9_append 61 = .ok (.getfield 12, 3) := by decide +kernel
theorem dX9_append_64 : decode cX9_append 64 = .ok (.getfield 79, 3) := by decide +kernel
theorem dX9_append_67 : decode cX9_append 67 = .ok (.ireturn, 1) := by decide +kernel
set_option maxHeartbeats 4000000 in
set_option maxRecDepth 100000 in
theorem c_X9_append {l : Launch} {g : Gh} {w : Wd} {k0 : Nat} {v_a : Int32} {v_b : Int32} {v_c : Int32} {v_d : Int32} {v_e : Int32} {rz : Int32} {wz : Wd} (hF : f_X9_append w k0 v_a v_b v_c v_d v_e = some (rz, wz)) (hk0 : zct zC k0 = 9) : Met l yX9_append (Cond.code yX9_append cX9_append 6 (some .int) :: TT) (rmd 1) (Pcw zC g w [.ref (g.2.2 k0), .int (v_a), .int (v_b), .int (v_c), .int (v_d), .int (v_e)]) (Qw zC g wz (some (.int (rz)))) 0 0 (zA zC g) := by
  refine mt_start (by decide) (Nat.le_of_ble_eq_true rfl) ?_
  intro p e s m args below meth c H locs ls X hr hl hH
  have hx := X.1
  have hb := X.2.1
  have hml := X.2.2.1
  have hown := X.2.2.2.1
  have ht := X.2.2.2.2.1
  have hl : lv_has ls 6 [(0, .ref (g.2.2 (k0))), (1, .int (v_a)), (2, .int (v_b)), (3, .int (v_c)), (4, .int (v_d)), (5, .int (v_e))] := hl
  unfold f_X9_append at hF
  refine lv_aload_n hx hb dX9_append_0 rfl (lv_at hl 0 rfl) ?_
  refine w_getr X hH hk0 fs_9_0 lk_9_12 dX9_append_1 ?_
  refine w_geti X hH (rt_C_9_0 hk0) fs_5_1 lk_9_79 dX9_append_4 ?_
  refine lv_bipush (v := (20 : Int32)) hx hb dX9_append_7 (by decide) ?_
  refine lv_iadd hx hb dX9_append_9 ?_
  refine lv_sipush (v := (600 : Int32)) hx hb dX9_append_10 (by decide) ?_
  refine w_igt_f (tgt := 18) hx hb dX9_append_13 (by decide) (fun c1 => ?_) (fun c1 => ?_)
  · replace hF := ifn c1 hF
    refine lv_aload_n hx hb dX9_append_18 rfl (lv_at hl 0 rfl) ?_
    refine w_getr X hH hk0 fs_9_0 lk_9_12 dX9_append_19 ?_
    refine lv_iload_n hx hb dX9_append_22 rfl (lv_at hl 1 rfl) ?_
    obtain ⟨w2, h2, hF⟩ := ob hF
    refine w_callV (As := [.int (v_a)]) (k := (zrf zC (k0) 0)) (rest := []) (st1 := []) X hH (c_X5_appendWord (l := l) (g := g) (w := w) (k0 := (zrf zC (k0) 0)) (v_word := v_a) h2 (rt_C_9_0 hk0)) (Or.inr ⟨_, tw_3_163⟩) ms_X5_appendWord im_X5_appendWord (rt_C_9_0 hk0) cn_5 ⟨Nat.le_of_ble_eq_true rfl, Nat.le_of_ble_eq_true rfl⟩ rfl rfl hl.1 (Nat.le_of_ble_eq_true rfl) dX9_append_23 ⟨Nat.le_refl _, Nat.le_refl _⟩ rfl (fun H locs hH => ?_)
    refine lv_aload_n hx hb dX9_append_26 rfl (lv_at hl 0 rfl) ?_
    refine w_getr X hH hk0 fs_9_0 lk_9_12 dX9_append_27 ?_
    refine lv_iload_n hx hb dX9_append_30 rfl (lv_at hl 2 rfl) ?_
    obtain ⟨w3, h3, hF⟩ := ob hF
    refine w_callV (As := [.int (v_b)]) (k := (zrf zC (k0) 0)) (rest := []) (st1 := []) X hH (c_X5_appendWord (l := l) (g := g) (w := w2) (k0 := (zrf zC (k0) 0)) (v_word := v_b) h3 (rt_C_9_0 hk0)) (Or.inr ⟨_, tw_3_163⟩) ms_X5_appendWord im_X5_appendWord (rt_C_9_0 hk0) cn_5 ⟨Nat.le_of_ble_eq_true rfl, Nat.le_of_ble_eq_true rfl⟩ rfl rfl hl.1 (Nat.le_of_ble_eq_true rfl) dX9_append_31 ⟨Nat.le_refl _, Nat.le_refl _⟩ rfl (fun H locs hH => ?_)
    refine lv_aload_n hx hb dX9_append_34 rfl (lv_at hl 0 rfl) ?_
    refine w_getr X hH hk0 fs_9_0 lk_9_12 dX9_append_35 ?_
    refine lv_iload_n hx hb dX9_append_38 rfl (lv_at hl 3 rfl) ?_
    obtain ⟨w4, h4, hF⟩ := ob hF
    refine w_callV (As := [.int (v_c)]) (k := (zrf zC (k0) 0)) (rest := []) (st1 := []) X hH (c_X5_appendWord (l := l) (g := g) (w := w3) (k0 := (zrf zC (k0) 0)) (v_word := v_c) h4 (rt_C_9_0 hk0)) (Or.inr ⟨_, tw_3_163⟩) ms_X5_appendWord im_X5_appendWord (rt_C_9_0 hk0) cn_5 ⟨Nat.le_of_ble_eq_true rfl, Nat.le_of_ble_eq_true rfl⟩ rfl rfl hl.1 (Nat.le_of_ble_eq_true rfl) dX9_append_39 ⟨Nat.le_refl _, Nat.le_refl _⟩ rfl (fun H locs hH => ?_)
    refine lv_aload_n hx hb dX9_append_42 rfl (lv_at hl 0 rfl) ?_
    refine w_getr X hH hk0 fs_9_0 lk_9_12 dX9_append_43 ?_
    refine lv_iload hx hb dX9_append_46 (lv_at hl 4 rfl) ?_
    obtain ⟨w5, h5, hF⟩ := ob hF
    refine w_callV (As := [.int (v_d)]) (k := (zrf zC (k0) 0)) (rest := []) (st1 := []) X hH (c_X5_appendWord (l := l) (g := g) (w := w4) (k0 := (zrf zC (k0) 0)) (v_word := v_d) h5 (rt_C_9_0 hk0)) (Or.inr ⟨_, tw_3_163⟩) ms_X5_appendWord im_X5_appendWord (rt_C_9_0 hk0) cn_5 ⟨Nat.le_of_ble_eq_true rfl, Nat.le_of_ble_eq_true rfl⟩ rfl rfl hl.1 (Nat.le_of_ble_eq_true rfl) dX9_append_48 ⟨Nat.le_refl _, Nat.le_refl _⟩ rfl (fun H locs hH => ?_)
    refine lv_aload_n hx hb dX9_append_51 rfl (lv_at hl 0 rfl) ?_
    refine w_getr X hH hk0 fs_9_0 lk_9_12 dX9_append_52 ?_
    refine lv_iload hx hb dX9_append_55 (lv_at hl 5 rfl) ?_
    obtain ⟨w6, h6, hF⟩ := ob hF
    refine w_callV (As := [.int (v_e)]) (k := (zrf zC (k0) 0)) (rest := []) (st1 := []) X hH (c_X5_appendWord (l := l) (g := g) (w := w5) (k0 := (zrf zC (k0) 0)) (v_word := v_e) h6 (rt_C_9_0 hk0)) (Or.inr ⟨_, tw_3_163⟩) ms_X5_appendWord im_X5_appendWord (rt_C_9_0 hk0) cn_5 ⟨Nat.le_of_ble_eq_true rfl, Nat.le_of_ble_eq_true rfl⟩ rfl rfl hl.1 (Nat.le_of_ble_eq_true rfl) dX9_append_57 ⟨Nat.le_refl _, Nat.le_refl _⟩ rfl (fun H locs hH => ?_)
    refine lv_aload_n hx hb dX9_append_60 rfl (lv_at hl 0 rfl) ?_
    refine w_getr X hH hk0 fs_9_0 lk_9_12 dX9_append_61 ?_
    refine w_geti X hH (rt_C_9_0 hk0) fs_5_1 lk_9_79 dX9_append_64 ?_
    obtain ⟨rfl, rfl⟩ := se2 hF
    exact w_iret X hH hr dX9_append_67
  · replace hF := ifp c1 hF
    refine lv_iconst (v := (-1 : Int32)) hx hb dX9_append_16 (by decide) ?_
    obtain ⟨rfl, rfl⟩ := se2 hF
    exact w_iret X hH hr dX9_append_17

theorem dX0_clear_0 : decode cX0_clear 0 = .ok (.aload_n 0, 1) := by decide +kernel
theorem dX0_clear_1 : decode cX0_clear 1 = .ok (.iconst 0, 1) := by decide +kernel
theorem dX0_clear_2 : decode cX0_clear 2 = .ok (.putfield 24, 3) := by decide +kernel
theorem dX0_clear_5 : decode cX0_clear 5 = .ok (.aload_n 0, 1) := by decide +kernel
theorem dX0_clear_6 : decode cX0_clear 6 = .ok (.iconst 0, 1) := by decide +kernel
theorem dX0_clear_7 : decode cX0_clear 7 = .ok (.putfield 28, 3) := by decide +kernel
theorem dX0_clear_10 : decode cX0_clear 10 = .ok (.return_, 1) := by decide +kernel
set_option maxHeartbeats 4000000 in
set_option maxRecDepth 100000 in
theorem c_X0_clear {l : Launch} {g : Gh} {w : Wd} {k0 : Nat} {wz : Wd} (hF : f_X0_clear w k0 = some wz) (hk0 : zct zC k0 = 0) : Met l yX0_clear (Cond.code yX0_clear cX0_clear 1 none :: TT) (rmd 0) (Pcw zC g w [.ref (g.2.2 k0)]) (Qw zC g wz none) 0 0 (zA zC g) := by
  refine mt_start (by decide) (Nat.le_of_ble_eq_true rfl) ?_
  intro p e s m args below meth c H locs ls X hr hl hH
  have hx := X.1
  have hb := X.2.1
  have hml := X.2.2.1
  have hown := X.2.2.2.1
  have ht := X.2.2.2.2.1
  have hl : lv_has ls 1 [(0, .ref (g.2.2 (k0)))] := hl
  unfold f_X0_clear at hF
  refine lv_aload_n hx hb dX0_clear_0 rfl (lv_at hl 0 rfl) ?_
  refine lv_iconst (v := (0 : Int32)) hx hb dX0_clear_1 (by decide) ?_
  obtain ⟨w1, h1, hF⟩ := ob hF
  refine w_puti X hH h1 hk0 fs_0_4 nf_0_4 lk_0_24 dX0_clear_2 (fun H locs hH => ?_)
  refine lv_aload_n hx hb dX0_clear_5 rfl (lv_at hl 0 rfl) ?_
  refine lv_iconst (v := (0 : Int32)) hx hb dX0_clear_6 (by decide) ?_
  obtain ⟨w2, h2, hF⟩ := ob hF
  refine w_puti X hH h2 hk0 fs_0_5 nf_0_5 lk_0_28 dX0_clear_7 (fun H locs hH => ?_)
  obtain rfl := se1 hF
  exact w_vret X hH hr dX0_clear_10

theorem dX6_clear_0 : decode cX6_clear 0 = .ok (.aload_n 0, 1) := by decide +kernel
theorem dX6_clear_1 : decode cX6_clear 1 = .ok (.getfield 14, 3) := by decide +kernel
theorem dX6_clear_4 : decode cX6_clear 4 = .ok (.iconst 0, 1) := by decide +kernel
theorem dX6_clear_5 : decode cX6_clear 5 = .ok (.putfield 44, 3) := by decide +kernel
theorem dX6_clear_8 : decode cX6_clear 8 = .ok (.aload_n 0, 1) := by decide +kernel
theorem dX6_clear_9 : decode cX6_clear 9 = .ok (.getfield 20, 3) := by decide +kernel
theorem dX6_clear_12 : decode cX6_clear 12 = .ok (.iconst 0, 1) := by decide +kernel
theorem dX6_clear_13 : decode cX6_clear 13 = .ok (.putfield 44, 3) := by decide +kernel
theorem dX6_clear_16 : decode cX6_clear 16 = .ok (.aload_n 0, 1) := by decide +kernel
theorem dX6_clear_17 : decode cX6_clear 17 = .ok (.getfield 23, 3) := by decide +kernel
theorem dX6_clear_20 : decode cX6_clear 20 = .ok (.iconst 0, 1) := by decide +kernel
theorem dX6_clear_21 : decode cX6_clear 21 = .ok (.putfield 44, 3) := by decide +kernel
theorem dX6_clear_24 : decode cX6_clear 24 = .ok (.aload_n 0, 1) := by decide +kernel
theorem dX6_clear_25 : decode cX6_clear 25 = .ok (.iconst 0, 1) := by decide +kernel
theorem dX6_clear_26 : decode cX6_clear 26 = .ok (.putfield 33, 3) := by decide +kernel
theorem dX6_clear_29 : decode cX6_clear 29 = .ok (.aload_n 0, 1) := by decide +kernel
theorem dX6_clear_30 : decode cX6_clear 30 = .ok (.getfield 40, 3) := by decide +kernel
theorem dX6_clear_33 : decode cX6_clear 33 = .ok (.invokevirtual 47, 3) := by decide +kernel
theorem dX6_clear_36 : decode cX6_clear 36 = .ok (.return_, 1) := by decide +kernel
set_option maxHeartbeats 4000000 in
set_option maxRecDepth 100000 in
theorem c_X6_clear {l : Launch} {g : Gh} {w : Wd} {k0 : Nat} {wz : Wd} (hF : f_X6_clear w k0 = some wz) (hk0 : zct zC k0 = 6) : Met l yX6_clear (Cond.code yX6_clear cX6_clear 1 none :: TT) (rmd 1) (Pcw zC g w [.ref (g.2.2 k0)]) (Qw zC g wz none) 0 0 (zA zC g) := by
  refine mt_start (by decide) (Nat.le_of_ble_eq_true rfl) ?_
  intro p e s m args below meth c H locs ls X hr hl hH
  have hx := X.1
  have hb := X.2.1
  have hml := X.2.2.1
  have hown := X.2.2.2.1
  have ht := X.2.2.2.2.1
  have hl : lv_has ls 1 [(0, .ref (g.2.2 (k0)))] := hl
  unfold f_X6_clear at hF
  refine lv_aload_n hx hb dX6_clear_0 rfl (lv_at hl 0 rfl) ?_
  refine w_getr X hH hk0 fs_6_0 lk_6_14 dX6_clear_1 ?_
  refine lv_iconst (v := (0 : Int32)) hx hb dX6_clear_4 (by decide) ?_
  obtain ⟨w1, h1, hF⟩ := ob hF
  refine w_puti X hH h1 (rt_C_6_0 hk0) fs_4_2 nf_4_2 lk_6_44 dX6_clear_5 (fun H locs hH => ?_)
  refine lv_aload_n hx hb dX6_clear_8 rfl (lv_at hl 0 rfl) ?_
  refine w_getr X hH hk0 fs_6_1 lk_6_20 dX6_clear_9 ?_
  refine lv_iconst (v := (0 : Int32)) hx hb dX6_clear_12 (by decide) ?_
  obtain ⟨w2, h2, hF⟩ := ob hF
  refine w_puti X hH h2 (rt_C_6_1 hk0) fs_4_2 nf_4_2 lk_6_44 dX6_clear_13 (fun H locs hH => ?_)
  refine lv_aload_n hx hb dX6_clear_16 rfl (lv_at hl 0 rfl) ?_
  refine w_getr X hH hk0 fs_6_2 lk_6_23 dX6_clear_17 ?_
  refine lv_iconst (v := (0 : Int32)) hx hb dX6_clear_20 (by decide) ?_
  obtain ⟨w3, h3, hF⟩ := ob hF
  refine w_puti X hH h3 (rt_C_6_2 hk0) fs_4_2 nf_4_2 lk_6_44 dX6_clear_21 (fun H locs hH => ?_)
  refine lv_aload_n hx hb dX6_clear_24 rfl (lv_at hl 0 rfl) ?_
  refine lv_iconst (v := (0 : Int32)) hx hb dX6_clear_25 (by decide) ?_
  obtain ⟨w4, h4, hF⟩ := ob hF
  refine w_puti X hH h4 hk0 fs_6_5 nf_6_5 lk_6_33 dX6_clear_26 (fun H locs hH => ?_)
  refine lv_aload_n hx hb dX6_clear_29 rfl (lv_at hl 0 rfl) ?_
  refine w_getr X hH hk0 fs_6_6 lk_6_40 dX6_clear_30 ?_
  obtain ⟨w5, h5, hF⟩ := ob hF
  refine w_callV (As := []) (k := (zrf zC (k0) 6)) (rest := []) (st1 := []) X hH (c_X0_clear (l := l) (g := g) (w := w4) (k0 := (zrf zC (k0) 6)) h5 (rt_C_6_6 hk0)) (Or.inr ⟨_, tw_2_90⟩) ms_X0_clear im_X0_clear (rt_C_6_6 hk0) cn_0 ⟨Nat.le_of_ble_eq_true rfl, Nat.le_of_ble_eq_true rfl⟩ rfl rfl hl.1 (Nat.le_of_ble_eq_true rfl) dX6_clear_33 ⟨Nat.le_refl _, Nat.le_refl _⟩ rfl (fun H locs hH => ?_)
  obtain rfl := se1 hF
  exact w_vret X hH hr dX6_clear_36

theorem dX5_isSpace_0 : decode cX5_isSpace 0 = .ok (.iload_n 0, 1) := by decide +kernel
theorem dX5_isSpace_1 : decode cX5_isSpace 1 = .ok (.bipush 32, 2) := by decide +kernel
theorem dX5_isSpace_3 : decode cX5_isSpace 3 = .ok (.if_icmp .eq 9, 3) := by decide +kernel
theorem dX5_isSpace_6 : decode cX5_isSpace 6 = .ok (.iload_n 0, 1) := by decide +kernel
theorem dX5_isSpace_7 : decode cX5_isSpace 7 = .ok (.bipush 10, 2) := by decide +kernel
theorem dX5_isSpace_9 : decode cX5_isSpace 9 = .ok (.if_icmp .ne 7, 3) := by decide +kernel
theorem dX5_isSpace_12 : decode cX5_isSpace 12 = .ok (.iconst 1, 1) := by decide +kernel
theorem dX5_isSpace_13 : decode cX5_isSpace 13 = .ok (.goto 4, 3) := by decide +kernel
theorem dX5_isSpace_16 : decode cX5_isSpace 16 = .ok (.iconst 0, 1) := by decide +kernel
theorem dX5_isSpace_17 : decode cX5_isSpace 17 = .ok (.ireturn, 1) := by decide +kernel
set_option maxHeartbeats 4000000 in
set_option maxRecDepth 100000 in
theorem c_X5_isSpace {l : Launch} {g : Gh} {w : Wd} {v_sign : Int32} {rz : Bool} (hF : f_X5_isSpace v_sign = rz)  : Met l yX5_isSpace (Cond.code yX5_isSpace cX5_isSpace 1 (some .boolean) :: TT) (rmd 0) (Pcw zC g w [.int (v_sign)]) (Qw zC g w (some (.int (bI (rz))))) 0 0 (zA zC g) := by
  refine mt_start (by decide) (Nat.le_of_ble_eq_true rfl) ?_
  intro p e s m args below meth c H locs ls X hr hl hH
  have hx := X.1
  have hb := X.2.1
  have hml := X.2.2.1
  have hown := X.2.2.2.1
  have ht := X.2.2.2.2.1
  have hl : lv_has ls 1 [(0, .int (v_sign))] := hl
  unfold f_X5_isSpace at hF
  refine lv_iload_n hx hb dX5_isSpace_0 rfl (lv_at hl 0 rfl) ?_
  refine lv_bipush (v := (32 : Int32)) hx hb dX5_isSpace_1 (by decide) ?_
  have J1 : ∀ (H : Heap) (locs : List Loc), HW zC g w s.heap H locs → W p l e (rmd 0) s m args below meth c H locs 0 0 (MQ below (Qw zC g w (some (.int (bI (rz))))) args s 0 0 (zA zC g)) (F0 m 17 ls [.int (bI ((decide ((v_sign = (32 : Int32)) ∨ (v_sign = (10 : Int32))))))]) := by
    intro H locs hH
    subst hF
    exact w_zret X hH hr dX5_isSpace_17
  refine w_ieq_t (tgt := 12) hx hb dX5_isSpace_3 (by decide) (fun c2 => ?_) (fun c2 => ?_)
  · refine lv_iconst (v := (1 : Int32)) hx hb dX5_isSpace_12 (by decide) ?_
    refine lv_goto (tgt := 17) hx hb dX5_isSpace_13 (by decide) ?_
    exact w_b1 (Or.inl c2) (J1 _ _ hH)
  · refine lv_iload_n hx hb dX5_isSpace_6 rfl (lv_at hl 0 rfl) ?_
    refine lv_bipush (v := (10 : Int32)) hx hb dX5_isSpace_7 (by decide) ?_
    refine w_ieq_f (tgt := 16) hx hb dX5_isSpace_9 (by decide) (fun c3 => ?_) (fun c3 => ?_)
    · refine lv_iconst (v := (0 : Int32)) hx hb dX5_isSpace_16 (by decide) ?_
      exact w_b0 (fun z => z.elim c2 c3) (J1 _ _ hH)
    · refine lv_iconst (v := (1 : Int32)) hx hb dX5_isSpace_12 (by decide) ?_
      refine lv_goto (tgt := 17) hx hb dX5_isSpace_13 (by decide) ?_
      exact w_b1 (Or.inr c3) (J1 _ _ hH)

theorem dX5_isLetter_0 : decode cX5_isLetter 0 = .ok (.iload_n 0, 1) := by decide +kernel
theorem dX5_isLetter_1 : decode cX5_isLetter 1 = .ok (.bipush 97, 2) := by decide +kernel
theorem dX5_isLetter_3 : decode cX5_isLetter 3 = .ok (.if_icmp .lt 13, 3) := by decide +kernel
theorem dX5_isLetter_6 : decode cX5_isLetter 6 = .ok (.iload_n 0, 1) := by decide +kernel
theorem dX5_isLetter_7 : decode cX5_isLetter 7 = .ok (.bipush 122, 2) := by decide +kernel
theorem dX5_isLetter_9 : decode cX5_isLetter 9 = .ok (.if_icmp .gt 7, 3) := by decide +kernel
theorem dX5_isLetter_12 : decode cX5_isLetter 12 = .ok (.iconst 1, 1) := by decide +kernel
theorem dX5_isLetter_13 : decode cX5_isLetter 13 = .ok (.goto 4, 3) := by decide +kernel
theorem dX5_isLetter_16 : decode cX5_isLetter 16 = .ok (.iconst 0, 1) := by decide +kernel
theorem dX5_isLetter_17 : decode cX5_isLetter 17 = .ok (.ireturn, 1) := by decide +kernel
set_option maxHeartbeats 4000000 in
set_option maxRecDepth 100000 in
theorem c_X5_isLetter {l : Launch} {g : Gh} {w : Wd} {v_sign : Int32} {rz : Bool} (hF : f_X5_isLetter v_sign = rz)  : Met l yX5_isLetter (Cond.code yX5_isLetter cX5_isLetter 1 (some .boolean) :: TT) (rmd 0) (Pcw zC g w [.int (v_sign)]) (Qw zC g w (some (.int (bI (rz))))) 0 0 (zA zC g) := by
  refine mt_start (by decide) (Nat.le_of_ble_eq_true rfl) ?_
  intro p e s m args below meth c H locs ls X hr hl hH
  have hx := X.1
  have hb := X.2.1
  have hml := X.2.2.1
  have hown := X.2.2.2.1
  have ht := X.2.2.2.2.1
  have hl : lv_has ls 1 [(0, .int (v_sign))] := hl
  unfold f_X5_isLetter at hF
  refine lv_iload_n hx hb dX5_isLetter_0 rfl (lv_at hl 0 rfl) ?_
  refine lv_bipush (v := (97 : Int32)) hx hb dX5_isLetter_1 (by decide) ?_
  have J1 : ∀ (H : Heap) (locs : List Loc), HW zC g w s.heap H locs → W p l e (rmd 0) s m args below meth c H locs 0 0 (MQ below (Qw zC g w (some (.int (bI (rz))))) args s 0 0 (zA zC g)) (F0 m 17 ls [.int (bI ((decide (((97 : Int32) ≤ v_sign) ∧ (v_sign ≤ (122 : Int32))))))]) := by
    intro H locs hH
    subst hF
    exact w_zret X hH hr dX5_isLetter_17
  refine w_ige_f (tgt := 16) hx hb dX5_isLetter_3 (by decide) (fun c2 => ?_) (fun c2 => ?_)
  · refine lv_iconst (v := (0 : Int32)) hx hb dX5_isLetter_16 (by decide) ?_
    exact w_b0 (fun z => c2 z.1) (J1 _ _ hH)
  · refine lv_iload_n hx hb dX5_isLetter_6 rfl (lv_at hl 0 rfl) ?_
    refine lv_bipush (v := (122 : Int32)) hx hb dX5_isLetter_7 (by decide) ?_
    refine w_ile_f (tgt := 16) hx hb dX5_isLetter_9 (by decide) (fun c3 => ?_) (fun c3 => ?_)
    · refine lv_iconst (v := (0 : Int32)) hx hb dX5_isLetter_16 (by decide) ?_
      exact w_b0 (fun z => c3 z.2) (J1 _ _ hH)
    · refine lv_iconst (v := (1 : Int32)) hx hb dX5_isLetter_12 (by decide) ?_
      refine lv_goto (tgt := 17) hx hb dX5_isLetter_13 (by decide) ?_
      exact w_b1 ⟨c2, c3⟩ (J1 _ _ hH)

theorem dX5_readWord_0 : decode cX5_readWord 0 = .ok (.aload_n 0, 1) := by decide +kernel
theorem dX5_readWord_1 : decode cX5_readWord 1 = .ok (.lconst 0, 1) := by decide +kernel
theorem dX5_readWord_2 : decode cX5_readWord 2 = .ok (.putfield 31, 3) := by decide +kernel
theorem dX5_readWord_5 : decode cX5_readWord 5 = .ok (.aload_n 0, 1) := by decide +kernel
theorem dX5_readWord_6 : decode cX5_readWord 6 = .ok (.getfield 22, 3) := by decide +kernel
theorem dX5_readWord_9 : decode cX5_readWord 9 = .ok (.aload_n 0, 1) := by decide +kernel
theorem dX5_readWord_10 : decode cX5_readWord 10 = .ok (.getfield 19, 3) := by decide +kernel
theorem dX5_readWord_13 : decode cX5_readWord 13 = .ok (.if_icmp .ge 53, 3) := by decide +kernel
theorem dX5_readWord_16 : decode cX5_readWord 16 = .ok (.aload_n 0, 1) := by decide +kernel
theorem dX5_readWord_17 : decode cX5_readWord 17 = .ok (.getfield 9, 3) := by decide +kernel
theorem dX5_readWord_20 : decode cX5_readWord 20 = .ok (.aload_n 0, 1) := by decide +kernel
theorem dX5_readWord_21 : decode cX5_readWord 21 = .ok (.getfield 22, 3) := by decide +kernel
theorem dX5_readWord_24 : decode cX5_readWord 24 = .ok (.baload, 1) := by decide +kernel
theorem dX5_readWord_25 : decode cX5_readWord 25 = .ok (.invokestatic 129, 3) := by decide +kernel
theorem dX5_readWord_28 : decode cX5_readWord 28 = .ok (.ifCond .eq 38, 3) := by decide +kernel
theorem dX5_readWord_31 : decode cX5_readWord 31 = .ok (.aload_n 0, 1) := by decide +kernel
theorem dX5_readWord_32 : decode cX5_readWord 32 = .ok (.aload_n 0, 1) := by decide +kernel
theorem dX5_readWord_33 : decode cX5_readWord 33 = .ok (.getfield 31, 3) := by decide +kernel
theorem dX5_readWord_36 : decode cX5_readWord 36 = .ok (.bipush 8, 2) := by decide +kernel
theorem dX5_readWord_38 : decode cX5_readWord 38 = .ok (.lshl, 1) := by decide +kernel
theorem dX5_readWord_39 : decode cX5_readWord 39 = .ok (.aload_n 0, 1) := by decide +kernel
theorem dX5_readWord_40 : decode cX5_readWord 40 = .ok (.getfield 9, 3) := by decide +kernel
theorem dX5_readWord_43 : decode cX5_readWord 43 = .ok (.aload_n 0, 1) := by decide +kernel
theorem dX5_readWord_44 : decode cX5_readWord 44 = .ok (.getfield 22, 3) := by decide +kernel
theorem dX5_readWord_47 : decode cX5_readWord 47 = .ok (.baload, 1) := by decide +kernel
theorem dX5_readWord_48 : decode cX5_readWord 48 = .ok (.i2l, 1) := by decide +kernel
theorem dX5_readWord_49 : decode cX5_readWord 49 = .ok (.lor, 1) := by decide +kernel
theorem dX5_readWord_50 : decode cX5_readWord 50 = .ok (.putfield 31, 3) := by decide +kernel
theorem dX5_readWord_53 : decode cX5_readWord 53 = .ok (.aload_n 0, 1) := by decide +kernel
theorem dX5_readWord_54 : decode cX5_readWord 54 = .ok (.dup, 1) := by decide +kernel
theorem dX5_readWord_55 : decode cX5_readWord 55 = .ok (.getfield 22, 3) := by decide +kernel
theorem dX5_readWord_58 : decode cX5_readWord 58 = .ok (.iconst 1, 1) := by decide +kernel
theorem dX5_readWord_59 : decode cX5_readWord 59 = .ok (.iadd, 1) := by decide +kernel
theorem dX5_readWord_60 : decode cX5_readWord 60 = .ok (.putfield 22, 3) := by decide +kernel
theorem dX5_readWord_63 : decode cX5_readWord 63 = .ok (.goto (-58), 3) := by decide +kernel
theorem dX5_readWord_66 : decode cX5_readWord 66 = .ok (.aload_n 0, 1) := by decide +kernel
theorem dX5_readWord_67 : decode cX5_readWord 67 = .ok (.aload_n 0, 1) := by decide +kernel
theorem dX5_readWord_68 : decode cX5_readWord 68 = .ok (.getfield 22, 3) := by decide +kernel
theorem dX5_readWord_71 : decode cX5_readWord 71 = .ok (.aload_n 0, 1) := by decide +kernel
theorem dX5_readWord_72 : decode cX5_readWord 72 = .ok (.getfield 28, 3) := by decide +kernel
theorem dX5_readWord_75 : decode cX5_readWord 75 = .ok (.isub, 1) := by decide +kernel
theorem dX5_readWord_76 : decode cX5_readWord 76 = .ok (.bipush 6, 2) := by decide +kernel
theorem dX5_readWord_78 : decode cX5_readWord 78 = .ok (.if_icmp .gt 7, 3) := by decide +kernel
theorem dX5_readWord_81 : decode cX5_readWord 81 = .ok (.iconst 1, 1) := by decide +kernel
theorem dX5_readWord_82 : decode cX5_readWord 82 = .ok (.goto 4, 3) := by decide +kernel
theorem dX5_readWord_85 : decode cX5_readWord 85 = .ok (.iconst 3, 1) := by decide +kernel
theorem dX5_readWord_86 : decode cX5_readWord 86 = .ok (.putfield 25, 3) := by decide +kernel
theorem dX5_readWord_89 : decode cX5_readWord 89 = .ok (.return_, 1) := by decide +kernel
set_option maxHeartbeats 4000000 in
set_option maxRecDepth 100000 in
theorem c_X5_readWord {l : Launch} {g : Gh} {w : Wd} {k0 : Nat} {wz : Wd} (hF : f_X5_readWord w k0 = some wz) (hk0 : zct zC k0 = 5) : Met l yX5_readWord (Cond.code yX5_readWord cX5_readWord 1 none :: TT) (rmd 1) (Pcw zC g w [.ref (g.2.2 k0)]) (Qw zC g wz none) 0 0 (zA zC g) := by
  refine mt_start (by decide) (Nat.le_of_ble_eq_true rfl) ?_
  intro p e s m args below meth c H locs ls X hr hl hH
  have hx := X.1
  have hb := X.2.1
  have hml := X.2.2.1
  have hown := X.2.2.2.1
  have ht := X.2.2.2.2.1
  have hl : lv_has ls 1 [(0, .ref (g.2.2 (k0)))] := hl
  unfold f_X5_readWord at hF
  refine lv_aload_n hx hb dX5_readWord_0 rfl (lv_at hl 0 rfl) ?_
  refine lv_lconst (v := 0) hx hb dX5_readWord_1 (by decide) ?_
  obtain ⟨w1, h1, hF⟩ := ob hF
  refine w_putl X hH h1 hk0 fs_5_6 nf_5_6 lk_5_31 dX5_readWord_2 (fun H locs hH => ?_)
  obtain ⟨r3, hLr3, hF⟩ := ob hF
  have Jr3 : ∀ (H : Heap) (locs : List Loc) (ls : Array Slot), HW zC g r3 s.heap H locs → lv_has ls 1 [(0, .ref (g.2.2 (k0)))] → W p l e (rmd 1) s m args below meth c H locs 0 0 (MQ below (Qw zC g wz none) args s 0 0 (zA zC g)) (F0 m 66 ls []) := by
    intro H locs ls hH hl
    refine lv_aload_n hx hb dX5_readWord_66 rfl (lv_at hl 0 rfl) ?_
    refine lv_aload_n hx hb dX5_readWord_67 rfl (lv_at hl 0 rfl) ?_
    refine w_geti X hH hk0 fs_5_3 lk_5_22 dX5_readWord_68 ?_
    refine lv_aload_n hx hb dX5_readWord_71 rfl (lv_at hl 0 rfl) ?_
    refine w_geti X hH hk0 fs_5_5 lk_5_28 dX5_readWord_72 ?_
    refine lv_isub hx hb dX5_readWord_75 ?_
    refine lv_bipush (v := (6 : Int32)) hx hb dX5_readWord_76 (by decide) ?_
    have J11 : ∀ (H : Heap) (locs : List Loc), HW zC g r3 s.heap H locs → W p l e (rmd 1) s m args below meth c H locs 0 0 (MQ below (Qw zC g wz none) args s 0 0 (zA zC g)) (F0 m 86 ls [.int ((if ((r3.1 (k0) 3) - (r3.1 (k0) 5)) ≤ (6 : Int32) then (1 : Int32) else (3 : Int32))), .ref (g.2.2 (k0))]) := by
      intro H locs hH
      obtain ⟨w13, h13, hF⟩ := ob hF
      refine w_puti X hH h13 hk0 fs_5_4 nf_5_4 lk_5_25 dX5_readWord_86 (fun H locs hH => ?_)
      obtain rfl := se1 hF
      exact w_vret X hH hr dX5_readWord_89
    refine w_ile_f (tgt := 85) hx hb dX5_readWord_78 (by decide) (fun c12 => ?_) (fun c12 => ?_)
    · refine lv_iconst (v := (3 : Int32)) hx hb dX5_readWord_85 (by decide) ?_
      exact w_in c12 (J11 _ _ hH)
    · refine lv_iconst (v := (1 : Int32)) hx hb dX5_readWord_81 (by decide) ?_
      refine lv_goto (tgt := 86) hx hb dX5_readWord_82 (by decide) ?_
      exact w_ip c12 (J11 _ _ hH)
  have Lr3 : ∀ (n : Nat) (s2 : Wd), lp (b_X5_readWord_1 k0) n s2 = some r3 → ∀ (H : Heap) (locs : List Loc) (ls : Array Slot), HW zC g s2 s.heap H locs → lv_has ls 1 [(0, .ref (g.2.2 (k0)))] → W p l e (rmd 1) s m args below meth c H locs 0 0 (MQ below (Qw zC g wz none) args s 0 0 (zA zC g)) (F0 m 5 ls []) := by
    intro n
    induction n with
    | zero => intro s2 hL; exact lp_0 hL
    | succ n ih =>
      intro s2 hL H locs ls hH hl
      obtain ⟨bb, hF, hL⟩ := lp_s hL
      unfold b_X5_readWord_1 at hF
      obtain ⟨b4, hb4, hF⟩ := ob hF
      have Jb4T : b4 = true → ∀ (H : Heap) (locs : List Loc), HW zC g s2 s.heap H locs → W p l e (rmd 1) s m args below meth c H locs 0 0 (MQ below (Qw zC g wz none) args s 0 0 (zA zC g)) (F0 m 31 ls []) := by
        intro hc H locs hH
        replace hF := ifp hc hF
        refine lv_aload_n hx hb dX5_readWord_31 rfl (lv_at hl 0 rfl) ?_
        refine lv_aload_n hx hb dX5_readWord_32 rfl (lv_at hl 0 rfl) ?_
        refine w_getl X hH hk0 fs_5_6 lk_5_31 dX5_readWord_33 ?_
        refine lv_bipush (v := (8 : Int32)) hx hb dX5_readWord_36 (by decide) ?_
        refine w_lshl hx hb dX5_readWord_38 ?_
        refine lv_aload_n hx hb dX5_readWord_39 rfl (lv_at hl 0 rfl) ?_
        refine w_getr X hH hk0 fs_5_0 lk_5_9 dX5_readWord_40 ?_
        refine lv_aload_n hx hb dX5_readWord_43 rfl (lv_at hl 0 rfl) ?_
        refine w_geti X hH hk0 fs_5_3 lk_5_22 dX5_readWord_44 ?_
        obtain ⟨x8, h8, hF⟩ := ob hF
        refine w_bald X hH h8 (rt_C_5_0 hk0) dX5_readWord_47 ?_
        refine w_i2l hx hb dX5_readWord_48 ?_
        refine lv_lor hx hb dX5_readWord_49 ?_
        obtain ⟨w9, h9, hF⟩ := ob hF
        refine w_putl X hH h9 hk0 fs_5_6 nf_5_6 lk_5_31 dX5_readWord_50 (fun H locs hH => ?_)
        refine lv_aload_n hx hb dX5_readWord_53 rfl (lv_at hl 0 rfl) ?_
        refine lv_dup hx hb dX5_readWord_54 rfl ?_
        refine w_geti X hH hk0 fs_5_3 lk_5_22 dX5_readWord_55 ?_
        refine lv_iconst (v := (1 : Int32)) hx hb dX5_readWord_58 (by decide) ?_
        refine lv_iadd hx hb dX5_readWord_59 ?_
        obtain ⟨w10, h10, hF⟩ := ob hF
        refine w_puti X hH h10 hk0 fs_5_3 nf_5_3 lk_5_22 dX5_readWord_60 (fun H locs hH => ?_)
        refine lv_goto (tgt := 5) hx hb dX5_readWord_63 (by decide) ?_
        obtain rfl := se1 hF
        exact ih _ hL _ _ _ hH (lv_sub hl [0] rfl)
      have Jb4F : ¬ (b4 = true) → ∀ (H : Heap) (locs : List Loc), HW zC g s2 s.heap H locs → W p l e (rmd 1) s m args below meth c H locs 0 0 (MQ below (Qw zC g wz none) args s 0 0 (zA zC g)) (F0 m 66 ls []) := by
        intro hc H locs hH
        replace hF := ifn hc hF
        obtain rfl := se1 hF
        subst hL
        exact Jr3 _ _ _ hH (lv_sub hl [0] rfl)
      have hF := hb4
      refine lv_aload_n hx hb dX5_readWord_5 rfl (lv_at hl 0 rfl) ?_
      refine w_geti X hH hk0 fs_5_3 lk_5_22 dX5_readWord_6 ?_
      refine lv_aload_n hx hb dX5_readWord_9 rfl (lv_at hl 0 rfl) ?_
      refine w_geti X hH hk0 fs_5_2 lk_5_19 dX5_readWord_10 ?_
      refine w_ilt_f (tgt := 66) hx hb dX5_readWord_13 (by decide) (fun c5 => ?_) (fun c5 => ?_)
      · replace hF := ifn c5 hF
        obtain rfl := se1 hF
        exact Jb4F Bool.false_ne_true _ _ hH
      · replace hF := ifp c5 hF
        refine lv_aload_n hx hb dX5_readWord_16 rfl (lv_at hl 0 rfl) ?_
        refine w_getr X hH hk0 fs_5_0 lk_5_9 dX5_readWord_17 ?_
        refine lv_aload_n hx hb dX5_readWord_20 rfl (lv_at hl 0 rfl) ?_
        refine w_geti X hH hk0 fs_5_3 lk_5_22 dX5_readWord_21 ?_
        obtain ⟨x7, h7, hF⟩ := ob hF
        refine w_bald X hH h7 (rt_C_5_0 hk0) dX5_readWord_24 ?_
        refine w_callS (As := [.int (x7)]) (rest := []) (st1 := [.int (bI ((f_X5_isLetter (x7))))]) X hH (c_X5_isLetter (l := l) (g := g) (w := s2) (v_sign := x7) rfl) (Or.inl tw_2_101) ms_X5_isLetter tw_2_102 ⟨Nat.le_of_ble_eq_true rfl, Nat.le_of_ble_eq_true rfl⟩ rfl rfl hl.1 (Nat.le_of_ble_eq_true rfl) dX5_readWord_25 ⟨Nat.le_refl _, Nat.le_refl _⟩ rfl (fun H locs hH => ?_)
        refine w_b_f (tgt := 66) hx hb dX5_readWord_28 (by decide) (fun c6 => ?_) (fun c6 => ?_)
        · replace hF := ifn c6 hF
          obtain rfl := se1 hF
          exact Jb4F Bool.false_ne_true _ _ hH
        · replace hF := ifp c6 hF
          obtain rfl := se1 hF
          exact Jb4T rfl _ _ hH
  exact Lr3 NF _ hLr3 _ _ _ hH (lv_sub hl [0] rfl)

theorem dX5_nextToken_0 : decode cX5_nextToken 0 = .ok (.aload_n 0, 1) := by decide +kernel
theorem dX5_nextToken_1 : decode cX5_nextToken 1 = .ok (.getfield 22, 3) := by decide +kernel
theorem dX5_nextToken_4 : decode cX5_nextToken 4 = .ok (.aload_n 0, 1) := by decide +kernel
theorem dX5_nextToken_5 : decode cX5_nextToken 5 = .ok (.getfield 19, 3) := by decide +kernel
theorem dX5_nextToken_8 : decode cX5_nextToken 8 = .ok (.if_icmp .ge 31, 3) := by decide +kernel
theorem dX5_nextToken_11 : decode cX5_nextToken 11 = .ok (.aload_n 0, 1) := by decide +kernel
theorem dX5_nextToken_12 : decode cX5_nextToken 12 = .ok (.getfield 9, 3) := by decide +kernel
theorem dX5_nextToken_15 : decode cX5_nextToken 15 = .ok (.aload_n 0, 1) := by decide +kernel
theorem dX5_nextToken_16 : decode cX5_nextToken 16 = .ok (.getfield 22, 3) := by decide +kernel
theorem dX5_nextToken_19 : decode cX5_nextToken 19 = .ok (.baload, 1) := by decide +kernel
theorem dX5_nextToken_20 : decode cX5_nextToken 20 = .ok (.invokestatic 125, 3) := by decide +kernel
theorem dX5_nextToken_23 : decode cX5_nextToken 23 = .ok (.ifCond .eq 16, 3) := by decide +kernel
theorem dX5_nextToken_26 : decode cX5_nextToken 26 = .ok (.aload_n 0, 1) := by decide +kernel
theorem dX5_nextToken_27 : decode cX5_nextToken 27 = .ok (.dup, 1) := by decide +kernel
theorem dX5_nextToken_28 : decode cX5_nextToken 28 = .ok (.getfield 22, 3) := by decide +kernel
theorem dX5_nextToken_31 : decode cX5_nextToken 31 = .ok (.iconst 1, 1) := by decide +kernel
theorem dX5_nextToken_32 : decode cX5_nextToken 32 = .ok (.iadd, 1) := by decide +kernel
theorem dX5_nextToken_33 : decode cX5_nextToken 33 = .ok (.putfield 22, 3) := by decide +kernel
theorem dX5_nextToken_36 : decode cX5_nextToken 36 = .ok (.goto (-36), 3) := by decide +kernel
theorem dX5_nextToken_39 : decode cX5_nextToken 39 = .ok (.aload_n 0, 1) := by decide +kernel
theorem dX5_nextToken_40 : decode cX5_nextToken 40 = .ok (.aload_n 0, 1) := by decide +kernel
theorem dX5_nextToken_41 : decode cX5_nextToken 41 = .ok (.getfield 22, 3) := by decide +kernel
theorem dX5_nextToken_44 : decode cX5_nextToken 44 = .ok (.putfield 28, 3) := by decide +kernel
theorem dX5_nextToken_47 : decode cX5_nextToken 47 = .ok (.aload_n 0, 1) := by decide +kernel
theorem dX5_nextToken_48 : decode cX5_nextToken 48 = .ok (.getfield 22, 3) := by decide +kernel
theorem dX5_nextToken_51 : decode cX5_nextToken 51 = .ok (.aload_n 0, 1) := by decide +kernel
theorem dX5_nextToken_52 : decode cX5_nextToken 52 = .ok (.getfield 19, 3) := by decide +kernel
theorem dX5_nextToken_55 : decode cX5_nextToken 55 = .ok (.if_icmp .lt 11, 3) := by decide +kernel
theorem dX5_nextToken_58 : decode cX5_nextToken 58 = .ok (.aload_n 0, 1) := by decide +kernel
theorem dX5_nextToken_59 : decode cX5_nextToken 59 = .ok (.iconst 0, 1) := by decide +kernel
theorem dX5_nextToken_60 : decode cX5_nextToken 60 = .ok (.putfield 25, 3) := by decide +kernel
theorem dX5_nextToken_63 : decode cX5_nextToken 63 = .ok (.goto 58, 3) := by decide +kernel
theorem dX5_nextToken_66 : decode cX5_nextToken 66 = .ok (.aload_n 0, 1) := by decide +kernel
theorem dX5_nextToken_67 : decode cX5_nextToken 67 = .ok (.getfield 9, 3) := by decide +kernel
theorem dX5_nextToken_70 : decode cX5_nextToken 70 = .ok (.aload_n 0, 1) := by decide +kernel
theorem dX5_nextToken_71 : decode cX5_nextToken 71 = .ok (.getfield 22, 3) := by decide +kernel
theorem dX5_nextToken_74 : decode cX5_nextToken 74 = .ok (.baload, 1) := by decide +kernel
theorem dX5_nextToken_75 : decode cX5_nextToken 75 = .ok (.invokestatic 129, 3) := by decide +kernel
theorem dX5_nextToken_78 : decode cX5_nextToken 78 = .ok (.ifCond .eq 10, 3) := by decide +kernel
theorem dX5_nextToken_81 : decode cX5_nextToken 81 = .ok (.aload_n 0, 1) := by decide +kernel
theorem dX5_nextToken_82 : decode cX5_nextToken 82 = .ok (.invokevirtual 132, 3) := by decide +kernel
theorem dX5_nextToken_85 : decode cX5_nextToken 85 = .ok (.goto 36, 3) := by decide +kernel
theorem dX5_nextToken_88 : decode cX5_nextToken 88 = .ok (.aload_n 0, 1) := by decide +kernel
theorem dX5_nextToken_89 : decode cX5_nextToken 89 = .ok (.aload_n 0, 1) := by decide +kernel
theorem dX5_nextToken_90 : decode cX5_nextToken 90 = .ok (.getfield 9, 3) := by decide +kernel
theorem dX5_nextToken_93 : decode cX5_nextToken 93 = .ok (.aload_n 0, 1) := by decide +kernel
theorem dX5_nextToken_94 : decode cX5_nextToken 94 = .ok (.getfield 22, 3) := by decide +kernel
theorem dX5_nextToken_97 : decode cX5_nextToken 97 = .ok (.baload, 1) := by decide +kernel
theorem dX5_nextToken_98 : decode cX5_nextToken 98 = .ok (.bipush 59, 2) := by decide +kernel
theorem dX5_nextToken_100 : decode cX5_nextToken 100 = .ok (.if_icmp .ne 7, 3) := by decide +kernel
theorem dX5_nextToken_103 : decode cX5_nextToken 103 = .ok (.iconst 2, 1) := by decide +kernel
theorem dX5_nextToken_104 : decode cX5_nextToken 104 = .ok (.goto 4, 3) := by decide +kernel
theorem dX5_nextToken_107 : decode cX5_nextToken 107 = .ok (.iconst 3, 1) := by decide +kernel
theorem dX5_nextToken_108 : decode cX5_nextToken 108 = .ok (.putfield 25, 3) := by decide +kernel
theorem dX5_nextToken_111 : decode cX5_nextToken 111 = .ok (.aload_n 0, 1) := by decide +kernel
theorem dX5_nextToken_112 : decode cX5_nextToken 112 = .ok (.dup, 1) := by decide +kernel
theorem dX5_nextToken_113 : decode cX5_nextToken 113 = .ok (.getfield 22, 3) := by decide +kernel
theorem dX5_nextToken_116 : decode cX5_nextToken 116 = .ok (.iconst 1, 1) := by decide +kernel
theorem dX5_nextToken_117 : decode cX5_nextToken 117 = .ok (.iadd, 1) := by decide +kernel
theorem dX5_nextToken_118 : decode cX5_nextToken 118 = .ok (.putfield 22, 3) := by decide +kernel
theorem dX5_nextToken_121 : decode cX5_nextToken 121 = .ok (.return_, 1) := by decide +kernel
set_option maxHeartbeats 4000000 in
set_option maxRecDepth 100000 in
theorem c_X5_nextToken {l : Launch} {g : Gh} {w : Wd} {k0 : Nat} {wz : Wd} (hF : f_X5_nextToken w k0 = some wz) (hk0 : zct zC k0 = 5) : Met l yX5_nextToken (Cond.code yX5_nextToken cX5_nextToken 1 none :: TT) (rmd 2) (Pcw zC g w [.ref (g.2.2 k0)]) (Qw zC g wz none) 0 0 (zA zC g) := by
  refine mt_start (by decide) (Nat.le_of_ble_eq_true rfl) ?_
  intro p e s m args below meth c H locs ls X hr hl hH
  have hx := X.1
  have hb := X.2.1
  have hml := X.2.2.1
  have hown := X.2.2.2.1
  have ht := X.2.2.2.2.1
  have hl : lv_has ls 1 [(0, .ref (g.2.2 (k0)))] := hl
  unfold f_X5_nextToken at hF
  obtain ⟨r2, hLr2, hF⟩ := ob hF
  have Jr2 : ∀ (H : Heap) (locs : List Loc) (ls : Array Slot), HW zC g r2 s.heap H locs → lv_has ls 1 [(0, .ref (g.2.2 (k0)))] → W p l e (rmd 2) s m args below meth c H locs 0 0 (MQ below (Qw zC g wz none) args s 0 0 (zA zC g)) (F0 m 39 ls []) := by
    intro H locs ls hH hl
    refine lv_aload_n hx hb dX5_nextToken_39 rfl (lv_at hl 0 rfl) ?_
    refine lv_aload_n hx hb dX5_nextToken_40 rfl (lv_at hl 0 rfl) ?_
    refine w_geti X hH hk0 fs_5_3 lk_5_22 dX5_nextToken_41 ?_
    obtain ⟨w8, h8, hF⟩ := ob hF
    refine w_puti X hH h8 hk0 fs_5_5 nf_5_5 lk_5_28 dX5_nextToken_44 (fun H locs hH => ?_)
    obtain ⟨s9, hs9, hF⟩ := ob hF
    have Js9 : ∀ (H : Heap) (locs : List Loc) (ls : Array Slot), HW zC g s9 s.heap H locs → lv_has ls 1 [(0, .ref (g.2.2 (k0)))] → W p l e (rmd 2) s m args below meth c H locs 0 0 (MQ below (Qw zC g wz none) args s 0 0 (zA zC g)) (F0 m 121 ls []) := by
      intro H locs ls hH hl
      obtain rfl := se1 hF
      exact w_vret X hH hr dX5_nextToken_121
    have hF := hs9
    refine lv_aload_n hx hb dX5_nextToken_47 rfl (lv_at hl 0 rfl) ?_
    refine w_geti X hH hk0 fs_5_3 lk_5_22 dX5_nextToken_48 ?_
    refine lv_aload_n hx hb dX5_nextToken_51 rfl (lv_at hl 0 rfl) ?_
    refine w_geti X hH hk0 fs_5_2 lk_5_19 dX5_nextToken_52 ?_
    refine w_ige_f (tgt := 66) hx hb dX5_nextToken_55 (by decide) (fun c10 => ?_) (fun c10 => ?_)
    · replace hF := ifn c10 hF
      obtain ⟨s11, hs11, hF⟩ := ob hF
      have Js11 : ∀ (H : Heap) (locs : List Loc) (ls : Array Slot), HW zC g s11 s.heap H locs → lv_has ls 1 [(0, .ref (g.2.2 (k0)))] → W p l e (rmd 2) s m args below meth c H locs 0 0 (MQ below (Qw zC g wz none) args s 0 0 (zA zC g)) (F0 m 121 ls []) := by
        intro H locs ls hH hl
        obtain rfl := se1 hF
        exact Js9 _ _ _ hH (lv_sub hl [0] rfl)
      have hF := hs11
      refine lv_aload_n hx hb dX5_nextToken_66 rfl (lv_at hl 0 rfl) ?_
      refine w_getr X hH hk0 fs_5_0 lk_5_9 dX5_nextToken_67 ?_
      refine lv_aload_n hx hb dX5_nextToken_70 rfl (lv_at hl 0 rfl) ?_
      refine w_geti X hH hk0 fs_5_3 lk_5_22 dX5_nextToken_71 ?_
      obtain ⟨x12, h12, hF⟩ := ob hF
      refine w_bald X hH h12 (rt_C_5_0 hk0) dX5_nextToken_74 ?_
      refine w_callS (As := [.int (x12)]) (rest := []) (st1 := [.int (bI ((f_X5_isLetter (x12))))]) X hH (c_X5_isLetter (l := l) (g := g) (w := w8) (v_sign := x12) rfl) (Or.inl tw_2_101) ms_X5_isLetter tw_2_102 ⟨Nat.le_of_ble_eq_true rfl, Nat.le_of_ble_eq_true rfl⟩ rfl rfl hl.1 (Nat.le_of_ble_eq_true rfl) dX5_nextToken_75 ⟨Nat.le_refl _, Nat.le_refl _⟩ rfl (fun H locs hH => ?_)
      refine w_b_f (tgt := 88) hx hb dX5_nextToken_78 (by decide) (fun c13 => ?_) (fun c13 => ?_)
      · replace hF := ifn c13 hF
        refine lv_aload_n hx hb dX5_nextToken_88 rfl (lv_at hl 0 rfl) ?_
        refine lv_aload_n hx hb dX5_nextToken_89 rfl (lv_at hl 0 rfl) ?_
        refine w_getr X hH hk0 fs_5_0 lk_5_9 dX5_nextToken_90 ?_
        refine lv_aload_n hx hb dX5_nextToken_93 rfl (lv_at hl 0 rfl) ?_
        refine w_geti X hH hk0 fs_5_3 lk_5_22 dX5_nextToken_94 ?_
        obtain ⟨x15, h15, hF⟩ := ob hF
        refine w_bald X hH h15 (rt_C_5_0 hk0) dX5_nextToken_97 ?_
        refine lv_bipush (v := (59 : Int32)) hx hb dX5_nextToken_98 (by decide) ?_
        have J14 : ∀ (H : Heap) (locs : List Loc), HW zC g w8 s.heap H locs → W p l e (rmd 2) s m args below meth c H locs 0 0 (MQ below (Qw zC g wz none) args s 0 0 (zA zC g)) (F0 m 108 ls [.int ((if x15 = (59 : Int32) then (2 : Int32) else (3 : Int32))), .ref (g.2.2 (k0))]) := by
          intro H locs hH
          obtain ⟨w17, h17, hF⟩ := ob hF
          refine w_puti X hH h17 hk0 fs_5_4 nf_5_4 lk_5_25 dX5_nextToken_108 (fun H locs hH => ?_)
          refine lv_aload_n hx hb dX5_nextToken_111 rfl (lv_at hl 0 rfl) ?_
          refine lv_dup hx hb dX5_nextToken_112 rfl ?_
          refine w_geti X hH hk0 fs_5_3 lk_5_22 dX5_nextToken_113 ?_
          refine lv_iconst (v := (1 : Int32)) hx hb dX5_nextToken_116 (by decide) ?_
          refine lv_iadd hx hb dX5_nextToken_117 ?_
          obtain ⟨w18, h18, hF⟩ := ob hF
          refine w_puti X hH h18 hk0 fs_5_3 nf_5_3 lk_5_22 dX5_nextToken_118 (fun H locs hH => ?_)
          obtain rfl := se1 hF
          exact Js11 _ _ _ hH (lv_sub hl [0] rfl)
        refine w_ieq_f (tgt := 107) hx hb dX5_nextToken_100 (by decide) (fun c16 => ?_) (fun c16 => ?_)
        · refine lv_iconst (v := (3 : Int32)) hx hb dX5_nextToken_107 (by decide) ?_
          exact w_in c16 (J14 _ _ hH)
        · refine lv_iconst (v := (2 : Int32)) hx hb dX5_nextToken_103 (by decide) ?_
          refine lv_goto (tgt := 108) hx hb dX5_nextToken_104 (by decide) ?_
          exact w_ip c16 (J14 _ _ hH)
      · replace hF := ifp c13 hF
        refine lv_aload_n hx hb dX5_nextToken_81 rfl (lv_at hl 0 rfl) ?_
        obtain ⟨w19, h19, hF⟩ := ob hF
        refine w_callV (As := []) (k := k0) (rest := []) (st1 := []) X hH (c_X5_readWord (l := l) (g := g) (w := w8) (k0 := k0) h19 hk0) (Or.inl tw_2_104) ms_X5_readWord im_X5_readWord hk0 cn_5 ⟨Nat.le_of_ble_eq_true rfl, Nat.le_of_ble_eq_true rfl⟩ rfl rfl hl.1 (Nat.le_of_ble_eq_true rfl) dX5_nextToken_82 ⟨Nat.le_refl _, Nat.le_refl _⟩ rfl (fun H locs hH => ?_)
        refine lv_goto (tgt := 121) hx hb dX5_nextToken_85 (by decide) ?_
        obtain rfl := se1 hF
        exact Js11 _ _ _ hH (lv_sub hl [0] rfl)
    · replace hF := ifp c10 hF
      refine lv_aload_n hx hb dX5_nextToken_58 rfl (lv_at hl 0 rfl) ?_
      refine lv_iconst (v := (0 : Int32)) hx hb dX5_nextToken_59 (by decide) ?_
      obtain ⟨w20, h20, hF⟩ := ob hF
      refine w_puti X hH h20 hk0 fs_5_4 nf_5_4 lk_5_25 dX5_nextToken_60 (fun H locs hH => ?_)
      refine lv_goto (tgt := 121) hx hb dX5_nextToken_63 (by decide) ?_
      obtain rfl := se1 hF
      exact Js9 _ _ _ hH (lv_sub hl [0] rfl)
  have Lr2 : ∀ (n : Nat) (s1 : Wd), lp (b_X5_nextToken_1 k0) n s1 = some r2 → ∀ (H : Heap) (locs : List Loc) (ls : Array Slot), HW zC g s1 s.heap H locs → lv_has ls 1 [(0, .ref (g.2.2 (k0)))] → W p l e (rmd 2) s m args below meth c H locs 0 0 (MQ below (Qw zC g wz none) args s 0 0 (zA zC g)) (F0 m 0 ls []) := by
    intro n
    induction n with
    | zero => intro s1 hL; exact lp_0 hL
    | succ n ih =>
      intro s1 hL H locs ls hH hl
      obtain ⟨bb, hF, hL⟩ := lp_s hL
      unfold b_X5_nextToken_1 at hF
      obtain ⟨b3, hb3, hF⟩ := ob hF
      have Jb3T : b3 = true → ∀ (H : Heap) (locs : List Loc), HW zC g s1 s.heap H locs → W p l e (rmd 2) s m args below meth c H locs 0 0 (MQ below (Qw zC g wz none) args s 0 0 (zA zC g)) (F0 m 26 ls []) := by
        intro hc H locs hH
        replace hF := ifp hc hF
        refine lv_aload_n hx hb dX5_nextToken_26 rfl (lv_at hl 0 rfl) ?_
        refine lv_dup hx hb dX5_nextToken_27 rfl ?_
        refine w_geti X hH hk0 fs_5_3 lk_5_22 dX5_nextToken_28 ?_
        refine lv_iconst (v := (1 : Int32)) hx hb dX5_nextToken_31 (by decide) ?_
        refine lv_iadd hx hb dX5_nextToken_32 ?_
        obtain ⟨w7, h7, hF⟩ := ob hF
        refine w_puti X hH h7 hk0 fs_5_3 nf_5_3 lk_5_22 dX5_nextToken_33 (fun H locs hH => ?_)
        refine lv_goto (tgt := 0) hx hb dX5_nextToken_36 (by decide) ?_
        obtain rfl := se1 hF
        exact ih _ hL _ _ _ hH (lv_sub hl [0] rfl)
      have Jb3F : ¬ (b3 = true) → ∀ (H : Heap) (locs : List Loc), HW zC g s1 s.heap H locs → W p l e (rmd 2) s m args below meth c H locs 0 0 (MQ below (Qw zC g wz none) args s 0 0 (zA zC g)) (F0 m 39 ls []) := by
        intro hc H locs hH
        replace hF := ifn hc hF
        obtain rfl := se1 hF
        subst hL
        exact Jr2 _ _ _ hH (lv_sub hl [0] rfl)
      have hF := hb3
      refine lv_aload_n hx hb dX5_nextToken_0 rfl (lv_at hl 0 rfl) ?_
      refine w_geti X hH hk0 fs_5_3 lk_5_22 dX5_nextToken_1 ?_
      refine lv_aload_n hx hb dX5_nextToken_4 rfl (lv_at hl 0 rfl) ?_
      refine w_geti X hH hk0 fs_5_2 lk_5_19 dX5_nextToken_5 ?_
      refine w_ilt_f (tgt := 39) hx hb dX5_nextToken_8 (by decide) (fun c4 => ?_) (fun c4 => ?_)
      · replace hF := ifn c4 hF
        obtain rfl := se1 hF
        exact Jb3F Bool.false_ne_true _ _ hH
      · replace hF := ifp c4 hF
        refine lv_aload_n hx hb dX5_nextToken_11 rfl (lv_at hl 0 rfl) ?_
        refine w_getr X hH hk0 fs_5_0 lk_5_9 dX5_nextToken_12 ?_
        refine lv_aload_n hx hb dX5_nextToken_15 rfl (lv_at hl 0 rfl) ?_
        refine w_geti X hH hk0 fs_5_3 lk_5_22 dX5_nextToken_16 ?_
        obtain ⟨x6, h6, hF⟩ := ob hF
        refine w_bald X hH h6 (rt_C_5_0 hk0) dX5_nextToken_19 ?_
        refine w_callS (As := [.int (x6)]) (rest := []) (st1 := [.int (bI ((f_X5_isSpace (x6))))]) X hH (c_X5_isSpace (l := l) (g := g) (w := s1) (v_sign := x6) rfl) (Or.inl tw_2_98) ms_X5_isSpace tw_2_99 ⟨Nat.le_of_ble_eq_true rfl, Nat.le_of_ble_eq_true rfl⟩ rfl rfl hl.1 (Nat.le_of_ble_eq_true rfl) dX5_nextToken_20 ⟨Nat.le_refl _, Nat.le_refl _⟩ rfl (fun H locs hH => ?_)
        refine w_b_f (tgt := 39) hx hb dX5_nextToken_23 (by decide) (fun c5 => ?_) (fun c5 => ?_)
        · replace hF := ifn c5 hF
          obtain rfl := se1 hF
          exact Jb3F Bool.false_ne_true _ _ hH
        · replace hF := ifp c5 hF
          obtain rfl := se1 hF
          exact Jb3T rfl _ _ hH
  exact Lr2 NF _ hLr2 _ _ _ hH (lv_sub hl [0] rfl)

theorem dX5_keyword_0 : decode cX5_keyword 0 = .ok (.iconst 0, 1) := by decide +kernel
theorem dX5_keyword_1 : decode cX5_keyword 1 = .ok (.istore_n 1, 1) := by decide +kernel
theorem dX5_keyword_2 : decode cX5_keyword 2 = .ok (.iload_n 1, 1) := by decide +kernel
theorem dX5_keyword_3 : decode cX5_keyword 3 = .ok (.bipush 6, 2) := by decide +kernel
theorem dX5_keyword_5 : decode cX5_keyword 5 = .ok (.if_icmp .ge 32, 3) := by decide +kernel
theorem dX5_keyword_8 : decode cX5_keyword 8 = .ok (.aload_n 0, 1) := by decide +kernel
theorem dX5_keyword_9 : decode cX5_keyword 9 = .ok (.getfield 25, 3) := by decide +kernel
theorem dX5_keyword_12 : decode cX5_keyword 12 = .ok (.iconst 1, 1) := by decide +kernel
theorem dX5_keyword_13 : decode cX5_keyword 13 = .ok (.if_icmp .ne 18, 3) := by decide +kernel
theorem dX5_keyword_16 : decode cX5_keyword 16 = .ok (.getstatic 121, 3) := by decide +kernel
theorem dX5_keyword_19 : decode cX5_keyword 19 = .ok (.iload_n 1, 1) := by decide +kernel
theorem dX5_keyword_20 : decode cX5_keyword 20 = .ok (.laload, 1) := by decide +kernel
theorem dX5_keyword_21 : decode cX5_keyword 21 = .ok (.aload_n 0, 1) := by decide +kernel
theorem dX5_keyword_22 : decode cX5_keyword 22 = .ok (.getfield 31, 3) := by decide +kernel
theorem dX5_keyword_25 : decode cX5_keyword 25 = .ok (.lcmp, 1) := by decide +kernel
theorem dX5_keyword_26 : decode cX5_keyword 26 = .ok (.ifCond .ne 5, 3) := by decide +kernel
theorem dX5_keyword_29 : decode cX5_keyword 29 = .ok (.iload_n 1, 1) := by decide +kernel
theorem dX5_keyword_30 : decode cX5_keyword 30 = .ok (.ireturn, 1) := by decide +kernel
theorem dX5_keyword_31 : decode cX5_keyword 31 = .ok (.iinc 1 1, 3) := by decide +kernel
theorem dX5_keyword_34 : decode cX5_keyword 34 = .ok (.goto (-32), 3) := by decide +kernel
theorem dX5_keyword_37 : decode cX5_keyword 37 = .ok (.iconst (-1), 1) := by decide +kernel
theorem dX5_keyword_38 : decode cX5_keyword 38 = .ok (.ireturn, 1) := by decide +kernel
set_option maxHeartbeats 4000000 in
set_option maxRecDepth 100000 in
theorem c_X5_keyword {l : Launch} {g : Gh} {w : Wd} {k0 : Nat} {rz : Int32} (hF : f_X5_keyword w k0 = some rz) (hk0 : zct zC k0 = 5) : Met l yX5_keyword (Cond.code yX5_keyword cX5_keyword 2 (some .int) :: TT) (rmd 0) (Pcw zC g w [.ref (g.2.2 k0)]) (Qw zC g w (some (.int (rz)))) 0 0 (zA zC g) := by
  refine mt_start (by decide) (Nat.le_of_ble_eq_true rfl) ?_
  intro p e s m args below meth c H locs ls X hr hl hH
  have hx := X.1
  have hb := X.2.1
  have hml := X.2.2.1
  have hown := X.2.2.2.1
  have ht := X.2.2.2.2.1
  have hl : lv_has ls 2 [(0, .ref (g.2.2 (k0)))] := hl
  unfold f_X5_keyword at hF
  refine lv_iconst (v := (0 : Int32)) hx hb dX5_keyword_0 (by decide) ?_
  refine lv_istore_n (lv' := [(1, .int ((0 : Int32))), (0, .ref (g.2.2 (k0)))]) hx hb dX5_keyword_1 rfl hl (by decide) rfl (fun ls hl => ?_)
  obtain ⟨r2, hLr2, hF⟩ := ob hF
  have Jr2 : ∀ r2x, r2 = .inl r2x → ∀ (H : Heap) (locs : List Loc) (ls : Array Slot), HW zC g w s.heap H locs → lv_has ls 2 [(0, .ref (g.2.2 (k0)))] → W p l e (rmd 0) s m args below meth c H locs 0 0 (MQ below (Qw zC g w (some (.int (rz)))) args s 0 0 (zA zC g)) (F0 m 37 ls []) := by
    intro r2x hrx H locs ls hH hl
    rw [hrx] at hF
    dsimp only at hF
    refine lv_iconst (v := (-1 : Int32)) hx hb dX5_keyword_37 (by decide) ?_
    obtain rfl := se1 hF
    exact w_iret X hH hr dX5_keyword_38
  have hor2 := hF
  have Lr2 : ∀ (n : Nat) (s1 : Int32), lp (b_X5_keyword_1 w k0) n s1 = some r2 → ∀ (H : Heap) (locs : List Loc) (ls : Array Slot), HW zC g w s.heap H locs → lv_has ls 2 [(0, .ref (g.2.2 (k0))), (1, .int (s1))] → W p l e (rmd 0) s m args below meth c H locs 0 0 (MQ below (Qw zC g w (some (.int (rz)))) args s 0 0 (zA zC g)) (F0 m 2 ls []) := by
    intro n
    induction n with
    | zero => intro s1 hL; exact lp_0 hL
    | succ n ih =>
      intro s1 hL H locs ls hH hl
      obtain ⟨bb, hF, hL⟩ := lp_s hL
      unfold b_X5_keyword_1 at hF
      refine lv_iload_n hx hb dX5_keyword_2 rfl (lv_at hl 1 rfl) ?_
      refine lv_bipush (v := (6 : Int32)) hx hb dX5_keyword_3 (by decide) ?_
      refine w_ilt_f (tgt := 37) hx hb dX5_keyword_5 (by decide) (fun c3 => ?_) (fun c3 => ?_)
      · replace hF := ifn c3 hF
        obtain rfl := se1 hF
        subst hL
        exact Jr2 _ rfl _ _ _ hH (lv_sub hl [0] rfl)
      · replace hF := ifp c3 hF
        obtain ⟨b4, hb4, hF⟩ := ob hF
        have Jb4T : b4 = true → ∀ (H : Heap) (locs : List Loc), HW zC g w s.heap H locs → W p l e (rmd 0) s m args below meth c H locs 0 0 (MQ below (Qw zC g w (some (.int (rz)))) args s 0 0 (zA zC g)) (F0 m 29 ls []) := by
          intro hc H locs hH
          replace hF := ifp hc hF
          refine lv_iload_n hx hb dX5_keyword_29 rfl (lv_at hl 1 rfl) ?_
          obtain rfl := se1 hF
          subst hL
          have hF := hor2
          obtain rfl := se1 hF
          exact w_iret X hH hr dX5_keyword_30
        have Jb4F : ¬ (b4 = true) → ∀ (H : Heap) (locs : List Loc), HW zC g w s.heap H locs → W p l e (rmd 0) s m args below meth c H locs 0 0 (MQ below (Qw zC g w (some (.int (rz)))) args s 0 0 (zA zC g)) (F0 m 31 ls []) := by
          intro hc H locs hH
          replace hF := ifn hc hF
          refine lv_iinc (v := (s1 + (1 : Int32))) (lv' := [(1, .int ((s1 + (1 : Int32)))), (0, .ref (g.2.2 (k0)))]) hx hb dX5_keyword_31 hl (k := 1) rfl rfl (by decide) rfl (fun ls hl => ?_)
          refine lv_goto (tgt := 2) hx hb dX5_keyword_34 (by decide) ?_
          obtain rfl := se1 hF
          exact ih _ hL _ _ _ hH (lv_sub hl [1, 0] rfl)
        have hF := hb4
        refine lv_aload_n hx hb dX5_keyword_8 rfl (lv_at hl 0 rfl) ?_
        refine w_geti X hH hk0 fs_5_4 lk_5_25 dX5_keyword_9 ?_
        refine lv_iconst (v := (1 : Int32)) hx hb dX5_keyword_12 (by decide) ?_
        refine w_ieq_f (tgt := 31) hx hb dX5_keyword_13 (by decide) (fun c5 => ?_) (fun c5 => ?_)
        · replace hF := ifn c5 hF
          obtain rfl := se1 hF
          exact Jb4F Bool.false_ne_true _ _ hH
        · replace hF := ifp c5 hF
          refine w_gets_KEYWORDS X hH lks_5_121 dX5_keyword_16 ?_
          refine lv_iload_n hx hb dX5_keyword_19 rfl (lv_at hl 1 rfl) ?_
          obtain ⟨x7, h7, hF⟩ := ob hF
          refine w_slld X hH h7 dX5_keyword_20 ?_
          refine lv_aload_n hx hb dX5_keyword_21 rfl (lv_at hl 0 rfl) ?_
          refine w_getl X hH hk0 fs_5_6 lk_5_31 dX5_keyword_22 ?_
          refine w_leq_f (tgt := 31) hx hb dX5_keyword_25 dX5_keyword_26 (by decide) (fun c6 => ?_) (fun c6 => ?_)
          · replace hF := ifn c6 hF
            obtain rfl := se1 hF
            exact Jb4F Bool.false_ne_true _ _ hH
          · replace hF := ifp c6 hF
            obtain rfl := se1 hF
            exact Jb4T rfl _ _ hH
  exact Lr2 NF _ hLr2 _ _ _ hH (lv_sub hl [1, 0] rfl)

theorem dX5_fail_0 : decode cX5_fail 0 = .ok (.aload_n 0, 1) := by decide +kernel
theorem dX5_fail_1 : decode cX5_fail 1 = .ok (.bipush 8, 2) := by decide +kernel
theorem dX5_fail_3 : decode cX5_fail 3 = .ok (.aload_n 0, 1) := by decide +kernel
theorem dX5_fail_4 : decode cX5_fail 4 = .ok (.getfield 28, 3) := by decide +kernel
theorem dX5_fail_7 : decode cX5_fail 7 = .ok (.imul, 1) := by decide +kernel
theorem dX5_fail_8 : decode cX5_fail 8 = .ok (.iload_n 1, 1) := by decide +kernel
theorem dX5_fail_9 : decode cX5_fail 9 = .ok (.iadd, 1) := by decide +kernel
theorem dX5_fail_10 : decode cX5_fail 10 = .ok (.putfield 35, 3) := by decide +kernel
theorem dX5_fail_13 : decode cX5_fail 13 = .ok (.return_, 1) := by decide +kernel
set_option maxHeartbeats 4000000 in
set_option maxRecDepth 100000 in
theorem c_X5_fail {l : Launch} {g : Gh} {w : Wd} {k0 : Nat} {v_kind : Int32} {wz : Wd} (hF : f_X5_fail w k0 v_kind = some wz) (hk0 : zct zC k0 = 5) : Met l yX5_fail (Cond.code yX5_fail cX5_fail 2 none :: TT) (rmd 0) (Pcw zC g w [.ref (g.2.2 k0), .int (v_kind)]) (Qw zC g wz none) 0 0 (zA zC g) := by
  refine mt_start (by decide) (Nat.le_of_ble_eq_true rfl) ?_
  intro p e s m args below meth c H locs ls X hr hl hH
  have hx := X.1
  have hb := X.2.1
  have hml := X.2.2.1
  have hown := X.2.2.2.1
  have ht := X.2.2.2.2.1
  have hl : lv_has ls 2 [(0, .ref (g.2.2 (k0))), (1, .int (v_kind))] := hl
  unfold f_X5_fail at hF
  refine lv_aload_n hx hb dX5_fail_0 rfl (lv_at hl 0 rfl) ?_
  refine lv_bipush (v := (8 : Int32)) hx hb dX5_fail_1 (by decide) ?_
  refine lv_aload_n hx hb dX5_fail_3 rfl (lv_at hl 0 rfl) ?_
  refine w_geti X hH hk0 fs_5_5 lk_5_28 dX5_fail_4 ?_
  refine lv_imul hx hb dX5_fail_7 ?_
  refine lv_iload_n hx hb dX5_fail_8 rfl (lv_at hl 1 rfl) ?_
  refine lv_iadd hx hb dX5_fail_9 ?_
  obtain ⟨w1, h1, hF⟩ := ob hF
  refine w_puti X hH h1 hk0 fs_5_7 nf_5_7 lk_5_35 dX5_fail_10 (fun H locs hH => ?_)
  obtain rfl := se1 hF
  exact w_vret X hH hr dX5_fail_13

theorem dX0_isFull_0 : decode cX0_isFull 0 = .ok (.aload_n 0, 1) := by decide +kernel
theorem dX0_isFull_1 : decode cX0_isFull 1 = .ok (.getfield 24, 3) := by decide +kernel
theorem dX0_isFull_4 : decode cX0_isFull 4 = .ok (.bipush 30, 2) := by decide +kernel
theorem dX0_isFull_6 : decode cX0_isFull 6 = .ok (.if_icmp .lt 7, 3) := by decide +kernel
theorem dX0_isFull_9 : decode cX0_isFull 9 = .ok (.iconst 1, 1) := by decide +kernel
theorem dX0_isFull_10 : decode cX0_isFull 10 = .ok (.goto 4, 3) := by decide +kernel
theorem dX0_isFull_13 : decode cX0_isFull 13 = .ok (.iconst 0, 1) := by decide +kernel
theorem dX0_isFull_14 : decode cX0_isFull 14 = .ok (.ireturn, 1) := by decide +kernel
set_option maxHeartbeats 4000000 in
set_option maxRecDepth 100000 in
theorem c_X0_isFull {l : Launch} {g : Gh} {w : Wd} {k0 : Nat} {rz : Bool} (hF : f_X0_isFull w k0 = rz) (hk0 : zct zC k0 = 0) : Met l yX0_isFull (Cond.code yX0_isFull cX0_isFull 1 (some .boolean) :: TT) (rmd 0) (Pcw zC g w [.ref (g.2.2 k0)]) (Qw zC g w (some (.int (bI (rz))))) 0 0 (zA zC g) := by
  refine mt_start (by decide) (Nat.le_of_ble_eq_true rfl) ?_
  intro p e s m args below meth c H locs ls X hr hl hH
  have hx := X.1
  have hb := X.2.1
  have hml := X.2.2.1
  have hown := X.2.2.2.1
  have ht := X.2.2.2.2.1
  have hl : lv_has ls 1 [(0, .ref (g.2.2 (k0)))] := hl
  unfold f_X0_isFull at hF
  refine lv_aload_n hx hb dX0_isFull_0 rfl (lv_at hl 0 rfl) ?_
  refine w_geti X hH hk0 fs_0_4 lk_0_24 dX0_isFull_1 ?_
  refine lv_bipush (v := (30 : Int32)) hx hb dX0_isFull_4 (by decide) ?_
  have J1 : ∀ (H : Heap) (locs : List Loc), HW zC g w s.heap H locs → W p l e (rmd 0) s m args below meth c H locs 0 0 (MQ below (Qw zC g w (some (.int (bI (rz))))) args s 0 0 (zA zC g)) (F0 m 14 ls [.int (bI ((decide ((30 : Int32) ≤ (w.1 (k0) 4)))))]) := by
    intro H locs hH
    subst hF
    exact w_zret X hH hr dX0_isFull_14
  refine w_ige_f (tgt := 13) hx hb dX0_isFull_6 (by decide) (fun c2 => ?_) (fun c2 => ?_)
  · refine lv_iconst (v := (0 : Int32)) hx hb dX0_isFull_13 (by decide) ?_
    exact w_b0 c2 (J1 _ _ hH)
  · refine lv_iconst (v := (1 : Int32)) hx hb dX0_isFull_9 (by decide) ?_
    refine lv_goto (tgt := 14) hx hb dX0_isFull_10 (by decide) ?_
    exact w_b1 c2 (J1 _ _ hH)

theorem dX4_numberOf_0 : decode cX4_numberOf 0 = .ok (.iconst 0, 1) := by decide +kernel
theorem dX4_numberOf_1 : decode cX4_numberOf 1 = .ok (.istore_n 3, 1) := by decide +kernel
theorem dX4_numberOf_2 : decode cX4_numberOf 2 = .ok (.iload_n 3, 1) := by decide +kernel
theorem dX4_numberOf_3 : decode cX4_numberOf 3 = .ok (.aload_n 0, 1) := by decide +kernel
theorem dX4_numberOf_4 : decode cX4_numberOf 4 = .ok (.getfield 15, 3) := by decide +kernel
theorem dX4_numberOf_7 : decode cX4_numberOf 7 = .ok (.if_icmp .ge 22, 3) := by decide +kernel
theorem dX4_numberOf_10 : decode cX4_numberOf 10 = .ok (.aload_n 0, 1) := by decide +kernel
theorem dX4_numberOf_11 : decode cX4_numberOf 11 = .ok (.getfield 9, 3) := by decide +kernel
theorem dX4_numberOf_14 : decode cX4_numberOf 14 = .ok (.iload_n 3, 1) := by decide +kernel
theorem dX4_numberOf_15 : decode cX4_numberOf 15 = .ok (.laload, 1) := by decide +kernel
theorem dX4_numberOf_16 : decode cX4_numberOf 16 = .ok (.lload_n 1, 1) := by decide +kernel
theorem dX4_numberOf_17 : decode cX4_numberOf 17 = .ok (.lcmp, 1) := by decide +kernel
theorem dX4_numberOf_18 : decode cX4_numberOf 18 = .ok (.ifCond .ne 5, 3) := by decide +kernel
theorem dX4_numberOf_21 : decode cX4_numberOf 21 = .ok (.iload_n 3, 1) := by decide +kernel
theorem dX4_numberOf_22 : decode cX4_numberOf 22 = .ok (.ireturn, 1) := by decide +kernel
theorem dX4_numberOf_23 : decode cX4_numberOf 23 = .ok (.iinc 3 1, 3) := by decide +kernel
theorem dX4_numberOf_26 : decode cX4_numberOf 26 = .ok (.goto (-24), 3) := by decide +kernel
theorem dX4_numberOf_29 : decode cX4_numberOf 29 = .ok (.aload_n 0, 1) := by decide +kernel
theorem dX4_numberOf_30 : decode cX4_numberOf 30 = .ok (.getfield 15, 3) := by decide +kernel
theorem dX4_numberOf_33 : decode cX4_numberOf 33 = .ok (.aload_n 0, 1) := by decide +kernel
theorem dX4_numberOf_34 : decode cX4_numberOf 34 = .ok (.getfield 25, 3) := by decide +kernel
theorem dX4_numberOf_37 : decode cX4_numberOf 37 = .ok (.if_icmp .lt 5, 3) := by decide +kernel
theorem dX4_numberOf_40 : decode cX4_numberOf 40 = .ok (.iconst (-1), 1) := by decide +kernel
theorem dX4_numberOf_41 : decode cX4_numberOf 41 = .ok (.ireturn, 1) := by decide +kernel
theorem dX4_numberOf_42 : decode cX4_numberOf 42 = .ok (.aload_n 0, 1) := by decide +kernel
theorem dX4_numberOf_43 : decode cX4_numberOf 43 = .ok (.getfield 9, 3) := by decide +kernel
theorem dX4_numberOf_46 : decode cX4_numberOf 46 = .ok (.aload_n 0, 1) := by decide +kernel
theorem dX4_numberOf_47 : decode cX4_numberOf 47 = .ok (.getfield 15, 3) := by decide +kernel
theorem dX4_numberOf_50 : decode cX4_numberOf 50 = .ok (.lload_n 1, 1) := by decide +kernel
theorem dX4_numberOf_51 : decode cX4_numberOf 51 = .ok (.lastore, 1) := by decide +kernel
theorem dX4_numberOf_52 : decode cX4_numberOf 52 = .ok (.aload_n 0, 1) := by decide +kernel
theorem dX4_numberOf_53 : decode cX4_numberOf 53 = .ok (.dup, 1) := by decide +kernel
theorem dX4_numberOf_54 : decode cX4_numberOf 54 = .ok (.getfield 15, 3) := by decide +kernel
theorem dX4_numberOf_57 : decode cX4_numberOf 57 = .ok (.iconst 1, 1) := by decide +kernel
theorem dX4_numberOf_58 : decode cX4_numberOf 58 = .ok (.iadd, 1) := by decide +kernel
theorem dX4_numberOf_59 : decode cX4_numberOf 59 = .ok (.putfield 15, 3) := by decide +kernel
theorem dX4_numberOf_62 : decode cX4_numberOf 62 = .ok (.aload_n 0, 1) := by decide +kernel
theorem dX4_numberOf_63 : decode cX4_numberOf 63 = .ok (.getfield 15, 3) := by decide +kernel
theorem dX4_numberOf_66 : decode cX4_numberOf 66 = .ok (.iconst 1, 1) := by decide +kernel
theorem dX4_numberOf_67 : decode cX4_numberOf 67 = .ok (.isub, 1) := by decide +kernel
theorem dX4_numberOf_68 : decode cX4_numberOf 68 = .ok (.ireturn, 1) := by decide +kernel
set_option maxHeartbeats 4000000 in
set_option maxRecDepth 100000 in
theorem c_X4_numberOf {l : Launch} {g : Gh} {w : Wd} {k0 : Nat} {v_word : Int64} {rz : Int32} {wz : Wd} (hF : f_X4_numberOf w k0 v_word = some (rz, wz)) (hk0 : zct zC k0 = 4) : Met l yX4_numberOf (Cond.code yX4_numberOf cX4_numberOf 4 (some .int) :: TT) (rmd 0) (Pcw zC g w [.ref (g.2.2 k0), .long (v_word)]) (Qw zC g wz (some (.int (rz)))) 0 0 (zA zC g) := by
  refine mt_start (by decide) (Nat.le_of_ble_eq_true rfl) ?_
  intro p e s m args below meth c H locs ls X hr hl hH
  have hx := X.1
  have hb := X.2.1
  have hml := X.2.2.1
  have hown := X.2.2.2.1
  have ht := X.2.2.2.2.1
  have hl : lv_has ls 4 [(0, .ref (g.2.2 (k0))), (1, .long (v_word))] := hl
  unfold f_X4_numberOf at hF
  refine lv_iconst (v := (0 : Int32)) hx hb dX4_numberOf_0 (by decide) ?_
  refine lv_istore_n (lv' := [(3, .int ((0 : Int32))), (0, .ref (g.2.2 (k0))), (1, .long (v_word))]) hx hb dX4_numberOf_1 rfl hl (by decide) rfl (fun ls hl => ?_)
  obtain ⟨r2, hLr2, hF⟩ := ob hF
  have Jr2 : ∀ r2x, r2 = .inl r2x → ∀ (H : Heap) (locs : List Loc) (ls : Array Slot), HW zC g w s.heap H locs → lv_has ls 4 [(0, .ref (g.2.2 (k0))), (1, .long (v_word))] → W p l e (rmd 0) s m args below meth c H locs 0 0 (MQ below (Qw zC g wz (some (.int (rz)))) args s 0 0 (zA zC g)) (F0 m 29 ls []) := by
    intro r2x hrx H locs ls hH hl
    rw [hrx] at hF
    dsimp only at hF
    refine lv_aload_n hx hb dX4_numberOf_29 rfl (lv_at hl 0 rfl) ?_
    refine w_geti X hH hk0 fs_4_2 lk_4_15 dX4_numberOf_30 ?_
    refine lv_aload_n hx hb dX4_numberOf_33 rfl (lv_at hl 0 rfl) ?_
    refine w_geti X hH hk0 fs_4_1 lk_4_25 dX4_numberOf_34 ?_
    refine w_ige_f (tgt := 42) hx hb dX4_numberOf_37 (by decide) (fun c6 => ?_) (fun c6 => ?_)
    · replace hF := ifn c6 hF
      refine lv_aload_n hx hb dX4_numberOf_42 rfl (lv_at hl 0 rfl) ?_
      refine w_getr X hH hk0 fs_4_0 lk_4_9 dX4_numberOf_43 ?_
      refine lv_aload_n hx hb dX4_numberOf_46 rfl (lv_at hl 0 rfl) ?_
      refine w_geti X hH hk0 fs_4_2 lk_4_15 dX4_numberOf_47 ?_
      refine lv_lload_n hx hb dX4_numberOf_50 rfl (lv_at hl 1 rfl) ?_
      obtain ⟨w7, h7, hF⟩ := ob hF
      refine w_last X hH h7 (rt_C_4_0 hk0) dX4_numberOf_51 (fun H locs hH => ?_)
      refine lv_aload_n hx hb dX4_numberOf_52 rfl (lv_at hl 0 rfl) ?_
      refine lv_dup hx hb dX4_numberOf_53 rfl ?_
      refine w_geti X hH hk0 fs_4_2 lk_4_15 dX4_numberOf_54 ?_
      refine lv_iconst (v := (1 : Int32)) hx hb dX4_numberOf_57 (by decide) ?_
      refine lv_iadd hx hb dX4_numberOf_58 ?_
      obtain ⟨w8, h8, hF⟩ := ob hF
      refine w_puti X hH h8 hk0 fs_4_2 nf_4_2 lk_4_15 dX4_numberOf_59 (fun H locs hH => ?_)
      refine lv_aload_n hx hb dX4_numberOf_62 rfl (lv_at hl 0 rfl) ?_
      refine w_geti X hH hk0 fs_4_2 lk_4_15 dX4_numberOf_63 ?_
      refine lv_iconst (v := (1 : Int32)) hx hb dX4_numberOf_66 (by decide) ?_
      refine lv_isub hx hb dX4_numberOf_67 ?_
      obtain ⟨rfl, rfl⟩ := se2 hF
      exact w_iret X hH hr dX4_numberOf_68
    · replace hF := ifp c6 hF
      refine lv_iconst (v := (-1 : Int32)) hx hb dX4_numberOf_40 (by decide) ?_
      obtain ⟨rfl, rfl⟩ := se2 hF
      exact w_iret X hH hr dX4_numberOf_41
  have hor2 := hF
  have Lr2 : ∀ (n : Nat) (s1 : Int32), lp (b_X4_numberOf_1 w k0 v_word) n s1 = some r2 → ∀ (H : Heap) (locs : List Loc) (ls : Array Slot), HW zC g w s.heap H locs → lv_has ls 4 [(0, .ref (g.2.2 (k0))), (1, .long (v_word)), (3, .int (s1))] → W p l e (rmd 0) s m args below meth c H locs 0 0 (MQ below (Qw zC g wz (some (.int (rz)))) args s 0 0 (zA zC g)) (F0 m 2 ls []) := by
    intro n
    induction n with
    | zero => intro s1 hL; exact lp_0 hL
    | succ n ih =>
      intro s1 hL H locs ls hH hl
      obtain ⟨bb, hF, hL⟩ := lp_s hL
      unfold b_X4_numberOf_1 at hF
      refine lv_iload_n hx hb dX4_numberOf_2 rfl (lv_at hl 2 rfl) ?_
      refine lv_aload_n hx hb dX4_numberOf_3 rfl (lv_at hl 0 rfl) ?_
      refine w_geti X hH hk0 fs_4_2 lk_4_15 dX4_numberOf_4 ?_
      refine w_ilt_f (tgt := 29) hx hb dX4_numberOf_7 (by decide) (fun c3 => ?_) (fun c3 => ?_)
      · replace hF := ifn c3 hF
        obtain rfl := se1 hF
        subst hL
        exact Jr2 _ rfl _ _ _ hH (lv_sub hl [0, 1] rfl)
      · replace hF := ifp c3 hF
        refine lv_aload_n hx hb dX4_numberOf_10 rfl (lv_at hl 0 rfl) ?_
        refine w_getr X hH hk0 fs_4_0 lk_4_9 dX4_numberOf_11 ?_
        refine lv_iload_n hx hb dX4_numberOf_14 rfl (lv_at hl 2 rfl) ?_
        obtain ⟨x4, h4, hF⟩ := ob hF
        refine w_lald X hH h4 (rt_C_4_0 hk0) dX4_numberOf_15 ?_
        refine lv_lload_n hx hb dX4_numberOf_16 rfl (lv_at hl 1 rfl) ?_
        refine w_leq_f (tgt := 23) hx hb dX4_numberOf_17 dX4_numberOf_18 (by decide) (fun c5 => ?_) (fun c5 => ?_)
        · replace hF := ifn c5 hF
          refine lv_iinc (v := (s1 + (1 : Int32))) (lv' := [(3, .int ((s1 + (1 : Int32)))), (0, .ref (g.2.2 (k0))), (1, .long (v_word))]) hx hb dX4_numberOf_23 hl (k := 2) rfl rfl (by decide) rfl (fun ls hl => ?_)
          refine lv_goto (tgt := 2) hx hb dX4_numberOf_26 (by decide) ?_
          obtain rfl := se1 hF
          exact ih _ hL _ _ _ hH (lv_sub hl [1, 2, 0] rfl)
        · replace hF := ifp c5 hF
          refine lv_iload_n hx hb dX4_numberOf_21 rfl (lv_at hl 2 rfl) ?_
          obtain rfl := se1 hF
          subst hL
          have hF := hor2
          obtain ⟨rfl, rfl⟩ := se2 hF
          exact w_iret X hH hr dX4_numberOf_22
  exact Lr2 NF _ hLr2 _ _ _ hH (lv_sub hl [1, 2, 0] rfl)

theorem dX5_namesOf_0 : decode cX5_namesOf 0 = .ok (.iload_n 1, 1) := by decide +kernel
theorem dX5_namesOf_1 : decode cX5_namesOf 1 = .ok (.lookupswitch 37 #[(1, 27), (2, 32)], 27) := by decide +kernel
theorem dX5_namesOf_28 : decode cX5_namesOf 28 = .ok (.aload_n 0, 1) := by decide +kernel
theorem dX5_namesOf_29 : decode cX5_namesOf 29 = .ok (.getfield 103, 3) := by decide +kernel
theorem dX5_namesOf_32 : decode cX5_namesOf 32 = .ok (.areturn, 1) := by decide +kernel
theorem dX5_namesOf_33 : decode cX5_namesOf 33 = .ok (.aload_n 0, 1) := by decide +kernel
theorem dX5_namesOf_34 : decode cX5_namesOf 34 = .ok (.getfield 107, 3) := by decide +kernel
theorem dX5_namesOf_37 : decode cX5_namesOf 37 = .ok (.areturn, 1) := by decide +kernel
theorem dX5_namesOf_38 : decode cX5_namesOf 38 = .ok (.aload_n 0, 1) := by decide +kernel
theorem dX5_namesOf_39 : decode cX5_namesOf 39 = .ok (.getfield 110, 3) := by decide +kernel
theorem dX5_namesOf_42 : decode cX5_namesOf 42 = .ok (.areturn, 1) := by decide +kernel
set_option maxHeartbeats 4000000 in
set_option maxRecDepth 100000 in
theorem c_X5_namesOf {l : Launch} {g : Gh} {w : Wd} {v_into : Nat} {v_type : Int32} {rz : Nat} (hF : f_X5_namesOf w v_into v_type = rz) (hv_into : zct zC v_into = 6) : Met l yX5_namesOf (Cond.code yX5_namesOf cX5_namesOf 2 (some (.object "PointsToSolver$NameTable")) :: TT) (rmd 0) (Pcw zC g w [.ref (g.2.2 (v_into)), .int (v_type)]) (Qw zC g w (some (.ref (g.2.2 (rz))))) 0 0 (zA zC g) := by
  refine mt_start (by decide) (Nat.le_of_ble_eq_true rfl) ?_
  intro p e s m args below meth c H locs ls X hr hl hH
  have hx := X.1
  have hb := X.2.1
  have hml := X.2.2.1
  have hown := X.2.2.2.1
  have ht := X.2.2.2.2.1
  have hl : lv_has ls 2 [(0, .ref (g.2.2 (v_into))), (1, .int (v_type))] := hl
  unfold f_X5_namesOf at hF
  refine lv_iload_n hx hb dX5_namesOf_0 rfl (lv_at hl 1 rfl) ?_
  by_cases c1 : v_type = (1 : Int32)
  · replace hF := ifp c1 hF
    refine lv_lookup (off := (27 : Int)) (tgt := 28) hx hb dX5_namesOf_1 (by decide) (by rw [c1] <;> rfl) (by decide) ?_
    refine lv_aload_n hx hb dX5_namesOf_28 rfl (lv_at hl 0 rfl) ?_
    refine w_getr X hH hv_into fs_6_1 lk_5_103 dX5_namesOf_29 ?_
    subst hF
    exact w_aret X hH hr dX5_namesOf_32
  · replace hF := ifn c1 hF
    by_cases c2 : v_type = (2 : Int32)
    · replace hF := ifp c2 hF
      refine lv_lookup (off := (32 : Int)) (tgt := 33) hx hb dX5_namesOf_1 (by decide) (by rw [c2] <;> rfl) (by decide) ?_
      refine lv_aload_n hx hb dX5_namesOf_33 rfl (lv_at hl 0 rfl) ?_
      refine w_getr X hH hv_into fs_6_2 lk_5_107 dX5_namesOf_34 ?_
      subst hF
      exact w_aret X hH hr dX5_namesOf_37
    · replace hF := ifn c2 hF
      refine lv_lookup (off := (37 : Int)) (tgt := 38) hx hb dX5_namesOf_1 (by decide) ((lv_osw c1 (by decide)).trans ((lv_osw c2 (by decide)).trans rfl)) (by decide) ?_
      refine lv_aload_n hx hb dX5_namesOf_38 rfl (lv_at hl 0 rfl) ?_
      refine w_getr X hH hv_into fs_6_0 lk_5_110 dX5_namesOf_39 ?_
      subst hF
      exact w_aret X hH hr dX5_namesOf_42

theorem dX9_contains_0 : decode cX9_contains 0 = .ok (.iload_n 0, 1) := by decide +kernel
theorem dX9_contains_1 : decode cX9_contains 1 = .ok (.iload_n 1, 1) := by decide +kernel
theorem dX9_contains_2 : decode cX9_contains 2 = .ok (.iushr, 1) := by decide +kernel
theorem dX9_contains_3 : decode cX9_contains 3 = .ok (.iconst 1, 1) := by decide +kernel
theorem dX9_contains_4 : decode cX9_contains 4 = .ok (.iand, 1) := by decide +kernel
theorem dX9_contains_5 : decode cX9_contains 5 = .ok (.ifCond .eq 7, 3) := by decide +kernel
theorem dX9_contains_8 : decode cX9_contains 8 = .ok (.iconst 1, 1) := by decide +kernel
theorem dX9_contains_9 : decode cX9_contains 9 = .ok (.goto 4, 3) := by decide +kernel
theorem dX9_contains_12 : decode cX9_contains 12 = .ok (.iconst 0, 1) := by decide +kernel
theorem dX9_contains_13 : decode cX9_contains 13 = .ok (.ireturn, 1) := by decide +kernel
set_option maxHeartbeats 4000000 in
set_option maxRecDepth 100000 in
theorem c_X9_contains {l : Launch} {g : Gh} {w : Wd} {v_set : Int32} {v_number : Int32} {rz : Bool} (hF : f_X9_contains v_set v_number = rz)  : Met l yX9_contains (Cond.code yX9_contains cX9_contains 2 (some .boolean) :: TT) (rmd 0) (Pcw zC g w [.int (v_set), .int (v_number)]) (Qw zC g w (some (.int (bI (rz))))) 0 0 (zA zC g) := by
  refine mt_start (by decide) (Nat.le_of_ble_eq_true rfl) ?_
  intro p e s m args below meth c H locs ls X hr hl hH
  have hx := X.1
  have hb := X.2.1
  have hml := X.2.2.1
  have hown := X.2.2.2.1
  have ht := X.2.2.2.2.1
  have hl : lv_has ls 2 [(0, .int (v_set)), (1, .int (v_number))] := hl
  unfold f_X9_contains at hF
  refine lv_iload_n hx hb dX9_contains_0 rfl (lv_at hl 0 rfl) ?_
  refine lv_iload_n hx hb dX9_contains_1 rfl (lv_at hl 1 rfl) ?_
  refine w_iushr hx hb dX9_contains_2 ?_
  refine lv_iconst (v := (1 : Int32)) hx hb dX9_contains_3 (by decide) ?_
  refine lv_iand hx hb dX9_contains_4 ?_
  have J1 : ∀ (H : Heap) (locs : List Loc), HW zC g w s.heap H locs → W p l e (rmd 0) s m args below meth c H locs 0 0 (MQ below (Qw zC g w (some (.int (bI (rz))))) args s 0 0 (zA zC g)) (F0 m 13 ls [.int (bI ((decide (¬ (((jushr (v_set) (v_number)) &&& (1 : Int32)) = (0 : Int32))))))]) := by
    intro H locs hH
    subst hF
    exact w_zret X hH hr dX9_contains_13
  refine w_zne_f (tgt := 12) hx hb dX9_contains_5 (by decide) (fun c2 => ?_) (fun c2 => ?_)
  · refine lv_iconst (v := (0 : Int32)) hx hb dX9_contains_12 (by decide) ?_
    exact w_b0 c2 (J1 _ _ hH)
  · refine lv_iconst (v := (1 : Int32)) hx hb dX9_contains_8 (by decide) ?_
    refine lv_goto (tgt := 13) hx hb dX9_contains_9 (by decide) ?_
    exact w_b1 c2 (J1 _ _ hH)

theorem dX6_isFunction_0 : decode cX6_isFunction 0 = .ok (.aload_n 0, 1) := by decide +kernel
theorem dX6_isFunction_1 : decode cX6_isFunction 1 = .ok (.getfield 33, 3) := by decide +kernel
theorem dX6_isFunction_4 : decode cX6_isFunction 4 = .ok (.iload_n 1, 1) := by decide +kernel
theorem dX6_isFunction_5 : decode cX6_isFunction 5 = .ok (.invokestatic 50, 3) := by decide +kernel
theorem dX6_isFunction_8 : decode cX6_isFunction 8 = .ok (.ireturn, 1) := by decide +kernel
set_option maxHeartbeats 4000000 in
set_option maxRecDepth 100000 in
theorem c_X6_isFunction {l : Launch} {g : Gh} {w : Wd} {k0 : Nat} {v_object : Int32} {rz : Bool} (hF : f_X6_isFunction w k0 v_object = rz) (hk0 : zct zC k0 = 6) : Met l yX6_isFunction (Cond.code yX6_isFunction cX6_isFunction 2 (some .boolean) :: TT) (rmd 1) (Pcw zC g w [.ref (g.2.2 k0), .int (v_object)]) (Qw zC g w (some (.int (bI (rz))))) 0 0 (zA zC g) := by
  refine mt_start (by decide) (Nat.le_of_ble_eq_true rfl) ?_
  intro p e s m args below meth c H locs ls X hr hl hH
  have hx := X.1
  have hb := X.2.1
  have hml := X.2.2.1
  have hown := X.2.2.2.1
  have ht := X.2.2.2.2.1
  have hl : lv_has ls 2 [(0, .ref (g.2.2 (k0))), (1, .int (v_object))] := hl
  unfold f_X6_isFunction at hF
  refine lv_aload_n hx hb dX6_isFunction_0 rfl (lv_at hl 0 rfl) ?_
  refine w_geti X hH hk0 fs_6_5 lk_6_33 dX6_isFunction_1 ?_
  refine lv_iload_n hx hb dX6_isFunction_4 rfl (lv_at hl 1 rfl) ?_
  refine w_callS (As := [.int ((w.1 (k0) 5)), .int (v_object)]) (rest := []) (st1 := [.int (bI ((f_X9_contains ((w.1 (k0) 5)) (v_object))))]) X hH (c_X9_contains (l := l) (g := g) (w := w) (v_set := (w.1 (k0) 5)) (v_number := v_object) rfl) (Or.inr ⟨_, tw_2_146⟩) ms_X9_contains tw_2_147 ⟨Nat.le_of_ble_eq_true rfl, Nat.le_of_ble_eq_true rfl⟩ rfl rfl hl.1 (Nat.le_of_ble_eq_true rfl) dX6_isFunction_5 ⟨Nat.le_refl _, Nat.le_refl _⟩ rfl (fun H locs hH => ?_)
  subst hF
  exact w_zret X hH hr dX6_isFunction_8

theorem dX5_readOperand_0 : decode cX5_readOperand 0 = .ok (.iload_n 3, 1) := by decide +kernel
theorem dX5_readOperand_1 : decode cX5_readOperand 1 = .ok (.iconst 3, 1) := by decide +kernel
theorem dX5_readOperand_2 : decode cX5_readOperand 2 = .ok (.if_icmp .ne 6, 3) := by decide +kernel
theorem dX5_readOperand_5 : decode cX5_readOperand 5 = .ok (.bipush (-2), 2) := by decide +kernel
theorem dX5_readOperand_7 : decode cX5_readOperand 7 = .ok (.ireturn, 1) := by decide +kernel
theorem dX5_readOperand_8 : decode cX5_readOperand 8 = .ok (.aload_n 0, 1) := by decide +kernel
theorem dX5_readOperand_9 : decode cX5_readOperand 9 = .ok (.getfield 25, 3) := by decide +kernel
theorem dX5_readOperand_12 : decode cX5_readOperand 12 = .ok (.iconst 1, 1) := by decide +kernel
theorem dX5_readOperand_13 : decode cX5_readOperand 13 = .ok (.if_icmp .ne 11, 3) := by decide +kernel
theorem dX5_readOperand_16 : decode cX5_readOperand 16 = .ok (.aload_n 0, 1) := by decide +kernel
theorem dX5_readOperand_17 : decode cX5_readOperand 17 = .ok (.invokevirtual 60, 3) := by decide +kernel
theorem dX5_readOperand_20 : decode cX5_readOperand 20 = .ok (.iconst (-1), 1) := by decide +kernel
theorem dX5_readOperand_21 : decode cX5_readOperand 21 = .ok (.if_icmp .eq 10, 3) := by decide +kernel
theorem dX5_readOperand_24 : decode cX5_readOperand 24 = .ok (.aload_n 0, 1) := by decide +kernel
theorem dX5_readOperand_25 : decode cX5_readOperand 25 = .ok (.iconst 1, 1) := by decide +kernel
theorem dX5_readOperand_26 : decode cX5_readOperand 26 = .ok (.invokevirtual 64, 3) := by decide +kernel
theorem dX5_readOperand_29 : decode cX5_readOperand 29 = .ok (.iconst (-1), 1) := by decide +kernel
theorem dX5_readOperand_30 : decode cX5_readOperand 30 = .ok (.ireturn, 1) := by decide +kernel
theorem dX5_readOperand_31 : decode cX5_readOperand 31 = .ok (.aload_n 1, 1) := by decide +kernel
theorem dX5_readOperand_32 : decode cX5_readOperand 32 = .ok (.iload_n 3, 1) := by decide +kernel
theorem dX5_readOperand_33 : decode cX5_readOperand 33 = .ok (.invokestatic 89, 3) := by decide +kernel
theorem dX5_readOperand_36 : decode cX5_readOperand 36 = .ok (.aload_n 0, 1) := by decide +kernel
theorem dX5_readOperand_37 : decode cX5_readOperand 37 = .ok (.getfield 31, 3) := by decide +kernel
theorem dX5_readOperand_40 : decode cX5_readOperand 40 = .ok (.invokevirtual 93, 3) := by decide +kernel
theorem dX5_readOperand_43 : decode cX5_readOperand 43 = .ok (.istore 4, 2) := by decide +kernel
theorem dX5_readOperand_45 : decode cX5_readOperand 45 = .ok (.iload 4, 2) := by decide +kernel
theorem dX5_readOperand_47 : decode cX5_readOperand 47 = .ok (.iconst (-1), 1) := by decide +kernel
theorem dX5_readOperand_48 : decode cX5_readOperand 48 = .ok (.if_icmp .ne 11, 3) := by decide +kernel
theorem dX5_readOperand_51 : decode cX5_readOperand 51 = .ok (.aload_n 0, 1) := by decide +kernel
theorem dX5_readOperand_52 : decode cX5_readOperand 52 = .ok (.iconst 3, 1) := by decide +kernel
theorem dX5_readOperand_53 : decode cX5_readOperand 53 = .ok (.invokevirtual 64, 3) := by decide +kernel
theorem dX5_readOperand_56 : decode cX5_readOperand 56 = .ok (.goto 34, 3) := by decide +kernel
theorem dX5_readOperand_59 : decode cX5_readOperand 59 = .ok (.iload_n 2, 1) := by decide +kernel
theorem dX5_readOperand_60 : decode cX5_readOperand 60 = .ok (.iconst 5, 1) := by decide +kernel
theorem dX5_readOperand_61 : decode cX5_readOperand 61 = .ok (.if_icmp .ne 25, 3) := by decide +kernel
theorem dX5_readOperand_64 : decode cX5_readOperand 64 = .ok (.iload_n 3, 1) := by decide +kernel
theorem dX5_readOperand_65 : decode cX5_readOperand 65 = .ok (.iconst 1, 1) := by decide +kernel
theorem dX5_readOperand_66 : decode cX5_readOperand 66 = .ok (.if_icmp .ne 20, 3) := by decide +kernel
theorem dX5_readOperand_69 : decode cX5_readOperand 69 = .ok (.aload_n 1, 1) := by decide +kernel
theorem dX5_readOperand_70 : decode cX5_readOperand 70 = .ok (.iload 4, 2) := by decide +kernel
theorem dX5_readOperand_72 : decode cX5_readOperand 72 = .ok (.invokevirtual 99, 3) := by decide +kernel
theorem dX5_readOperand_75 : decode cX5_readOperand 75 = .ok (.ifCond .eq 11, 3) := by decide +kernel
theorem dX5_readOperand_78 : decode cX5_readOperand 78 = .ok (.aload_n 0, 1) := by decide +kernel
theorem dX5_readOperand_79 : decode cX5_readOperand 79 = .ok (.iconst 2, 1) := by decide +kernel
theorem dX5_readOperand_80 : decode cX5_readOperand 80 = .ok (.invokevirtual 64, 3) := by decide +kernel
theorem dX5_readOperand_83 : decode cX5_readOperand 83 = .ok (.goto 7, 3) := by decide +kernel
theorem dX5_readOperand_86 : decode cX5_readOperand 86 = .ok (.aload_n 0, 1) := by decide +kernel
theorem dX5_readOperand_87 : decode cX5_readOperand 87 = .ok (.invokevirtual 53, 3) := by decide +kernel
theorem dX5_readOperand_90 : decode cX5_readOperand 90 = .ok (.iload 4, 2) := by decide +kernel
theorem dX5_readOperand_92 : decode cX5_readOperand 92 = .ok (.ireturn, 1) := by decide +kernel
set_option maxHeartbeats 4000000 in
set_option maxRecDepth 100000 in
theorem c_X5_readOperand {l : Launch} {g : Gh} {w : Wd} {k0 : Nat} {v_into : Nat} {v_statement : Int32} {v_type : Int32} {rz : Int32} {wz : Wd} (hF : f_X5_readOperand w k0 v_into v_statement v_type = some (rz, wz)) (hk0 : zct zC k0 = 5) (hv_into : zct zC v_into = 6) : Met l yX5_readOperand (Cond.code yX5_readOperand cX5_readOperand 5 (some .int) :: TT) (rmd 3) (Pcw zC g w [.ref (g.2.2 k0), .ref (g.2.2 (v_into)), .int (v_statement), .int (v_type)]) (Qw zC g wz (some (.int (rz)))) 0 0 (zA zC g) := by
  refine mt_start (by decide) (Nat.le_of_ble_eq_true rfl) ?_
  intro p e s m args below meth c H locs ls X hr hl hH
  have hx := X.1
  have hb := X.2.1
  have hml := X.2.2.1
  have hown := X.2.2.2.1
  have ht := X.2.2.2.2.1
  have hl : lv_has ls 5 [(0, .ref (g.2.2 (k0))), (1, .ref (g.2.2 (v_into))), (2, .int (v_statement)), (3, .int (v_type))] := hl
  unfold f_X5_readOperand at hF
  refine lv_iload_n hx hb dX5_readOperand_0 rfl (lv_at hl 3 rfl) ?_
  refine lv_iconst (v := (3 : Int32)) hx hb dX5_readOperand_1 (by decide) ?_
  refine w_ieq_f (tgt := 8) hx hb dX5_readOperand_2 (by decide) (fun c1 => ?_) (fun c1 => ?_)
  · replace hF := ifn c1 hF
    obtain ⟨b2, hb2, hF⟩ := ob hF
    have Jb2T : b2 = true → ∀ (H : Heap) (locs : List Loc), HW zC g w s.heap H locs → W p l e (rmd 3) s m args below meth c H locs 0 0 (MQ below (Qw zC g wz (some (.int (rz)))) args s 0 0 (zA zC g)) (F0 m 24 ls []) := by
      intro hc H locs hH
      replace hF := ifp hc hF
      refine lv_aload_n hx hb dX5_readOperand_24 rfl (lv_at hl 0 rfl) ?_
      refine lv_iconst (v := (1 : Int32)) hx hb dX5_readOperand_25 (by decide) ?_
      obtain ⟨w6, h6, hF⟩ := ob hF
      refine w_callV (As := [.int ((1 : Int32))]) (k := k0) (rest := []) (st1 := []) X hH (c_X5_fail (l := l) (g := g) (w := w) (k0 := k0) (v_kind := (1 : Int32)) h6 hk0) (Or.inl tw_2_118) ms_X5_fail im_X5_fail hk0 cn_5 ⟨Nat.le_of_ble_eq_true rfl, Nat.le_of_ble_eq_true rfl⟩ rfl rfl hl.1 (Nat.le_of_ble_eq_true rfl) dX5_readOperand_26 ⟨Nat.le_refl _, Nat.le_refl _⟩ rfl (fun H locs hH => ?_)
      refine lv_iconst (v := (-1 : Int32)) hx hb dX5_readOperand_29 (by decide) ?_
      obtain ⟨rfl, rfl⟩ := se2 hF
      exact w_iret X hH hr dX5_readOperand_30
    have Jb2F : ¬ (b2 = true) → ∀ (H : Heap) (locs : List Loc), HW zC g w s.heap H locs → W p l e (rmd 3) s m args below meth c H locs 0 0 (MQ below (Qw zC g wz (some (.int (rz)))) args s 0 0 (zA zC g)) (F0 m 31 ls []) := by
      intro hc H locs hH
      replace hF := ifn hc hF
      refine lv_aload_n hx hb dX5_readOperand_31 rfl (lv_at hl 1 rfl) ?_
      refine lv_iload_n hx hb dX5_readOperand_32 rfl (lv_at hl 3 rfl) ?_
      refine w_callS (As := [.ref (g.2.2 (v_into)), .int (v_type)]) (rest := []) (st1 := [.ref (g.2.2 ((f_X5_namesOf w (v_into) (v_type))))]) X hH (c_X5_namesOf (l := l) (g := g) (w := w) (v_into := v_into) (v_type := v_type) rfl hv_into) (Or.inl tw_2_135) ms_X5_namesOf tw_2_136 ⟨Nat.le_of_ble_eq_true rfl, Nat.le_of_ble_eq_true rfl⟩ rfl rfl hl.1 (Nat.le_of_ble_eq_true rfl) dX5_readOperand_33 ⟨Nat.le_refl _, Nat.le_refl _⟩ rfl (fun H locs hH => ?_)
      refine lv_aload_n hx hb dX5_readOperand_36 rfl (lv_at hl 0 rfl) ?_
      refine w_getl X hH hk0 fs_5_6 lk_5_31 dX5_readOperand_37 ?_
      obtain ⟨x7, h7, hF⟩ := ob hF
      refine w_callV (As := [.long ((w.2.1 (k0) 6))]) (k := (f_X5_namesOf w (v_into) (v_type))) (rest := []) (st1 := [.int (x7.1)]) X hH (c_X4_numberOf (l := l) (g := g) (w := w) (k0 := (f_X5_namesOf w (v_into) (v_type))) (v_word := (w.2.1 (k0) 6)) h7 (rr_X5_namesOf rfl hv_into)) (Or.inr ⟨_, tw_2_138⟩) ms_X4_numberOf im_X4_numberOf (rr_X5_namesOf rfl hv_into) cn_4 ⟨Nat.le_of_ble_eq_true rfl, Nat.le_of_ble_eq_true rfl⟩ rfl rfl hl.1 (Nat.le_of_ble_eq_true rfl) dX5_readOperand_40 ⟨Nat.le_refl _, Nat.le_refl _⟩ rfl (fun H locs hH => ?_)
      refine lv_istore (lv' := [(4, .int (x7.1)), (0, .ref (g.2.2 (k0))), (1, .ref (g.2.2 (v_into))), (2, .int (v_statement)), (3, .int (v_type))]) hx hb dX5_readOperand_43 hl (by decide) rfl (fun ls hl => ?_)
      obtain ⟨s8, hs8, hF⟩ := ob hF
      have Js8 : ∀ (H : Heap) (locs : List Loc) (ls : Array Slot), HW zC g s8 s.heap H locs → lv_has ls 5 [(0, .ref (g.2.2 (k0))), (1, .ref (g.2.2 (v_into))), (2, .int (v_statement)), (3, .int (v_type)), (4, .int (x7.1))] → W p l e (rmd 3) s m args below meth c H locs 0 0 (MQ below (Qw zC g wz (some (.int (rz)))) args s 0 0 (zA zC g)) (F0 m 90 ls []) := by
        intro H locs ls hH hl
        refine lv_iload hx hb dX5_readOperand_90 (lv_at hl 4 rfl) ?_
        obtain ⟨rfl, rfl⟩ := se2 hF
        exact w_iret X hH hr dX5_readOperand_92
      have hF := hs8
      refine lv_iload hx hb dX5_readOperand_45 (lv_at hl 0 rfl) ?_
      refine lv_iconst (v := (-1 : Int32)) hx hb dX5_readOperand_47 (by decide) ?_
      refine w_ieq_f (tgt := 59) hx hb dX5_readOperand_48 (by decide) (fun c9 => ?_) (fun c9 => ?_)
      · replace hF := ifn c9 hF
        obtain ⟨s10, hs10, hF⟩ := ob hF
        have Js10 : ∀ (H : Heap) (locs : List Loc) (ls : Array Slot), HW zC g s10 s.heap H locs → lv_has ls 5 [(0, .ref (g.2.2 (k0))), (1, .ref (g.2.2 (v_into))), (2, .int (v_statement)), (3, .int (v_type)), (4, .int (x7.1))] → W p l e (rmd 3) s m args below meth c H locs 0 0 (MQ below (Qw zC g wz (some (.int (rz)))) args s 0 0 (zA zC g)) (F0 m 90 ls []) := by
          intro H locs ls hH hl
          obtain rfl := se1 hF
          exact Js8 _ _ _ hH (lv_sub hl [0, 1, 2, 3, 4] rfl)
        have hF := hs10
        refine lv_iload_n hx hb dX5_readOperand_59 rfl (lv_at hl 3 rfl) ?_
        refine lv_iconst (v := (5 : Int32)) hx hb dX5_readOperand_60 (by decide) ?_
        have J11T : ((v_statement = (5 : Int32)) ∧ (v_type = (1 : Int32))) ∧ ((f_X6_isFunction x7.2 (v_into) (x7.1)) = true) → ∀ (H : Heap) (locs : List Loc), HW zC g x7.2 s.heap H locs → W p l e (rmd 3) s m args below meth c H locs 0 0 (MQ below (Qw zC g wz (some (.int (rz)))) args s 0 0 (zA zC g)) (F0 m 78 ls []) := by
          intro hc H locs hH
          replace hF := ifp hc hF
          refine lv_aload_n hx hb dX5_readOperand_78 rfl (lv_at hl 1 rfl) ?_
          refine lv_iconst (v := (2 : Int32)) hx hb dX5_readOperand_79 (by decide) ?_
          obtain ⟨w15, h15, hF⟩ := ob hF
          refine w_callV (As := [.int ((2 : Int32))]) (k := k0) (rest := []) (st1 := []) X hH (c_X5_fail (l := l) (g := g) (w := x7.2) (k0 := k0) (v_kind := (2 : Int32)) h15 hk0) (Or.inl tw_2_118) ms_X5_fail im_X5_fail hk0 cn_5 ⟨Nat.le_of_ble_eq_true rfl, Nat.le_of_ble_eq_true rfl⟩ rfl rfl hl.1 (Nat.le_of_ble_eq_true rfl) dX5_readOperand_80 ⟨Nat.le_refl _, Nat.le_refl _⟩ rfl (fun H locs hH => ?_)
          refine lv_goto (tgt := 90) hx hb dX5_readOperand_83 (by decide) ?_
          obtain rfl := se1 hF
          exact Js10 _ _ _ hH (lv_sub hl [1, 2, 3, 4, 0] rfl)
        have J11F : ¬ (((v_statement = (5 : Int32)) ∧ (v_type = (1 : Int32))) ∧ ((f_X6_isFunction x7.2 (v_into) (x7.1)) = true)) → ∀ (H : Heap) (locs : List Loc), HW zC g x7.2 s.heap H locs → W p l e (rmd 3) s m args below meth c H locs 0 0 (MQ below (Qw zC g wz (some (.int (rz)))) args s 0 0 (zA zC g)) (F0 m 86 ls []) := by
          intro hc H locs hH
          replace hF := ifn hc hF
          refine lv_aload_n hx hb dX5_readOperand_86 rfl (lv_at hl 1 rfl) ?_
          obtain ⟨w16, h16, hF⟩ := ob hF
          refine w_callV (As := []) (k := k0) (rest := []) (st1 := []) X hH (c_X5_nextToken (l := l) (g := g) (w := x7.2) (k0 := k0) h16 hk0) (Or.inl tw_2_94) ms_X5_nextToken im_X5_nextToken hk0 cn_5 ⟨Nat.le_of_ble_eq_true rfl, Nat.le_of_ble_eq_true rfl⟩ rfl rfl hl.1 (Nat.le_of_ble_eq_true rfl) dX5_readOperand_87 ⟨Nat.le_refl _, Nat.le_refl _⟩ rfl (fun H locs hH => ?_)
          obtain rfl := se1 hF
          exact Js10 _ _ _ hH (lv_sub hl [1, 2, 3, 4, 0] rfl)
        refine w_ieq_f (tgt := 86) hx hb dX5_readOperand_61 (by decide) (fun c12 => ?_) (fun c12 => ?_)
        · exact J11F (fun z => (fun z => c12 z.1) z.1) _ _ hH
        · refine lv_iload_n hx hb dX5_readOperand_64 rfl (lv_at hl 4 rfl) ?_
          refine lv_iconst (v := (1 : Int32)) hx hb dX5_readOperand_65 (by decide) ?_
          refine w_ieq_f (tgt := 86) hx hb dX5_readOperand_66 (by decide) (fun c13 => ?_) (fun c13 => ?_)
          · exact J11F (fun z => (fun z => c13 z.2) z.1) _ _ hH
          · refine lv_aload_n hx hb dX5_readOperand_69 rfl (lv_at hl 2 rfl) ?_
            refine lv_iload hx hb dX5_readOperand_70 (lv_at hl 0 rfl) ?_
            refine w_callV (As := [.int (x7.1)]) (k := v_into) (rest := []) (st1 := [.int (bI ((f_X6_isFunction x7.2 (v_into) (x7.1))))]) X hH (c_X6_isFunction (l := l) (g := g) (w := x7.2) (k0 := v_into) (v_object := x7.1) rfl hv_into) (Or.inr ⟨_, tw_2_142⟩) ms_X6_isFunction im_X6_isFunction hv_into cn_6 ⟨Nat.le_of_ble_eq_true rfl, Nat.le_of_ble_eq_true rfl⟩ rfl rfl hl.1 (Nat.le_of_ble_eq_true rfl) dX5_readOperand_72 ⟨Nat.le_refl _, Nat.le_refl _⟩ rfl (fun H locs hH => ?_)
            refine w_b_f (tgt := 86) hx hb dX5_readOperand_75 (by decide) (fun c14 => ?_) (fun c14 => ?_)
            · exact J11F (fun z => c14 z.2) _ _ hH
            · exact J11T ⟨⟨c12, c13⟩, c14⟩ _ _ hH
      · replace hF := ifp c9 hF
        refine lv_aload_n hx hb dX5_readOperand_51 rfl (lv_at hl 1 rfl) ?_
        refine lv_iconst (v := (3 : Int32)) hx hb dX5_readOperand_52 (by decide) ?_
        obtain ⟨w17, h17, hF⟩ := ob hF
        refine w_callV (As := [.int ((3 : Int32))]) (k := k0) (rest := []) (st1 := []) X hH (c_X5_fail (l := l) (g := g) (w := x7.2) (k0 := k0) (v_kind := (3 : Int32)) h17 hk0) (Or.inl tw_2_118) ms_X5_fail im_X5_fail hk0 cn_5 ⟨Nat.le_of_ble_eq_true rfl, Nat.le_of_ble_eq_true rfl⟩ rfl rfl hl.1 (Nat.le_of_ble_eq_true rfl) dX5_readOperand_53 ⟨Nat.le_refl _, Nat.le_refl _⟩ rfl (fun H locs hH => ?_)
        refine lv_goto (tgt := 90) hx hb dX5_readOperand_56 (by decide) ?_
        obtain rfl := se1 hF
        exact Js8 _ _ _ hH (lv_sub hl [1, 2, 3, 4, 0] rfl)
    have hF := hb2
    refine lv_aload_n hx hb dX5_readOperand_8 rfl (lv_at hl 0 rfl) ?_
    refine w_geti X hH hk0 fs_5_4 lk_5_25 dX5_readOperand_9 ?_
    refine lv_iconst (v := (1 : Int32)) hx hb dX5_readOperand_12 (by decide) ?_
    refine w_ine_t (tgt := 24) hx hb dX5_readOperand_13 (by decide) (fun c3 => ?_) (fun c3 => ?_)
    · replace hF := ifp c3 hF
      obtain rfl := se1 hF
      exact Jb2T rfl _ _ hH
    · replace hF := ifn c3 hF
      refine lv_aload_n hx hb dX5_readOperand_16 rfl (lv_at hl 0 rfl) ?_
      obtain ⟨x5, h5, hF⟩ := ob hF
      refine w_callV (As := []) (k := k0) (rest := []) (st1 := [.int (x5)]) X hH (c_X5_keyword (l := l) (g := g) (w := w) (k0 := k0) h5 hk0) (Or.inl tw_2_112) ms_X5_keyword im_X5_keyword hk0 cn_5 ⟨Nat.le_of_ble_eq_true rfl, Nat.le_of_ble_eq_true rfl⟩ rfl rfl hl.1 (Nat.le_of_ble_eq_true rfl) dX5_readOperand_17 ⟨Nat.le_refl _, Nat.le_refl _⟩ rfl (fun H locs hH => ?_)
      refine lv_iconst (v := (-1 : Int32)) hx hb dX5_readOperand_20 (by decide) ?_
      refine w_ine_f (tgt := 31) hx hb dX5_readOperand_21 (by decide) (fun c4 => ?_) (fun c4 => ?_)
      · replace hF := ifn c4 hF
        obtain rfl := se1 hF
        exact Jb2F Bool.false_ne_true _ _ hH
      · replace hF := ifp c4 hF
        obtain rfl := se1 hF
        exact Jb2T rfl _ _ hH
  · replace hF := ifp c1 hF
    refine lv_bipush (v := (-2 : Int32)) hx hb dX5_readOperand_5 (by decide) ?_
    obtain ⟨rfl, rfl⟩ := se2 hF
    exact w_iret X hH hr dX5_readOperand_7

theorem dX9_typeAt_0 : decode cX9_typeAt 0 = .ok (.getstatic 326, 3) := by decide +kernel
theorem dX9_typeAt_3 : decode cX9_typeAt 3 = .ok (.iload_n 0, 1) := by decide +kernel
theorem dX9_typeAt_4 : decode cX9_typeAt 4 = .ok (.iconst 3, 1) := by decide +kernel
theorem dX9_typeAt_5 : decode cX9_typeAt 5 = .ok (.imul, 1) := by decide +kernel
theorem dX9_typeAt_6 : decode cX9_typeAt 6 = .ok (.iload_n 1, 1) := by decide +kernel
theorem dX9_typeAt_7 : decode cX9_typeAt 7 = .ok (.iadd, 1) := by decide +kernel
theorem dX9_typeAt_8 : decode cX9_typeAt 8 = .ok (.iaload, 1) := by decide +kernel
theorem dX9_typeAt_9 : decode cX9_typeAt 9 = .ok (.ireturn, 1) := by decide +kernel
set_option maxHeartbeats 4000000 in
set_option maxRecDepth 100000 in
theorem c_X9_typeAt {l : Launch} {g : Gh} {w : Wd} {v_statement : Int32} {v_position : Int32} {rz : Int32} (hF : f_X9_typeAt w v_statement v_position = some rz)  : Met l yX9_typeAt (Cond.code yX9_typeAt cX9_typeAt 2 (some .int) :: TT) (rmd 0) (Pcw zC g w [.int (v_statement), .int (v_position)]) (Qw zC g w (some (.int (rz)))) 0 0 (zA zC g) := by
  refine mt_start (by decide) (Nat.le_of_ble_eq_true rfl) ?_
  intro p e s m args below meth c H locs ls X hr hl hH
  have hx := X.1
  have hb := X.2.1
  have hml := X.2.2.1
  have hown := X.2.2.2.1
  have ht := X.2.2.2.2.1
  have hl : lv_has ls 2 [(0, .int (v_statement)), (1, .int (v_position))] := hl
  unfold f_X9_typeAt at hF
  refine w_gets_OPERAND_TYPES X hH lks_9_326 dX9_typeAt_0 ?_
  refine lv_iload_n hx hb dX9_typeAt_3 rfl (lv_at hl 0 rfl) ?_
  refine lv_iconst (v := (3 : Int32)) hx hb dX9_typeAt_4 (by decide) ?_
  refine lv_imul hx hb dX9_typeAt_5 ?_
  refine lv_iload_n hx hb dX9_typeAt_6 rfl (lv_at hl 1 rfl) ?_
  refine lv_iadd hx hb dX9_typeAt_7 ?_
  obtain ⟨x1, h1, hF⟩ := ob hF
  refine w_sild X hH h1 dX9_typeAt_8 ?_
  obtain rfl := se1 hF
  exact w_iret X hH hr dX9_typeAt_9

theorem dX6_declareFunction_0 : decode cX6_declareFunction 0 = .ok (.aload_n 0, 1) := by decide +kernel
theorem dX6_declareFunction_1 : decode cX6_declareFunction 1 = .ok (.dup, 1) := by decide +kernel
theorem dX6_declareFunction_2 : decode cX6_declareFunction 2 = .ok (.getfield 33, 3) := by decide +kernel
theorem dX6_declareFunction_5 : decode cX6_declareFunction 5 = .ok (.iconst 1, 1) := by decide +kernel
theorem dX6_declareFunction_6 : decode cX6_declareFunction 6 = .ok (.iload_n 1, 1) := by decide +kernel
theorem dX6_declareFunction_7 : decode cX6_declareFunction 7 = .ok (.ishl, 1) := by decide +kernel
theorem dX6_declareFunction_8 : decode cX6_declareFunction 8 = .ok (.ior, 1) := by decide +kernel
theorem dX6_declareFunction_9 : decode cX6_declareFunction 9 = .ok (.putfield 33, 3) := by decide +kernel
theorem dX6_declareFunction_12 : decode cX6_declareFunction 12 = .ok (.aload_n 0, 1) := by decide +kernel
theorem dX6_declareFunction_13 : decode cX6_declareFunction 13 = .ok (.getfield 26, 3) := by decide +kernel
theorem dX6_declareFunction_16 : decode cX6_declareFunction 16 = .ok (.iload_n 1, 1) := by decide +kernel
theorem dX6_declareFunction_17 : decode cX6_declareFunction 17 = .ok (.iload_n 2, 1) := by decide +kernel
theorem dX6_declareFunction_18 : decode cX6_declareFunction 18 = .ok (.iastore, 1) := by decide +kernel
theorem dX6_declareFunction_19 : decode cX6_declareFunction 19 = .ok (.aload_n 0, 1) := by decide +kernel
theorem dX6_declareFunction_20 : decode cX6_declareFunction 20 = .ok (.getfield 30, 3) := by decide +kernel
theorem dX6_declareFunction_23 : decode cX6_declareFunction 23 = .ok (.iload_n 1, 1) := by decide +kernel
theorem dX6_declareFunction_24 : decode cX6_declareFunction 24 = .ok (.iload_n 3, 1) := by decide +kernel
theorem dX6_declareFunction_25 : decode cX6_declareFunction 25 = .ok (.iastore, 1) := by decide +kernel
theorem dX6_declareFunction_26 : decode cX6_declareFunction 26 = .ok (.return_, 1) := by decide +kernel
set_option maxHeartbeats 4000000 in
set_option maxRecDepth 100000 in
theorem c_X6_declareFunction {l : Launch} {g : Gh} {w : Wd} {k0 : Nat} {v_object : Int32} {v_parameter : Int32} {v_result : Int32} {wz : Wd} (hF : f_X6_declareFunction w k0 v_object v_parameter v_result = some wz) (hk0 : zct zC k0 = 6) : Met l yX6_declareFunction (Cond.code yX6_declareFunction cX6_declareFunction 4 none :: TT) (rmd 0) (Pcw zC g w [.ref (g.2.2 k0), .int (v_object), .int (v_parameter), .int (v_result)]) (Qw zC g wz none) 0 0 (zA zC g) := by
  refine mt_start (by decide) (Nat.le_of_ble_eq_true rfl) ?_
  intro p e s m args below meth c H locs ls X hr hl hH
  have hx := X.1
  have hb := X.2.1
  have hml := X.2.2.1
  have hown := X.2.2.2.1
  have ht := X.2.2.2.2.1
  have hl : lv_has ls 4 [(0, .ref (g.2.2 (k0))), (1, .int (v_object)), (2, .int (v_parameter)), (3, .int (v_result))] := hl
  unfold f_X6_declareFunction at hF
  refine lv_aload_n hx hb dX6_declareFunction_0 rfl (lv_at hl 0 rfl) ?_
  refine lv_dup hx hb dX6_declareFunction_1 rfl ?_
  refine w_geti X hH hk0 fs_6_5 lk_6_33 dX6_declareFunction_2 ?_
  refine lv_iconst (v := (1 : Int32)) hx hb dX6_declareFunction_5 (by decide) ?_
  refine lv_iload_n hx hb dX6_declareFunction_6 rfl (lv_at hl 1 rfl) ?_
  refine w_ishl hx hb dX6_declareFunction_7 ?_
  refine lv_ior hx hb dX6_declareFunction_8 ?_
  obtain ⟨w1, h1, hF⟩ := ob hF
  refine w_puti X hH h1 hk0 fs_6_5 nf_6_5 lk_6_33 dX6_declareFunction_9 (fun H locs hH => ?_)
  refine lv_aload_n hx hb dX6_declareFunction_12 rfl (lv_at hl 0 rfl) ?_
  refine w_getr X hH hk0 fs_6_3 lk_6_26 dX6_declareFunction_13 ?_
  refine lv_iload_n hx hb dX6_declareFunction_16 rfl (lv_at hl 1 rfl) ?_
  refine lv_iload_n hx hb dX6_declareFunction_17 rfl (lv_at hl 2 rfl) ?_
  obtain ⟨w2, h2, hF⟩ := ob hF
  refine w_iast X hH h2 (rt_C_6_3 hk0) dX6_declareFunction_18 (fun H locs hH => ?_)
  refine lv_aload_n hx hb dX6_declareFunction_19 rfl (lv_at hl 0 rfl) ?_
  refine w_getr X hH hk0 fs_6_4 lk_6_30 dX6_declareFunction_20 ?_
  refine lv_iload_n hx hb dX6_declareFunction_23 rfl (lv_at hl 1 rfl) ?_
  refine lv_iload_n hx hb dX6_declareFunction_24 rfl (lv_at hl 3 rfl) ?_
  obtain ⟨w3, h3, hF⟩ := ob hF
  refine w_iast X hH h3 (rt_C_6_4 hk0) dX6_declareFunction_25 (fun H locs hH => ?_)
  obtain rfl := se1 hF
  exact w_vret X hH hr dX6_declareFunction_26

theorem dX0_add_0 : decode cX0_add 0 = .ok (.aload_n 0, 1) := by decide +kernel
theorem dX0_add_1 : decode cX0_add 1 = .ok (.invokevirtual 35, 3) := by decide +kernel
theorem dX0_add_4 : decode cX0_add 4 = .ok (.ifCond .eq 4, 3) := by decide +kernel
theorem dX0_add_7 : decode cX0_add 7 = .ok (.return_, 1) := by decide +kernel
theorem dX0_add_8 : decode cX0_add 8 = .ok (.aload_n 0, 1) := by decide +kernel
theorem dX0_add_9 : decode cX0_add 9 = .ok (.getfield 9, 3) := by decide +kernel
theorem dX0_add_12 : decode cX0_add 12 = .ok (.aload_n 0, 1) := by decide +kernel
theorem dX0_add_13 : decode cX0_add 13 = .ok (.getfield 24, 3) := by decide +kernel
theorem dX0_add_16 : decode cX0_add 16 = .ok (.iload_n 1, 1) := by decide +kernel
theorem dX0_add_17 : decode cX0_add 17 = .ok (.iastore, 1) := by decide +kernel
theorem dX0_add_18 : decode cX0_add 18 = .ok (.aload_n 0, 1) := by decide +kernel
theorem dX0_add_19 : decode cX0_add 19 = .ok (.getfield 15, 3) := by decide +kernel
theorem dX0_add_22 : decode cX0_add 22 = .ok (.aload_n 0, 1) := by decide +kernel
theorem dX0_add_23 : decode cX0_add 23 = .ok (.getfield 24, 3) := by decide +kernel
theorem dX0_add_26 : decode cX0_add 26 = .ok (.iload_n 2, 1) := by decide +kernel
theorem dX0_add_27 : decode cX0_add 27 = .ok (.iastore, 1) := by decide +kernel
theorem dX0_add_28 : decode cX0_add 28 = .ok (.aload_n 0, 1) := by decide +kernel
theorem dX0_add_29 : decode cX0_add 29 = .ok (.getfield 18, 3) := by decide +kernel
theorem dX0_add_32 : decode cX0_add 32 = .ok (.aload_n 0, 1) := by decide +kernel
theorem dX0_add_33 : decode cX0_add 33 = .ok (.getfield 24, 3) := by decide +kernel
theorem dX0_add_36 : decode cX0_add 36 = .ok (.iload_n 3, 1) := by decide +kernel
theorem dX0_add_37 : decode cX0_add 37 = .ok (.iastore, 1) := by decide +kernel
theorem dX0_add_38 : decode cX0_add 38 = .ok (.aload_n 0, 1) := by decide +kernel
theorem dX0_add_39 : decode cX0_add 39 = .ok (.getfield 21, 3) := by decide +kernel
theorem dX0_add_42 : decode cX0_add 42 = .ok (.aload_n 0, 1) := by decide +kernel
theorem dX0_add_43 : decode cX0_add 43 = .ok (.getfield 24, 3) := by decide +kernel
theorem dX0_add_46 : decode cX0_add 46 = .ok (.iload 4, 2) := by decide +kernel
theorem dX0_add_48 : decode cX0_add 48 = .ok (.iastore, 1) := by decide +kernel
theorem dX0_add_49 : decode cX0_add 49 = .ok (.aload_n 0, 1) := by decide +kernel
theorem dX0_add_50 : decode cX0_add 50 = .ok (.dup, 1) := by decide +kernel
theorem dX0_add_51 : decode cX0_add 51 = .ok (.getfield 28, 3) := by decide +kernel
theorem dX0_add_54 : decode cX0_add 54 = .ok (.iconst 1, 1) := by decide +kernel
theorem dX0_add_55 : decode cX0_add 55 = .ok (.aload_n 0, 1) := by decide +kernel
theorem dX0_add_56 : decode cX0_add 56 = .ok (.getfield 24, 3) := by decide +kernel
theorem dX0_add_59 : decode cX0_add 59 = .ok (.ishl, 1) := by decide +kernel
theorem dX0_add_60 : decode cX0_add 60 = .ok (.ior, 1) := by decide +kernel
theorem dX0_add_61 : decode cX0_add 61 = .ok (.putfield 28, 3) := by decide +kernel
theorem dX0_add_64 : decode cX0_add 64 = .ok (.aload_n 0, 1) := by decide +kernel
theorem dX0_add_65 : decode cX0_add 65 = .ok (.dup, 1) := by decide +kernel
theorem dX0_add_66 : decode cX0_add 66 = .ok (.getfield 24, 3) := by decide +kernel
theorem dX0_add_69 : decode cX0_add 69 = .ok (.iconst 1, 1) := by decide +kernel
theorem dX0_add_70 : decode cX0_add 70 = .ok (.iadd, 1) := by decide +kernel
theorem dX0_add_71 : decode cX0_add 71 = .ok (.putfield 24, 3) := by decide +kernel
theorem dX0_add_74 : decode cX0_add 74 = .ok (.return_, 1) := by decide +kernel
set_option maxHeartbeats 4000000 in
set_option maxRecDepth 100000 in
theorem c_X0_add {l : Launch} {g : Gh} {w : Wd} {k0 : Nat} {v_kind : Int32} {v_first : Int32} {v_second : Int32} {v_third : Int32} {wz : Wd} (hF : f_X0_add w k0 v_kind v_first v_second v_third = some wz) (hk0 : zct zC k0 = 0) : Met l yX0_add (Cond.code yX0_add cX0_add 5 none :: TT) (rmd 1) (Pcw zC g w [.ref (g.2.2 k0), .int (v_kind), .int (v_first), .int (v_second), .int (v_third)]) (Qw zC g wz none) 0 0 (zA zC g) := by
  refine mt_start (by decide) (Nat.le_of_ble_eq_true rfl) ?_
  intro p e s m args below meth c H locs ls X hr hl hH
  have hx := X.1
  have hb := X.2.1
  have hml := X.2.2.1
  have hown := X.2.2.2.1
  have ht := X.2.2.2.2.1
  have hl : lv_has ls 5 [(0, .ref (g.2.2 (k0))), (1, .int (v_kind)), (2, .int (v_first)), (3, .int (v_second)), (4, .int (v_third))] := hl
  unfold f_X0_add at hF
  refine lv_aload_n hx hb dX0_add_0 rfl (lv_at hl 0 rfl) ?_
  refine w_callV (As := []) (k := k0) (rest := []) (st1 := [.int (bI ((f_X0_isFull w (k0))))]) X hH (c_X0_isFull (l := l) (g := g) (w := w) (k0 := k0) rfl hk0) (Or.inl tw_2_161) ms_X0_isFull im_X0_isFull hk0 cn_0 ⟨Nat.le_of_ble_eq_true rfl, Nat.le_of_ble_eq_true rfl⟩ rfl rfl hl.1 (Nat.le_of_ble_eq_true rfl) dX0_add_1 ⟨Nat.le_refl _, Nat.le_refl _⟩ rfl (fun H locs hH => ?_)
  refine w_b_f (tgt := 8) hx hb dX0_add_4 (by decide) (fun c1 => ?_) (fun c1 => ?_)
  · replace hF := ifn c1 hF
    refine lv_aload_n hx hb dX0_add_8 rfl (lv_at hl 0 rfl) ?_
    refine w_getr X hH hk0 fs_0_0 lk_0_9 dX0_add_9 ?_
    refine lv_aload_n hx hb dX0_add_12 rfl (lv_at hl 0 rfl) ?_
    refine w_geti X hH hk0 fs_0_4 lk_0_24 dX0_add_13 ?_
    refine lv_iload_n hx hb dX0_add_16 rfl (lv_at hl 1 rfl) ?_
    obtain ⟨w2, h2, hF⟩ := ob hF
    refine w_iast X hH h2 (rt_C_0_0 hk0) dX0_add_17 (fun H locs hH => ?_)
    refine lv_aload_n hx hb dX0_add_18 rfl (lv_at hl 0 rfl) ?_
    refine w_getr X hH hk0 fs_0_1 lk_0_15 dX0_add_19 ?_
    refine lv_aload_n hx hb dX0_add_22 rfl (lv_at hl 0 rfl) ?_
    refine w_geti X hH hk0 fs_0_4 lk_0_24 dX0_add_23 ?_
    refine lv_iload_n hx hb dX0_add_26 rfl (lv_at hl 2 rfl) ?_
    obtain ⟨w3, h3, hF⟩ := ob hF
    refine w_iast X hH h3 (rt_C_0_1 hk0) dX0_add_27 (fun H locs hH => ?_)
    refine lv_aload_n hx hb dX0_add_28 rfl (lv_at hl 0 rfl) ?_
    refine w_getr X hH hk0 fs_0_2 lk_0_18 dX0_add_29 ?_
    refine lv_aload_n hx hb dX0_add_32 rfl (lv_at hl 0 rfl) ?_
    refine w_geti X hH hk0 fs_0_4 lk_0_24 dX0_add_33 ?_
    refine lv_iload_n hx hb dX0_add_36 rfl (lv_at hl 3 rfl) ?_
    obtain ⟨w4, h4, hF⟩ := ob hF
    refine w_iast X hH h4 (rt_C_0_2 hk0) dX0_add_37 (fun H locs hH => ?_)
    refine lv_aload_n hx hb dX0_add_38 rfl (lv_at hl 0 rfl) ?_
    refine w_getr X hH hk0 fs_0_3 lk_0_21 dX0_add_39 ?_
    refine lv_aload_n hx hb dX0_add_42 rfl (lv_at hl 0 rfl) ?_
    refine w_geti X hH hk0 fs_0_4 lk_0_24 dX0_add_43 ?_
    refine lv_iload hx hb dX0_add_46 (lv_at hl 4 rfl) ?_
    obtain ⟨w5, h5, hF⟩ := ob hF
    refine w_iast X hH h5 (rt_C_0_3 hk0) dX0_add_48 (fun H locs hH => ?_)
    refine lv_aload_n hx hb dX0_add_49 rfl (lv_at hl 0 rfl) ?_
    refine lv_dup hx hb dX0_add_50 rfl ?_
    refine w_geti X hH hk0 fs_0_5 lk_0_28 dX0_add_51 ?_
    refine lv_iconst (v := (1 : Int32)) hx hb dX0_add_54 (by decide) ?_
    refine lv_aload_n hx hb dX0_add_55 rfl (lv_at hl 0 rfl) ?_
    refine w_geti X hH hk0 fs_0_4 lk_0_24 dX0_add_56 ?_
    refine w_ishl hx hb dX0_add_59 ?_
    refine lv_ior hx hb dX0_add_60 ?_
    obtain ⟨w6, h6, hF⟩ := ob hF
    refine w_puti X hH h6 hk0 fs_0_5 nf_0_5 lk_0_28 dX0_add_61 (fun H locs hH => ?_)
    refine lv_aload_n hx hb dX0_add_64 rfl (lv_at hl 0 rfl) ?_
    refine lv_dup hx hb dX0_add_65 rfl ?_
    refine w_geti X hH hk0 fs_0_4 lk_0_24 dX0_add_66 ?_
    refine lv_iconst (v := (1 : Int32)) hx hb dX0_add_69 (by decide) ?_
    refine lv_iadd hx hb dX0_add_70 ?_
    obtain ⟨w7, h7, hF⟩ := ob hF
    refine w_puti X hH h7 hk0 fs_0_4 nf_0_4 lk_0_24 dX0_add_71 (fun H locs hH => ?_)
    obtain rfl := se1 hF
    exact w_vret X hH hr dX0_add_74
  · replace hF := ifp c1 hF
    obtain rfl := se1 hF
    exact w_vret X hH hr dX0_add_7

theorem dX5_accept_0 : decode cX5_accept 0 = .ok (.iload_n 2, 1) := by decide +kernel
theorem dX5_accept_1 : decode cX5_accept 1 = .ok (.iconst 5, 1) := by decide +kernel
theorem dX5_accept_2 : decode cX5_accept 2 = .ok (.if_icmp .ne 28, 3) := by decide +kernel
theorem dX5_accept_5 : decode cX5_accept 5 = .ok (.aload_n 1, 1) := by decide +kernel
theorem dX5_accept_6 : decode cX5_accept 6 = .ok (.aload_n 0, 1) := by decide +kernel
theorem dX5_accept_7 : decode cX5_accept 7 = .ok (.getfield 38, 3) := by decide +kernel
theorem dX5_accept_10 : decode cX5_accept 10 = .ok (.iconst 0, 1) := by decide +kernel
theorem dX5_accept_11 : decode cX5_accept 11 = .ok (.iaload, 1) := by decide +kernel
theorem dX5_accept_12 : decode cX5_accept 12 = .ok (.aload_n 0, 1) := by decide +kernel
theorem dX5_accept_13 : decode cX5_accept 13 = .ok (.getfield 38, 3) := by decide +kernel
theorem dX5_accept_16 : decode cX5_accept 16 = .ok (.iconst 1, 1) := by decide +kernel
theorem dX5_accept_17 : decode cX5_accept 17 = .ok (.iaload, 1) := by decide +kernel
theorem dX5_accept_18 : decode cX5_accept 18 = .ok (.aload_n 0, 1) := by decide +kernel
theorem dX5_accept_19 : decode cX5_accept 19 = .ok (.getfield 38, 3) := by decide +kernel
theorem dX5_accept_22 : decode cX5_accept 22 = .ok (.iconst 2, 1) := by decide +kernel
theorem dX5_accept_23 : decode cX5_accept 23 = .ok (.iaload, 1) := by decide +kernel
theorem dX5_accept_24 : decode cX5_accept 24 = .ok (.invokevirtual 113, 3) := by decide +kernel
theorem dX5_accept_27 : decode cX5_accept 27 = .ok (.goto 29, 3) := by decide +kernel
theorem dX5_accept_30 : decode cX5_accept 30 = .ok (.aload_n 1, 1) := by decide +kernel
theorem dX5_accept_31 : decode cX5_accept 31 = .ok (.getfield 68, 3) := by decide +kernel
theorem dX5_accept_34 : decode cX5_accept 34 = .ok (.iload_n 2, 1) := by decide +kernel
theorem dX5_accept_35 : decode cX5_accept 35 = .ok (.aload_n 0, 1) := by decide +kernel
theorem dX5_accept_36 : decode cX5_accept 36 = .ok (.getfield 38, 3) := by decide +kernel
theorem dX5_accept_39 : decode cX5_accept 39 = .ok (.iconst 0, 1) := by decide +kernel
theorem dX5_accept_40 : decode cX5_accept 40 = .ok (.iaload, 1) := by decide +kernel
theorem dX5_accept_41 : decode cX5_accept 41 = .ok (.aload_n 0, 1) := by decide +kernel
theorem dX5_accept_42 : decode cX5_accept 42 = .ok (.getfield 38, 3) := by decide +kernel
theorem dX5_accept_45 : decode cX5_accept 45 = .ok (.iconst 1, 1) := by decide +kernel
theorem dX5_accept_46 : decode cX5_accept 46 = .ok (.iaload, 1) := by decide +kernel
theorem dX5_accept_47 : decode cX5_accept 47 = .ok (.aload_n 0, 1) := by decide +kernel
theorem dX5_accept_48 : decode cX5_accept 48 = .ok (.getfield 38, 3) := by decide +kernel
theorem dX5_accept_51 : decode cX5_accept 51 = .ok (.iconst 2, 1) := by decide +kernel
theorem dX5_accept_52 : decode cX5_accept 52 = .ok (.iaload, 1) := by decide +kernel
theorem dX5_accept_53 : decode cX5_accept 53 = .ok (.invokevirtual 117, 3) := by decide +kernel
theorem dX5_accept_56 : decode cX5_accept 56 = .ok (.return_, 1) := by decide +kernel
set_option maxHeartbeats 4000000 in
set_option maxRecDepth 100000 in
theorem c_X5_accept {l : Launch} {g : Gh} {w : Wd} {k0 : Nat} {v_into : Nat} {v_statement : Int32} {wz : Wd} (hF : f_X5_accept w k0 v_into v_statement = some wz) (hk0 : zct zC k0 = 5) (hv_into : zct zC v_into = 6) : Met l yX5_accept (Cond.code yX5_accept cX5_accept 3 none :: TT) (rmd 2) (Pcw zC g w [.ref (g.2.2 k0), .ref (g.2.2 (v_into)), .int (v_statement)]) (Qw zC g wz none) 0 0 (zA zC g) := by
  refine mt_start (by decide) (Nat.le_of_ble_eq_true rfl) ?_
  intro p e s m args below meth c H locs ls X hr hl hH
  have hx := X.1
  have hb := X.2.1
  have hml := X.2.2.1
  have hown := X.2.2.2.1
  have ht := X.2.2.2.2.1
  have hl : lv_has ls 3 [(0, .ref (g.2.2 (k0))), (1, .ref (g.2.2 (v_into))), (2, .int (v_statement))] := hl
  unfold f_X5_accept at hF
  obtain ⟨s1, hs1, hF⟩ := ob hF
  have Js1 : ∀ (H : Heap) (locs : List Loc) (ls : Array Slot), HW zC g s1 s.heap H locs → lv_has ls 3 [(0, .ref (g.2.2 (k0))), (1, .ref (g.2.2 (v_into))), (2, .int (v_statement))] → W p l e (rmd 2) s m args below meth c H locs 0 0 (MQ below (Qw zC g wz none) args s 0 0 (zA zC g)) (F0 m 56 ls []) := by
    intro H locs ls hH hl
    obtain rfl := se1 hF
    exact w_vret X hH hr dX5_accept_56
  have hF := hs1
  refine lv_iload_n hx hb dX5_accept_0 rfl (lv_at hl 2 rfl) ?_
  refine lv_iconst (v := (5 : Int32)) hx hb dX5_accept_1 (by decide) ?_
  refine w_ieq_f (tgt := 30) hx hb dX5_accept_2 (by decide) (fun c2 => ?_) (fun c2 => ?_)
  · replace hF := ifn c2 hF
    refine lv_aload_n hx hb dX5_accept_30 rfl (lv_at hl 1 rfl) ?_
    refine w_getr X hH hv_into fs_6_6 lk_5_68 dX5_accept_31 ?_
    refine lv_iload_n hx hb dX5_accept_34 rfl (lv_at hl 2 rfl) ?_
    refine lv_aload_n hx hb dX5_accept_35 rfl (lv_at hl 0 rfl) ?_
    refine w_getr X hH hk0 fs_5_8 lk_5_38 dX5_accept_36 ?_
    refine lv_iconst (v := (0 : Int32)) hx hb dX5_accept_39 (by decide) ?_
    obtain ⟨x3, h3, hF⟩ := ob hF
    refine w_iald X hH h3 (rt_C_5_8 hk0) dX5_accept_40 ?_
    refine lv_aload_n hx hb dX5_accept_41 rfl (lv_at hl 0 rfl) ?_
    refine w_getr X hH hk0 fs_5_8 lk_5_38 dX5_accept_42 ?_
    refine lv_iconst (v := (1 : Int32)) hx hb dX5_accept_45 (by decide) ?_
    obtain ⟨x4, h4, hF⟩ := ob hF
    refine w_iald X hH h4 (rt_C_5_8 hk0) dX5_accept_46 ?_
    refine lv_aload_n hx hb dX5_accept_47 rfl (lv_at hl 0 rfl) ?_
    refine w_getr X hH hk0 fs_5_8 lk_5_38 dX5_accept_48 ?_
    refine lv_iconst (v := (2 : Int32)) hx hb dX5_accept_51 (by decide) ?_
    obtain ⟨x5, h5, hF⟩ := ob hF
    refine w_iald X hH h5 (rt_C_5_8 hk0) dX5_accept_52 ?_
    obtain ⟨w6, h6, hF⟩ := ob hF
    refine w_callV (As := [.int (v_statement), .int (x3), .int (x4), .int (x5)]) (k := (zrf zC (v_into) 6)) (rest := []) (st1 := []) X hH (c_X0_add (l := l) (g := g) (w := w) (k0 := (zrf zC (v_into) 6)) (v_kind := v_statement) (v_first := x3) (v_second := x4) (v_third := x5) h6 (rt_C_6_6 hv_into)) (Or.inr ⟨_, tw_2_157⟩) ms_X0_add im_X0_add (rt_C_6_6 hv_into) cn_0 ⟨Nat.le_of_ble_eq_true rfl, Nat.le_of_ble_eq_true rfl⟩ rfl rfl hl.1 (Nat.le_of_ble_eq_true rfl) dX5_accept_53 ⟨Nat.le_refl _, Nat.le_refl _⟩ rfl (fun H locs hH => ?_)
    obtain rfl := se1 hF
    exact Js1 _ _ _ hH (lv_sub hl [0, 1, 2] rfl)
  · replace hF := ifp c2 hF
    refine lv_aload_n hx hb dX5_accept_5 rfl (lv_at hl 1 rfl) ?_
    refine lv_aload_n hx hb dX5_accept_6 rfl (lv_at hl 0 rfl) ?_
    refine w_getr X hH hk0 fs_5_8 lk_5_38 dX5_accept_7 ?_
    refine lv_iconst (v := (0 : Int32)) hx hb dX5_accept_10 (by decide) ?_
    obtain ⟨x7, h7, hF⟩ := ob hF
    refine w_iald X hH h7 (rt_C_5_8 hk0) dX5_accept_11 ?_
    refine lv_aload_n hx hb dX5_accept_12 rfl (lv_at hl 0 rfl) ?_
    refine w_getr X hH hk0 fs_5_8 lk_5_38 dX5_accept_13 ?_
    refine lv_iconst (v := (1 : Int32)) hx hb dX5_accept_16 (by decide) ?_
    obtain ⟨x8, h8, hF⟩ := ob hF
    refine w_iald X hH h8 (rt_C_5_8 hk0) dX5_accept_17 ?_
    refine lv_aload_n hx hb dX5_accept_18 rfl (lv_at hl 0 rfl) ?_
    refine w_getr X hH hk0 fs_5_8 lk_5_38 dX5_accept_19 ?_
    refine lv_iconst (v := (2 : Int32)) hx hb dX5_accept_22 (by decide) ?_
    obtain ⟨x9, h9, hF⟩ := ob hF
    refine w_iald X hH h9 (rt_C_5_8 hk0) dX5_accept_23 ?_
    obtain ⟨w10, h10, hF⟩ := ob hF
    refine w_callV (As := [.int (x7), .int (x8), .int (x9)]) (k := v_into) (rest := []) (st1 := []) X hH (c_X6_declareFunction (l := l) (g := g) (w := w) (k0 := v_into) (v_object := x7) (v_parameter := x8) (v_result := x9) h10 hv_into) (Or.inr ⟨_, tw_2_153⟩) ms_X6_declareFunction im_X6_declareFunction hv_into cn_6 ⟨Nat.le_of_ble_eq_true rfl, Nat.le_of_ble_eq_true rfl⟩ rfl rfl hl.1 (Nat.le_of_ble_eq_true rfl) dX5_accept_24 ⟨Nat.le_refl _, Nat.le_refl _⟩ rfl (fun H locs hH => ?_)
    refine lv_goto (tgt := 56) hx hb dX5_accept_27 (by decide) ?_
    obtain rfl := se1 hF
    exact Js1 _ _ _ hH (lv_sub hl [0, 1, 2] rfl)

theorem dX5_readStatement_0 : decode cX5_readStatement 0 = .ok (.aload_n 0, 1) := by decide +kernel
theorem dX5_readStatement_1 : decode cX5_readStatement 1 = .ok (.invokevirtual 60, 3) := by decide +kernel
theorem dX5_readStatement_4 : decode cX5_readStatement 4 = .ok (.istore_n 2, 1) := by decide +kernel
theorem dX5_readStatement_5 : decode cX5_readStatement 5 = .ok (.iload_n 2, 1) := by decide +kernel
theorem dX5_readStatement_6 : decode cX5_readStatement 6 = .ok (.iconst (-1), 1) := by decide +kernel
theorem dX5_readStatement_7 : decode cX5_readStatement 7 = .ok (.if_icmp .ne 9, 3) := by decide +kernel
theorem dX5_readStatement_10 : decode cX5_readStatement 10 = .ok (.aload_n 0, 1) := by decide +kernel
theorem dX5_readStatement_11 : decode cX5_readStatement 11 = .ok (.iconst 1, 1) := by decide +kernel
theorem dX5_readStatement_12 : decode cX5_readStatement 12 = .ok (.invokevirtual 64, 3) := by decide +kernel
theorem dX5_readStatement_15 : decode cX5_readStatement 15 = .ok (.return_, 1) := by decide +kernel
theorem dX5_readStatement_16 : decode cX5_readStatement 16 = .ok (.iload_n 2, 1) := by decide +kernel
theorem dX5_readStatement_17 : decode cX5_readStatement 17 = .ok (.iconst 5, 1) := by decide +kernel
theorem dX5_readStatement_18 : decode cX5_readStatement 18 = .ok (.if_icmp .eq 19, 3) := by decide +kernel
theorem dX5_readStatement_21 : decode cX5_readStatement 21 = .ok (.aload_n 1, 1) := by decide +kernel
theorem dX5_readStatement_22 : decode cX5_readStatement 22 = .ok (.getfield 68, 3) := by decide +kernel
theorem dX5_readStatement_25 : decode cX5_readStatement 25 = .ok (.invokevirtual 72, 3) := by decide +kernel
theorem dX5_readStatement_28 : decode cX5_readStatement 28 = .ok (.ifCond .eq 9, 3) := by decide +kernel
theorem dX5_readStatement_31 : decode cX5_readStatement 31 = .ok (.aload_n 0, 1) := by decide +kernel
theorem dX5_readStatement_32 : decode cX5_readStatement 32 = .ok (.iconst 3, 1) := by decide +kernel
theorem dX5_readStatement_33 : decode cX5_readStatement 33 = .ok (.invokevirtual 64, 3) := by decide +kernel
theorem dX5_readStatement_36 : decode cX5_readStatement 36 = .ok (.return_, 1) := by decide +kernel
theorem dX5_readStatement_37 : decode cX5_readStatement 37 = .ok (.aload_n 0, 1) := by decide +kernel
theorem dX5_readStatement_38 : decode cX5_readStatement 38 = .ok (.invokevirtual 53, 3) := by decide +kernel
theorem dX5_readStatement_41 : decode cX5_readStatement 41 = .ok (.iconst 0, 1) := by decide +kernel
theorem dX5_readStatement_42 : decode cX5_readStatement 42 = .ok (.istore_n 3, 1) := by decide +kernel
theorem dX5_readStatement_43 : decode cX5_readStatement 43 = .ok (.iload_n 3, 1) := by decide +kernel
theorem dX5_readStatement_44 : decode cX5_readStatement 44 = .ok (.iconst 3, 1) := by decide +kernel
theorem dX5_readStatement_45 : decode cX5_readStatement 45 = .ok (.if_icmp .ge 33, 3) := by decide +kernel
theorem dX5_readStatement_48 : decode cX5_readStatement 48 = .ok (.aload_n 0, 1) := by decide +kernel
theorem dX5_readStatement_49 : decode cX5_readStatement 49 = .ok (.getfield 35, 3) := by decide +kernel
theorem dX5_readStatement_52 : decode cX5_readStatement 52 = .ok (.ifCond .ne 26, 3) := by decide +kernel
theorem dX5_readStatement_55 : decode cX5_readStatement 55 = .ok (.aload_n 0, 1) := by decide +kernel
theorem dX5_readStatement_56 : decode cX5_readStatement 56 = .ok (.getfield 38, 3) := by decide +kernel
theorem dX5_readStatement_59 : decode cX5_readStatement 59 = .ok (.iload_n 3, 1) := by decide +kernel
theorem dX5_readStatement_60 : decode cX5_readStatement 60 = .ok (.aload_n 0, 1) := by decide +kernel
theorem dX5_readStatement_61 : decode cX5_readStatement 61 = .ok (.aload_n 1, 1) := by decide +kernel
theorem dX5_readStatement_62 : decode cX5_readStatement 62 = .ok (.iload_n 2, 1) := by decide +kernel
theorem dX5_readStatement_63 : decode cX5_readStatement 63 = .ok (.iload_n 2, 1) := by decide +kernel
theorem dX5_readStatement_64 : decode cX5_readStatement 64 = .ok (.iload_n 3, 1) := by decide +kernel
theorem dX5_readStatement_65 : decode cX5_readStatement 65 = .ok (.invokestatic 78, 3) := by decide +kernel
theorem dX5_readStatement_68 : decode cX5_readStatement 68 = .ok (.invokevirtual 81, 3) := by decide +kernel
theorem dX5_readStatement_71 : decode cX5_readStatement 71 = .ok (.iastore, 1) := by decide +kernel
theorem dX5_readStatement_72 : decode cX5_readStatement 72 = .ok (.iinc 3 1, 3) := by decide +kernel
theorem dX5_readStatement_75 : decode cX5_readStatement 75 = .ok (.goto (-32), 3) := by decide +kernel
theorem dX5_readStatement_78 : decode cX5_readStatement 78 = .ok (.aload_n 0, 1) := by decide +kernel
theorem dX5_readStatement_79 : decode cX5_readStatement 79 = .ok (.getfield 35, 3) := by decide +kernel
theorem dX5_readStatement_82 : decode cX5_readStatement 82 = .ok (.ifCond .ne 16, 3) := by decide +kernel
theorem dX5_readStatement_85 : decode cX5_readStatement 85 = .ok (.aload_n 0, 1) := by decide +kernel
theorem dX5_readStatement_86 : decode cX5_readStatement 86 = .ok (.getfield 25, 3) := by decide +kernel
theorem dX5_readStatement_89 : decode cX5_readStatement 89 = .ok (.iconst 2, 1) := by decide +kernel
theorem dX5_readStatement_90 : decode cX5_readStatement 90 = .ok (.if_icmp .eq 8, 3) := by decide +kernel
theorem dX5_readStatement_93 : decode cX5_readStatement 93 = .ok (.aload_n 0, 1) := by decide +kernel
theorem dX5_readStatement_94 : decode cX5_readStatement 94 = .ok (.iconst 1, 1) := by decide +kernel
theorem dX5_readStatement_95 : decode cX5_readStatement 95 = .ok (.invokevirtual 64, 3) := by decide +kernel
theorem dX5_readStatement_98 : decode cX5_readStatement 98 = .ok (.aload_n 0, 1) := by decide +kernel
theorem dX5_readStatement_99 : decode cX5_readStatement 99 = .ok (.getfield 35, 3) := by decide +kernel
theorem dX5_readStatement_102 : decode cX5_readStatement 102 = .ok (.ifCond .ne 13, 3) := by decide +kernel
theorem dX5_readStatement_105 : decode cX5_readStatement 105 = .ok (.aload_n 0, 1) := by decide +kernel
theorem dX5_readStatement_106 : decode cX5_readStatement 106 = .ok (.aload_n 1, 1) := by decide +kernel
theorem dX5_readStatement_107 : decode cX5_readStatement 107 = .ok (.iload_n 2, 1) := by decide +kernel
theorem dX5_readStatement_108 : decode cX5_readStatement 108 = .ok (.invokevirtual 85, 3) := by decide +kernel
theorem dX5_readStatement_111 : decode cX5_readStatement 111 = .ok (.aload_n 0, 1) := by decide +kernel
theorem dX5_readStatement_112 : decode cX5_readStatement 112 = .ok (.invokevirtual 53, 3) := by decide +kernel
theorem dX5_readStatement_115 : decode cX5_readStatement 115 = .ok (.return_, 1) := by decide +kernel
set_option maxHeartbeats 4000000 in
set_option maxRecDepth 100000 in
theorem c_X5_readStatement {l : Launch} {g : Gh} {w : Wd} {k0 : Nat} {v_into : Nat} {wz : Wd} (hF : f_X5_readStatement w k0 v_into = some wz) (hk0 : zct zC k0 = 5) (hv_into : zct zC v_into = 6) : Met l yX5_readStatement (Cond.code yX5_readStatement cX5_readStatement 4 none :: TT) (rmd 4) (Pcw zC g w [.ref (g.2.2 k0), .ref (g.2.2 (v_into))]) (Qw zC g wz none) 0 0 (zA zC g) := by
  refine mt_start (by decide) (Nat.le_of_ble_eq_true rfl) ?_
  intro p e s m args below meth c H locs ls X hr hl hH
  have hx := X.1
  have hb := X.2.1
  have hml := X.2.2.1
  have hown := X.2.2.2.1
  have ht := X.2.2.2.2.1
  have hl : lv_has ls 4 [(0, .ref (g.2.2 (k0))), (1, .ref (g.2.2 (v_into)))] := hl
  unfold f_X5_readStatement at hF
  refine lv_aload_n hx hb dX5_readStatement_0 rfl (lv_at hl 0 rfl) ?_
  obtain ⟨x1, h1, hF⟩ := ob hF
  refine w_callV (As := []) (k := k0) (rest := []) (st1 := [.int (x1)]) X hH (c_X5_keyword (l := l) (g := g) (w := w) (k0 := k0) h1 hk0) (Or.inl tw_2_112) ms_X5_keyword im_X5_keyword hk0 cn_5 ⟨Nat.le_of_ble_eq_true rfl, Nat.le_of_ble_eq_true rfl⟩ rfl rfl hl.1 (Nat.le_of_ble_eq_true rfl) dX5_readStatement_1 ⟨Nat.le_refl _, Nat.le_refl _⟩ rfl (fun H locs hH => ?_)
  refine lv_istore_n (lv' := [(2, .int (x1)), (0, .ref (g.2.2 (k0))), (1, .ref (g.2.2 (v_into)))]) hx hb dX5_readStatement_4 rfl hl (by decide) rfl (fun ls hl => ?_)
  refine lv_iload_n hx hb dX5_readStatement_5 rfl (lv_at hl 0 rfl) ?_
  refine lv_iconst (v := (-1 : Int32)) hx hb dX5_readStatement_6 (by decide) ?_
  refine w_ieq_f (tgt := 16) hx hb dX5_readStatement_7 (by decide) (fun c2 => ?_) (fun c2 => ?_)
  · replace hF := ifn c2 hF
    refine lv_iload_n hx hb dX5_readStatement_16 rfl (lv_at hl 0 rfl) ?_
    refine lv_iconst (v := (5 : Int32)) hx hb dX5_readStatement_17 (by decide) ?_
    have J3T : (¬ (x1 = (5 : Int32))) ∧ ((f_X0_isFull w ((zrf zC (v_into) 6))) = true) → ∀ (H : Heap) (locs : List Loc), HW zC g w s.heap H locs → W p l e (rmd 4) s m args below meth c H locs 0 0 (MQ below (Qw zC g wz none) args s 0 0 (zA zC g)) (F0 m 31 ls []) := by
      intro hc H locs hH
      replace hF := ifp hc hF
      refine lv_aload_n hx hb dX5_readStatement_31 rfl (lv_at hl 1 rfl) ?_
      refine lv_iconst (v := (3 : Int32)) hx hb dX5_readStatement_32 (by decide) ?_
      obtain ⟨w6, h6, hF⟩ := ob hF
      refine w_callV (As := [.int ((3 : Int32))]) (k := k0) (rest := []) (st1 := []) X hH (c_X5_fail (l := l) (g := g) (w := w) (k0 := k0) (v_kind := (3 : Int32)) h6 hk0) (Or.inl tw_2_118) ms_X5_fail im_X5_fail hk0 cn_5 ⟨Nat.le_of_ble_eq_true rfl, Nat.le_of_ble_eq_true rfl⟩ rfl rfl hl.1 (Nat.le_of_ble_eq_true rfl) dX5_readStatement_33 ⟨Nat.le_refl _, Nat.le_refl _⟩ rfl (fun H locs hH => ?_)
      obtain rfl := se1 hF
      exact w_vret X hH hr dX5_readStatement_36
    have J3F : ¬ ((¬ (x1 = (5 : Int32))) ∧ ((f_X0_isFull w ((zrf zC (v_into) 6))) = true)) → ∀ (H : Heap) (locs : List Loc), HW zC g w s.heap H locs → W p l e (rmd 4) s m args below meth c H locs 0 0 (MQ below (Qw zC g wz none) args s 0 0 (zA zC g)) (F0 m 37 ls []) := by
      intro hc H locs hH
      replace hF := ifn hc hF
      refine lv_aload_n hx hb dX5_readStatement_37 rfl (lv_at hl 1 rfl) ?_
      obtain ⟨w7, h7, hF⟩ := ob hF
      refine w_callV (As := []) (k := k0) (rest := []) (st1 := []) X hH (c_X5_nextToken (l := l) (g := g) (w := w) (k0 := k0) h7 hk0) (Or.inl tw_2_94) ms_X5_nextToken im_X5_nextToken hk0 cn_5 ⟨Nat.le_of_ble_eq_true rfl, Nat.le_of_ble_eq_true rfl⟩ rfl rfl hl.1 (Nat.le_of_ble_eq_true rfl) dX5_readStatement_38 ⟨Nat.le_refl _, Nat.le_refl _⟩ rfl (fun H locs hH => ?_)
      refine lv_iconst (v := (0 : Int32)) hx hb dX5_readStatement_41 (by decide) ?_
      refine lv_istore_n (lv' := [(3, .int ((0 : Int32))), (2, .int (x1)), (0, .ref (g.2.2 (k0))), (1, .ref (g.2.2 (v_into)))]) hx hb dX5_readStatement_42 rfl hl (by decide) rfl (fun ls hl => ?_)
      obtain ⟨r9, hLr9, hF⟩ := ob hF
      have Jr9 : ∀ (H : Heap) (locs : List Loc) (ls : Array Slot), HW zC g r9 s.heap H locs → lv_has ls 4 [(0, .ref (g.2.2 (k0))), (1, .ref (g.2.2 (v_into))), (2, .int (x1))] → W p l e (rmd 4) s m args below meth c H locs 0 0 (MQ below (Qw zC g wz none) args s 0 0 (zA zC g)) (F0 m 78 ls []) := by
        intro H locs ls hH hl
        obtain ⟨s16, hs16, hF⟩ := ob hF
        have Js16 : ∀ (H : Heap) (locs : List Loc) (ls : Array Slot), HW zC g s16 s.heap H locs → lv_has ls 4 [(0, .ref (g.2.2 (k0))), (1, .ref (g.2.2 (v_into))), (2, .int (x1))] → W p l e (rmd 4) s m args below meth c H locs 0 0 (MQ below (Qw zC g wz none) args s 0 0 (zA zC g)) (F0 m 98 ls []) := by
          intro H locs ls hH hl
          obtain ⟨s21, hs21, hF⟩ := ob hF
          have Js21 : ∀ (H : Heap) (locs : List Loc) (ls : Array Slot), HW zC g s21 s.heap H locs → lv_has ls 4 [(0, .ref (g.2.2 (k0))), (1, .ref (g.2.2 (v_into))), (2, .int (x1))] → W p l e (rmd 4) s m args below meth c H locs 0 0 (MQ below (Qw zC g wz none) args s 0 0 (zA zC g)) (F0 m 115 ls []) := by
            intro H locs ls hH hl
            obtain rfl := se1 hF
            exact w_vret X hH hr dX5_readStatement_115
          have hF := hs21
          refine lv_aload_n hx hb dX5_readStatement_98 rfl (lv_at hl 0 rfl) ?_
          refine w_geti X hH hk0 fs_5_7 lk_5_35 dX5_readStatement_99 ?_
          refine w_zeq_f (tgt := 115) hx hb dX5_readStatement_102 (by decide) (fun c22 => ?_) (fun c22 => ?_)
          · replace hF := ifn c22 hF
            obtain rfl := se1 hF
            exact Js21 _ _ _ hH (lv_sub hl [0, 1, 2] rfl)
          · replace hF := ifp c22 hF
            refine lv_aload_n hx hb dX5_readStatement_105 rfl (lv_at hl 0 rfl) ?_
            refine lv_aload_n hx hb dX5_readStatement_106 rfl (lv_at hl 1 rfl) ?_
            refine lv_iload_n hx hb dX5_readStatement_107 rfl (lv_at hl 2 rfl) ?_
            obtain ⟨w23, h23, hF⟩ := ob hF
            refine w_callV (As := [.ref (g.2.2 (v_into)), .int (x1)]) (k := k0) (rest := []) (st1 := []) X hH (c_X5_accept (l := l) (g := g) (w := s16) (k0 := k0) (v_into := v_into) (v_statement := x1) h23 hk0 hv_into) (Or.inl tw_2_149) ms_X5_accept im_X5_accept hk0 cn_5 ⟨Nat.le_of_ble_eq_true rfl, Nat.le_of_ble_eq_true rfl⟩ rfl rfl hl.1 (Nat.le_of_ble_eq_true rfl) dX5_readStatement_108 ⟨Nat.le_refl _, Nat.le_refl _⟩ rfl (fun H locs hH => ?_)
            refine lv_aload_n hx hb dX5_readStatement_111 rfl (lv_at hl 0 rfl) ?_
            obtain ⟨w24, h24, hF⟩ := ob hF
            refine w_callV (As := []) (k := k0) (rest := []) (st1 := []) X hH (c_X5_nextToken (l := l) (g := g) (w := w23) (k0 := k0) h24 hk0) (Or.inl tw_2_94) ms_X5_nextToken im_X5_nextToken hk0 cn_5 ⟨Nat.le_of_ble_eq_true rfl, Nat.le_of_ble_eq_true rfl⟩ rfl rfl hl.1 (Nat.le_of_ble_eq_true rfl) dX5_readStatement_112 ⟨Nat.le_refl _, Nat.le_refl _⟩ rfl (fun H locs hH => ?_)
            obtain rfl := se1 hF
            exact Js21 _ _ _ hH (lv_sub hl [0, 1, 2] rfl)
        have hF := hs16
        refine lv_aload_n hx hb dX5_readStatement_78 rfl (lv_at hl 0 rfl) ?_
        refine w_geti X hH hk0 fs_5_7 lk_5_35 dX5_readStatement_79 ?_
        have J17T : ((r9.1 (k0) 7) = (0 : Int32)) ∧ (¬ ((r9.1 (k0) 4) = (2 : Int32))) → ∀ (H : Heap) (locs : List Loc), HW zC g r9 s.heap H locs → W p l e (rmd 4) s m args below meth c H locs 0 0 (MQ below (Qw zC g wz none) args s 0 0 (zA zC g)) (F0 m 93 ls []) := by
          intro hc H locs hH
          replace hF := ifp hc hF
          refine lv_aload_n hx hb dX5_readStatement_93 rfl (lv_at hl 0 rfl) ?_
          refine lv_iconst (v := (1 : Int32)) hx hb dX5_readStatement_94 (by decide) ?_
          obtain ⟨w20, h20, hF⟩ := ob hF
          refine w_callV (As := [.int ((1 : Int32))]) (k := k0) (rest := []) (st1 := []) X hH (c_X5_fail (l := l) (g := g) (w := r9) (k0 := k0) (v_kind := (1 : Int32)) h20 hk0) (Or.inl tw_2_118) ms_X5_fail im_X5_fail hk0 cn_5 ⟨Nat.le_of_ble_eq_true rfl, Nat.le_of_ble_eq_true rfl⟩ rfl rfl hl.1 (Nat.le_of_ble_eq_true rfl) dX5_readStatement_95 ⟨Nat.le_refl _, Nat.le_refl _⟩ rfl (fun H locs hH => ?_)
          obtain rfl := se1 hF
          exact Js16 _ _ _ hH (lv_sub hl [0, 1, 2] rfl)
        have J17F : ¬ (((r9.1 (k0) 7) = (0 : Int32)) ∧ (¬ ((r9.1 (k0) 4) = (2 : Int32)))) → ∀ (H : Heap) (locs : List Loc), HW zC g r9 s.heap H locs → W p l e (rmd 4) s m args below meth c H locs 0 0 (MQ below (Qw zC g wz none) args s 0 0 (zA zC g)) (F0 m 98 ls []) := by
          intro hc H locs hH
          replace hF := ifn hc hF
          obtain rfl := se1 hF
          exact Js16 _ _ _ hH (lv_sub hl [0, 1, 2] rfl)
        refine w_zeq_f (tgt := 98) hx hb dX5_readStatement_82 (by decide) (fun c18 => ?_) (fun c18 => ?_)
        · exact J17F (fun z => c18 z.1) _ _ hH
        · refine lv_aload_n hx hb dX5_readStatement_85 rfl (lv_at hl 0 rfl) ?_
          refine w_geti X hH hk0 fs_5_4 lk_5_25 dX5_readStatement_86 ?_
          refine lv_iconst (v := (2 : Int32)) hx hb dX5_readStatement_89 (by decide) ?_
          refine w_ine_f (tgt := 98) hx hb dX5_readStatement_90 (by decide) (fun c19 => ?_) (fun c19 => ?_)
          · exact J17F (fun z => c19 z.2) _ _ hH
          · exact J17T ⟨c18, c19⟩ _ _ hH
      have Lr9 : ∀ (n : Nat) (s8 : Int32 × Wd), lp (b_X5_readStatement_1 k0 x1 v_into) n s8 = some r9 → ∀ (H : Heap) (locs : List Loc) (ls : Array Slot), HW zC g s8.2 s.heap H locs → lv_has ls 4 [(0, .ref (g.2.2 (k0))), (1, .ref (g.2.2 (v_into))), (2, .int (x1)), (3, .int (s8.1))] → W p l e (rmd 4) s m args below meth c H locs 0 0 (MQ below (Qw zC g wz none) args s 0 0 (zA zC g)) (F0 m 43 ls []) := by
        intro n
        induction n with
        | zero => intro s8 hL; exact lp_0 hL
        | succ n ih =>
          intro s8 hL H locs ls hH hl
          obtain ⟨bb, hF, hL⟩ := lp_s hL
          unfold b_X5_readStatement_1 at hF
          refine lv_iload_n hx hb dX5_readStatement_43 rfl (lv_at hl 3 rfl) ?_
          refine lv_iconst (v := (3 : Int32)) hx hb dX5_readStatement_44 (by decide) ?_
          have J10T : (s8.1 < (3 : Int32)) ∧ ((s8.2.1 (k0) 7) = (0 : Int32)) → ∀ (H : Heap) (locs : List Loc), HW zC g s8.2 s.heap H locs → W p l e (rmd 4) s m args below meth c H locs 0 0 (MQ below (Qw zC g wz none) args s 0 0 (zA zC g)) (F0 m 55 ls []) := by
            intro hc H locs hH
            replace hF := ifp hc hF
            refine lv_aload_n hx hb dX5_readStatement_55 rfl (lv_at hl 0 rfl) ?_
            refine w_getr X hH hk0 fs_5_8 lk_5_38 dX5_readStatement_56 ?_
            refine lv_iload_n hx hb dX5_readStatement_59 rfl (lv_at hl 3 rfl) ?_
            refine lv_aload_n hx hb dX5_readStatement_60 rfl (lv_at hl 0 rfl) ?_
            refine lv_aload_n hx hb dX5_readStatement_61 rfl (lv_at hl 1 rfl) ?_
            refine lv_iload_n hx hb dX5_readStatement_62 rfl (lv_at hl 2 rfl) ?_
            refine lv_iload_n hx hb dX5_readStatement_63 rfl (lv_at hl 2 rfl) ?_
            refine lv_iload_n hx hb dX5_readStatement_64 rfl (lv_at hl 3 rfl) ?_
            obtain ⟨x13, h13, hF⟩ := ob hF
            refine w_callS (As := [.int (x1), .int (s8.1)]) (rest := [.int (x1), .ref (g.2.2 (v_into)), .ref (g.2.2 (k0)), .int (s8.1), .ref (g.2.2 ((zrf zC (k0) 8)))]) (st1 := [.int (x13), .int (x1), .ref (g.2.2 (v_into)), .ref (g.2.2 (k0)), .int (s8.1), .ref (g.2.2 ((zrf zC (k0) 8)))]) X hH (c_X9_typeAt (l := l) (g := g) (w := s8.2) (v_statement := x1) (v_position := s8.1) h13) (Or.inr ⟨_, tw_2_126⟩) ms_X9_typeAt tw_2_127 ⟨Nat.le_of_ble_eq_true rfl, Nat.le_of_ble_eq_true rfl⟩ rfl rfl hl.1 (Nat.le_of_ble_eq_true rfl) dX5_readStatement_65 ⟨Nat.le_refl _, Nat.le_refl _⟩ rfl (fun H locs hH => ?_)
            obtain ⟨x14, h14, hF⟩ := ob hF
            refine w_callV (As := [.ref (g.2.2 (v_into)), .int (x1), .int (x13)]) (k := k0) (rest := [.int (s8.1), .ref (g.2.2 ((zrf zC (k0) 8)))]) (st1 := [.int (x14.1), .int (s8.1), .ref (g.2.2 ((zrf zC (k0) 8)))]) X hH (c_X5_readOperand (l := l) (g := g) (w := s8.2) (k0 := k0) (v_into := v_into) (v_statement := x1) (v_type := x13) h14 hk0 hv_into) (Or.inl tw_2_131) ms_X5_readOperand im_X5_readOperand hk0 cn_5 ⟨Nat.le_of_ble_eq_true rfl, Nat.le_of_ble_eq_true rfl⟩ rfl rfl hl.1 (Nat.le_of_ble_eq_true rfl) dX5_readStatement_68 ⟨Nat.le_refl _, Nat.le_refl _⟩ rfl (fun H locs hH => ?_)
            obtain ⟨w15, h15, hF⟩ := ob hF
            refine w_iast X hH h15 (rt_C_5_8 hk0) dX5_readStatement_71 (fun H locs hH => ?_)
            refine lv_iinc (v := (s8.1 + (1 : Int32))) (lv' := [(3, .int ((s8.1 + (1 : Int32)))), (0, .ref (g.2.2 (k0))), (1, .ref (g.2.2 (v_into))), (2, .int (x1))]) hx hb dX5_readStatement_72 hl (k := 3) rfl rfl (by decide) rfl (fun ls hl => ?_)
            refine lv_goto (tgt := 43) hx hb dX5_readStatement_75 (by decide) ?_
            obtain rfl := se1 hF
            exact ih _ hL _ _ _ hH (lv_sub hl [1, 2, 3, 0] rfl)
          have J10F : ¬ ((s8.1 < (3 : Int32)) ∧ ((s8.2.1 (k0) 7) = (0 : Int32))) → ∀ (H : Heap) (locs : List Loc), HW zC g s8.2 s.heap H locs → W p l e (rmd 4) s m args below meth c H locs 0 0 (MQ below (Qw zC g wz none) args s 0 0 (zA zC g)) (F0 m 78 ls []) := by
            intro hc H locs hH
            replace hF := ifn hc hF
            obtain rfl := se1 hF
            subst hL
            exact Jr9 _ _ _ hH (lv_sub hl [0, 1, 2] rfl)
          refine w_ilt_f (tgt := 78) hx hb dX5_readStatement_45 (by decide) (fun c11 => ?_) (fun c11 => ?_)
          · exact J10F (fun z => c11 z.1) _ _ hH
          · refine lv_aload_n hx hb dX5_readStatement_48 rfl (lv_at hl 0 rfl) ?_
            refine w_geti X hH hk0 fs_5_7 lk_5_35 dX5_readStatement_49 ?_
            refine w_zeq_f (tgt := 78) hx hb dX5_readStatement_52 (by decide) (fun c12 => ?_) (fun c12 => ?_)
            · exact J10F (fun z => c12 z.2) _ _ hH
            · exact J10T ⟨c11, c12⟩ _ _ hH
      exact Lr9 NF _ hLr9 _ _ _ hH (lv_sub hl [2, 3, 1, 0] rfl)
    refine w_ine_f (tgt := 37) hx hb dX5_readStatement_18 (by decide) (fun c4 => ?_) (fun c4 => ?_)
    · exact J3F (fun z => c4 z.1) _ _ hH
    · refine lv_aload_n hx hb dX5_readStatement_21 rfl (lv_at hl 2 rfl) ?_
      refine w_getr X hH hv_into fs_6_6 lk_5_68 dX5_readStatement_22 ?_
      refine w_callV (As := []) (k := (zrf zC (v_into) 6)) (rest := []) (st1 := [.int (bI ((f_X0_isFull w ((zrf zC (v_into) 6)))))]) X hH (c_X0_isFull (l := l) (g := g) (w := w) (k0 := (zrf zC (v_into) 6)) rfl (rt_C_6_6 hv_into)) (Or.inr ⟨_, tw_2_122⟩) ms_X0_isFull im_X0_isFull (rt_C_6_6 hv_into) cn_0 ⟨Nat.le_of_ble_eq_true rfl, Nat.le_of_ble_eq_true rfl⟩ rfl rfl hl.1 (Nat.le_of_ble_eq_true rfl) dX5_readStatement_25 ⟨Nat.le_refl _, Nat.le_refl _⟩ rfl (fun H locs hH => ?_)
      refine w_b_f (tgt := 37) hx hb dX5_readStatement_28 (by decide) (fun c5 => ?_) (fun c5 => ?_)
      · exact J3F (fun z => c5 z.2) _ _ hH
      · exact J3T ⟨c4, c5⟩ _ _ hH
  · replace hF := ifp c2 hF
    refine lv_aload_n hx hb dX5_readStatement_10 rfl (lv_at hl 1 rfl) ?_
    refine lv_iconst (v := (1 : Int32)) hx hb dX5_readStatement_11 (by decide) ?_
    obtain ⟨w25, h25, hF⟩ := ob hF
    refine w_callV (As := [.int ((1 : Int32))]) (k := k0) (rest := []) (st1 := []) X hH (c_X5_fail (l := l) (g := g) (w := w) (k0 := k0) (v_kind := (1 : Int32)) h25 hk0) (Or.inl tw_2_118) ms_X5_fail im_X5_fail hk0 cn_5 ⟨Nat.le_of_ble_eq_true rfl, Nat.le_of_ble_eq_true rfl⟩ rfl rfl hl.1 (Nat.le_of_ble_eq_true rfl) dX5_readStatement_12 ⟨Nat.le_refl _, Nat.le_refl _⟩ rfl (fun H locs hH => ?_)
    obtain rfl := se1 hF
    exact w_vret X hH hr dX5_readStatement_15

theorem dX5_read_0 : decode cX5_read 0 = .ok (.aload_n 0, 1) := by decide +kernel
theorem dX5_read_1 : decode cX5_read 1 = .ok (.iload_n 1, 1) := by decide +kernel
theorem dX5_read_2 : decode cX5_read 2 = .ok (.aload_n 0, 1) := by decide +kernel
theorem dX5_read_3 : decode cX5_read 3 = .ok (.getfield 15, 3) := by decide +kernel
theorem dX5_read_6 : decode cX5_read 6 = .ok (.invokestatic 42, 3) := by decide +kernel
theorem dX5_read_9 : decode cX5_read 9 = .ok (.putfield 19, 3) := by decide +kernel
theorem dX5_read_12 : decode cX5_read 12 = .ok (.aload_n 0, 1) := by decide +kernel
theorem dX5_read_13 : decode cX5_read 13 = .ok (.iconst 0, 1) := by decide +kernel
theorem dX5_read_14 : decode cX5_read 14 = .ok (.putfield 15, 3) := by decide +kernel
theorem dX5_read_17 : decode cX5_read 17 = .ok (.aload_n 0, 1) := by decide +kernel
theorem dX5_read_18 : decode cX5_read 18 = .ok (.iconst 0, 1) := by decide +kernel
theorem dX5_read_19 : decode cX5_read 19 = .ok (.putfield 22, 3) := by decide +kernel
theorem dX5_read_22 : decode cX5_read 22 = .ok (.aload_n 0, 1) := by decide +kernel
theorem dX5_read_23 : decode cX5_read 23 = .ok (.iconst 0, 1) := by decide +kernel
theorem dX5_read_24 : decode cX5_read 24 = .ok (.putfield 35, 3) := by decide +kernel
theorem dX5_read_27 : decode cX5_read 27 = .ok (.aload_n 2, 1) := by decide +kernel
theorem dX5_read_28 : decode cX5_read 28 = .ok (.invokevirtual 48, 3) := by decide +kernel
theorem dX5_read_31 : decode cX5_read 31 = .ok (.aload_n 0, 1) := by decide +kernel
theorem dX5_read_32 : decode cX5_read 32 = .ok (.invokevirtual 53, 3) := by decide +kernel
theorem dX5_read_35 : decode cX5_read 35 = .ok (.iconst 0, 1) := by decide +kernel
theorem dX5_read_36 : decode cX5_read 36 = .ok (.istore_n 3, 1) := by decide +kernel
theorem dX5_read_37 : decode cX5_read 37 = .ok (.iload_n 3, 1) := by decide +kernel
theorem dX5_read_38 : decode cX5_read 38 = .ok (.sipush 600, 3) := by decide +kernel
theorem dX5_read_41 : decode cX5_read 41 = .ok (.if_icmp .ge 28, 3) := by decide +kernel
theorem dX5_read_44 : decode cX5_read 44 = .ok (.aload_n 0, 1) := by decide +kernel
theorem dX5_read_45 : decode cX5_read 45 = .ok (.getfield 25, 3) := by decide +kernel
theorem dX5_read_48 : decode cX5_read 48 = .ok (.ifCond .eq 21, 3) := by decide +kernel
theorem dX5_read_51 : decode cX5_read 51 = .ok (.aload_n 0, 1) := by decide +kernel
theorem dX5_read_52 : decode cX5_read 52 = .ok (.getfield 35, 3) := by decide +kernel
theorem dX5_read_55 : decode cX5_read 55 = .ok (.ifCond .ne 14, 3) := by decide +kernel
theorem dX5_read_58 : decode cX5_read 58 = .ok (.aload_n 0, 1) := by decide +kernel
theorem dX5_read_59 : decode cX5_read 59 = .ok (.aload_n 2, 1) := by decide +kernel
theorem dX5_read_60 : decode cX5_read 60 = .ok (.invokevirtual 56, 3) := by decide +kernel
theorem dX5_read_63 : decode cX5_read 63 = .ok (.iinc 3 1, 3) := by decide +kernel
theorem dX5_read_66 : decode cX5_read 66 = .ok (.goto (-29), 3) := by decide +kernel
theorem dX5_read_69 : decode cX5_read 69 = .ok (.aload_n 0, 1) := by decide +kernel
theorem dX5_read_70 : decode cX5_read 70 = .ok (.getfield 35, 3) := by decide +kernel
theorem dX5_read_73 : decode cX5_read 73 = .ok (.ireturn, 1) := by decide +kernel
set_option maxHeartbeats 4000000 in
set_option maxRecDepth 100000 in
theorem c_X5_read {l : Launch} {g : Gh} {w : Wd} {k0 : Nat} {v_count : Int32} {v_into : Nat} {rz : Int32} {wz : Wd} (hF : f_X5_read w k0 v_count v_into = some (rz, wz)) (hk0 : zct zC k0 = 5) (hv_into : zct zC v_into = 6) : Met l yX5_read (Cond.code yX5_read cX5_read 4 (some .int) :: TT) (rmd 5) (Pcw zC g w [.ref (g.2.2 k0), .int (v_count), .ref (g.2.2 (v_into))]) (Qw zC g wz (some (.int (rz)))) 0 0 (zA zC g) := by
  refine mt_start (by decide) (Nat.le_of_ble_eq_true rfl) ?_
  intro p e s m args below meth c H locs ls X hr hl hH
  have hx := X.1
  have hb := X.2.1
  have hml := X.2.2.1
  have hown := X.2.2.2.1
  have ht := X.2.2.2.2.1
  have hl : lv_has ls 4 [(0, .ref (g.2.2 (k0))), (1, .int (v_count)), (2, .ref (g.2.2 (v_into)))] := hl
  unfold f_X5_read at hF
  refine lv_aload_n hx hb dX5_read_0 rfl (lv_at hl 0 rfl) ?_
  refine lv_iload_n hx hb dX5_read_1 rfl (lv_at hl 1 rfl) ?_
  refine lv_aload_n hx hb dX5_read_2 rfl (lv_at hl 0 rfl) ?_
  refine w_geti X hH hk0 fs_5_1 lk_5_15 dX5_read_3 ?_
  refine va_mmin hx hb (hml.trans hl.1.symm) hown (ht _ tw_2_85) (ht _ tw_1_86) (ht _ tw_1_5) (ht _ tw_1_87) (Nat.le_of_ble_eq_true rfl) (Nat.le_of_ble_eq_true rfl) (Nat.le_refl _) (Nat.le_refl _) dX5_read_6 ?_
  obtain ⟨w1, h1, hF⟩ := ob hF
  refine w_puti X hH h1 hk0 fs_5_2 nf_5_2 lk_5_19 dX5_read_9 (fun H locs hH => ?_)
  refine lv_aload_n hx hb dX5_read_12 rfl (lv_at hl 0 rfl) ?_
  refine lv_iconst (v := (0 : Int32)) hx hb dX5_read_13 (by decide) ?_
  obtain ⟨w2, h2, hF⟩ := ob hF
  refine w_puti X hH h2 hk0 fs_5_1 nf_5_1 lk_5_15 dX5_read_14 (fun H locs hH => ?_)
  refine lv_aload_n hx hb dX5_read_17 rfl (lv_at hl 0 rfl) ?_
  refine lv_iconst (v := (0 : Int32)) hx hb dX5_read_18 (by decide) ?_
  obtain ⟨w3, h3, hF⟩ := ob hF
  refine w_puti X hH h3 hk0 fs_5_3 nf_5_3 lk_5_22 dX5_read_19 (fun H locs hH => ?_)
  refine lv_aload_n hx hb dX5_read_22 rfl (lv_at hl 0 rfl) ?_
  refine lv_iconst (v := (0 : Int32)) hx hb dX5_read_23 (by decide) ?_
  obtain ⟨w4, h4, hF⟩ := ob hF
  refine w_puti X hH h4 hk0 fs_5_7 nf_5_7 lk_5_35 dX5_read_24 (fun H locs hH => ?_)
  refine lv_aload_n hx hb dX5_read_27 rfl (lv_at hl 2 rfl) ?_
  obtain ⟨w5, h5, hF⟩ := ob hF
  refine w_callV (As := []) (k := v_into) (rest := []) (st1 := []) X hH (c_X6_clear (l := l) (g := g) (w := w4) (k0 := v_into) h5 hv_into) (Or.inr ⟨_, tw_2_86⟩) ms_X6_clear im_X6_clear hv_into cn_6 ⟨Nat.le_of_ble_eq_true rfl, Nat.le_of_ble_eq_true rfl⟩ rfl rfl hl.1 (Nat.le_of_ble_eq_true rfl) dX5_read_28 ⟨Nat.le_refl _, Nat.le_refl _⟩ rfl (fun H locs hH => ?_)
  refine lv_aload_n hx hb dX5_read_31 rfl (lv_at hl 0 rfl) ?_
  obtain ⟨w6, h6, hF⟩ := ob hF
  refine w_callV (As := []) (k := k0) (rest := []) (st1 := []) X hH (c_X5_nextToken (l := l) (g := g) (w := w5) (k0 := k0) h6 hk0) (Or.inl tw_2_94) ms_X5_nextToken im_X5_nextToken hk0 cn_5 ⟨Nat.le_of_ble_eq_true rfl, Nat.le_of_ble_eq_true rfl⟩ rfl rfl hl.1 (Nat.le_of_ble_eq_true rfl) dX5_read_32 ⟨Nat.le_refl _, Nat.le_refl _⟩ rfl (fun H locs hH => ?_)
  refine lv_iconst (v := (0 : Int32)) hx hb dX5_read_35 (by decide) ?_
  refine lv_istore_n (lv' := [(3, .int ((0 : Int32))), (0, .ref (g.2.2 (k0))), (1, .int (v_count)), (2, .ref (g.2.2 (v_into)))]) hx hb dX5_read_36 rfl hl (by decide) rfl (fun ls hl => ?_)
  obtain ⟨r8, hLr8, hF⟩ := ob hF
  have Jr8 : ∀ (H : Heap) (locs : List Loc) (ls : Array Slot), HW zC g r8 s.heap H locs → lv_has ls 4 [(0, .ref (g.2.2 (k0))), (1, .int (v_count)), (2, .ref (g.2.2 (v_into)))] → W p l e (rmd 5) s m args below meth c H locs 0 0 (MQ below (Qw zC g wz (some (.int (rz)))) args s 0 0 (zA zC g)) (F0 m 69 ls []) := by
    intro H locs ls hH hl
    refine lv_aload_n hx hb dX5_read_69 rfl (lv_at hl 0 rfl) ?_
    refine w_geti X hH hk0 fs_5_7 lk_5_35 dX5_read_70 ?_
    obtain ⟨rfl, rfl⟩ := se2 hF
    exact w_iret X hH hr dX5_read_73
  have Lr8 : ∀ (n : Nat) (s7 : Int32 × Wd), lp (b_X5_read_1 k0 v_into) n s7 = some r8 → ∀ (H : Heap) (locs : List Loc) (ls : Array Slot), HW zC g s7.2 s.heap H locs → lv_has ls 4 [(0, .ref (g.2.2 (k0))), (1, .int (v_count)), (2, .ref (g.2.2 (v_into))), (3, .int (s7.1))] → W p l e (rmd 5) s m args below meth c H locs 0 0 (MQ below (Qw zC g wz (some (.int (rz)))) args s 0 0 (zA zC g)) (F0 m 37 ls []) := by
    intro n
    induction n with
    | zero => intro s7 hL; exact lp_0 hL
    | succ n ih =>
      intro s7 hL H locs ls hH hl
      obtain ⟨bb, hF, hL⟩ := lp_s hL
      unfold b_X5_read_1 at hF
      refine lv_iload_n hx hb dX5_read_37 rfl (lv_at hl 3 rfl) ?_
      refine lv_sipush (v := (600 : Int32)) hx hb dX5_read_38 (by decide) ?_
      have J9T : ((s7.1 < (600 : Int32)) ∧ (¬ ((s7.2.1 (k0) 4) = (0 : Int32)))) ∧ ((s7.2.1 (k0) 7) = (0 : Int32)) → ∀ (H : Heap) (locs : List Loc), HW zC g s7.2 s.heap H locs → W p l e (rmd 5) s m args below meth c H locs 0 0 (MQ below (Qw zC g wz (some (.int (rz)))) args s 0 0 (zA zC g)) (F0 m 58 ls []) := by
        intro hc H locs hH
        replace hF := ifp hc hF
        refine lv_aload_n hx hb dX5_read_58 rfl (lv_at hl 0 rfl) ?_
        refine lv_aload_n hx hb dX5_read_59 rfl (lv_at hl 2 rfl) ?_
        obtain ⟨w13, h13, hF⟩ := ob hF
        refine w_callV (As := [.ref (g.2.2 (v_into))]) (k := k0) (rest := []) (st1 := []) X hH (c_X5_readStatement (l := l) (g := g) (w := s7.2) (k0 := k0) (v_into := v_into) h13 hk0 hv_into) (Or.inl tw_2_108) ms_X5_readStatement im_X5_readStatement hk0 cn_5 ⟨Nat.le_of_ble_eq_true rfl, Nat.le_of_ble_eq_true rfl⟩ rfl rfl hl.1 (Nat.le_of_ble_eq_true rfl) dX5_read_60 ⟨Nat.le_refl _, Nat.le_refl _⟩ rfl (fun H locs hH => ?_)
        refine lv_iinc (v := (s7.1 + (1 : Int32))) (lv' := [(3, .int ((s7.1 + (1 : Int32)))), (0, .ref (g.2.2 (k0))), (1, .int (v_count)), (2, .ref (g.2.2 (v_into)))]) hx hb dX5_read_63 hl (k := 3) rfl rfl (by decide) rfl (fun ls hl => ?_)
        refine lv_goto (tgt := 37) hx hb dX5_read_66 (by decide) ?_
        obtain rfl := se1 hF
        exact ih _ hL _ _ _ hH (lv_sub hl [1, 2, 3, 0] rfl)
      have J9F : ¬ (((s7.1 < (600 : Int32)) ∧ (¬ ((s7.2.1 (k0) 4) = (0 : Int32)))) ∧ ((s7.2.1 (k0) 7) = (0 : Int32))) → ∀ (H : Heap) (locs : List Loc), HW zC g s7.2 s.heap H locs → W p l e (rmd 5) s m args below meth c H locs 0 0 (MQ below (Qw zC g wz (some (.int (rz)))) args s 0 0 (zA zC g)) (F0 m 69 ls []) := by
        intro hc H locs hH
        replace hF := ifn hc hF
        obtain rfl := se1 hF
        subst hL
        exact Jr8 _ _ _ hH (lv_sub hl [0, 1, 2] rfl)
      refine w_ilt_f (tgt := 69) hx hb dX5_read_41 (by decide) (fun c10 => ?_) (fun c10 => ?_)
      · exact J9F (fun z => (fun z => c10 z.1) z.1) _ _ hH
      · refine lv_aload_n hx hb dX5_read_44 rfl (lv_at hl 0 rfl) ?_
        refine w_geti X hH hk0 fs_5_4 lk_5_25 dX5_read_45 ?_
        refine w_zne_f (tgt := 69) hx hb dX5_read_48 (by decide) (fun c11 => ?_) (fun c11 => ?_)
        · exact J9F (fun z => (fun z => c11 z.2) z.1) _ _ hH
        · refine lv_aload_n hx hb dX5_read_51 rfl (lv_at hl 0 rfl) ?_
          refine w_geti X hH hk0 fs_5_7 lk_5_35 dX5_read_52 ?_
          refine w_zeq_f (tgt := 69) hx hb dX5_read_55 (by decide) (fun c12 => ?_) (fun c12 => ?_)
          · exact J9F (fun z => c12 z.2) _ _ hH
          · exact J9T ⟨⟨c10, c11⟩, c12⟩ _ _ hH
  exact Lr8 NF _ hLr8 _ _ _ hH (lv_sub hl [1, 2, 3, 0] rfl)

theorem dX3_clear_0 : decode cX3_clear 0 = .ok (.aload_n 0, 1) := by decide +kernel
theorem dX3_clear_1 : decode cX3_clear 1 = .ok (.iconst 0, 1) := by decide +kernel
theorem dX3_clear_2 : decode cX3_clear 2 = .ok (.putfield 15, 3) := by decide +kernel
theorem dX3_clear_5 : decode cX3_clear 5 = .ok (.aload_n 0, 1) := by decide +kernel
theorem dX3_clear_6 : decode cX3_clear 6 = .ok (.iconst 0, 1) := by decide +kernel
theorem dX3_clear_7 : decode cX3_clear 7 = .ok (.putfield 19, 3) := by decide +kernel
theorem dX3_clear_10 : decode cX3_clear 10 = .ok (.return_, 1) := by decide +kernel
set_option maxHeartbeats 4000000 in
set_option maxRecDepth 100000 in
theorem c_X3_clear {l : Launch} {g : Gh} {w : Wd} {k0 : Nat} {wz : Wd} (hF : f_X3_clear w k0 = some wz) (hk0 : zct zC k0 = 3) : Met l yX3_clear (Cond.code yX3_clear cX3_clear 1 none :: TT) (rmd 0) (Pcw zC g w [.ref (g.2.2 k0)]) (Qw zC g wz none) 0 0 (zA zC g) := by
  refine mt_start (by decide) (Nat.le_of_ble_eq_true rfl) ?_
  intro p e s m args below meth c H locs ls X hr hl hH
  have hx := X.1
  have hb := X.2.1
  have hml := X.2.2.1
  have hown := X.2.2.2.1
  have ht := X.2.2.2.2.1
  have hl : lv_has ls 1 [(0, .ref (g.2.2 (k0)))] := hl
  unfold f_X3_clear at hF
  refine lv_aload_n hx hb dX3_clear_0 rfl (lv_at hl 0 rfl) ?_
  refine lv_iconst (v := (0 : Int32)) hx hb dX3_clear_1 (by decide) ?_
  obtain ⟨w1, h1, hF⟩ := ob hF
  refine w_puti X hH h1 hk0 fs_3_1 nf_3_1 lk_3_15 dX3_clear_2 (fun H locs hH => ?_)
  refine lv_aload_n hx hb dX3_clear_5 rfl (lv_at hl 0 rfl) ?_
  refine lv_iconst (v := (0 : Int32)) hx hb dX3_clear_6 (by decide) ?_
  obtain ⟨w2, h2, hF⟩ := ob hF
  refine w_puti X hH h2 hk0 fs_3_2 nf_3_2 lk_3_19 dX3_clear_7 (fun H locs hH => ?_)
  obtain rfl := se1 hF
  exact w_vret X hH hr dX3_clear_10

theorem dJ7_fill_53178_0 : decode cJ7_fill_53178 0 = .ok (.iconst 0, 1) := by decide +kernel
theorem dJ7_fill_53178_1 : decode cJ7_fill_53178 1 = .ok (.istore_n 2, 1) := by decide +kernel
theorem dJ7_fill_53178_2 : decode cJ7_fill_53178 2 = .ok (.aload_n 0, 1) := by decide +kernel
theorem dJ7_fill_53178_3 : decode cJ7_fill_53178 3 = .ok (.arraylength, 1) := by decide +kernel
theorem dJ7_fill_53178_4 : decode cJ7_fill_53178 4 = .ok (.istore_n 3, 1) := by decide +kernel
theorem dJ7_fill_53178_5 : decode cJ7_fill_53178 5 = .ok (.iload_n 2, 1) := by decide +kernel
theorem dJ7_fill_53178_6 : decode cJ7_fill_53178 6 = .ok (.iload_n 3, 1) := by decide +kernel
theorem dJ7_fill_53178_7 : decode cJ7_fill_53178 7 = .ok (.if_icmp .ge 13, 3) := by decide +kernel
theorem dJ7_fill_53178_10 : decode cJ7_fill_53178 10 = .ok (.aload_n 0, 1) := by decide +kernel
theorem dJ7_fill_53178_11 : decode cJ7_fill_53178 11 = .ok (.iload_n 2, 1) := by decide +kernel
theorem dJ7_fill_53178_12 : decode cJ7_fill_53178 12 = .ok (.iload_n 1, 1) := by decide +kernel
theorem dJ7_fill_53178_13 : decode cJ7_fill_53178 13 = .ok (.iastore, 1) := by decide +kernel
theorem dJ7_fill_53178_14 : decode cJ7_fill_53178 14 = .ok (.iinc 2 1, 3) := by decide +kernel
theorem dJ7_fill_53178_17 : decode cJ7_fill_53178 17 = .ok (.goto (-12), 3) := by decide +kernel
theorem dJ7_fill_53178_20 : decode cJ7_fill_53178 20 = .ok (.return_, 1) := by decide +kernel
set_option maxHeartbeats 4000000 in
set_option maxRecDepth 100000 in
theorem c_J7_fill {l : Launch} {g : Gh} {w : Wd} {v_a : Nat} {v_val : Int32} {wz : Wd} (hF : f_J7_fill w v_a v_val = some wz) (hv_a : zct zC v_a = 20) : Met l yJ7_fill_53178 (Cond.code yJ7_fill_53178 cJ7_fill_53178 4 none :: TT) (rmd 0) (Pcw zC g w [.ref (g.2.2 (v_a)), .int (v_val)]) (Qw zC g wz none) 0 0 (zA zC g) := by
  refine mt_start (by decide) (Nat.le_of_ble_eq_true rfl) ?_
  intro p e s m args below meth c H locs ls X hr hl hH
  have hx := X.1
  have hb := X.2.1
  have hml := X.2.2.1
  have hown := X.2.2.2.1
  have ht := X.2.2.2.2.1
  have hl : lv_has ls 4 [(0, .ref (g.2.2 (v_a))), (1, .int (v_val))] := hl
  unfold f_J7_fill at hF
  refine lv_iconst (v := (0 : Int32)) hx hb dJ7_fill_53178_0 (by decide) ?_
  refine lv_istore_n (lv' := [(2, .int ((0 : Int32))), (0, .ref (g.2.2 (v_a))), (1, .int (v_val))]) hx hb dJ7_fill_53178_1 rfl hl (by decide) rfl (fun ls hl => ?_)
  refine lv_aload_n hx hb dJ7_fill_53178_2 rfl (lv_at hl 1 rfl) ?_
  refine w_alen X hH hv_a (by decide) dJ7_fill_53178_3 ?_
  refine lv_istore_n (lv' := [(3, .int ((nI (zln zC (v_a))))), (2, .int ((0 : Int32))), (0, .ref (g.2.2 (v_a))), (1, .int (v_val))]) hx hb dJ7_fill_53178_4 rfl hl (by decide) rfl (fun ls hl => ?_)
  obtain ⟨r2, hLr2, hF⟩ := ob hF
  have Jr2 : ∀ (H : Heap) (locs : List Loc) (ls : Array Slot), HW zC g r2 s.heap H locs → lv_has ls 4 [(0, .ref (g.2.2 (v_a))), (1, .int (v_val))] → W p l e (rmd 0) s m args below meth c H locs 0 0 (MQ below (Qw zC g wz none) args s 0 0 (zA zC g)) (F0 m 20 ls []) := by
    intro H locs ls hH hl
    obtain rfl := se1 hF
    exact w_vret X hH hr dJ7_fill_53178_20
  have Lr2 : ∀ (n : Nat) (s1 : Int32 × Wd), lp (b_J7_fill_1 v_a v_val) n s1 = some r2 → ∀ (H : Heap) (locs : List Loc) (ls : Array Slot), HW zC g s1.2 s.heap H locs → lv_has ls 4 [(0, .ref (g.2.2 (v_a))), (1, .int (v_val)), (2, .int (s1.1)), (3, .int ((nI (zln zC (v_a)))))] → W p l e (rmd 0) s m args below meth c H locs 0 0 (MQ below (Qw zC g wz none) args s 0 0 (zA zC g)) (F0 m 5 ls []) := by
    intro n
    induction n with
    | zero => intro s1 hL; exact lp_0 hL
    | succ n ih =>
      intro s1 hL H locs ls hH hl
      obtain ⟨bb, hF, hL⟩ := lp_s hL
      unfold b_J7_fill_1 at hF
      refine lv_iload_n hx hb dJ7_fill_53178_5 rfl (lv_at hl 2 rfl) ?_
      refine lv_iload_n hx hb dJ7_fill_53178_6 rfl (lv_at hl 3 rfl) ?_
      refine w_ilt_f (tgt := 20) hx hb dJ7_fill_53178_7 (by decide) (fun c3 => ?_) (fun c3 => ?_)
      · replace hF := ifn c3 hF
        obtain rfl := se1 hF
        subst hL
        exact Jr2 _ _ _ hH (lv_sub hl [0, 1] rfl)
      · replace hF := ifp c3 hF
        refine lv_aload_n hx hb dJ7_fill_53178_10 rfl (lv_at hl 0 rfl) ?_
        refine lv_iload_n hx hb dJ7_fill_53178_11 rfl (lv_at hl 2 rfl) ?_
        refine lv_iload_n hx hb dJ7_fill_53178_12 rfl (lv_at hl 1 rfl) ?_
        obtain ⟨w4, h4, hF⟩ := ob hF
        refine w_iast X hH h4 hv_a dJ7_fill_53178_13 (fun H locs hH => ?_)
        refine lv_iinc (v := (s1.1 + (1 : Int32))) (lv' := [(2, .int ((s1.1 + (1 : Int32)))), (0, .ref (g.2.2 (v_a))), (1, .int (v_val)), (3, .int ((nI (zln zC (v_a)))))]) hx hb dJ7_fill_53178_14 hl (k := 2) rfl rfl (by decide) rfl (fun ls hl => ?_)
        refine lv_goto (tgt := 5) hx hb dJ7_fill_53178_17 (by decide) ?_
        obtain rfl := se1 hF
        exact ih _ hL _ _ _ hH (lv_sub hl [1, 2, 0, 3] rfl)
  exact Lr2 NF _ hLr2 _ _ _ hH (lv_sub hl [2, 3, 1, 0] rfl)

theorem dX0_isEnabled_0 : decode cX0_isEnabled 0 = .ok (.aload_n 0, 1) := by decide +kernel
theorem dX0_isEnabled_1 : decode cX0_isEnabled 1 = .ok (.getfield 28, 3) := by decide +kernel
theorem dX0_isEnabled_4 : decode cX0_isEnabled 4 = .ok (.iload_n 1, 1) := by decide +kernel
theorem dX0_isEnabled_5 : decode cX0_isEnabled 5 = .ok (.invokestatic 31, 3) := by decide +kernel
theorem dX0_isEnabled_8 : decode cX0_isEnabled 8 = .ok (.ireturn, 1) := by decide +kernel
set_option maxHeartbeats 4000000 in
set_option maxRecDepth 100000 in
theorem c_X0_isEnabled {l : Launch} {g : Gh} {w : Wd} {k0 : Nat} {v_constraint : Int32} {rz : Bool} (hF : f_X0_isEnabled w k0 v_constraint = rz) (hk0 : zct zC k0 = 0) : Met l yX0_isEnabled (Cond.code yX0_isEnabled cX0_isEnabled 2 (some .boolean) :: TT) (rmd 1) (Pcw zC g w [.ref (g.2.2 k0), .int (v_constraint)]) (Qw zC g w (some (.int (bI (rz))))) 0 0 (zA zC g) := by
  refine mt_start (by decide) (Nat.le_of_ble_eq_true rfl) ?_
  intro p e s m args below meth c H locs ls X hr hl hH
  have hx := X.1
  have hb := X.2.1
  have hml := X.2.2.1
  have hown := X.2.2.2.1
  have ht := X.2.2.2.2.1
  have hl : lv_has ls 2 [(0, .ref (g.2.2 (k0))), (1, .int (v_constraint))] := hl
  unfold f_X0_isEnabled at hF
  refine lv_aload_n hx hb dX0_isEnabled_0 rfl (lv_at hl 0 rfl) ?_
  refine w_geti X hH hk0 fs_0_5 lk_0_28 dX0_isEnabled_1 ?_
  refine lv_iload_n hx hb dX0_isEnabled_4 rfl (lv_at hl 1 rfl) ?_
  refine w_callS (As := [.int ((w.1 (k0) 5)), .int (v_constraint)]) (rest := []) (st1 := [.int (bI ((f_X9_contains ((w.1 (k0) 5)) (v_constraint))))]) X hH (c_X9_contains (l := l) (g := g) (w := w) (v_set := (w.1 (k0) 5)) (v_number := v_constraint) rfl) (Or.inr ⟨_, tw_2_184⟩) ms_X9_contains tw_2_147 ⟨Nat.le_of_ble_eq_true rfl, Nat.le_of_ble_eq_true rfl⟩ rfl rfl hl.1 (Nat.le_of_ble_eq_true rfl) dX0_isEnabled_5 ⟨Nat.le_refl _, Nat.le_refl _⟩ rfl (fun H locs hH => ?_)
  subst hF
  exact w_zret X hH hr dX0_isEnabled_8

theorem dX9_factOf_0 : decode cX9_factOf 0 = .ok (.iload_n 0, 1) := by decide +kernel
theorem dX9_factOf_1 : decode cX9_factOf 1 = .ok (.bipush 10, 2) := by decide +kernel
theorem dX9_factOf_3 : decode cX9_factOf 3 = .ok (.imul, 1) := by decide +kernel
theorem dX9_factOf_4 : decode cX9_factOf 4 = .ok (.iload_n 1, 1) := by decide +kernel
theorem dX9_factOf_5 : decode cX9_factOf 5 = .ok (.iadd, 1) := by decide +kernel
theorem dX9_factOf_6 : decode cX9_factOf 6 = .ok (.ireturn, 1) := by decide +kernel
set_option maxHeartbeats 4000000 in
set_option maxRecDepth 100000 in
theorem c_X9_factOf {l : Launch} {g : Gh} {w : Wd} {v_slot : Int32} {v_object : Int32} {rz : Int32} (hF : f_X9_factOf v_slot v_object = rz)  : Met l yX9_factOf (Cond.code yX9_factOf cX9_factOf 2 (some .int) :: TT) (rmd 0) (Pcw zC g w [.int (v_slot), .int (v_object)]) (Qw zC g w (some (.int (rz)))) 0 0 (zA zC g) := by
  refine mt_start (by decide) (Nat.le_of_ble_eq_true rfl) ?_
  intro p e s m args below meth c H locs ls X hr hl hH
  have hx := X.1
  have hb := X.2.1
  have hml := X.2.2.1
  have hown := X.2.2.2.1
  have ht := X.2.2.2.2.1
  have hl : lv_has ls 2 [(0, .int (v_slot)), (1, .int (v_object))] := hl
  unfold f_X9_factOf at hF
  refine lv_iload_n hx hb dX9_factOf_0 rfl (lv_at hl 0 rfl) ?_
  refine lv_bipush (v := (10 : Int32)) hx hb dX9_factOf_1 (by decide) ?_
  refine lv_imul hx hb dX9_factOf_3 ?_
  refine lv_iload_n hx hb dX9_factOf_4 rfl (lv_at hl 1 rfl) ?_
  refine lv_iadd hx hb dX9_factOf_5 ?_
  subst hF
  exact w_iret X hH hr dX9_factOf_6

theorem dX7_addFact_0 : decode cX7_addFact 0 = .ok (.iload_n 1, 1) := by decide +kernel
theorem dX7_addFact_1 : decode cX7_addFact 1 = .ok (.iload_n 2, 1) := by decide +kernel
theorem dX7_addFact_2 : decode cX7_addFact 2 = .ok (.invokestatic 120, 3) := by decide +kernel
theorem dX7_addFact_5 : decode cX7_addFact 5 = .ok (.istore 5, 2) := by decide +kernel
theorem dX7_addFact_7 : decode cX7_addFact 7 = .ok (.aload_n 0, 1) := by decide +kernel
theorem dX7_addFact_8 : decode cX7_addFact 8 = .ok (.getfield 9, 3) := by decide +kernel
theorem dX7_addFact_11 : decode cX7_addFact 11 = .ok (.iload_n 1, 1) := by decide +kernel
theorem dX7_addFact_12 : decode cX7_addFact 12 = .ok (.dup2, 1) := by decide +kernel
theorem dX7_addFact_13 : decode cX7_addFact 13 = .ok (.iaload, 1) := by decide +kernel
theorem dX7_addFact_14 : decode cX7_addFact 14 = .ok (.iconst 1, 1) := by decide +kernel
theorem dX7_addFact_15 : decode cX7_addFact 15 = .ok (.iload_n 2, 1) := by decide +kernel
theorem dX7_addFact_16 : decode cX7_addFact 16 = .ok (.ishl, 1) := by decide +kernel
theorem dX7_addFact_17 : decode cX7_addFact 17 = .ok (.ior, 1) := by decide +kernel
theorem dX7_addFact_18 : decode cX7_addFact 18 = .ok (.iastore, 1) := by decide +kernel
theorem dX7_addFact_19 : decode cX7_addFact 19 = .ok (.aload_n 0, 1) := by decide +kernel
theorem dX7_addFact_20 : decode cX7_addFact 20 = .ok (.dup, 1) := by decide +kernel
theorem dX7_addFact_21 : decode cX7_addFact 21 = .ok (.getfield 18, 3) := by decide +kernel
theorem dX7_addFact_24 : decode cX7_addFact 24 = .ok (.iconst 1, 1) := by decide +kernel
theorem dX7_addFact_25 : decode cX7_addFact 25 = .ok (.iadd, 1) := by decide +kernel
theorem dX7_addFact_26 : decode cX7_addFact 26 = .ok (.putfield 18, 3) := by decide +kernel
theorem dX7_addFact_29 : decode cX7_addFact 29 = .ok (.aload_n 0, 1) := by decide +kernel
theorem dX7_addFact_30 : decode cX7_addFact 30 = .ok (.dup, 1) := by decide +kernel
theorem dX7_addFact_31 : decode cX7_addFact 31 = .ok (.getfield 25, 3) := by decide +kernel
theorem dX7_addFact_34 : decode cX7_addFact 34 = .ok (.iconst 1, 1) := by decide +kernel
theorem dX7_addFact_35 : decode cX7_addFact 35 = .ok (.iload_n 3, 1) := by decide +kernel
theorem dX7_addFact_36 : decode cX7_addFact 36 = .ok (.ishl, 1) := by decide +kernel
theorem dX7_addFact_37 : decode cX7_addFact 37 = .ok (.ior, 1) := by decide +kernel
theorem dX7_addFact_38 : decode cX7_addFact 38 = .ok (.putfield 25, 3) := by decide +kernel
theorem dX7_addFact_41 : decode cX7_addFact 41 = .ok (.aload_n 0, 1) := by decide +kernel
theorem dX7_addFact_42 : decode cX7_addFact 42 = .ok (.getfield 28, 3) := by decide +kernel
theorem dX7_addFact_45 : decode cX7_addFact 45 = .ok (.iload 5, 2) := by decide +kernel
theorem dX7_addFact_47 : decode cX7_addFact 47 = .ok (.iload 4, 2) := by decide +kernel
theorem dX7_addFact_49 : decode cX7_addFact 49 = .ok (.iastore, 1) := by decide +kernel
theorem dX7_addFact_50 : decode cX7_addFact 50 = .ok (.aload_n 0, 1) := by decide +kernel
theorem dX7_addFact_51 : decode cX7_addFact 51 = .ok (.getfield 31, 3) := by decide +kernel
theorem dX7_addFact_54 : decode cX7_addFact 54 = .ok (.iload 5, 2) := by decide +kernel
theorem dX7_addFact_56 : decode cX7_addFact 56 = .ok (.iload_n 3, 1) := by decide +kernel
theorem dX7_addFact_57 : decode cX7_addFact 57 = .ok (.iastore, 1) := by decide +kernel
theorem dX7_addFact_58 : decode cX7_addFact 58 = .ok (.aload_n 0, 1) := by decide +kernel
theorem dX7_addFact_59 : decode cX7_addFact 59 = .ok (.getfield 34, 3) := by decide +kernel
theorem dX7_addFact_62 : decode cX7_addFact 62 = .ok (.iload 5, 2) := by decide +kernel
theorem dX7_addFact_64 : decode cX7_addFact 64 = .ok (.iconst (-1), 1) := by decide +kernel
theorem dX7_addFact_65 : decode cX7_addFact 65 = .ok (.iastore, 1) := by decide +kernel
theorem dX7_addFact_66 : decode cX7_addFact 66 = .ok (.aload_n 0, 1) := by decide +kernel
theorem dX7_addFact_67 : decode cX7_addFact 67 = .ok (.getfield 37, 3) := by decide +kernel
theorem dX7_addFact_70 : decode cX7_addFact 70 = .ok (.iload 5, 2) := by decide +kernel
theorem dX7_addFact_72 : decode cX7_addFact 72 = .ok (.iconst (-1), 1) := by decide +kernel
theorem dX7_addFact_73 : decode cX7_addFact 73 = .ok (.iastore, 1) := by decide +kernel
theorem dX7_addFact_74 : decode cX7_addFact 74 = .ok (.aload_n 0, 1) := by decide +kernel
theorem dX7_addFact_75 : decode cX7_addFact 75 = .ok (.getfield 40, 3) := by decide +kernel
theorem dX7_addFact_78 : decode cX7_addFact 78 = .ok (.iload 5, 2) := by decide +kernel
theorem dX7_addFact_80 : decode cX7_addFact 80 = .ok (.iconst 1, 1) := by decide +kernel
theorem dX7_addFact_81 : decode cX7_addFact 81 = .ok (.iastore, 1) := by decide +kernel
theorem dX7_addFact_82 : decode cX7_addFact 82 = .ok (.aload_n 0, 1) := by decide +kernel
theorem dX7_addFact_83 : decode cX7_addFact 83 = .ok (.getfield 43, 3) := by decide +kernel
theorem dX7_addFact_86 : decode cX7_addFact 86 = .ok (.iload 5, 2) := by decide +kernel
theorem dX7_addFact_88 : decode cX7_addFact 88 = .ok (.iconst 1, 1) := by decide +kernel
theorem dX7_addFact_89 : decode cX7_addFact 89 = .ok (.iload_n 3, 1) := by decide +kernel
theorem dX7_addFact_90 : decode cX7_addFact 90 = .ok (.ishl, 1) := by decide +kernel
theorem dX7_addFact_91 : decode cX7_addFact 91 = .ok (.iastore, 1) := by decide +kernel
theorem dX7_addFact_92 : decode cX7_addFact 92 = .ok (.return_, 1) := by decide +kernel
set_option maxHeartbeats 4000000 in
set_option maxRecDepth 100000 in
theorem c_X7_addFact {l : Launch} {g : Gh} {w : Wd} {k0 : Nat} {v_slot : Int32} {v_object : Int32} {v_constraint : Int32} {v_round : Int32} {wz : Wd} (hF : f_X7_addFact w k0 v_slot v_object v_constraint v_round = some wz) (hk0 : zct zC k0 = 7) : Met l yX7_addFact (Cond.code yX7_addFact cX7_addFact 6 none :: TT) (rmd 1) (Pcw zC g w [.ref (g.2.2 k0), .int (v_slot), .int (v_object), .int (v_constraint), .int (v_round)]) (Qw zC g wz none) 0 0 (zA zC g) := by
  refine mt_start (by decide) (Nat.le_of_ble_eq_true rfl) ?_
  intro p e s m args below meth c H locs ls X hr hl hH
  have hx := X.1
  have hb := X.2.1
  have hml := X.2.2.1
  have hown := X.2.2.2.1
  have ht := X.2.2.2.2.1
  have hl : lv_has ls 6 [(0, .ref (g.2.2 (k0))), (1, .int (v_slot)), (2, .int (v_object)), (3, .int (v_constraint)), (4, .int (v_round))] := hl
  unfold f_X7_addFact at hF
  refine lv_iload_n hx hb dX7_addFact_0 rfl (lv_at hl 1 rfl) ?_
  refine lv_iload_n hx hb dX7_addFact_1 rfl (lv_at hl 2 rfl) ?_
  refine w_callS (As := [.int (v_slot), .int (v_object)]) (rest := []) (st1 := [.int ((f_X9_factOf (v_slot) (v_object)))]) X hH (c_X9_factOf (l := l) (g := g) (w := w) (v_slot := v_slot) (v_object := v_object) rfl) (Or.inr ⟨_, tw_2_198⟩) ms_X9_factOf tw_2_199 ⟨Nat.le_of_ble_eq_true rfl, Nat.le_of_ble_eq_true rfl⟩ rfl rfl hl.1 (Nat.le_of_ble_eq_true rfl) dX7_addFact_2 ⟨Nat.le_refl _, Nat.le_refl _⟩ rfl (fun H locs hH => ?_)
  refine lv_istore (lv' := [(5, .int ((f_X9_factOf (v_slot) (v_object)))), (0, .ref (g.2.2 (k0))), (1, .int (v_slot)), (2, .int (v_object)), (3, .int (v_constraint)), (4, .int (v_round))]) hx hb dX7_addFact_5 hl (by decide) rfl (fun ls hl => ?_)
  refine lv_aload_n hx hb dX7_addFact_7 rfl (lv_at hl 1 rfl) ?_
  refine w_getr X hH hk0 fs_7_0 lk_7_9 dX7_addFact_8 ?_
  refine lv_iload_n hx hb dX7_addFact_11 rfl (lv_at hl 2 rfl) ?_
  refine lv_dup2_11 hx hb dX7_addFact_12 rfl rfl ?_
  obtain ⟨x1, h1, hF⟩ := ob hF
  refine w_iald X hH h1 (rt_C_7_0 hk0) dX7_addFact_13 ?_
  refine lv_iconst (v := (1 : Int32)) hx hb dX7_addFact_14 (by decide) ?_
  refine lv_iload_n hx hb dX7_addFact_15 rfl (lv_at hl 3 rfl) ?_
  refine w_ishl hx hb dX7_addFact_16 ?_
  refine lv_ior hx hb dX7_addFact_17 ?_
  obtain ⟨w2, h2, hF⟩ := ob hF
  refine w_iast X hH h2 (rt_C_7_0 hk0) dX7_addFact_18 (fun H locs hH => ?_)
  refine lv_aload_n hx hb dX7_addFact_19 rfl (lv_at hl 1 rfl) ?_
  refine lv_dup hx hb dX7_addFact_20 rfl ?_
  refine w_geti X hH hk0 fs_7_2 lk_7_18 dX7_addFact_21 ?_
  refine lv_iconst (v := (1 : Int32)) hx hb dX7_addFact_24 (by decide) ?_
  refine lv_iadd hx hb dX7_addFact_25 ?_
  obtain ⟨w3, h3, hF⟩ := ob hF
  refine w_puti X hH h3 hk0 fs_7_2 nf_7_2 lk_7_18 dX7_addFact_26 (fun H locs hH => ?_)
  refine lv_aload_n hx hb dX7_addFact_29 rfl (lv_at hl 1 rfl) ?_
  refine lv_dup hx hb dX7_addFact_30 rfl ?_
  refine w_geti X hH hk0 fs_7_4 lk_7_25 dX7_addFact_31 ?_
  refine lv_iconst (v := (1 : Int32)) hx hb dX7_addFact_34 (by decide) ?_
  refine lv_iload_n hx hb dX7_addFact_35 rfl (lv_at hl 4 rfl) ?_
  refine w_ishl hx hb dX7_addFact_36 ?_
  refine lv_ior hx hb dX7_addFact_37 ?_
  obtain ⟨w4, h4, hF⟩ := ob hF
  refine w_puti X hH h4 hk0 fs_7_4 nf_7_4 lk_7_25 dX7_addFact_38 (fun H locs hH => ?_)
  refine lv_aload_n hx hb dX7_addFact_41 rfl (lv_at hl 1 rfl) ?_
  refine w_getr X hH hk0 fs_7_5 lk_7_28 dX7_addFact_42 ?_
  refine lv_iload hx hb dX7_addFact_45 (lv_at hl 0 rfl) ?_
  refine lv_iload hx hb dX7_addFact_47 (lv_at hl 5 rfl) ?_
  obtain ⟨w5, h5, hF⟩ := ob hF
  refine w_iast X hH h5 (rt_C_7_5 hk0) dX7_addFact_49 (fun H locs hH => ?_)
  refine lv_aload_n hx hb dX7_addFact_50 rfl (lv_at hl 1 rfl) ?_
  refine w_getr X hH hk0 fs_7_6 lk_7_31 dX7_addFact_51 ?_
  refine lv_iload hx hb dX7_addFact_54 (lv_at hl 0 rfl) ?_
  refine lv_iload_n hx hb dX7_addFact_56 rfl (lv_at hl 4 rfl) ?_
  obtain ⟨w6, h6, hF⟩ := ob hF
  refine w_iast X hH h6 (rt_C_7_6 hk0) dX7_addFact_57 (fun H locs hH => ?_)
  refine lv_aload_n hx hb dX7_addFact_58 rfl (lv_at hl 1 rfl) ?_
  refine w_getr X hH hk0 fs_7_7 lk_7_34 dX7_addFact_59 ?_
  refine lv_iload hx hb dX7_addFact_62 (lv_at hl 0 rfl) ?_
  refine lv_iconst (v := (-1 : Int32)) hx hb dX7_addFact_64 (by decide) ?_
  obtain ⟨w7, h7, hF⟩ := ob hF
  refine w_iast X hH h7 (rt_C_7_7 hk0) dX7_addFact_65 (fun H locs hH => ?_)
  refine lv_aload_n hx hb dX7_addFact_66 rfl (lv_at hl 1 rfl) ?_
  refine w_getr X hH hk0 fs_7_8 lk_7_37 dX7_addFact_67 ?_
  refine lv_iload hx hb dX7_addFact_70 (lv_at hl 0 rfl) ?_
  refine lv_iconst (v := (-1 : Int32)) hx hb dX7_addFact_72 (by decide) ?_
  obtain ⟨w8, h8, hF⟩ := ob hF
  refine w_iast X hH h8 (rt_C_7_8 hk0) dX7_addFact_73 (fun H locs hH => ?_)
  refine lv_aload_n hx hb dX7_addFact_74 rfl (lv_at hl 1 rfl) ?_
  refine w_getr X hH hk0 fs_7_9 lk_7_40 dX7_addFact_75 ?_
  refine lv_iload hx hb dX7_addFact_78 (lv_at hl 0 rfl) ?_
  refine lv_iconst (v := (1 : Int32)) hx hb dX7_addFact_80 (by decide) ?_
  obtain ⟨w9, h9, hF⟩ := ob hF
  refine w_iast X hH h9 (rt_C_7_9 hk0) dX7_addFact_81 (fun H locs hH => ?_)
  refine lv_aload_n hx hb dX7_addFact_82 rfl (lv_at hl 1 rfl) ?_
  refine w_getr X hH hk0 fs_7_10 lk_7_43 dX7_addFact_83 ?_
  refine lv_iload hx hb dX7_addFact_86 (lv_at hl 0 rfl) ?_
  refine lv_iconst (v := (1 : Int32)) hx hb dX7_addFact_88 (by decide) ?_
  refine lv_iload_n hx hb dX7_addFact_89 rfl (lv_at hl 4 rfl) ?_
  refine w_ishl hx hb dX7_addFact_90 ?_
  obtain ⟨w10, h10, hF⟩ := ob hF
  refine w_iast X hH h10 (rt_C_7_10 hk0) dX7_addFact_91 (fun H locs hH => ?_)
  obtain rfl := se1 hF
  exact w_vret X hH hr dX7_addFact_92

theorem dX7_applyNew_0 : decode cX7_applyNew 0 = .ok (.aload_n 1, 1) := by decide +kernel
theorem dX7_applyNew_1 : decode cX7_applyNew 1 = .ok (.getfield 100, 3) := by decide +kernel
theorem dX7_applyNew_4 : decode cX7_applyNew 4 = .ok (.iload_n 2, 1) := by decide +kernel
theorem dX7_applyNew_5 : decode cX7_applyNew 5 = .ok (.iaload, 1) := by decide +kernel
theorem dX7_applyNew_6 : decode cX7_applyNew 6 = .ok (.istore 4, 2) := by decide +kernel
theorem dX7_applyNew_8 : decode cX7_applyNew 8 = .ok (.aload_n 1, 1) := by decide +kernel
theorem dX7_applyNew_9 : decode cX7_applyNew 9 = .ok (.getfield 103, 3) := by decide +kernel
theorem dX7_applyNew_12 : decode cX7_applyNew 12 = .ok (.iload_n 2, 1) := by decide +kernel
theorem dX7_applyNew_13 : decode cX7_applyNew 13 = .ok (.iaload, 1) := by decide +kernel
theorem dX7_applyNew_14 : decode cX7_applyNew 14 = .ok (.istore 5, 2) := by decide +kernel
theorem dX7_applyNew_16 : decode cX7_applyNew 16 = .ok (.aload_n 0, 1) := by decide +kernel
theorem dX7_applyNew_17 : decode cX7_applyNew 17 = .ok (.getfield 9, 3) := by decide +kernel
theorem dX7_applyNew_20 : decode cX7_applyNew 20 = .ok (.iload 4, 2) := by decide +kernel
theorem dX7_applyNew_22 : decode cX7_applyNew 22 = .ok (.iaload, 1) := by decide +kernel
theorem dX7_applyNew_23 : decode cX7_applyNew 23 = .ok (.iload 5, 2) := by decide +kernel
theorem dX7_applyNew_25 : decode cX7_applyNew 25 = .ok (.invokestatic 88, 3) := by decide +kernel
theorem dX7_applyNew_28 : decode cX7_applyNew 28 = .ok (.ifCond .ne 13, 3) := by decide +kernel
theorem dX7_applyNew_31 : decode cX7_applyNew 31 = .ok (.aload_n 0, 1) := by decide +kernel
theorem dX7_applyNew_32 : decode cX7_applyNew 32 = .ok (.iload 4, 2) := by decide +kernel
theorem dX7_applyNew_34 : decode cX7_applyNew 34 = .ok (.iload 5, 2) := by decide +kernel
theorem dX7_applyNew_36 : decode cX7_applyNew 36 = .ok (.iload_n 2, 1) := by decide +kernel
theorem dX7_applyNew_37 : decode cX7_applyNew 37 = .ok (.iload_n 3, 1) := by decide +kernel
theorem dX7_applyNew_38 : decode cX7_applyNew 38 = .ok (.invokevirtual 106, 3) := by decide +kernel
theorem dX7_applyNew_41 : decode cX7_applyNew 41 = .ok (.return_, 1) := by decide +kernel
set_option maxHeartbeats 4000000 in
set_option maxRecDepth 100000 in
theorem c_X7_applyNew {l : Launch} {g : Gh} {w : Wd} {k0 : Nat} {v_list : Nat} {v_constraint : Int32} {v_round : Int32} {wz : Wd} (hF : f_X7_applyNew w k0 v_list v_constraint v_round = some wz) (hk0 : zct zC k0 = 7) (hv_list : zct zC v_list = 0) : Met l yX7_applyNew (Cond.code yX7_applyNew cX7_applyNew 6 none :: TT) (rmd 2) (Pcw zC g w [.ref (g.2.2 k0), .ref (g.2.2 (v_list)), .int (v_constraint), .int (v_round)]) (Qw zC g wz none) 0 0 (zA zC g) := by
  refine mt_start (by decide) (Nat.le_of_ble_eq_true rfl) ?_
  intro p e s m args below meth c H locs ls X hr hl hH
  have hx := X.1
  have hb := X.2.1
  have hml := X.2.2.1
  have hown := X.2.2.2.1
  have ht := X.2.2.2.2.1
  have hl : lv_has ls 6 [(0, .ref (g.2.2 (k0))), (1, .ref (g.2.2 (v_list))), (2, .int (v_constraint)), (3, .int (v_round))] := hl
  unfold f_X7_applyNew at hF
  refine lv_aload_n hx hb dX7_applyNew_0 rfl (lv_at hl 1 rfl) ?_
  refine w_getr X hH hv_list fs_0_1 lk_7_100 dX7_applyNew_1 ?_
  refine lv_iload_n hx hb dX7_applyNew_4 rfl (lv_at hl 2 rfl) ?_
  obtain ⟨x1, h1, hF⟩ := ob hF
  refine w_iald X hH h1 (rt_C_0_1 hv_list) dX7_applyNew_5 ?_
  refine lv_istore (lv' := [(4, .int (x1)), (0, .ref (g.2.2 (k0))), (1, .ref (g.2.2 (v_list))), (2, .int (v_constraint)), (3, .int (v_round))]) hx hb dX7_applyNew_6 hl (by decide) rfl (fun ls hl => ?_)
  refine lv_aload_n hx hb dX7_applyNew_8 rfl (lv_at hl 2 rfl) ?_
  refine w_getr X hH hv_list fs_0_2 lk_7_103 dX7_applyNew_9 ?_
  refine lv_iload_n hx hb dX7_applyNew_12 rfl (lv_at hl 3 rfl) ?_
  obtain ⟨x2, h2, hF⟩ := ob hF
  refine w_iald X hH h2 (rt_C_0_2 hv_list) dX7_applyNew_13 ?_
  refine lv_istore (lv' := [(5, .int (x2)), (4, .int (x1)), (0, .ref (g.2.2 (k0))), (1, .ref (g.2.2 (v_list))), (2, .int (v_constraint)), (3, .int (v_round))]) hx hb dX7_applyNew_14 hl (by decide) rfl (fun ls hl => ?_)
  obtain ⟨s3, hs3, hF⟩ := ob hF
  have Js3 : ∀ (H : Heap) (locs : List Loc) (ls : Array Slot), HW zC g s3 s.heap H locs → lv_has ls 6 [(0, .ref (g.2.2 (k0))), (1, .ref (g.2.2 (v_list))), (2, .int (v_constraint)), (3, .int (v_round)), (4, .int (x1)), (5, .int (x2))] → W p l e (rmd 2) s m args below meth c H locs 0 0 (MQ below (Qw zC g wz none) args s 0 0 (zA zC g)) (F0 m 41 ls []) := by
    intro H locs ls hH hl
    obtain rfl := se1 hF
    exact w_vret X hH hr dX7_applyNew_41
  have hF := hs3
  refine lv_aload_n hx hb dX7_applyNew_16 rfl (lv_at hl 2 rfl) ?_
  refine w_getr X hH hk0 fs_7_0 lk_7_9 dX7_applyNew_17 ?_
  refine lv_iload hx hb dX7_applyNew_20 (lv_at hl 1 rfl) ?_
  obtain ⟨x4, h4, hF⟩ := ob hF
  refine w_iald X hH h4 (rt_C_7_0 hk0) dX7_applyNew_22 ?_
  refine lv_iload hx hb dX7_applyNew_23 (lv_at hl 0 rfl) ?_
  refine w_callS (As := [.int (x4), .int (x2)]) (rest := []) (st1 := [.int (bI ((f_X9_contains (x4) (x2))))]) X hH (c_X9_contains (l := l) (g := g) (w := w) (v_set := x4) (v_number := x2) rfl) (Or.inr ⟨_, tw_2_193⟩) ms_X9_contains tw_2_147 ⟨Nat.le_of_ble_eq_true rfl, Nat.le_of_ble_eq_true rfl⟩ rfl rfl hl.1 (Nat.le_of_ble_eq_true rfl) dX7_applyNew_25 ⟨Nat.le_refl _, Nat.le_refl _⟩ rfl (fun H locs hH => ?_)
  refine w_b_t (tgt := 41) hx hb dX7_applyNew_28 (by decide) (fun c5 => ?_) (fun c5 => ?_)
  · replace hF := ifn (fun z => z c5) hF
    obtain rfl := se1 hF
    exact Js3 _ _ _ hH (lv_sub hl [2, 3, 4, 5, 1, 0] rfl)
  · replace hF := ifp c5 hF
    refine lv_aload_n hx hb dX7_applyNew_31 rfl (lv_at hl 2 rfl) ?_
    refine lv_iload hx hb dX7_applyNew_32 (lv_at hl 1 rfl) ?_
    refine lv_iload hx hb dX7_applyNew_34 (lv_at hl 0 rfl) ?_
    refine lv_iload_n hx hb dX7_applyNew_36 rfl (lv_at hl 4 rfl) ?_
    refine lv_iload_n hx hb dX7_applyNew_37 rfl (lv_at hl 5 rfl) ?_
    obtain ⟨w6, h6, hF⟩ := ob hF
    refine w_callV (As := [.int (x1), .int (x2), .int (v_constraint), .int (v_round)]) (k := k0) (rest := []) (st1 := []) X hH (c_X7_addFact (l := l) (g := g) (w := w) (k0 := k0) (v_slot := x1) (v_object := x2) (v_constraint := v_constraint) (v_round := v_round) h6 hk0) (Or.inl tw_2_194) ms_X7_addFact im_X7_addFact hk0 cn_7 ⟨Nat.le_of_ble_eq_true rfl, Nat.le_of_ble_eq_true rfl⟩ rfl rfl hl.1 (Nat.le_of_ble_eq_true rfl) dX7_applyNew_38 ⟨Nat.le_refl _, Nat.le_refl _⟩ rfl (fun H locs hH => ?_)
    obtain rfl := se1 hF
    exact Js3 _ _ _ hH (lv_sub hl [2, 3, 4, 5, 1, 0] rfl)
